/-! Trials: shift, side, lost, best; a palace copied. -/
theorem cpy_ok {α : Type} {n a b : Nat} (A : Option α) (ha : n ≤ a) (hb : n ≤ b) (hn : n < 2 ^ 31) : cpy 0 0 (nI n) a b A = A := by
  unfold cpy
  rw [nI_clamp hn, if_neg]
  have h0 : (0 : Int32).toNatClampNeg = 0 := by decide
  rw [h0]
  rintro (z | z | z | z | z)
  · exact absurd z (by decide)
  · exact absurd z (by decide)
  · exact nI_pos hn z
  · omega
  · omega
theorem va_cpy0 {α : Type} (f g : Nat → α) {n k : Nat} (h : k < n) : va_cpy f g 0 0 n k = f k := by
  unfold va_cpy
  rw [if_pos ⟨Nat.zero_le _, by omega⟩, Nat.zero_add, Nat.sub_zero]
/-- the first n walls of one palace are another's -/
def RCn (mem : Mem) (p : Nat) (S : PS) (n : Nat) : Prop := gI mem 1 p 0 = nI (mi S) ∧ (∀ j, j < 4 → gI mem 2 p j = nI (ro S j)) ∧ gI mem 1 p 2 = nI (ct S) ∧ ∀ w, w < n → ∀ k, k < 6 → gI mem 4 (10 * p + w) k = nI (wa S w k)
theorem bec_lp {f p q : Nat} {S : PS} (hpq : p ≠ q) (hi : IV S) : ∀ (d i n : Nat) (mem : Mem), i + d = ct S → d < n → RCn mem p S i → RC mem q S →
    ∃ m', dP_become_32 f n p q (nI i) mem = some ((), m') ∧ RC m' p S ∧ Fz (palZ p) mem m'
  | 0, i, n, mem, e, hn, h, hq => by
    obtain ⟨n, rfl⟩ : ∃ k, n = k + 1 := ⟨n - 1, by omega⟩
    have hct : ct S ≤ 10 := hi.2.2.2.2.2.2.2.1
    have e' : i = ct S := by omega
    subst e'
    rw [dP_become_32, h.2.2.1, if_neg (nlt_n (by omega))]
    exact ⟨mem, rfl, h, Fz_rfl _ _⟩
  | d + 1, i, n, mem, e, hn, h, hq => by
    obtain ⟨n, rfl⟩ : ∃ k, n = k + 1 := ⟨n - 1, by omega⟩
    have hct : ct S ≤ 10 := hi.2.2.2.2.2.2.2.1
    have f1 : ∀ g, Fz (palZ p) mem (sIr mem 4 (10 * p + i) g) := fun g => Fz_sIr (fun j => palZ4 (by omega))
    rw [dP_become_32, h.2.2.1, if_pos (lt_n (by omega) (by omega)), ck_in _ (by omega) (by omega), ck_in _ (by omega) (by omega), nI_clamp (by omega), show (6 : Int32) = nI 6 from rfl, cpy_ok _ (by omega) (by omega) (by omega), nI_clamp (by omega), add1]
    obtain ⟨g1, g2, g3, g4⟩ := h
    obtain ⟨q1, q2, q3, q4⟩ := hq
    obtain ⟨m', t1, t2, t3⟩ := bec_lp (f := f) hpq hi d (i + 1) n (sIr mem 4 (10 * p + i) (va_cpy (gI mem 4 (10 * q + i)) (gI mem 4 (10 * p + i)) 0 0 6)) (by omega) (by omega) ⟨g1, g2, g3, fun w hw k hk => by
      rw [gI_sIr]
      by_cases c : w = i
      · rw [if_pos ⟨rfl, by omega⟩, va_cpy0 _ _ hk, c]
        exact q4 i (by omega) k hk
      · rw [if_neg (by omega)]
        exact g4 w (by omega) k hk⟩ ⟨q1, q2, q3, fun w hw k hk => by
      rw [gI_sIr, if_neg (by omega)]
      exact q4 w hw k hk⟩
    exact ⟨m', t1, t2, Fz_tr (f1 _) t3⟩
theorem bec_ok {f p q : Nat} {mem : Mem} {S : PS} (hf : 2000 ≤ f) (hpq : p ≠ q) (hi : IV S) (hq : RC mem q S) : ∃ m', dP_become f p q mem = some ((), m') ∧ RC m' p S ∧ Fz (palZ p) mem m' := by
  have hct : ct S ≤ 10 := hi.2.2.2.2.2.2.2.1
  obtain ⟨q1, q2, q3, q4⟩ := hq
  unfold dP_become
  rw [show (4 : Int32) = nI 4 from rfl, cpy_ok _ (by omega) (by omega) (by omega), nI_clamp (by omega), show (0 : Int32).toNatClampNeg = 0 by decide]
  have qp : ¬ q = p := fun z => hpq z.symm
  obtain ⟨m', t1, t2, t3⟩ := bec_lp (f := f) hpq hi (ct S) 0 f (sI (sIr (sI mem 1 p 0 (gI mem 1 q 0)) 2 p (va_cpy (gI (sI mem 1 p 0 (gI mem 1 q 0)) 2 q) (gI (sI mem 1 p 0 (gI mem 1 q 0)) 2 p) 0 0 4)) 1 p 2 (gI (sIr (sI mem 1 p 0 (gI mem 1 q 0)) 2 p (va_cpy (gI (sI mem 1 p 0 (gI mem 1 q 0)) 2 q) (gI (sI mem 1 p 0 (gI mem 1 q 0)) 2 p) 0 0 4)) 1 q 2)) (by omega) (by omega) ⟨by
      rw [gI_sI, if_neg (by omega), gI_sIr, if_neg (by omega), gI_sI, if_pos ⟨rfl, rfl, rfl⟩, q1], fun j hj => by
      rw [gI_sI, if_neg (by omega), gI_sIr, if_pos ⟨rfl, rfl⟩, va_cpy0 _ _ hj, gI_sI, if_neg (by omega), q2 j hj], by
      rw [gI_sI, if_pos ⟨rfl, rfl, rfl⟩, gI_sIr, if_neg (by omega), gI_sI, if_neg (by omega), q3], fun w hw => absurd hw (by omega)⟩ ⟨by
      rw [gI_sI, if_neg (by omega), gI_sIr, if_neg (by omega), gI_sI, if_neg (by omega), q1], fun j hj => by
      rw [gI_sI, if_neg (by omega), gI_sIr, if_neg (by omega), gI_sI, if_neg (by omega), q2 j hj], by
      rw [gI_sI, if_neg (by omega), gI_sIr, if_neg (by omega), gI_sI, if_neg (by omega), q3], fun w hw k hk => by
      rw [gI_sI, if_neg (by omega), gI_sIr, if_neg (by omega), gI_sI, if_neg (by omega), q4 w hw k hk]⟩
  exact ⟨m', t1, t2, Fz_tr (Fz_tr (Fz_tr (Fz_sI (palZ0 p)) (Fz_sIr (fun j => palZr p j))) (Fz_sI (palZ2 p))) t3⟩
theorem RK_cp {t u : Nat} {mem m : Mem} {S : PS} (hi : IV S) (h : RK t mem S) (hc : ∀ j, j < 66 → gI m u 0 j = gI mem t 0 j) : RK u m S := by
  have hct : ct S ≤ 10 := hi.2.2.2.2.2.2.2.1
  obtain ⟨h1, h2, h3, h4⟩ := h
  exact ⟨(hc _ (by omega)).trans h1, fun j hj => (hc _ (by omega)).trans (h2 j hj), (hc _ (by omega)).trans h3, fun w hw k hk => (hc _ (by omega)).trans (h4 w hw k hk)⟩
