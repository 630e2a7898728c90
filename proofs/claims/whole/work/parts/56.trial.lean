/-! Trials: shift, side, lost, best; a palace copied. -/
theorem cpy_ok {α : Type} {n a b : Nat} (A : Option α) (ha : n ≤ a) (hb : n ≤ b) (hn : n < 2 ^ 31) : cpy 0 0 (nI n) a b A = A := by
  unfold cpy
  rw [nI_clamp hn, if_neg]
  have h0 : (0 : Int32).toNatClampNeg = 0 := by decide
  rw [h0]
  rintro (z | z | z | z | z)
  · exact absurd z (by decide)
  · exact absurd z (by decide)
  · exact nI_pos hn z
  · omega
  · omega
theorem va_cpy0 {α : Type} (f g : Nat → α) {n k : Nat} (h : k < n) : va_cpy f g 0 0 n k = f k := by
  unfold va_cpy
  rw [if_pos ⟨Nat.zero_le _, by omega⟩, Nat.zero_add, Nat.sub_zero]
/-- the first n walls of one palace are another's -/
def RCn (mem : Mem) (p : Nat) (S : PS) (n : Nat) : Prop := gI mem 1 p 0 = nI (mi S) ∧ (∀ j, j < 4 → gI mem 2 p j = nI (ro S j)) ∧ gI mem 1 p 2 = nI (ct S) ∧ ∀ w, w < n → ∀ k, k < 6 → gI mem 4 (10 * p + w) k = nI (wa S w k)
theorem bec_lp {f p q : Nat} {S : PS} (hpq : p ≠ q) (hi : IV S) : ∀ (d i n : Nat) (mem : Mem), i + d = ct S → d < n → RCn mem p S i → RC mem q S →
    ∃ m', dP_become_32 f n p q (nI i) mem = some ((), m') ∧ RC m' p S ∧ Fz (palZ p) mem m'
  | 0, i, n, mem, e, hn, h, hq => by
    obtain ⟨n, rfl⟩ : ∃ k, n = k + 1 := ⟨n - 1, by omega⟩
    have hct : ct S ≤ 10 := hi.2.2.2.2.2.2.2.1
    have e' : i = ct S := by omega
    subst e'
    rw [dP_become_32, h.2.2.1, if_neg (nlt_n (by omega))]
    exact ⟨mem, rfl, h, Fz_rfl _ _⟩
  | d + 1, i, n, mem, e, hn, h, hq => by
    obtain ⟨n, rfl⟩ : ∃ k, n = k + 1 := ⟨n - 1, by omega⟩
    have hct : ct S ≤ 10 := hi.2.2.2.2.2.2.2.1
    have f1 : ∀ g, Fz (palZ p) mem (sIr mem 4 (10 * p + i) g) := fun g => Fz_sIr (fun j => palZ4 (by omega))
    rw [dP_become_32, h.2.2.1, if_pos (lt_n (by omega) (by omega)), ck_in _ (by omega) (by omega), ck_in _ (by omega) (by omega), nI_clamp (by omega), show (6 : Int32) = nI 6 from rfl, cpy_ok _ (by omega) (by omega) (by omega), nI_clamp (by omega), add1]
    obtain ⟨g1, g2, g3, g4⟩ := h
    obtain ⟨q1, q2, q3, q4⟩ := hq
    obtain ⟨m', t1, t2, t3⟩ := bec_lp (f := f) hpq hi d (i + 1) n (sIr mem 4 (10 * p + i) (va_cpy (gI mem 4 (10 * q + i)) (gI mem 4 (10 * p + i)) 0 0 6)) (by omega) (by omega) ⟨g1, g2, g3, fun w hw k hk => by
      rw [gI_sIr]
      by_cases c : w = i
      · rw [if_pos ⟨rfl, by omega⟩, va_cpy0 _ _ hk, c]
        exact q4 i (by omega) k hk
      · rw [if_neg (by omega)]
        exact g4 w (by omega) k hk⟩ ⟨q1, q2, q3, fun w hw k hk => by
      rw [gI_sIr, if_neg (by omega)]
      exact q4 w hw k hk⟩
    exact ⟨m', t1, t2, Fz_tr (f1 _) t3⟩
theorem bec_ok {f p q : Nat} {mem : Mem} {S : PS} (hf : 2000 ≤ f) (hpq : p ≠ q) (hi : IV S) (hq : RC mem q S) : ∃ m', dP_become f p q mem = some ((), m') ∧ RC m' p S ∧ Fz (palZ p) mem m' := by
  have hct : ct S ≤ 10 := hi.2.2.2.2.2.2.2.1
  obtain ⟨q1, q2, q3, q4⟩ := hq
  unfold dP_become
  rw [show (4 : Int32) = nI 4 from rfl, cpy_ok _ (by omega) (by omega) (by omega), nI_clamp (by omega), show (0 : Int32).toNatClampNeg = 0 by decide]
  have qp : ¬ q = p := fun z => hpq z.symm
  obtain ⟨m', t1, t2, t3⟩ := bec_lp (f := f) hpq hi (ct S) 0 f (sI (sIr (sI mem 1 p 0 (gI mem 1 q 0)) 2 p (va_cpy (gI (sI mem 1 p 0 (gI mem 1 q 0)) 2 q) (gI (sI mem 1 p 0 (gI mem 1 q 0)) 2 p) 0 0 4)) 1 p 2 (gI (sIr (sI mem 1 p 0 (gI mem 1 q 0)) 2 p (va_cpy (gI (sI mem 1 p 0 (gI mem 1 q 0)) 2 q) (gI (sI mem 1 p 0 (gI mem 1 q 0)) 2 p) 0 0 4)) 1 q 2)) (by omega) (by omega) ⟨by
      rw [gI_sI, if_neg (by omega), gI_sIr, if_neg (by omega), gI_sI, if_pos ⟨rfl, rfl, rfl⟩, q1], fun j hj => by
      rw [gI_sI, if_neg (by omega), gI_sIr, if_pos ⟨rfl, rfl⟩, va_cpy0 _ _ hj, gI_sI, if_neg (by omega), q2 j hj], by
      rw [gI_sI, if_pos ⟨rfl, rfl, rfl⟩, gI_sIr, if_neg (by omega), gI_sI, if_neg (by omega), q3], fun w hw => absurd hw (by omega)⟩ ⟨by
      rw [gI_sI, if_neg (by omega), gI_sIr, if_neg (by omega), gI_sI, if_neg (by omega), q1], fun j hj => by
      rw [gI_sI, if_neg (by omega), gI_sIr, if_neg (by omega), gI_sI, if_neg (by omega), q2 j hj], by
      rw [gI_sI, if_neg (by omega), gI_sIr, if_neg (by omega), gI_sI, if_neg (by omega), q3], fun w hw k hk => by
      rw [gI_sI, if_neg (by omega), gI_sIr, if_neg (by omega), gI_sI, if_neg (by omega), q4 w hw k hk]⟩
  exact ⟨m', t1, t2, Fz_tr (Fz_tr (Fz_tr (Fz_sI (palZ0 p)) (Fz_sIr (fun j => palZr p j))) (Fz_sI (palZ2 p))) t3⟩
theorem RK_cp {t u : Nat} {mem m : Mem} {S : PS} (hi : IV S) (h : RK t mem S) (hc : ∀ j, j < 66 → gI m u 0 j = gI mem t 0 j) : RK u m S := by
  have hct : ct S ≤ 10 := hi.2.2.2.2.2.2.2.1
  obtain ⟨h1, h2, h3, h4⟩ := h
  exact ⟨(hc _ (by omega)).trans h1, fun j hj => (hc _ (by omega)).trans (h2 j hj), (hc _ (by omega)).trans h3, fun w hw k hk => (hc _ (by omega)).trans (h4 w hw k hk)⟩
theorem keep_15_lp {f : Nat} : ∀ (d i n : Nat) (mem m0 : Mem), i + d = 66 → d < n → (∀ j, j < i → gI mem 15 0 j = gI m0 13 0 j) → (∀ j, gI mem 13 0 j = gI m0 13 0 j) →
    ∃ m', dM_moveAll_15_2 f n 1 (nI i) mem = some ((), m') ∧ (∀ j, j < 66 → gI m' 15 0 j = gI m0 13 0 j) ∧ Fz (rowZ 15) mem m'
  | 0, i, n, mem, m0, e, hn, h, h' => by
    obtain ⟨n, rfl⟩ : ∃ k, n = k + 1 := ⟨n - 1, by omega⟩
    have e' : i = 66 := by omega
    subst e'
    rw [dM_moveAll_15_2, if_neg (show ¬ nI 66 < (66 : Int32) by decide)]
    exact ⟨mem, rfl, h, Fz_rfl _ _⟩
  | d + 1, i, n, mem, m0, e, hn, h, h' => by
    obtain ⟨n, rfl⟩ : ∃ k, n = k + 1 := ⟨n - 1, by omega⟩
    rw [dM_moveAll_15_2, if_pos (show nI i < (66 : Int32) from lt_n (c := 66) (by omega) (by omega)), if_neg (by decide), ck_in _ (by omega) (by omega), ck_in _ (by omega) (by omega), nI_clamp (by omega), add1, h' i]
    obtain ⟨m', t1, t2, t3⟩ := keep_15_lp (f := f) d (i + 1) n (sI mem 15 0 i (gI m0 13 0 i)) m0 (by omega) (by omega) (fun j hj => by
      rw [gI_sI]
      by_cases c : j = i
      · rw [if_pos ⟨rfl, rfl, c⟩, c]
      · rw [if_neg (fun z => c z.2.2)]
        exact h j (by omega)) (fun j => by rw [gI_sI, if_neg (by omega), h' j])
    exact ⟨m', t1, t2, Fz_tr (Fz_sI rfl) t3⟩
theorem back_15_lp {f : Nat} : ∀ (d i n : Nat) (mem m0 : Mem), i + d = 66 → d < n → (∀ j, j < i → gI mem 13 0 j = gI m0 15 0 j) → (∀ j, gI mem 15 0 j = gI m0 15 0 j) →
    ∃ m', dM_moveAll_15_2 f n 0 (nI i) mem = some ((), m') ∧ (∀ j, j < 66 → gI m' 13 0 j = gI m0 15 0 j) ∧ Fz (rowZ 13) mem m'
  | 0, i, n, mem, m0, e, hn, h, h' => by
    obtain ⟨n, rfl⟩ : ∃ k, n = k + 1 := ⟨n - 1, by omega⟩
    have e' : i = 66 := by omega
    subst e'
    rw [dM_moveAll_15_2, if_neg (show ¬ nI 66 < (66 : Int32) by decide)]
    exact ⟨mem, rfl, h, Fz_rfl _ _⟩
  | d + 1, i, n, mem, m0, e, hn, h, h' => by
    obtain ⟨n, rfl⟩ : ∃ k, n = k + 1 := ⟨n - 1, by omega⟩
    rw [dM_moveAll_15_2, if_pos (show nI i < (66 : Int32) from lt_n (c := 66) (by omega) (by omega)), if_pos rfl, ck_in _ (by omega) (by omega), ck_in _ (by omega) (by omega), nI_clamp (by omega), add1, h' i]
    obtain ⟨m', t1, t2, t3⟩ := back_15_lp (f := f) d (i + 1) n (sI mem 13 0 i (gI m0 15 0 i)) m0 (by omega) (by omega) (fun j hj => by
      rw [gI_sI]
      by_cases c : j = i
      · rw [if_pos ⟨rfl, rfl, c⟩, c]
      · rw [if_neg (fun z => c z.2.2)]
        exact h j (by omega)) (fun j => by rw [gI_sI, if_neg (by omega), h' j])
    exact ⟨m', t1, t2, Fz_tr (Fz_sI rfl) t3⟩
theorem keep_15 {f : Nat} {mem : Mem} {S : PS} (hf : 2000 ≤ f) (hi : IV S) (h : RM mem S) : ∃ m', dM_moveAll_15 f 1 mem = some ((), m') ∧ RK 15 m' S ∧ Fz (rowZ 15) mem m' := by
  obtain ⟨m', t1, t2, t3⟩ := keep_15_lp (f := f) 66 0 f mem mem (by omega) (by omega) (fun j hj => absurd hj (by omega)) (fun _ => rfl)
  exact ⟨m', t1, RK_cp (t := 13) hi h t2, t3⟩
theorem back_15 {f : Nat} {mem : Mem} {S : PS} (hf : 2000 ≤ f) (hi : IV S) (h : RK 15 mem S) : ∃ m', dM_moveAll_15 f 0 mem = some ((), m') ∧ RM m' S ∧ Fz (rowZ 13) mem m' := by
  obtain ⟨m', t1, t2, t3⟩ := back_15_lp (f := f) 66 0 f mem mem (by omega) (by omega) (fun j hj => absurd hj (by omega)) (fun _ => rfl)
  exact ⟨m', t1, RK_cp (u := 13) hi h t2, t3⟩
theorem keep_21_lp {f : Nat} : ∀ (d i n : Nat) (mem m0 : Mem), i + d = 66 → d < n → (∀ j, j < i → gI mem 21 0 j = gI m0 13 0 j) → (∀ j, gI mem 13 0 j = gI m0 13 0 j) →
    ∃ m', dM_moveAll_21_2 f n 1 (nI i) mem = some ((), m') ∧ (∀ j, j < 66 → gI m' 21 0 j = gI m0 13 0 j) ∧ Fz (rowZ 21) mem m'
  | 0, i, n, mem, m0, e, hn, h, h' => by
    obtain ⟨n, rfl⟩ : ∃ k, n = k + 1 := ⟨n - 1, by omega⟩
    have e' : i = 66 := by omega
    subst e'
    rw [dM_moveAll_21_2, if_neg (show ¬ nI 66 < (66 : Int32) by decide)]
    exact ⟨mem, rfl, h, Fz_rfl _ _⟩
  | d + 1, i, n, mem, m0, e, hn, h, h' => by
    obtain ⟨n, rfl⟩ : ∃ k, n = k + 1 := ⟨n - 1, by omega⟩
    rw [dM_moveAll_21_2, if_pos (show nI i < (66 : Int32) from lt_n (c := 66) (by omega) (by omega)), if_neg (by decide), ck_in _ (by omega) (by omega), ck_in _ (by omega) (by omega), nI_clamp (by omega), add1, h' i]
    obtain ⟨m', t1, t2, t3⟩ := keep_21_lp (f := f) d (i + 1) n (sI mem 21 0 i (gI m0 13 0 i)) m0 (by omega) (by omega) (fun j hj => by
      rw [gI_sI]
      by_cases c : j = i
      · rw [if_pos ⟨rfl, rfl, c⟩, c]
      · rw [if_neg (fun z => c z.2.2)]
        exact h j (by omega)) (fun j => by rw [gI_sI, if_neg (by omega), h' j])
    exact ⟨m', t1, t2, Fz_tr (Fz_sI rfl) t3⟩
theorem back_21_lp {f : Nat} : ∀ (d i n : Nat) (mem m0 : Mem), i + d = 66 → d < n → (∀ j, j < i → gI mem 13 0 j = gI m0 21 0 j) → (∀ j, gI mem 21 0 j = gI m0 21 0 j) →
    ∃ m', dM_moveAll_21_2 f n 0 (nI i) mem = some ((), m') ∧ (∀ j, j < 66 → gI m' 13 0 j = gI m0 21 0 j) ∧ Fz (rowZ 13) mem m'
  | 0, i, n, mem, m0, e, hn, h, h' => by
    obtain ⟨n, rfl⟩ : ∃ k, n = k + 1 := ⟨n - 1, by omega⟩
    have e' : i = 66 := by omega
    subst e'
    rw [dM_moveAll_21_2, if_neg (show ¬ nI 66 < (66 : Int32) by decide)]
    exact ⟨mem, rfl, h, Fz_rfl _ _⟩
  | d + 1, i, n, mem, m0, e, hn, h, h' => by
    obtain ⟨n, rfl⟩ : ∃ k, n = k + 1 := ⟨n - 1, by omega⟩
    rw [dM_moveAll_21_2, if_pos (show nI i < (66 : Int32) from lt_n (c := 66) (by omega) (by omega)), if_pos rfl, ck_in _ (by omega) (by omega), ck_in _ (by omega) (by omega), nI_clamp (by omega), add1, h' i]
    obtain ⟨m', t1, t2, t3⟩ := back_21_lp (f := f) d (i + 1) n (sI mem 13 0 i (gI m0 21 0 i)) m0 (by omega) (by omega) (fun j hj => by
      rw [gI_sI]
      by_cases c : j = i
      · rw [if_pos ⟨rfl, rfl, c⟩, c]
      · rw [if_neg (fun z => c z.2.2)]
        exact h j (by omega)) (fun j => by rw [gI_sI, if_neg (by omega), h' j])
    exact ⟨m', t1, t2, Fz_tr (Fz_sI rfl) t3⟩
theorem keep_21 {f : Nat} {mem : Mem} {S : PS} (hf : 2000 ≤ f) (hi : IV S) (h : RM mem S) : ∃ m', dM_moveAll_21 f 1 mem = some ((), m') ∧ RK 21 m' S ∧ Fz (rowZ 21) mem m' := by
  obtain ⟨m', t1, t2, t3⟩ := keep_21_lp (f := f) 66 0 f mem mem (by omega) (by omega) (fun j hj => absurd hj (by omega)) (fun _ => rfl)
  exact ⟨m', t1, RK_cp (t := 13) hi h t2, t3⟩
theorem back_21 {f : Nat} {mem : Mem} {S : PS} (hf : 2000 ≤ f) (hi : IV S) (h : RK 21 mem S) : ∃ m', dM_moveAll_21 f 0 mem = some ((), m') ∧ RM m' S ∧ Fz (rowZ 13) mem m' := by
  obtain ⟨m', t1, t2, t3⟩ := back_21_lp (f := f) 66 0 f mem mem (by omega) (by omega) (fun j hj => absurd hj (by omega)) (fun _ => rfl)
  exact ⟨m', t1, RK_cp (u := 13) hi h t2, t3⟩
theorem keep_22_lp {f : Nat} : ∀ (d i n : Nat) (mem m0 : Mem), i + d = 66 → d < n → (∀ j, j < i → gI mem 22 0 j = gI m0 13 0 j) → (∀ j, gI mem 13 0 j = gI m0 13 0 j) →
    ∃ m', dM_moveAll_22_2 f n 1 (nI i) mem = some ((), m') ∧ (∀ j, j < 66 → gI m' 22 0 j = gI m0 13 0 j) ∧ Fz (rowZ 22) mem m'
  | 0, i, n, mem, m0, e, hn, h, h' => by
    obtain ⟨n, rfl⟩ : ∃ k, n = k + 1 := ⟨n - 1, by omega⟩
    have e' : i = 66 := by omega
    subst e'
    rw [dM_moveAll_22_2, if_neg (show ¬ nI 66 < (66 : Int32) by decide)]
    exact ⟨mem, rfl, h, Fz_rfl _ _⟩
  | d + 1, i, n, mem, m0, e, hn, h, h' => by
    obtain ⟨n, rfl⟩ : ∃ k, n = k + 1 := ⟨n - 1, by omega⟩
    rw [dM_moveAll_22_2, if_pos (show nI i < (66 : Int32) from lt_n (c := 66) (by omega) (by omega)), if_neg (by decide), ck_in _ (by omega) (by omega), ck_in _ (by omega) (by omega), nI_clamp (by omega), add1, h' i]
    obtain ⟨m', t1, t2, t3⟩ := keep_22_lp (f := f) d (i + 1) n (sI mem 22 0 i (gI m0 13 0 i)) m0 (by omega) (by omega) (fun j hj => by
      rw [gI_sI]
      by_cases c : j = i
      · rw [if_pos ⟨rfl, rfl, c⟩, c]
      · rw [if_neg (fun z => c z.2.2)]
        exact h j (by omega)) (fun j => by rw [gI_sI, if_neg (by omega), h' j])
    exact ⟨m', t1, t2, Fz_tr (Fz_sI rfl) t3⟩
theorem back_22_lp {f : Nat} : ∀ (d i n : Nat) (mem m0 : Mem), i + d = 66 → d < n → (∀ j, j < i → gI mem 13 0 j = gI m0 22 0 j) → (∀ j, gI mem 22 0 j = gI m0 22 0 j) →
    ∃ m', dM_moveAll_22_2 f n 0 (nI i) mem = some ((), m') ∧ (∀ j, j < 66 → gI m' 13 0 j = gI m0 22 0 j) ∧ Fz (rowZ 13) mem m'
  | 0, i, n, mem, m0, e, hn, h, h' => by
    obtain ⟨n, rfl⟩ : ∃ k, n = k + 1 := ⟨n - 1, by omega⟩
    have e' : i = 66 := by omega
    subst e'
    rw [dM_moveAll_22_2, if_neg (show ¬ nI 66 < (66 : Int32) by decide)]
    exact ⟨mem, rfl, h, Fz_rfl _ _⟩
  | d + 1, i, n, mem, m0, e, hn, h, h' => by
    obtain ⟨n, rfl⟩ : ∃ k, n = k + 1 := ⟨n - 1, by omega⟩
    rw [dM_moveAll_22_2, if_pos (show nI i < (66 : Int32) from lt_n (c := 66) (by omega) (by omega)), if_pos rfl, ck_in _ (by omega) (by omega), ck_in _ (by omega) (by omega), nI_clamp (by omega), add1, h' i]
    obtain ⟨m', t1, t2, t3⟩ := back_22_lp (f := f) d (i + 1) n (sI mem 13 0 i (gI m0 22 0 i)) m0 (by omega) (by omega) (fun j hj => by
      rw [gI_sI]
      by_cases c : j = i
      · rw [if_pos ⟨rfl, rfl, c⟩, c]
      · rw [if_neg (fun z => c z.2.2)]
        exact h j (by omega)) (fun j => by rw [gI_sI, if_neg (by omega), h' j])
    exact ⟨m', t1, t2, Fz_tr (Fz_sI rfl) t3⟩
theorem keep_22 {f : Nat} {mem : Mem} {S : PS} (hf : 2000 ≤ f) (hi : IV S) (h : RM mem S) : ∃ m', dM_moveAll_22 f 1 mem = some ((), m') ∧ RK 22 m' S ∧ Fz (rowZ 22) mem m' := by
  obtain ⟨m', t1, t2, t3⟩ := keep_22_lp (f := f) 66 0 f mem mem (by omega) (by omega) (fun j hj => absurd hj (by omega)) (fun _ => rfl)
  exact ⟨m', t1, RK_cp (t := 13) hi h t2, t3⟩
theorem back_22 {f : Nat} {mem : Mem} {S : PS} (hf : 2000 ≤ f) (hi : IV S) (h : RK 22 mem S) : ∃ m', dM_moveAll_22 f 0 mem = some ((), m') ∧ RM m' S ∧ Fz (rowZ 13) mem m' := by
  obtain ⟨m', t1, t2, t3⟩ := back_22_lp (f := f) 66 0 f mem mem (by omega) (by omega) (fun j hj => absurd hj (by omega)) (fun _ => rfl)
  exact ⟨m', t1, RK_cp (u := 13) hi h t2, t3⟩
