/-! The reference's said; a minute that goes: both sides. -/
theorem near_bit {S : PS} {room i : Nat} (h : i < ct S) : (nearS S room).testBit i = atS S (reachS S room) i := by
  unfold nearS
  rw [setB_bit]
  simp [h]
/-- a minute goes: those below n of the side that goes off have slept -/
def minP (S : PS) (n : Nat) : PS := (mi S + 1, ro S, ct S, fun w k => if w < n ∧ k = 5 ∧ wa S w 3 = (mi S + 1) / ro S 0 % 4 then 0 else wa S w k)
def minS (S : PS) : PS := if (mi S + 1) % ro S 0 = 0 then minP S (ct S) else minP S 0
theorem minP_0 (S : PS) (w k : Nat) : wa (minP S 0) w k = wa S w k := by
  unfold minP
  simp
theorem minP_self (S : PS) (i k : Nat) : wa (minP S i) i k = wa S i k := if_neg (fun z => by omega)
theorem minP_old (S : PS) (n w : Nat) {k : Nat} (h : k ≠ 5) : wa (minP S n) w k = wa S w k := if_neg (fun z => h z.2.1)
theorem IV_minP {S : PS} (hi : IV S) (hm : mi S < 200000) (n : Nat) : IV (minP S n) := by
  obtain ⟨i1, i2, i3, i4, i5, i6, i7, i8, i9⟩ := hi
  refine ⟨hm, i2, i3, i4, i5, i6, i7, i8, fun w hwc => ?_⟩
  obtain ⟨v0, v1, v2, v3, v4, v5⟩ := i9 w hwc
  refine ⟨?_, ?_, ?_, ?_, ?_, ?_⟩
  · rw [minP_old S n w (by decide)]; exact v0
  · rw [minP_old S n w (by decide)]; exact v1
  · rw [minP_old S n w (by decide)]; exact v2
  · rw [minP_old S n w (by decide)]; exact v3
  · rw [minP_old S n w (by decide)]; exact v4
  · show (if _ then _ else _) ≤ _
    split
    · omega
    · exact v5
theorem minP_t {S : PS} {i : Nat} (h : wa S i 3 = (mi S + 1) / ro S 0 % 4) : minP S (i + 1) = setW (minP S i) i 5 0 := by
  refine ps_ext rfl rfl rfl fun w k => ?_
  show (if _ then _ else _) = (if _ then _ else if _ then _ else _)
  by_cases e : w = i ∧ k = 5
  · rw [if_pos e, if_pos ⟨by omega, e.2, by rw [e.1]; exact h⟩]
  · rw [if_neg e]
    by_cases c : w < i ∧ k = 5 ∧ wa S w 3 = (mi S + 1) / ro S 0 % 4
    · rw [if_pos c, if_pos ⟨by omega, c.2⟩]
    · rw [if_neg c, if_neg]
      rintro ⟨z1, z2, z3⟩
      by_cases ew : w = i
      · exact e ⟨ew, z2⟩
      · exact c ⟨by omega, z2, z3⟩
theorem minP_f {S : PS} {i : Nat} (h : ¬ wa S i 3 = (mi S + 1) / ro S 0 % 4) : minP S (i + 1) = minP S i := by
  refine ps_ext rfl rfl rfl fun w k => ?_
  show (if _ then _ else _) = (if _ then _ else _)
  by_cases c : w < i ∧ k = 5 ∧ wa S w 3 = (mi S + 1) / ro S 0 % 4
  · rw [if_pos c, if_pos ⟨by omega, c.2⟩]
  · rw [if_neg c, if_neg]
    rintro ⟨z1, z2, z3⟩
    by_cases ew : w = i
    · subst ew
      exact h z3
    · exact c ⟨by omega, z2, z3⟩
theorem minP_w {S : PS} {i : Nat} : setW (minP S i) i 5 (wa S i 5) = minP S i := by
  refine ps_ext rfl rfl rfl fun w k => ?_
  show (if _ then _ else _) = _
  by_cases c : w = i ∧ k = 5
  · obtain ⟨rfl, rfl⟩ := c
    rw [if_pos ⟨rfl, rfl⟩, minP_self]
  · rw [if_neg c]
theorem goOn_lp {f p : Nat} {S : PS} (hi : IV S) (hm : mi S < 200000) : ∀ (d i n : Nat) (mem : Mem), i + d = ct S → d < n → RC mem p (minP S i) →
    ∃ m', dP_goOn_31 f n p (nI (ro S 0)) (nI i) mem = some ((), m') ∧ RC m' p (minP S (ct S)) ∧ Fz (palZ p) mem m' := by
  have hct : ct S ≤ 10 := hi.2.2.2.2.2.2.2.1
  intro d
  induction d with
  | zero =>
    intro i n mem e hn h
    obtain ⟨n, rfl⟩ : ∃ k, n = k + 1 := ⟨n - 1, by omega⟩
    have e' : i = ct S := by omega
    subst e'
    have h3 : gI mem 1 p 2 = nI (ct S) := h.2.2.1
    rw [dP_goOn_31, h3, if_neg (by rw [nb_lt (by omega) (by omega)]; omega)]
    exact ⟨mem, rfl, h, Fz_rfl _ _⟩
  | succ d ih =>
    intro i n mem e hn h
    obtain ⟨n, rfl⟩ : ∃ k, n = k + 1 := ⟨n - 1, by omega⟩
    have hw : i < ct S := by omega
    obtain ⟨v0, v1, v2, v3, v4, v5⟩ := hi.2.2.2.2.2.2.2.2 i hw
    have h3 : gI mem 1 p 2 = nI (ct S) := h.2.2.1
    have h0 : gI mem 1 p 0 = nI (mi S + 1) := h.1
    have g3 : gI mem 4 (10 * p + i) 3 = nI (wa S i 3) := (h.2.2.2 i hw 3 (by omega)).trans (by rw [minP_self])
    rw [dP_goOn_31, h3, if_pos (by rw [nb_lt (by omega) (by omega)]; omega), ck_in _ (by omega) (by omega), nI_clamp (by omega), h0, quarter_ok hi.2.1 hi.2.2.1 (by omega), bd_ok, g3, add1]
    have cq : nI (wa S i 3) = nI ((mi S + 1) / ro S 0 % 4) ↔ wa S i 3 = (mi S + 1) / ro S 0 % 4 := nb_inj (by omega) (by omega)
    by_cases c : wa S i 3 = (mi S + 1) / ro S 0 % 4
    · rw [if_pos (cq.mpr c), ck_in _ (by omega) (by omega)]
      obtain ⟨m', r1, r2, r3⟩ := ih (i + 1) n _ (by omega) (by omega) (by rw [minP_t c]; exact RC_put h i 5 0)
      exact ⟨m', r1, r2, Fz_tr (Fz_sI (palZ4 (by omega))) r3⟩
    · rw [if_neg (fun z => c (cq.mp z))]
      exact ih (i + 1) n mem (by omega) (by omega) (by rw [minP_f c]; exact h)
theorem goOn_ok {f p : Nat} {mem : Mem} {S : PS} (hf : 2000 ≤ f) (h : RC mem p S) (hi : IV S) (hm : mi S < 200000) : ∃ m', dP_goOn f p mem = some ((), m') ∧ RC m' p (minS S) ∧ Fz (palZ p) mem m' := by
  have hct : ct S ≤ 10 := hi.2.2.2.2.2.2.2.1
  have i2 := hi.2.1
  have i3 := hi.2.2.1
  have hmod : (mi S + 1) % ro S 0 < ro S 0 := Nat.mod_lt _ (by omega)
  have h0 : RC (sI mem 1 p 0 (nI (mi S + 1))) p (minP S 0) := by
    obtain ⟨h1, h2, h3, h4⟩ := h
    refine ⟨?_, fun j hj => ?_, ?_, fun w hw k hk => ?_⟩
    · rw [gI_sI, if_pos ⟨rfl, rfl, rfl⟩]
      rfl
    · rw [gI_sI, if_neg (by omega)]
      exact h2 j hj
    · rw [gI_sI, if_neg (by omega)]
      exact h3
    · rw [gI_sI, if_neg (by omega), h4 w hw k hk]
      rw [minP_0]
  have e1 : gI mem 1 p 0 + 1 = nI (mi S + 1) := by rw [h.1, add1]
  have e2 : gI (sI mem 1 p 0 (nI (mi S + 1))) 1 p 0 = nI (mi S + 1) := h0.1
  have e3 : gI (sI mem 1 p 0 (nI (mi S + 1))) 2 p 0 = nI (ro S 0) := h0.2.1 0 (by omega)
  unfold dP_goOn
  rw [e1, e2, e3, rest_ok i2 i3 (by omega), bd_ok]
  have k0 : nI ((mi S + 1) % ro S 0) = 0 ↔ (mi S + 1) % ro S 0 = 0 := nb_zero (by omega)
  unfold minS
  by_cases c : (mi S + 1) % ro S 0 = 0
  · rw [if_pos (k0.mpr c), if_pos c]
    obtain ⟨m', r1, r2, r3⟩ := goOn_lp (f := f) hi hm (ct S) 0 f _ (by omega) (by omega) h0
    exact ⟨m', r1, r2, Fz_tr (Fz_sI (palZ0 p)) r3⟩
  · rw [if_neg (fun z => c (k0.mp z)), if_neg c]
    exact ⟨_, rfl, h0, Fz_sI (palZ0 p)⟩
