/-! A PALACE as numbers: minute, rota, how many walls, the walls' numbers; what the class's cells, the reference's row are of it. -/
theorem nb_lit (n : Nat) : (OfNat.ofNat n : Int32) = nI (OfNat.ofNat n) := rfl
theorem nb_shl2 {k : Nat} (a : Nat) (hk : k < 32) : nI a <<< nI (k &&& 31) = nI (a <<< k) := by
  rw [← nb_shl a hk, ← nb_and]
  rfl
theorem nb_shr2 {a k : Nat} (ha : a < 2 ^ 31) (hk : k < 32) : nI a >>> nI (k &&& 31) = nI (a >>> k) := by
  rw [← nb_shr ha hk, ← nb_and]
  rfl
theorem nb_tb (a k : Nat) : (a >>> k) &&& 1 = if a.testBit k then 1 else 0 := by
  rw [Nat.and_one_is_mod, Nat.shiftRight_eq_div_pow]
  have : a.testBit k = decide (a / 2 ^ k % 2 = 1) := by rw [Nat.testBit_eq_decide_div_mod_eq]
  rw [this]
  by_cases h : a / 2 ^ k % 2 = 1
  · simp [h]
  · simp [h]
    omega
abbrev PS : Type := Nat × (Nat → Nat) × Nat × (Nat → Nat → Nat)
abbrev mi (S : PS) : Nat := S.1
abbrev ro (S : PS) : Nat → Nat := S.2.1
abbrev ct (S : PS) : Nat := S.2.2.1
abbrev wa (S : PS) : Nat → Nat → Nat := S.2.2.2
def RC (mem : Mem) (p : Nat) (S : PS) : Prop := gI mem 1 p 0 = nI (mi S) ∧ (∀ j, j < 4 → gI mem 2 p j = nI (ro S j)) ∧ gI mem 1 p 2 = nI (ct S) ∧ ∀ w, w < ct S → ∀ k, k < 6 → gI mem 4 (10 * p + w) k = nI (wa S w k)
def RM (mem : Mem) (S : PS) : Prop := gI mem 13 0 0 = nI (mi S) ∧ (∀ j, j < 4 → gI mem 13 0 (1 + j) = nI (ro S j)) ∧ gI mem 13 0 5 = nI (ct S) ∧ ∀ w, w < ct S → ∀ k, k < 6 → gI mem 13 0 (6 + 6 * w + k) = nI (wa S w k)
def WV (W : Nat → Nat → Nat) (w : Nat) : Prop := W w 0 ≤ 5 ∧ W w 1 ≤ 9 ∧ W w 2 ≤ 9 ∧ W w 3 ≤ 3 ∧ W w 4 ≤ 65535 ∧ W w 5 ≤ 99
def IV (S : PS) : Prop := mi S ≤ 200000 ∧ 1 ≤ ro S 0 ∧ ro S 0 ≤ 60 ∧ ro S 1 ≤ 60 ∧ ro S 2 ≤ 3 ∧ 1 ≤ ro S 3 ∧ ro S 3 ≤ 20 ∧ ct S ≤ 10 ∧ ∀ w, w < ct S → WV (wa S) w
def b2 (b : Bool) : Nat := if b then 1 else 0
theorem b2_t : b2 true = 1 := rfl
theorem b2_f : b2 false = 0 := rfl
theorem b2_le (b : Bool) : b2 b ≤ 1 := by cases b <;> decide
theorem b2_0 (b : Bool) : b2 b = 0 ↔ b = false := by cases b <;> decide
theorem b2_1 (b : Bool) : b2 b = 1 ↔ b = true := by cases b <;> decide
/-- whether one of a kind and a side listens -/
def lisF (S : PS) (kind side q rest : Nat) : Bool :=
  if kind = 1 then (decide (q = side) && decide (ro S 1 ≤ rest)) && !decide (ro S 2 = 3)
  else if kind = 4 then (if ro S 2 = 3 then decide (rest = 0) else decide (q = side) && decide (ro S 1 ≤ rest))
  else if kind = 5 then (decide (q = side) && decide (ro S 1 ≤ rest)) || (decide (q = (side + 1) % 4) && decide (ro S 1 ≤ rest))
  else decide (q = side) && decide (ro S 1 ≤ rest)
def onF (S : PS) (by' w t : Nat) : Bool := lisF S (wa S w 0) (wa S w 3) (t / by' % 4) (t % by')
theorem zb1 {α : Type} (A : Option α) : zb (nI 1) A = A := rfl
theorem zb0 {α : Type} (A : Option α) : zb (nI 0) A = A := rfl
theorem ck_in {α : Type} {n k : Nat} (A : Option α) (h : k < n) (hk : k < 2 ^ 31) : ck (nI k) n A = A := by
  unfold ck
  rw [nI_clamp hk, if_neg]
  rintro (q | q)
  · exact nI_pos hk q
  · omega
theorem bd_ok {α β : Type} (a : α) (m : Mem) (F : α → Mem → Option β) : bd (some (a, m)) F = F a m := rfl
theorem listens_50 {f : Nat} {mem : Mem} {kind side q rest : Nat} (u own win : Bool) (hk : kind ≤ 5) (hs : side ≤ 3) (hq : q < 2 ^ 31) (hr : rest < 2 ^ 31) :
    dP_listens_50 f (nI kind) (nI side) (nI q) (nI rest) (nI (b2 u)) (nI (b2 own)) (nI (b2 win)) mem =
      some (nI (b2 (if kind = 1 then own && !win else if kind = 4 then (if win then decide (rest = 0) else own) else if kind = 5 then own || (decide (q = (side + 1) % 4) && u) else own)), mem) := by
  unfold dP_listens_50
  have hkk : kind = 0 ∨ kind = 1 ∨ kind = 2 ∨ kind = 3 ∨ kind = 4 ∨ kind = 5 := by omega
  rcases hkk with rfl | rfl | rfl | rfl | rfl | rfl
  · simp (disch := omega) only [nb_lit, nb_lt, nb_le, nb_inj, nb_add, nb_mul, nb_sub, nb_div, nb_mod, nb_and, nb_or, nb_xor, nb_shl2, nb_shr2, nI_clamp]
    cases own <;> rfl
  · simp (disch := omega) only [nb_lit, nb_lt, nb_le, nb_inj, nb_add, nb_mul, nb_sub, nb_div, nb_mod, nb_and, nb_or, nb_xor, nb_shl2, nb_shr2, nI_clamp]
    cases own <;> cases win <;> rfl
  · simp (disch := omega) only [nb_lit, nb_lt, nb_le, nb_inj, nb_add, nb_mul, nb_sub, nb_div, nb_mod, nb_and, nb_or, nb_xor, nb_shl2, nb_shr2, nI_clamp]
    cases own <;> rfl
  · simp (disch := omega) only [nb_lit, nb_lt, nb_le, nb_inj, nb_add, nb_mul, nb_sub, nb_div, nb_mod, nb_and, nb_or, nb_xor, nb_shl2, nb_shr2, nI_clamp]
    cases own <;> rfl
  · simp (disch := omega) only [nb_lit, nb_lt, nb_le, nb_inj, nb_add, nb_mul, nb_sub, nb_div, nb_mod, nb_and, nb_or, nb_xor, nb_shl2, nb_shr2, nI_clamp]
    by_cases c : rest = 0 <;> cases own <;> cases win <;> simp [c, b2, zb0, zb1, nb_inj] <;> rfl
  · simp (disch := omega) only [nb_lit, nb_lt, nb_le, nb_inj, nb_add, nb_mul, nb_sub, nb_div, nb_mod, nb_and, nb_or, nb_xor, nb_shl2, nb_shr2, nI_clamp]
    by_cases c : q = (side + 1) % 4 <;> cases own <;> cases u <;> simp [c, b2, zb0, zb1, nb_inj] <;> rfl
theorem listens_ok {f p : Nat} {mem : Mem} {S : PS} (h : RC mem p S) (hi : IV S) {kind side q rest : Nat} (hk : kind ≤ 5) (hs : side ≤ 3) (hq : q < 2 ^ 31) (hr : rest < 2 ^ 31) :
    dP_listens f p (nI kind) (nI side) (nI q) (nI rest) mem = some (nI (b2 (lisF S kind side q rest)), mem) := by
  obtain ⟨h1, h2, h3, h4⟩ := h
  obtain ⟨i1, i2, i3, i4, i5, i6, i7, i8, i9⟩ := hi
  have L := fun u own win => listens_50 (f := f) (mem := mem) u own win hk hs hq hr
  have L16 : ∀ u, dP_listens_16 f p (nI kind) (nI side) (nI q) (nI rest) (nI (b2 u)) mem = dP_listens_33 f p (nI kind) (nI side) (nI q) (nI rest) (nI (b2 u)) (nI (b2 (decide (q = side) && u))) mem := by
    intro u
    unfold dP_listens_16
    simp (disch := omega) only [nb_lit, nb_lt, nb_le, nb_inj, nb_add, nb_mul, nb_sub, nb_div, nb_mod, nb_and, nb_or, nb_xor, nb_shl2, nb_shr2, nI_clamp]
    by_cases c : q = side <;> cases u <;> simp [c, b2, nb_inj] <;> rfl
  have L33 : ∀ u own, dP_listens_33 f p (nI kind) (nI side) (nI q) (nI rest) (nI (b2 u)) (nI (b2 own)) mem = dP_listens_50 f (nI kind) (nI side) (nI q) (nI rest) (nI (b2 u)) (nI (b2 own)) (nI (b2 (decide (ro S 2 = 3)))) mem := by
    intro u own
    unfold dP_listens_33
    simp (disch := omega) only [nb_lit, nb_lt, nb_le, nb_inj, nb_add, nb_mul, nb_sub, nb_div, nb_mod, nb_and, nb_or, nb_xor, nb_shl2, nb_shr2, nI_clamp, h2 2 (by omega)]
    by_cases c : ro S 2 = 3 <;> simp [c, b2] <;> rfl
  have L0 : dP_listens f p (nI kind) (nI side) (nI q) (nI rest) mem = dP_listens_16 f p (nI kind) (nI side) (nI q) (nI rest) (nI (b2 (decide (ro S 1 ≤ rest)))) mem := by
    unfold dP_listens
    simp (disch := omega) only [nb_lit, nb_lt, nb_le, nb_inj, nb_add, nb_mul, nb_sub, nb_div, nb_mod, nb_and, nb_or, nb_xor, nb_shl2, nb_shr2, nI_clamp, h2 1 (by omega)]
    by_cases c : rest < ro S 1
    · rw [if_pos c, decide_eq_false (by omega)]
      rfl
    · rw [if_neg c, decide_eq_true (by omega)]
      rfl
  rw [L0, L16, L33, L]
  unfold lisF
  by_cases c : ro S 2 = 3 <;> simp [c]
