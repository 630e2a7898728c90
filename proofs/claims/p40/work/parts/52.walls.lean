/-! of, set, turn, as, hears. -/
theorem if_b2 {α : Sort _} (b : Bool) {A B : α} : (if nI (b2 b) = 0 then A else B) = if b = true then B else A := by cases b <;> rfl
theorem inb_0 {k n : Nat} (hk : k < 2 ^ 31) (hn : n < 2 ^ 31) : inb (nI k) 0 (nI n) = decide (k ≤ n) := by
  have := inb_n (k := k) (a := 0) (n := n) hk (by omega) hn
  rw [decide_eq_true (Nat.zero_le k), Bool.true_and] at this
  exact this
theorem inb_f {x : Int32} {k n : Nat} (h : inb x 0 (nI n) = false) (hk : k ≤ n) (hn : n < 2 ^ 31) : ¬ x = nI k := fun e => by
  rw [e, inb_0 (by omega) hn, decide_eq_true hk] at h
  cases h
def okW (k v : Nat) : Prop := (k = 0 ∧ v ≤ 5) ∨ (k = 1 ∧ v ≤ 9) ∨ (k = 2 ∧ v ≤ 9) ∨ (k = 3 ∧ v ≤ 3) ∨ (k = 4 ∧ v ≤ 65535) ∨ (k = 5 ∧ v ≤ 99)
theorem IV_setW {S : PS} (hi : IV S) {w k v : Nat} (h : okW k v) : IV (setW S w k v) := by
  obtain ⟨i1, i2, i3, i4, i5, i6, i7, i8, i9⟩ := hi
  unfold okW at h
  refine ⟨i1, i2, i3, i4, i5, i6, i7, i8, fun w' hw => ?_⟩
  obtain ⟨v0, v1, v2, v3, v4, v5⟩ := i9 w' hw
  refine ⟨?_, ?_, ?_, ?_, ?_, ?_⟩
  · show (if w' = w ∧ 0 = k then v else wa S w' 0) ≤ 5
    split <;> omega
  · show (if w' = w ∧ 1 = k then v else wa S w' 1) ≤ 9
    split <;> omega
  · show (if w' = w ∧ 2 = k then v else wa S w' 2) ≤ 9
    split <;> omega
  · show (if w' = w ∧ 3 = k then v else wa S w' 3) ≤ 3
    split <;> omega
  · show (if w' = w ∧ 4 = k then v else wa S w' 4) ≤ 65535
    split <;> omega
  · show (if w' = w ∧ 5 = k then v else wa S w' 5) ≤ 99
    split <;> omega
theorem repl_ok {f p w k : Nat} {v : Int32} {mem : Mem} {S : PS} (h : RC mem p S) (hi : IV S) (hw : w < ct S) (hk : k < 6) : dP_replace f p (nI w) (nI k) v mem = some (nI (wa S w k), sI mem 4 (10 * p + w) k v) := by
  have hct : ct S ≤ 10 := hi.2.2.2.2.2.2.2.1
  unfold dP_replace
  rw [ck_in _ (by omega) (by omega), ck_in _ hk (by omega), ck_in _ (by omega) (by omega), ck_in _ hk (by omega), nI_clamp (by omega), nI_clamp (by omega), h.2.2.2 w hw k hk]
theorem at6 (w k : Nat) : (6 : Int32) + (6 : Int32) * nI w + nI k = nI (6 + 6 * w + k) := by
  have e1 : (6 : Int32) * nI w = nI (6 * w) := nb_mul 6 w
  have e2 : (6 : Int32) + nI (6 * w) = nI (6 + 6 * w) := nb_add 6 (6 * w)
  rw [e1, e2, nb_add]
def tbW (a2 a3 : Int32) : Bool := if a2 = 1 then inb a3 0 9 else if a2 = 2 then inb a3 0 9 else if a2 = 3 then inb a3 0 3 else if a2 = 4 then inb a3 0 65535 else if a2 = 5 then inb a3 0 99 else false
theorem tbW_t {a2 a3 : Int32} (h : tbW a2 a3 = true) : ∃ k v, 1 ≤ k ∧ a2 = nI k ∧ a3 = nI v ∧ okW k v := by
  unfold tbW at h
  by_cases c1 : a2 = 1
  · rw [if_pos c1] at h
    obtain ⟨v, -, h2, e⟩ := inb_t (a := 0) (n := 9) rfl (by omega) (by omega) h
    exact ⟨1, v, by omega, c1, e, by unfold okW; omega⟩
  rw [if_neg c1] at h
  by_cases c2 : a2 = 2
  · rw [if_pos c2] at h
    obtain ⟨v, -, h2, e⟩ := inb_t (a := 0) (n := 9) rfl (by omega) (by omega) h
    exact ⟨2, v, by omega, c2, e, by unfold okW; omega⟩
  rw [if_neg c2] at h
  by_cases c3 : a2 = 3
  · rw [if_pos c3] at h
    obtain ⟨v, -, h2, e⟩ := inb_t (a := 0) (n := 3) rfl (by omega) (by omega) h
    exact ⟨3, v, by omega, c3, e, by unfold okW; omega⟩
  rw [if_neg c3] at h
  by_cases c4 : a2 = 4
  · rw [if_pos c4] at h
    obtain ⟨v, -, h2, e⟩ := inb_t (a := 0) (n := 65535) rfl (by omega) (by omega) h
    exact ⟨4, v, by omega, c4, e, by unfold okW; omega⟩
  rw [if_neg c4] at h
  by_cases c5 : a2 = 5
  · rw [if_pos c5] at h
    obtain ⟨v, -, h2, e⟩ := inb_t (a := 0) (n := 99) rfl (by omega) (by omega) h
    exact ⟨5, v, by omega, c5, e, by unfold okW; omega⟩
  rw [if_neg c5] at h
  cases h
theorem tbW_i {a2 a3 : Int32} (h : inb a2 1 5 = true) : ck a2 6 (some (inb a3 0 (stc 0 a2.toNatClampNeg))) = some (tbW a2 a3) := by
  obtain ⟨k, h1, h2, rfl⟩ := inb_t (a := 1) (n := 5) rfl (by omega) (by omega) h
  have hkk : k = 1 ∨ k = 2 ∨ k = 3 ∨ k = 4 ∨ k = 5 := by omega
  rcases hkk with rfl | rfl | rfl | rfl | rfl <;> rfl
theorem tbW_o {a2 a3 : Int32} (h : inb a2 1 5 = false) : tbW a2 a3 = false := by
  cases c : tbW a2 a3 with
  | false => rfl
  | true =>
    obtain ⟨k, v, h1, rfl, -, h3⟩ := tbW_t c
    unfold okW at h3
    have := inb_n (k := k) (a := 1) (n := 5) (by omega) (by omega) (by omega)
    rw [decide_eq_true h1, decide_eq_true (by omega)] at this
    exact absurd (this.symm.trans h) (by decide)
theorem W_set {f : Nat} {mem : Mem} {S : PS} (hC : RC mem 0 S) (a1 a2 a3 : Int32) : dW_set f a1 a2 a3 mem = if (isW S a1 && tbW a2 a3) = true then bd (dP_replace f 0 a1 a2 a3 mem) (fun r7 m7 => some (r7, m7)) else bd (dW_finding f (-1000000001 : Int32) mem) (fun r m => some (r, m)) := by
  unfold dW_set
  rw [W_isWall hC, bd_ok]
  cases h1 : isW S a1 with
  | false => rw [ifz_f]; rfl
  | true =>
  rw [ifz_t, W_in, bd_ok]
  cases h2 : inb a2 1 5 with
  | false => rw [ifz_f, tbW_o h2]; rfl
  | true =>
  have ht := tbW_i (a3 := a3) h2
  rw [ifz_t, W_in, bd_ok]
  obtain ⟨k, q1, q2, rfl⟩ := inb_t (a := 1) (n := 5) rfl (by omega) (by omega) h2
  rw [ck_in _ (by omega) (by omega)] at ht
  rw [ck_in _ (by omega) (by omega), Option.some.inj ht, if_b2, Bool.true_and]
def undB (own k : Nat) : Bool := decide (k = 0 ∨ k = own ∨ k = 1 ∧ own = 4 ∨ k = 2 ∧ own = 5)
