/-! The reference's reach; what is said: both sides. -/
/-! What a word becomes, who hears it, and the palace behind it. -/
def becN (S : PS) (w word : Nat) : Nat := if wa S w 0 = 2 then word ^^^ 1 else if wa S w 0 = 5 then (if wa S w 5 = 0 then word else word ^^^ 1) else word
def deafB (S : PS) (w word : Nat) : Bool := decide (wa S w 0 = 4) && decide (word < 4)
def tirN (kind : Nat) : Nat := if kind = 3 then 2 else if kind = 4 then 0 else if kind = 5 then 2 else 1
def wakeB (S : PS) (w : Nat) : Bool := decide (wa S w 5 < ro S 3)
def hitB (S : PS) (nr word w : Nat) : Bool := (nr.testBit w && onF S (ro S 0) w (mi S)) && wakeB S w && !deafB S w word
def sayW (S : PS) (nr word n : Nat) : Nat → Nat → Nat := fun w k => if w < n ∧ hitB S nr word w = true then (if k = 4 then wa S w 4 ||| 2 ^ becN S w word else if k = 5 then min 99 (wa S w 5 + tirN (wa S w 0)) else wa S w k) else wa S w k
def sayS (S : PS) (nr word n : Nat) : PS := (mi S, ro S, ct S, sayW S nr word n)
theorem xor1_lt {w : Nat} (h : w < 16) : w ^^^ 1 < 16 := Nat.xor_lt_two_pow (n := 4) h (by decide)
theorem becN_lt {S : PS} {w word : Nat} (h : word < 16) : becN S w word < 16 := by
  have := xor1_lt h
  unfold becN
  split
  · exact this
  split
  · split
    · exact h
    · exact this
  · exact h
theorem sayS_self (S : PS) (nr word i k : Nat) : wa (sayS S nr word i) i k = wa S i k := if_neg (fun z => by omega)
theorem sayS_old (S : PS) (nr word n w : Nat) {k : Nat} (h4 : k ≠ 4) (h5 : k ≠ 5) : wa (sayS S nr word n) w k = wa S w k := by
  show (if _ then _ else _) = _
  rw [if_neg h4, if_neg h5]
  split <;> rfl
theorem IV_say {S : PS} (hi : IV S) (nr : Nat) {word : Nat} (hw : word < 16) (n : Nat) : IV (sayS S nr word n) := by
  obtain ⟨i1, i2, i3, i4, i5, i6, i7, i8, i9⟩ := hi
  refine ⟨i1, i2, i3, i4, i5, i6, i7, i8, fun w hwc => ?_⟩
  obtain ⟨v0, v1, v2, v3, v4, v5⟩ := i9 w hwc
  refine ⟨?_, ?_, ?_, ?_, ?_, ?_⟩
  · rw [sayS_old S nr word n w (by decide) (by decide)]; exact v0
  · rw [sayS_old S nr word n w (by decide) (by decide)]; exact v1
  · rw [sayS_old S nr word n w (by decide) (by decide)]; exact v2
  · rw [sayS_old S nr word n w (by decide) (by decide)]; exact v3
  · show (if _ then _ else _) ≤ _
    split
    · rw [if_pos rfl]
      have h1 : 2 ^ becN S w word < 2 ^ 16 := Nat.pow_lt_pow_right (by decide) (becN_lt hw)
      have h2 : wa S w 4 ||| 2 ^ becN S w word < 2 ^ 16 := Nat.or_lt_two_pow (by omega) h1
      omega
    · exact v4
  · show (if _ then _ else _) ≤ _
    split
    · rw [if_neg (by decide), if_pos rfl]
      exact Nat.min_le_left _ _
    · exact v5
theorem ps_ext {S T : PS} (h1 : mi S = mi T) (h2 : ro S = ro T) (h3 : ct S = ct T) (h4 : ∀ w k, wa S w k = wa T w k) : S = T := by
  obtain ⟨a, b, c, d⟩ := S
  obtain ⟨a', b', c', d'⟩ := T
  have : d = d' := funext fun w => funext fun k => h4 w k
  have e1 : a = a' := h1
  have e2 : b = b' := h2
  have e3 : c = c' := h3
  subst e1 e2 e3 this
  rfl
theorem sayS_f {S : PS} {nr word i : Nat} (h : hitB S nr word i = false) : sayS S nr word (i + 1) = sayS S nr word i := by
  refine ps_ext rfl rfl rfl fun w k => ?_
  show (if _ then _ else _) = (if _ then _ else _)
  by_cases c : w < i ∧ hitB S nr word w = true
  · rw [if_pos c, if_pos ⟨by omega, c.2⟩]
  · rw [if_neg c, if_neg]
    rintro ⟨z1, z2⟩
    by_cases e : w = i
    · subst e
      rw [h] at z2
      cases z2
    · exact c ⟨by omega, z2⟩
theorem sayS_t {S : PS} {nr word i : Nat} (h : hitB S nr word i = true) : sayS S nr word (i + 1) = setW (setW (sayS S nr word i) i 4 (wa S i 4 ||| 2 ^ becN S i word)) i 5 (min 99 (wa S i 5 + tirN (wa S i 0))) := by
  refine ps_ext rfl rfl rfl fun w k => ?_
  show (if _ then _ else _) = (if _ then _ else if _ then _ else if _ then _ else _)
  by_cases e : w = i
  · subst e
    rw [if_pos ⟨by omega, h⟩]
    by_cases e4 : k = 4
    · subst e4
      simp
    · by_cases e5 : k = 5
      · subst e5
        simp
      · simp [e4, e5]
  · rw [if_neg (c := w = i ∧ k = 5) (fun z => e z.1), if_neg (c := w = i ∧ k = 4) (fun z => e z.1)]
    show _ = (if _ then _ else _)
    by_cases c : w < i ∧ hitB S nr word w = true
    · rw [if_pos c, if_pos ⟨by omega, c.2⟩]
    · rw [if_neg c, if_neg]
      rintro ⟨z1, z2⟩
      exact c ⟨by omega, z2⟩
theorem sayS_0 (S : PS) (nr word : Nat) : sayS S nr word 0 = S := ps_ext rfl rfl rfl fun w k => by
  unfold sayS sayW
  simp
/-- the number that a word becomes, or -1 -/
def hrd (S : PS) (w word : Nat) : Int32 := if deafB S w word = true then -1 else nI (becN S w word)
theorem min_ok {a : Nat} (h : a < 2 ^ 31) : (if nI a < 99 then nI a else 99 : Int32) = nI (min 99 a) := by
  have k : nI a < 99 ↔ a < 99 := nb_lt (b := 99) h (by omega)
  by_cases c : a < 99
  · rw [if_pos (k.mpr c), Nat.min_eq_right (by omega)]
  · rw [if_neg (fun z => c (k.mp z)), Nat.min_eq_left (by omega)]
    rfl
theorem tiresC_ok {f kind : Nat} {mem : Mem} (hk : kind ≤ 5) : dW_tires f (nI kind) mem = some (nI (tirN kind), mem) := by
  have hkk : kind = 0 ∨ kind = 1 ∨ kind = 2 ∨ kind = 3 ∨ kind = 4 ∨ kind = 5 := by omega
  rcases hkk with rfl | rfl | rfl | rfl | rfl | rfl <;> rfl
theorem awakeC_ok {f p w : Nat} {mem : Mem} {S : PS} (h : RC mem p S) (hi : IV S) (hw : w < ct S) : dP_isAwake f p (10 * p + w) mem = some (nI (b2 (wakeB S w)), mem) := by
  obtain ⟨v0, v1, v2, v3, v4, v5⟩ := hi.2.2.2.2.2.2.2.2 w hw
  have i7 := hi.2.2.2.2.2.2.1
  have k : nI (wa S w 5) < nI (ro S 3) ↔ wa S w 5 < ro S 3 := nb_lt (by omega) (by omega)
  unfold dP_isAwake wakeB
  rw [h.2.2.2 w hw 5 (by omega), h.2.1 3 (by omega)]
  by_cases c : wa S w 5 < ro S 3
  · rw [if_pos (k.mpr c), decide_eq_true c]
    rfl
  · rw [if_neg (fun z => c (k.mp z)), decide_eq_false c]
    rfl
theorem heardC_ok {f p w word : Nat} {mem : Mem} {S : PS} (h : RC mem p S) (hi : IV S) (hw : w < ct S) (hwo : word < 16) : dW_becomes f (10 * p + w) (nI word) mem = some (hrd S w word, mem) := by
  obtain ⟨v0, v1, v2, v3, v4, v5⟩ := hi.2.2.2.2.2.2.2.2 w hw
  have k2 : nI (wa S w 0) = 2 ↔ wa S w 0 = 2 := nb_inj (b := 2) (by omega) (by omega)
  have k3 : nI (wa S w 0) = 3 ↔ wa S w 0 = 3 := nb_inj (b := 3) (by omega) (by omega)
  have k4 : nI (wa S w 0) = 4 ↔ wa S w 0 = 4 := nb_inj (b := 4) (by omega) (by omega)
  have k5 : nI (wa S w 0) = 5 ↔ wa S w 0 = 5 := nb_inj (b := 5) (by omega) (by omega)
  have k0 : nI (wa S w 5) = 0 ↔ wa S w 5 = 0 := nb_zero (by omega)
  have kl : nI word < 4 ↔ word < 4 := nb_lt (b := 4) (by omega) (by omega)
  have kx : nI word ^^^ 1 = nI (word ^^^ 1) := nb_xor word 1
  unfold dW_becomes hrd deafB becN
  rw [h.2.2.2 w hw 5 (by omega), h.2.2.2 w hw 0 (by omega)]
  simp only [k2, k3, k4, k5, k0, kl, kx]
  have hkk : wa S w 0 = 0 ∨ wa S w 0 = 1 ∨ wa S w 0 = 2 ∨ wa S w 0 = 3 ∨ wa S w 0 = 4 ∨ wa S w 0 = 5 := by omega
  rcases hkk with e | e | e | e | e | e
  · simp [e]
  · simp [e]
  · simp [e]
  · simp [e]
  · by_cases l : word < 4 <;> simp [e, l]
  · by_cases l : wa S w 5 = 0 <;> simp [e, l]
theorem hrd_neg (S : PS) (w : Nat) {word : Nat} (h : word < 16) : hrd S w word < 0 ↔ deafB S w word = true := by
  unfold hrd
  cases deafB S w word with
  | true => simp
  | false =>
    have := becN_lt (S := S) (w := w) h
    simp
    exact Int32.not_lt.mp (nI_pos (by omega))
