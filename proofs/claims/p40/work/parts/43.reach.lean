/-! Reach and near: the class's side. -/
theorem two_and (a b s : Nat) : ((2 ^ a ||| 2 ^ b) &&& s = 0) ↔ (s.testBit a = false ∧ s.testBit b = false) := by
  constructor
  · intro h
    have h1 : ∀ i, ((2 ^ a ||| 2 ^ b) &&& s).testBit i = false := fun i => by rw [h, Nat.zero_testBit]
    have ha := h1 a
    have hb := h1 b
    simp only [Nat.testBit_and, Nat.testBit_or, Nat.testBit_two_pow_self, Bool.true_or, Bool.or_true, Bool.true_and] at ha hb
    exact ⟨ha, hb⟩
  · intro ⟨ha, hb⟩
    apply Nat.eq_of_testBit_eq
    intro i
    rw [Nat.testBit_and, Nat.testBit_or, Nat.testBit_two_pow, Nat.testBit_two_pow, Nat.zero_testBit]
    by_cases e1 : a = i
    · subst e1
      simp [ha]
    · by_cases e2 : b = i
      · subst e2
        simp [hb]
      · simp [e1, e2]
def bothS (S : PS) (w : Nat) : Nat := 2 ^ wa S w 1 ||| 2 ^ wa S w 2
def atS (S : PS) (set w : Nat) : Bool := set.testBit (wa S w 1) || set.testBit (wa S w 2)
def stepR (S : PS) (set w : Nat) : Nat := if wa S w 0 = 3 ∧ atS S set w = true then set ||| bothS S w else set
def inR (S : PS) (set : Nat) : Nat → Nat
  | 0 => set
  | n + 1 => stepR S (inR S set n) n
def outR (S : PS) (set : Nat) : Nat → Nat
  | 0 => set
  | n + 1 => inR S (outR S set n) (ct S)
def reachS (S : PS) (room : Nat) : Nat := outR S (2 ^ room) 10
theorem pow_10 {a : Nat} (h : a ≤ 9) : 2 ^ a < 2 ^ 10 := Nat.pow_lt_pow_right (by decide) (by omega)
theorem both_lt {S : PS} {w : Nat} (h : WV (wa S) w) : bothS S w < 2 ^ 10 := Nat.or_lt_two_pow (pow_10 h.2.1) (pow_10 h.2.2.1)
theorem both_and (S : PS) (set w : Nat) : (bothS S w &&& set = 0) ↔ atS S set w = false := by
  unfold bothS atS
  rw [two_and]
  simp
theorem inR_lt {S : PS} (hi : IV S) {set : Nat} (h : set < 2 ^ 10) : ∀ n, n ≤ ct S → inR S set n < 2 ^ 10
  | 0, _ => h
  | n + 1, hn => by
    have ih := inR_lt hi h n (by omega)
    unfold inR stepR
    split
    · exact Nat.or_lt_two_pow ih (both_lt (hi.2.2.2.2.2.2.2.2 n (by omega)))
    · exact ih
theorem outR_lt {S : PS} (hi : IV S) {set : Nat} (h : set < 2 ^ 10) : ∀ n, outR S set n < 2 ^ 10
  | 0 => h
  | n + 1 => inR_lt hi (outR_lt hi h n) _ (Nat.le_refl _)
theorem reachS_lt {S : PS} (hi : IV S) {room : Nat} (h : room ≤ 9) : reachS S room < 2 ^ 10 := outR_lt hi (pow_10 h) 10
theorem roomsOf_ok {f p w : Nat} {mem : Mem} {S : PS} (h : RC mem p S) (hi : IV S) (hw : w < ct S) : dP_roomsOf f p (10 * p + w) mem = some (nI (bothS S w), mem) := by
  obtain ⟨-, -, -, h4⟩ := h
  have hv := hi.2.2.2.2.2.2.2.2 w hw
  unfold dP_roomsOf
  rw [h4 w hw 1 (by omega), h4 w hw 2 (by omega), nb_bit (by have := hv.2.1; omega), nb_bit (by have := hv.2.2.1; omega), nb_or]
  rfl
theorem leaks_in {f p : Nat} {mem : Mem} {S : PS} (h : RC mem p S) (hi : IV S) {set : Nat} (hs : set < 2 ^ 10) (K : Nat → Int32 → Int32 → Mem → Option (Int32 × Mem)) (r : Int32) : ∀ (d i n : Nat), i + d = ct S → d < n →
    dP_leaks_15 f K n p (nI (inR S set i)) r (nI i) mem = K p (nI (inR S set (ct S))) (r + 1) mem := by
  have hct : ct S ≤ 10 := hi.2.2.2.2.2.2.2.1
  have h3 := h.2.2.1
  have h4 := h.2.2.2
  intro d
  induction d with
  | zero =>
    intro i n e hn
    obtain ⟨n, rfl⟩ : ∃ k, n = k + 1 := ⟨n - 1, by omega⟩
    have e' : i = ct S := by omega
    subst e'
    rw [dP_leaks_15, h3, if_neg (by rw [nb_lt (by omega) (by omega)]; omega)]
  | succ d ih =>
    intro i n e hn
    obtain ⟨n, rfl⟩ : ∃ k, n = k + 1 := ⟨n - 1, by omega⟩
    have hv := hi.2.2.2.2.2.2.2.2 i (by omega)
    have hb := both_lt hv
    have hl := inR_lt hi hs i (by omega)
    have ih' := ih (i + 1) n (by omega) (by omega)
    rw [dP_leaks_15, h3, if_pos (by rw [nb_lt (by omega) (by omega)]; omega), ck_in _ (by omega) (by omega), nI_clamp (by omega), roomsOf_ok h hi (by omega), bd_ok, ck_in _ (by omega) (by omega), h4 i (by omega) 0 (by omega), nb_and, nb_or, add1]
    have k3 : nI (wa S i 0) = 3 ↔ wa S i 0 = 3 := nb_inj (b := 3) (by have := hv.1; omega) (by omega)
    have hlt : bothS S i &&& inR S set i < 2 ^ 31 := Nat.lt_of_le_of_lt Nat.and_le_left (by omega)
    have k0 : nI (bothS S i &&& inR S set i) = 0 ↔ atS S (inR S set i) i = false := by rw [nb_zero hlt, both_and]
    rw [inR, stepR] at ih'
    by_cases c1 : wa S i 0 = 3
    · rw [if_pos (k3.mpr c1)]
      cases c2 : atS S (inR S set i) i with
      | false =>
        rw [if_pos (k0.mpr c2)]
        rw [if_neg (by rw [c2]; simp)] at ih'
        exact ih'
      | true =>
        rw [if_neg (fun z => by rw [k0.mp z] at c2; cases c2)]
        rw [if_pos ⟨c1, c2⟩] at ih'
        exact ih'
    · rw [if_neg (fun z => c1 (k3.mp z))]
      rw [if_neg (fun z => c1 z.1)] at ih'
      exact ih'
theorem leaks_out {f p : Nat} {mem : Mem} {S : PS} (hf : 2000 ≤ f) (h : RC mem p S) (hi : IV S) {set : Nat} (hs : set < 2 ^ 10) : ∀ (d i n : Nat), i + d = 10 → d < n →
    dP_leaks_6 f n p (nI (outR S set i)) (nI i) mem = some (nI (outR S set 10), mem) := by
  intro d
  have hct : ct S ≤ 10 := hi.2.2.2.2.2.2.2.1
  induction d with
  | zero =>
    intro i n e hn
    obtain ⟨n, rfl⟩ : ∃ k, n = k + 1 := ⟨n - 1, by omega⟩
    have e' : i = 10 := by omega
    subst e'
    rw [dP_leaks_6, if_neg (by decide)]
  | succ d ih =>
    intro i n e hn
    obtain ⟨n, rfl⟩ : ∃ k, n = k + 1 := ⟨n - 1, by omega⟩
    have c : nI i < 10 := by
      have := (nb_lt (a := i) (b := 10) (by omega) (by omega)).mpr (by omega)
      exact this
    rw [dP_leaks_6, if_pos c]
    have := leaks_in (f := f) h hi (outR_lt hi hs i) (fun q0_ x2_ x3_ mem_ => dP_leaks_6 f n q0_ x2_ x3_ mem_) (nI i) (ct S) 0 f (by omega) (by omega)
    rw [inR, add1] at this
    exact this.trans (ih (i + 1) n (by omega) (by omega))
theorem leaks_ok {f p room : Nat} {mem : Mem} {S : PS} (hf : 2000 ≤ f) (h : RC mem p S) (hi : IV S) (hr : room ≤ 9) : dP_leaks f p (nI room) mem = some (nI (reachS S room), mem) := by
  unfold dP_leaks
  rw [nb_bit (by omega)]
  exact leaks_out hf h hi (pow_10 hr) 10 0 f (by omega) (by omega)
/-- the walls that a word said in a room comes to -/
def nearS (S : PS) (room : Nat) : Nat := setB (fun w => atS S (reachS S room) w) (ct S)
theorem nearS_lt {S : PS} (hi : IV S) (room : Nat) : nearS S room < 1024 := by
  have h1 := setB_lt (fun w => atS S (reachS S room) w) (ct S)
  have hct : ct S ≤ 10 := hi.2.2.2.2.2.2.2.1
  have h2 : 2 ^ ct S ≤ 2 ^ 10 := Nat.pow_le_pow_right (by decide) hct
  unfold nearS
  omega
theorem near_lp {f p : Nat} {mem : Mem} {S : PS} (h : RC mem p S) (hi : IV S) {set : Nat} (hs : set < 2 ^ 10) : ∀ (d i n : Nat), i + d = ct S → d < n →
    dP_near_11 f n p (nI set) (nI (setB (fun w => atS S set w) i)) (nI i) mem = some (nI (setB (fun w => atS S set w) (ct S)), mem) := by
  have hct : ct S ≤ 10 := hi.2.2.2.2.2.2.2.1
  have h3 := h.2.2.1
  intro d
  induction d with
  | zero =>
    intro i n e hn
    obtain ⟨n, rfl⟩ : ∃ k, n = k + 1 := ⟨n - 1, by omega⟩
    have e' : i = ct S := by omega
    subst e'
    rw [dP_near_11, h3, if_neg (by rw [nb_lt (by omega) (by omega)]; omega)]
  | succ d ih =>
    intro i n e hn
    obtain ⟨n, rfl⟩ : ∃ k, n = k + 1 := ⟨n - 1, by omega⟩
    have hv := hi.2.2.2.2.2.2.2.2 i (by omega)
    have hb := both_lt hv
    have ih' := ih (i + 1) n (by omega) (by omega)
    rw [setB] at ih'
    rw [dP_near_11, h3, if_pos (by rw [nb_lt (by omega) (by omega)]; omega), ck_in _ (by omega) (by omega), nI_clamp (by omega), roomsOf_ok h hi (by omega), bd_ok, nb_and, add1, nb_bit (by omega), nb_or]
    have hlt : bothS S i &&& set < 2 ^ 31 := Nat.lt_of_le_of_lt Nat.and_le_left (by omega)
    have k0 : nI (bothS S i &&& set) = 0 ↔ atS S set i = false := by rw [nb_zero hlt, both_and]
    cases c2 : atS S set i with
    | false =>
      rw [if_pos (k0.mpr c2)]
      rw [c2] at ih'
      simpa using ih'
    | true =>
      rw [if_neg (fun z => by rw [k0.mp z] at c2; cases c2)]
      rw [c2] at ih'
      simpa using ih'
theorem near_ok {f p room : Nat} {mem : Mem} {S : PS} (hf : 2000 ≤ f) (h : RC mem p S) (hi : IV S) (hr : room ≤ 9) : dP_near f p (nI room) mem = some (nI (nearS S room), mem) := by
  have hct : ct S ≤ 10 := hi.2.2.2.2.2.2.2.1
  unfold dP_near
  rw [leaks_ok hf h hi hr, bd_ok]
  exact near_lp h hi (reachS_lt hi hr) (ct S) 0 f (by omega) (by omega)
