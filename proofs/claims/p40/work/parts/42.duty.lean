/-! Duty, reach, near: the class's side. -/
theorem add1 (a : Nat) : nI a + 1 = nI (a + 1) := nb_add a 1
theorem add0 (a : Nat) : nI a + 0 = nI a := nb_add a 0
theorem quarter_ok {f t b : Nat} {mem : Mem} (h1 : 1 ≤ b) (h2 : b ≤ 60) (ht : t < 2 ^ 30) : dW_quarterOf f (nI t) (nI b) mem = some (nI (t / b % 4), mem) := by
  unfold dW_quarterOf
  have h3 : t / b < 2 ^ 31 := Nat.lt_of_le_of_lt (Nat.div_le_self _ _) (by omega)
  have h4 : ¬ b < 1 := by omega
  have h5 : ¬ b = 0 := by omega
  simp (disch := omega) only [nb_lit, nb_lt, nb_le, nb_inj, nb_add, nb_mul, nb_sub, nb_div, nb_mod, nb_and, nb_or, nb_xor, nb_shl2, nb_shr2, nI_clamp, if_neg h4, if_neg h5]
  rfl
theorem rest_ok {f t b : Nat} {mem : Mem} (h1 : 1 ≤ b) (h2 : b ≤ 60) (ht : t < 2 ^ 30) : dW_restOf f (nI t) (nI b) mem = some (nI (t % b), mem) := by
  unfold dW_restOf
  have h4 : ¬ b < 1 := by omega
  have h5 : ¬ b = 0 := by omega
  simp (disch := omega) only [nb_lit, nb_lt, nb_le, nb_inj, nb_add, nb_mul, nb_sub, nb_div, nb_mod, nb_and, nb_or, nb_xor, nb_shl2, nb_shr2, nI_clamp, if_neg h4, if_neg h5]
theorem onDuty_lp {f p : Nat} {mem : Mem} {S : PS} (h : RC mem p S) (hi : IV S) {q rest : Nat} (hq : q < 2 ^ 31) (hr : rest < 2 ^ 31) : ∀ (d i n : Nat), i + d = ct S → d < n →
    dP_onDuty_19 f n p (nI q) (nI rest) (nI (setB (fun w => lisF S (wa S w 0) (wa S w 3) q rest) i)) (nI i) mem = some (nI (setB (fun w => lisF S (wa S w 0) (wa S w 3) q rest) (ct S)), mem) := by
  have h' := h
  obtain ⟨-, -, h3, h4⟩ := h'
  have hct : ct S ≤ 10 := hi.2.2.2.2.2.2.2.1
  intro d
  induction d with
  | zero =>
    intro i n e hn
    obtain ⟨n, rfl⟩ : ∃ k, n = k + 1 := ⟨n - 1, by omega⟩
    have e' : i = ct S := by omega
    subst e'
    rw [dP_onDuty_19, h3, if_neg (by rw [nb_lt (by omega) (by omega)]; omega)]
  | succ d ih =>
    intro i n e hn
    obtain ⟨n, rfl⟩ : ∃ k, n = k + 1 := ⟨n - 1, by omega⟩
    have hw := hi.2.2.2.2.2.2.2.2 i (by omega)
    rw [dP_onDuty_19, h3, if_pos (by rw [nb_lt (by omega) (by omega)]; omega), ck_in _ (by omega) (by omega), ck_in _ (by omega) (by omega), nI_clamp (by omega), h4 i (by omega) 0 (by omega), h4 i (by omega) 3 (by omega),
      listens_ok h hi hw.1 hw.2.2.2.1 hq hr, bd_ok, add1, nb_bit (by omega), nb_or]
    have ih' := ih (i + 1) n (by omega) (by omega)
    rw [setB] at ih'
    cases hb : lisF S (wa S i 0) (wa S i 3) q rest with
    | false =>
      rw [hb] at ih'
      rw [if_pos (by rfl)]
      simpa using ih'
    | true =>
      rw [hb] at ih'
      rw [if_neg (by decide)]
      simpa using ih'
def dutyS (S : PS) (b t : Nat) : Nat := setB (fun w => onF S b w t) (ct S)
theorem dutyS_lt {S : PS} (hi : IV S) (b t : Nat) : dutyS S b t < 1024 := by
  have h1 := setB_lt (fun w => onF S b w t) (ct S)
  have hct : ct S ≤ 10 := hi.2.2.2.2.2.2.2.1
  have h2 : 2 ^ ct S ≤ 2 ^ 10 := Nat.pow_le_pow_right (by decide) hct
  unfold dutyS
  omega
theorem onDuty_ok {f p : Nat} {mem : Mem} {S : PS} (hf : 2000 ≤ f) (h : RC mem p S) (hi : IV S) {b t : Nat} (h1 : 1 ≤ b) (h2 : b ≤ 60) (ht : t < 2 ^ 30) :
    dP_onDuty f p (nI t) (nI b) mem = some (nI (dutyS S b t), mem) := by
  have hct : ct S ≤ 10 := hi.2.2.2.2.2.2.2.1
  have h3 : t % b < b := Nat.mod_lt _ (by omega)
  unfold dP_onDuty
  rw [quarter_ok h1 h2 ht, bd_ok, rest_ok h1 h2 ht, bd_ok]
  exact onDuty_lp h hi (by omega) (by omega) (ct S) 0 f (by omega) (by omega)
theorem dutyOf_ok {f p : Nat} {mem : Mem} {S : PS} (hf : 2000 ≤ f) (h : RC mem p S) (hi : IV S) {w t : Nat} (hw : w < ct S) (ht : t < 2 ^ 30) :
    dP_dutyOf f p (nI w) (nI t) mem = some (nI (b2 (onF S (ro S 0) w t)), mem) := by
  have hct : ct S ≤ 10 := hi.2.2.2.2.2.2.2.1
  unfold dP_dutyOf
  have hd := dutyS_lt hi (ro S 0) t
  rw [h.2.1 0 (by omega), onDuty_ok hf h hi hi.2.1 hi.2.2.1 ht, bd_ok, nb_has (by omega) (by omega)]
  have e : (dutyS S (ro S 0) t).testBit w = onF S (ro S 0) w t := by
    unfold dutyS
    rw [setB_bit]
    simp [hw]
  rw [e]
  cases onF S (ro S 0) w t <;> rfl
/-- a minute in which nobody of a set is on duty -/
def muteS (S : PS) (near b t : Nat) : Bool := decide (dutyS S b t &&& near = 0)
theorem silent_lp {f p : Nat} {mem : Mem} {S : PS} (hf : 2000 ≤ f) (h : RC mem p S) (hi : IV S) {near N b : Nat} (hn : near < 1024) (hN : N ≤ 240) (h1 : 1 ≤ b) (h2 : b ≤ 60) : ∀ (d i n : Nat), i + d = N → d < n →
    dP_silentMinutes_6 f n p (nI near) (nI N) (nI b) (nI (cntB (fun k => muteS S near b (mi S + k)) i)) (nI i) mem = some (nI (cntB (fun k => muteS S near b (mi S + k)) N), mem) := by
  have hm : mi S ≤ 200000 := hi.1
  intro d
  induction d with
  | zero =>
    intro i n e hn
    obtain ⟨n, rfl⟩ : ∃ k, n = k + 1 := ⟨n - 1, by omega⟩
    have e' : i = N := by omega
    subst e'
    rw [dP_silentMinutes_6, if_neg (by rw [nb_lt (by omega) (by omega)]; omega)]
  | succ d ih =>
    intro i n e hn
    obtain ⟨n, rfl⟩ : ∃ k, n = k + 1 := ⟨n - 1, by omega⟩
    have hd := dutyS_lt hi b (mi S + i)
    rw [dP_silentMinutes_6, if_pos (by rw [nb_lt (by omega) (by omega)]; omega), h.1, nb_add, onDuty_ok hf h hi h1 h2 (by omega), bd_ok, nb_and, add1, add1, add0]
    have ih' := ih (i + 1) n (by omega) (by omega)
    rw [cntB] at ih'
    have hlt : dutyS S b (mi S + i) &&& near < 2 ^ 31 := Nat.lt_of_le_of_lt Nat.and_le_left (by omega)
    cases hb : muteS S near b (mi S + i) with
    | false =>
      rw [hb] at ih'
      have hz : ¬ dutyS S b (mi S + i) &&& near = 0 := of_decide_eq_false hb
      rw [if_neg (by rw [nb_zero hlt]; exact hz)]
      simpa using ih'
    | true =>
      rw [hb] at ih'
      have hz : dutyS S b (mi S + i) &&& near = 0 := of_decide_eq_true hb
      rw [if_pos (by rw [nb_zero hlt]; exact hz)]
      simpa using ih'
theorem silent_ok {f p : Nat} {mem : Mem} {S : PS} (hf : 2000 ≤ f) (h : RC mem p S) (hi : IV S) {near N b : Nat} (hn : near < 1024) (hN : N ≤ 240) (h1 : 1 ≤ b) (h2 : b ≤ 60) :
    dP_silentMinutes f p (nI near) (nI N) (nI b) mem = some (nI (cntB (fun k => muteS S near b (mi S + k)) N), mem) :=
  silent_lp hf h hi hn hN h1 h2 N 0 f (by omega) (by omega)
