/-! The law's helpers: mod, at, ones, duty, tires, reach, minute, over its row s (kind 13). -/
theorem mod_ok {f m : Nat} {mem : Mem} (v : Int32) (h1 : 1 ≤ m) (h2 : m ≤ 65536) : ∃ k, k < m ∧ dL_mod f v (nI m) mem = some (nI k, mem) := by
  have hm : (nI m).toInt = (m : Int) := nI_toInt (by omega)
  have ht : (v % nI m).toInt = v.toInt.tmod (m : Int) := by rw [Int32.toInt_mod, hm]
  have b1 : v.toInt.tmod (m : Int) < (m : Int) := Int.tmod_lt_of_pos _ (by omega)
  have b2 : -(m : Int) < v.toInt.tmod (m : Int) := by
    have := Int.lt_tmod_of_pos v.toInt (b := (m : Int)) (by omega)
    omega
  unfold dL_mod
  rw [if_neg (by rw [nb_zero (by omega)]; omega)]
  by_cases c : v % nI m < 0
  · rw [if_pos c]
    have c' : (v % nI m).toInt < 0 := by simpa using Int32.lt_iff_toInt_lt.mp c
    refine ⟨(v.toInt.tmod (m : Int) + m).toNat, by omega, ?_⟩
    congr 1
    congr 1
    apply Int32.toInt_inj.mp
    rw [nI_toInt (by omega), Int32.toInt_add, hm, ht, Int.bmod_eq_of_le (by omega) (by omega)]
    omega
  · rw [if_neg c]
    have c' : ¬ (v % nI m).toInt < 0 := fun z => c (Int32.lt_iff_toInt_lt.mpr (by simpa using z))
    refine ⟨(v.toInt.tmod (m : Int)).toNat, by omega, ?_⟩
    congr 1
    congr 1
    apply Int32.toInt_inj.mp
    rw [nI_toInt (by omega), ht]
    omega
theorem at_ok {LL f k : Nat} {xs : Nat → Int32} {mem : Mem} (hL : LL ≤ 260) (hk : k < 1000) : ∃ v, dL_at LL xs f (nI k) mem = some (v, mem) := by
  unfold dL_at
  have kk : nI k < Int32.ofNat LL ↔ k < LL := nb_lt (b := LL) (by omega) (by omega)
  by_cases c : k < LL
  · rw [if_pos (kk.mpr c), ck_in _ c (by omega)]
    exact ⟨_, rfl⟩
  · rw [if_neg (fun z => c (kk.mp z))]
    exact ⟨_, rfl⟩
theorem and_ok (x : Int32) (n : Nat) (hn : n < 2 ^ 31) : ∃ k, k ≤ n ∧ x &&& nI n = nI k := by
  refine ⟨(x.toBitVec &&& BitVec.ofNat 32 n).toNat, ?_, ?_⟩
  · rw [BitVec.toNat_and, BitVec.toNat_ofNat, Nat.mod_eq_of_lt (by omega)]
    exact Nat.and_le_right
  · apply Int32.toBitVec_inj.mp
    show x.toBitVec &&& BitVec.ofNat 32 n = BitVec.ofNat 32 _
    apply BitVec.eq_of_toNat_eq
    rw [BitVec.toNat_ofNat, Nat.mod_eq_of_lt (BitVec.isLt _)]
theorem ones_lp {f a : Nat} {mem : Mem} (ha : a < 65536) (hf : 2000 ≤ f) : dL_ones f (nI a) mem = some (nI (bcN a), mem) := by
  rw [bc_cnt 16 a (by omega) (by omega)]
  unfold dL_ones
  refine lp (fun n (x : Int32 × Int32) => dL_ones_4 f n (nI a) x.1 x.2 mem) (fun i => (nI (cntB (fun j => a.testBit j) i), nI i)) (c := 16) (fun n => ?_) (fun n i hc => ?_) 16 0 f (by omega) (by omega)
  · show dL_ones_4 f (n + 1) _ _ _ mem = _
    rw [dL_ones_4, if_neg (show ¬ nI 16 < (16 : Int32) by decide)]
  · show dL_ones_4 f (n + 1) _ _ _ mem = dL_ones_4 f n _ _ _ mem
    rw [dL_ones_4, if_pos (show nI i < (16 : Int32) from lt_n (c := 16) hc (by omega)), nb_has (by omega) (by omega), nb_add, add1]
    rfl
theorem a6 (w : Nat) : (6 : Int32) + (6 : Int32) * nI w = nI (6 + 6 * w) := by
  have e1 : (6 : Int32) * nI w = nI (6 * w) := nb_mul 6 w
  rw [e1]; exact nb_add 6 _
theorem a7 (w : Nat) : (7 : Int32) + (6 : Int32) * nI w = nI (7 + 6 * w) := by
  have e1 : (6 : Int32) * nI w = nI (6 * w) := nb_mul 6 w
  rw [e1]; exact nb_add 7 _
theorem a8 (w : Nat) : (8 : Int32) + (6 : Int32) * nI w = nI (8 + 6 * w) := by
  have e1 : (6 : Int32) * nI w = nI (6 * w) := nb_mul 6 w
  rw [e1]; exact nb_add 8 _
theorem a9 (w : Nat) : (9 : Int32) + (6 : Int32) * nI w = nI (9 + 6 * w) := by
  have e1 : (6 : Int32) * nI w = nI (6 * w) := nb_mul 6 w
  rw [e1]; exact nb_add 9 _
theorem a10 (w : Nat) : (10 : Int32) + (6 : Int32) * nI w = nI (10 + 6 * w) := by
  have e1 : (6 : Int32) * nI w = nI (6 * w) := nb_mul 6 w
  rw [e1]; exact nb_add 10 _
theorem a11 (w : Nat) : (11 : Int32) + (6 : Int32) * nI w = nI (11 + 6 * w) := by
  have e1 : (6 : Int32) * nI w = nI (6 * w) := nb_mul 6 w
  rw [e1]; exact nb_add 11 _
theorem r_6 {mem : Mem} {S : PS} (h : RM mem S) {w : Nat} (hw : w < ct S) : gI mem 13 0 (6 + 6 * w) = nI (wa S w 0) := h.2.2.2 w hw 0 (by omega)
theorem r_7 {mem : Mem} {S : PS} (h : RM mem S) {w : Nat} (hw : w < ct S) : gI mem 13 0 (7 + 6 * w) = nI (wa S w 1) := by
  rw [show 7 + 6 * w = 6 + 6 * w + 1 by omega]; exact h.2.2.2 w hw 1 (by omega)
theorem r_8 {mem : Mem} {S : PS} (h : RM mem S) {w : Nat} (hw : w < ct S) : gI mem 13 0 (8 + 6 * w) = nI (wa S w 2) := by
  rw [show 8 + 6 * w = 6 + 6 * w + 2 by omega]; exact h.2.2.2 w hw 2 (by omega)
theorem r_9 {mem : Mem} {S : PS} (h : RM mem S) {w : Nat} (hw : w < ct S) : gI mem 13 0 (9 + 6 * w) = nI (wa S w 3) := by
  rw [show 9 + 6 * w = 6 + 6 * w + 3 by omega]; exact h.2.2.2 w hw 3 (by omega)
theorem r_10 {mem : Mem} {S : PS} (h : RM mem S) {w : Nat} (hw : w < ct S) : gI mem 13 0 (10 + 6 * w) = nI (wa S w 4) := by
  rw [show 10 + 6 * w = 6 + 6 * w + 4 by omega]; exact h.2.2.2 w hw 4 (by omega)
theorem r_11 {mem : Mem} {S : PS} (h : RM mem S) {w : Nat} (hw : w < ct S) : gI mem 13 0 (11 + 6 * w) = nI (wa S w 5) := by
  rw [show 11 + 6 * w = 6 + 6 * w + 5 by omega]; exact h.2.2.2 w hw 5 (by omega)
theorem tiresL_ok {f w : Nat} {mem : Mem} {S : PS} (h : RM mem S) (hi : IV S) (hw : w < ct S) : dL_tires f (nI w) mem = some (nI (tirN (wa S w 0)), mem) := by
  have hct : ct S ≤ 10 := hi.2.2.2.2.2.2.2.1
  obtain ⟨v0, v1, v2, v3, v4, v5⟩ := hi.2.2.2.2.2.2.2.2 w hw
  unfold dL_tires
  rw [a6, ck_in _ (by omega) (by omega), nI_clamp (by omega), r_6 h hw]
  have hkk : wa S w 0 = 0 ∨ wa S w 0 = 1 ∨ wa S w 0 = 2 ∨ wa S w 0 = 3 ∨ wa S w 0 = 4 ∨ wa S w 0 = 5 := by omega
  rcases hkk with e | e | e | e | e | e <;> rw [e] <;> rfl
theorem dutyL_82 {f kind side q : Nat} {mem : Mem} (hk : kind ≤ 5) (hs : side ≤ 3) (hq : q < 2 ^ 31) : dL_duty_82 f (nI kind) (nI side) (nI q) mem = some (nI (b2 (decide (q = side) || (decide (kind = 5) && decide (q = (side + 1) % 4)))), mem) := by
  have e4 : (nI side + 1) % 4 = nI ((side + 1) % 4) := by
    rw [add1]
    exact nb_mod (b := 4) (by omega) (by omega)
  have k1 : nI q = nI side ↔ q = side := nb_inj hq (by omega)
  have k5 : nI kind = 5 ↔ kind = 5 := nb_inj (b := 5) (by omega) (by omega)
  have k2 : nI q = nI ((side + 1) % 4) ↔ q = (side + 1) % 4 := nb_inj hq (by omega)
  unfold dL_duty_82
  rw [e4]
  simp only [k1, k5, k2, if_neg (show ¬ (4 : Int32) = 0 by decide)]
  by_cases c1 : q = side
  · simp [c1, b2]; rfl
  · by_cases c5 : kind = 5
    · by_cases c2 : q = (side + 1) % 4
      · rw [if_neg c1, if_pos c5, if_pos c2, decide_eq_false c1, decide_eq_true c5, decide_eq_true c2]
        rfl
      · rw [if_neg c1, if_pos c5, if_neg c2, decide_eq_false c1, decide_eq_true c5, decide_eq_false c2]
        rfl
    · rw [if_neg c1, if_neg c5, decide_eq_false c1, decide_eq_false c5]
      rfl
theorem dutyL_60 {f kind side rest q : Nat} {mem : Mem} {S : PS} (h : RM mem S) (hi : IV S) (hk : kind ≤ 5) (hs : side ≤ 3) (hq : q < 2 ^ 31) (hr : rest < 2 ^ 31) : dL_duty_60 f (nI kind) (nI side) (nI rest) (nI q) mem =
    some (nI (b2 (decide (ro S 1 ≤ rest) && (!(decide (kind = 1) && decide (ro S 2 = 3)) && (decide (q = side) || (decide (kind = 5) && decide (q = (side + 1) % 4)))))), mem) := by
  obtain ⟨i1, i2, i3, i4, i5, i6, i7, i8, i9⟩ := hi
  have e1 : gI mem 13 0 2 = nI (ro S 1) := h.2.1 1 (by omega)
  have e2 : gI mem 13 0 3 = nI (ro S 2) := h.2.1 2 (by omega)
  have k1 : nI rest < nI (ro S 1) ↔ rest < ro S 1 := nb_lt hr (by omega)
  have k2 : nI kind = 1 ↔ kind = 1 := nb_inj (b := 1) (by omega) (by omega)
  have k3 : nI (ro S 2) = 3 ↔ ro S 2 = 3 := nb_inj (b := 3) (by omega) (by omega)
  unfold dL_duty_60
  rw [e1, e2, dutyL_82 hk hs hq]
  by_cases c1 : rest < ro S 1
  · rw [if_pos (k1.mpr c1), decide_eq_false (by omega)]
    rfl
  · have d1 : decide (ro S 1 ≤ rest) = true := decide_eq_true (by omega)
    rw [if_neg (fun z => c1 (k1.mp z)), d1, Bool.true_and]
    by_cases c2 : kind = 1
    · by_cases c3 : ro S 2 = 3
      · rw [if_pos (k2.mpr c2), if_pos (k3.mpr c3), decide_eq_true c2, decide_eq_true c3]
        rfl
      · rw [if_pos (k2.mpr c2), if_neg (fun z => c3 (k3.mp z)), decide_eq_false c3, Bool.and_false, Bool.not_false, Bool.true_and]
    · rw [if_neg (fun z => c2 (k2.mp z)), decide_eq_false c2, Bool.false_and, Bool.not_false, Bool.true_and]
theorem dutyL_ok {f w t : Nat} {mem : Mem} {S : PS} (h : RM mem S) (hi : IV S) (hw : w < ct S) (ht : t < 2 ^ 30) : dL_duty f (nI w) (nI t) mem = some (nI (b2 (onF S (ro S 0) w t)), mem) := by
  have hct : ct S ≤ 10 := hi.2.2.2.2.2.2.2.1
  have hv := hi.2.2.2.2.2.2.2.2 w hw
  obtain ⟨v0, v1, v2, v3, v4, v5⟩ := hv
  have i2 := hi.2.1
  have i3 := hi.2.2.1
  have i5 := hi.2.2.2.2.1
  have e0 : gI mem 13 0 1 = nI (ro S 0) := h.2.1 0 (by omega)
  have e2 : gI mem 13 0 3 = nI (ro S 2) := h.2.1 2 (by omega)
  have hd : t / ro S 0 < 2 ^ 31 := Nat.lt_of_le_of_lt (Nat.div_le_self _ _) (by omega)
  have hm : t % ro S 0 < ro S 0 := Nat.mod_lt _ (by omega)
  have q1 : nI t / nI (ro S 0) % 4 = nI (t / ro S 0 % 4) := by
    rw [nb_div (by omega) (by omega)]
    exact nb_mod (b := 4) hd (by omega)
  have q2 : nI t % nI (ro S 0) = nI (t % ro S 0) := nb_mod (by omega) (by omega)
  have k4 : nI (wa S w 0) = 4 ↔ wa S w 0 = 4 := nb_inj (b := 4) (by omega) (by omega)
  have k3 : nI (ro S 2) = 3 ↔ ro S 2 = 3 := nb_inj (b := 3) (by omega) (by omega)
  have k0 : nI (t % ro S 0) = 0 ↔ t % ro S 0 = 0 := nb_zero (by omega)
  have z0 : ¬ nI (ro S 0) = 0 := by rw [nb_zero (by omega)]; omega
  unfold dL_duty
  rw [a6, a9, ck_in _ (by omega) (by omega), ck_in _ (by omega) (by omega), nI_clamp (by omega), nI_clamp (by omega), e0, if_neg z0, if_neg z0, if_neg (by decide), r_6 h hw, r_9 h hw, e2, q1, q2, dutyL_60 h hi v0 v3 (by omega) (by omega)]
  unfold onF lisF
  by_cases c4 : wa S w 0 = 4
  · rw [if_pos (k4.mpr c4)]
    by_cases c3 : ro S 2 = 3
    · rw [if_pos (k3.mpr c3)]
      by_cases c0 : t % ro S 0 = 0
      · rw [if_pos (k0.mpr c0)]
        simp [c4, c3, c0, b2]; rfl
      · rw [if_neg (fun z => c0 (k0.mp z))]
        simp [c4, c3, c0, b2]; rfl
    · rw [if_neg (fun z => c3 (k3.mp z))]
      congr 3
      simp [c4, c3, Bool.and_comm]
  · rw [if_neg (fun z => c4 (k4.mp z))]
    congr 3
    by_cases c1 : wa S w 0 = 1
    · by_cases c3 : ro S 2 = 3
      · simp [c1, c3]
      · simp [c1, c3, Bool.and_comm]
    · by_cases c5 : wa S w 0 = 5
      · simp [c5]
        rw [← Bool.and_or_distrib_right, Bool.and_comm]
      · simp [c1, c4, c5, Bool.and_comm]
theorem reachL_in {f : Nat} {mem : Mem} {S : PS} (h : RM mem S) (hi : IV S) {set : Nat} (hs : set < 2 ^ 10) (K : Int32 → Int32 → Mem → Option (Int32 × Mem)) (r : Int32) : ∀ (d i n : Nat), i + d = ct S → d < n →
    dL_reach_15 f K n (nI (inR S set i)) r (nI i) mem = K (nI (inR S set (ct S))) (r + 1) mem := by
  have hct : ct S ≤ 10 := hi.2.2.2.2.2.2.2.1
  have h3 : gI mem 13 0 5 = nI (ct S) := h.2.2.1
  intro d
  induction d with
  | zero =>
    intro i n e hn
    obtain ⟨n, rfl⟩ : ∃ k, n = k + 1 := ⟨n - 1, by omega⟩
    have e' : i = ct S := by omega
    subst e'
    rw [dL_reach_15, h3, if_neg (nlt_n (by omega))]
  | succ d ih =>
    intro i n e hn
    obtain ⟨n, rfl⟩ : ∃ k, n = k + 1 := ⟨n - 1, by omega⟩
    have hw : i < ct S := by omega
    have hv := hi.2.2.2.2.2.2.2.2 i hw
    have hb := both_lt hv
    have hl := inR_lt hi hs i (by omega)
    have ih' := ih (i + 1) n (by omega) (by omega)
    have e12 : nI (2 ^ wa S i 1) ||| nI (2 ^ wa S i 2) = nI (bothS S i) := nb_or _ _
    rw [dL_reach_15, h3, if_pos (lt_n hw (by omega)), a7, a8, a6, ck_in _ (by omega) (by omega), ck_in _ (by omega) (by omega), ck_in _ (by omega) (by omega), nI_clamp (by omega), nI_clamp (by omega), nI_clamp (by omega), r_6 h hw, r_7 h hw, r_8 h hw, nb_bit (by have := hv.2.1; omega), nb_bit (by have := hv.2.2.1; omega), e12, nb_and, nb_or, add1]
    have k3 : nI (wa S i 0) = 3 ↔ wa S i 0 = 3 := nb_inj (b := 3) (by have := hv.1; omega) (by omega)
    have hlt : bothS S i &&& inR S set i < 2 ^ 31 := Nat.lt_of_le_of_lt Nat.and_le_left (by omega)
    have k0 : nI (bothS S i &&& inR S set i) = 0 ↔ atS S (inR S set i) i = false := by rw [nb_zero hlt, both_and]
    rw [inR, stepR] at ih'
    by_cases c1 : wa S i 0 = 3
    · rw [if_pos (k3.mpr c1)]
      cases c2 : atS S (inR S set i) i with
      | false =>
        rw [if_pos (k0.mpr c2)]
        rw [if_neg (by rw [c2]; simp)] at ih'
        exact ih'
      | true =>
        rw [if_neg (fun z => by rw [k0.mp z] at c2; cases c2)]
        rw [if_pos ⟨c1, c2⟩] at ih'
        exact ih'
    · rw [if_neg (fun z => c1 (k3.mp z))]
      rw [if_neg (fun z => c1 z.1)] at ih'
      exact ih'
theorem reachL_out {f : Nat} {mem : Mem} {S : PS} (hf : 2000 ≤ f) (h : RM mem S) (hi : IV S) {set : Nat} (hs : set < 2 ^ 10) : ∀ (d i n : Nat), i + d = 10 → d < n →
    dL_reach_6 f n (nI (outR S set i)) (nI i) mem = some (nI (outR S set 10), mem) := by
  intro d
  have hct : ct S ≤ 10 := hi.2.2.2.2.2.2.2.1
  induction d with
  | zero =>
    intro i n e hn
    obtain ⟨n, rfl⟩ : ∃ k, n = k + 1 := ⟨n - 1, by omega⟩
    have e' : i = 10 := by omega
    subst e'
    rw [dL_reach_6, if_neg (by decide)]
  | succ d ih =>
    intro i n e hn
    obtain ⟨n, rfl⟩ : ∃ k, n = k + 1 := ⟨n - 1, by omega⟩
    rw [dL_reach_6, if_pos (show nI i < (10 : Int32) from lt_n (c := 10) (by omega) (by omega))]
    have := reachL_in (f := f) h hi (outR_lt hi hs i) (fun x2_ x3_ mem_ => dL_reach_6 f n x2_ x3_ mem_) (nI i) (ct S) 0 f (by omega) (by omega)
    rw [inR, add1] at this
    exact this.trans (ih (i + 1) n (by omega) (by omega))
theorem reachL_ok {f room : Nat} {mem : Mem} {S : PS} (hf : 2000 ≤ f) (h : RM mem S) (hi : IV S) (hr : room ≤ 9) : dL_reach f (nI room) mem = some (nI (reachS S room), mem) := by
  unfold dL_reach
  rw [nb_bit (by omega)]
  exact reachL_out hf h hi (pow_10 hr) 10 0 f (by omega) (by omega)
theorem RM_sleep {mem : Mem} {S : PS} {i : Nat} (h : RM mem (minP S i)) (hc : wa S i 3 = (mi S + 1) / ro S 0 % 4) : RM (sI mem 13 0 (11 + 6 * i) 0) (minP S (i + 1)) := by
  rw [minP_t hc, show 11 + 6 * i = 6 + 6 * i + 5 by omega]
  exact RM_put h (w := i) (k := 5) (by omega) 0
theorem minL_lp {f : Nat} {S : PS} (hi : IV S) (hm : mi S < 200000) : ∀ (d i n : Nat) (mem : Mem), i + d = ct S → d < n → RM mem (minP S i) →
    ∃ m', dL_minute_20 f n (nI i) mem = some ((), m') ∧ RM m' (minP S (ct S)) ∧ Fz (rowZ 13) mem m' := by
  have hct : ct S ≤ 10 := hi.2.2.2.2.2.2.2.1
  have i2 := hi.2.1
  have i3 := hi.2.2.1
  have hd : (mi S + 1) / ro S 0 < 2 ^ 31 := Nat.lt_of_le_of_lt (Nat.div_le_self _ _) (by omega)
  intro d
  induction d with
  | zero =>
    intro i n mem e hn h
    obtain ⟨n, rfl⟩ : ∃ k, n = k + 1 := ⟨n - 1, by omega⟩
    have e' : i = ct S := by omega
    subst e'
    have h3 : gI mem 13 0 5 = nI (ct S) := h.2.2.1
    rw [dL_minute_20, h3, if_neg (nlt_n (by omega))]
    exact ⟨mem, rfl, h, Fz_rfl _ _⟩
  | succ d ih =>
    intro i n mem e hn h
    obtain ⟨n, rfl⟩ : ∃ k, n = k + 1 := ⟨n - 1, by omega⟩
    have hw : i < ct S := by omega
    obtain ⟨v0, v1, v2, v3, v4, v5⟩ := hi.2.2.2.2.2.2.2.2 i hw
    have h3 : gI mem 13 0 5 = nI (ct S) := h.2.2.1
    have h0 : gI mem 13 0 0 = nI (mi S + 1) := h.1
    have h1 : gI mem 13 0 1 = nI (ro S 0) := h.2.1 0 (by omega)
    have g3 : gI mem 13 0 (9 + 6 * i) = nI (wa S i 3) := (r_9 h hw).trans (by rw [minP_self])
    have z0 : ¬ nI (ro S 0) = 0 := by rw [nb_zero (by omega)]; omega
    have q1 : nI (mi S + 1) / nI (ro S 0) % 4 = nI ((mi S + 1) / ro S 0 % 4) := by
      rw [nb_div (by omega) (by omega)]
      exact nb_mod (b := 4) hd (by omega)
    rw [dL_minute_20, h3, if_pos (lt_n hw (by omega)), a9, a11, ck_in _ (by omega) (by omega), h1, if_neg z0, if_neg (by decide), nI_clamp (by omega), g3, h0, q1, ck_in _ (by omega) (by omega), nI_clamp (by omega), add1]
    have cq : nI (wa S i 3) = nI ((mi S + 1) / ro S 0 % 4) ↔ wa S i 3 = (mi S + 1) / ro S 0 % 4 := nb_inj (by omega) (by omega)
    by_cases c : wa S i 3 = (mi S + 1) / ro S 0 % 4
    · rw [if_pos (cq.mpr c)]
      obtain ⟨m', r1, r2, r3⟩ := ih (i + 1) n _ (by omega) (by omega) (RM_sleep h c)
      exact ⟨m', r1, r2, Fz_tr (Fz_sI rfl) r3⟩
    · rw [if_neg (fun z => c (cq.mp z))]
      exact ih (i + 1) n mem (by omega) (by omega) (by rw [minP_f c]; exact h)
theorem minL_ok {f : Nat} {mem : Mem} {S : PS} (hf : 2000 ≤ f) (h : RM mem S) (hi : IV S) (hm : mi S < 200000) : ∃ m', dL_minute f mem = some ((), m') ∧ RM m' (minS S) ∧ Fz (rowZ 13) mem m' := by
  have hct : ct S ≤ 10 := hi.2.2.2.2.2.2.2.1
  have i2 := hi.2.1
  have i3 := hi.2.2.1
  have hmod : (mi S + 1) % ro S 0 < ro S 0 := Nat.mod_lt _ (by omega)
  have h0 : RM (sI mem 13 0 0 (nI (mi S + 1))) (minP S 0) := by
    obtain ⟨h1, h2, h3, h4⟩ := h
    refine ⟨?_, fun j hj => ?_, ?_, fun w hw k hk => ?_⟩
    · rw [gI_sI, if_pos ⟨rfl, rfl, rfl⟩]
      rfl
    · rw [gI_sI, if_neg (by omega)]
      exact h2 j hj
    · rw [gI_sI, if_neg (by omega)]
      exact h3
    · rw [gI_sI, if_neg (by omega), h4 w hw k hk]
      rw [minP_0]
  have e1 : gI mem 13 0 0 + 1 = nI (mi S + 1) := by rw [h.1, add1]
  have e2 : gI (sI mem 13 0 0 (nI (mi S + 1))) 13 0 0 = nI (mi S + 1) := h0.1
  have e3 : gI (sI mem 13 0 0 (nI (mi S + 1))) 13 0 1 = nI (ro S 0) := h0.2.1 0 (by omega)
  have em : nI (mi S + 1) % nI (ro S 0) = nI ((mi S + 1) % ro S 0) := nb_mod (by omega) (by omega)
  have z0 : ¬ nI (ro S 0) = 0 := by rw [nb_zero (by omega)]; omega
  have kp : (0 : Int32) < nI ((mi S + 1) % ro S 0) ↔ 0 < (mi S + 1) % ro S 0 := nb_lt (a := 0) (by omega) (by omega)
  unfold dL_minute minS
  rw [e1, e2, e3, if_neg z0, em]
  by_cases c : (mi S + 1) % ro S 0 = 0
  · rw [if_neg (fun z => by have := kp.mp z; omega), if_pos c]
    obtain ⟨m', r1, r2, r3⟩ := minL_lp (f := f) hi hm (ct S) 0 f _ (by omega) (by omega) h0
    exact ⟨m', r1, r2, Fz_tr (Fz_sI rfl) r3⟩
  · rw [if_pos (kp.mpr (by omega)), if_neg c]
    exact ⟨_, rfl, h0, Fz_sI rfl⟩
