/-! say, pass, speak, reach, duty, now, filed. -/
theorem lp {σ β : Type} (F : Nat → σ → β) (x : Nat → σ) {c : Nat} {R : β} (h0 : ∀ n, F (n + 1) (x c) = R) (h1 : ∀ n i, i < c → F (n + 1) (x i) = F n (x (i + 1))) : ∀ (d i n : Nat), i + d = c → d < n → F n (x i) = R
  | 0, i, n, e, hn => by
    obtain ⟨n, rfl⟩ : ∃ k, n = k + 1 := ⟨n - 1, by omega⟩
    have : i = c := by omega
    subst this
    exact h0 n
  | d + 1, i, n, e, hn => by
    obtain ⟨n, rfl⟩ : ∃ k, n = k + 1 := ⟨n - 1, by omega⟩
    rw [h1 n i (by omega)]
    exact lp F x h0 h1 d (i + 1) n (by omega) (by omega)
def smS (g : Nat → Nat) : Nat → Nat
  | 0 => 0
  | n + 1 => smS g n + g n
def orS (g : Nat → Nat) : Nat → Nat
  | 0 => 0
  | n + 1 => orS g n ||| g n
theorem lt_n {i c : Nat} (h : i < c) (hc : c < 2 ^ 31) : nI i < nI c := (nb_lt (by omega) hc).mpr h
theorem nlt_n {c : Nat} (hc : c < 2 ^ 31) : ¬ nI c < nI c := fun z => by
  have := (nb_lt hc hc).mp z
  omega
theorem ca_say {f : Nat} {mem : Mem} (hf : 2000 ≤ f) (hI : INV mem) (a1 a2 : Int32) : CA (dW_say f a1 a2) (dM_say f a1 a2) mem := by
  have hI' := hI
  obtain ⟨S, hC, hM, hi, hm, hR⟩ := hI'
  cases h1 : inb a1 0 9 with
  | false => exact find_B (f := f) hI (by unfold dW_say; rw [W_isRoom, bd_ok, h1, ifz_f]) (fun m fx => by unfold dM_say; rw [M_isRoom, bd_ok, h1, ifz_f])
  | true =>
  cases h2 : inb a2 0 15 with
  | false => exact find_B (f := f) hI (by unfold dW_say; rw [W_isRoom, bd_ok, h1, ifz_t, W_isWord, bd_ok, h2, ifz_f]) (fun m fx => by unfold dM_say; rw [M_isRoom, bd_ok, h1, ifz_t, M_isWord, bd_ok, h2, ifz_f])
  | true =>
    obtain ⟨r, -, hr, rfl⟩ := inb_t (a := 0) (n := 9) rfl (by omega) (by omega) h1
    obtain ⟨k, -, hk, rfl⟩ := inb_t (a := 0) (n := 15) rfl (by omega) (by omega) h2
    obtain ⟨m1, r1, r2, r3⟩ := utter_ok (f := f) (word := k) hf (by omega) hC hi (nearS_lt hi r) (by omega)
    obtain ⟨m2, s1, s2, s3⟩ := saidM_ok (f := f) (word := k) hf (RM_cl hM (fz0 r3)) hi hr (by omega)
    exact ans_ca (by unfold dW_say; rw [W_isRoom, bd_ok, h1, ifz_t, W_isWord, bd_ok, h2, ifz_t, near_ok hf hC hi hr, bd_ok, r1, bd_ok]) (by unfold dM_say; rw [M_isRoom, bd_ok, h1, ifz_t, M_isWord, bd_ok, h2, ifz_t, s1, bd_ok]) (INV_mv hR r2 (fz0 r3) s2 (fz13 s3) (IV_say hi _ (by omega) _) hm)
def itM (S : PS) : Nat → PS
  | 0 => S
  | n + 1 => minS (itM S n)
theorem itM_f (S : PS) : ∀ n, mi (itM S n) = mi S + n
  | 0 => rfl
  | n + 1 => by
    rw [itM, (minS_f (itM S n)).2.2.1, itM_f S n]
    omega
theorem IV_itM {S : PS} (hi : IV S) : ∀ n, mi S + n ≤ 200000 → IV (itM S n)
  | 0, _ => hi
  | n + 1, h => by
    have := itM_f S n
    exact IV_minS (IV_itM hi n (by omega)) (by omega)
theorem W_pass_lp {f N : Nat} {S : PS} (hf : 2000 ≤ f) (hi : IV S) (hN : N ≤ 240) (hm : mi S ≤ 99999) : ∀ (d i n : Nat) (mem : Mem), i + d = N → d < n → RC mem 0 (itM S i) →
    ∃ m', dW_pass_41 f n (nI N) (nI i) mem = some (nI (mi S + N), m') ∧ RC m' 0 (itM S N) ∧ Fz (palZ 0) mem m'
  | 0, i, n, mem, e, hn, h => by
    obtain ⟨n, rfl⟩ : ∃ k, n = k + 1 := ⟨n - 1, by omega⟩
    have e' : i = N := by omega
    subst e'
    rw [dW_pass_41, if_neg (nlt_n (by omega)), h.1, itM_f]
    exact ⟨mem, rfl, h, Fz_rfl _ _⟩
  | d + 1, i, n, mem, e, hn, h => by
    obtain ⟨n, rfl⟩ : ∃ k, n = k + 1 := ⟨n - 1, by omega⟩
    have h1 := itM_f S i
    obtain ⟨m1, r1, r2, r3⟩ := goOn_ok (f := f) hf h (IV_itM hi i (by omega)) (by omega)
    rw [dW_pass_41, if_pos (lt_n (by omega) (by omega)), r1, bd_ok, add1]
    obtain ⟨m', t1, t2, t3⟩ := W_pass_lp hf hi hN hm d (i + 1) n m1 (by omega) (by omega) r2
    exact ⟨m', t1, t2, Fz_tr r3 t3⟩
theorem M_pass_lp {f N : Nat} {S : PS} (hf : 2000 ≤ f) (hi : IV S) (hN : N ≤ 240) (hm : mi S ≤ 99999) : ∀ (d i n : Nat) (mem : Mem), i + d = N → d < n → RM mem (itM S i) →
    ∃ m', dM_pass_40 f n (nI N) (nI i) mem = some (nI (mi S + N), m') ∧ RM m' (itM S N) ∧ Fz (rowZ 13) mem m'
  | 0, i, n, mem, e, hn, h => by
    obtain ⟨n, rfl⟩ : ∃ k, n = k + 1 := ⟨n - 1, by omega⟩
    have e' : i = N := by omega
    subst e'
    rw [dM_pass_40, if_neg (nlt_n (by omega)), h.1, itM_f]
    exact ⟨mem, rfl, h, Fz_rfl _ _⟩
  | d + 1, i, n, mem, e, hn, h => by
    obtain ⟨n, rfl⟩ : ∃ k, n = k + 1 := ⟨n - 1, by omega⟩
    have h1 := itM_f S i
    obtain ⟨m1, r1, r2, r3⟩ := minM_ok (f := f) hf h (IV_itM hi i (by omega)) (by omega)
    rw [dM_pass_40, if_pos (lt_n (by omega) (by omega)), r1, bd_ok, add1]
    obtain ⟨m', t1, t2, t3⟩ := M_pass_lp hf hi hN hm d (i + 1) n m1 (by omega) (by omega) r2
    exact ⟨m', t1, t2, Fz_tr r3 t3⟩
theorem late_C {a n : Nat} (ha : a ≤ 99999) (hn : n ≤ 99999) : (99999 : Int32) - nI n < nI a ↔ 99999 < a + n := by
  have e : (99999 : Int32) - nI n = nI (99999 - n) := nb_sub (a := 99999) hn
  rw [e, nb_lt (by omega) (by omega)]
  omega
theorem late_M {a n : Nat} (ha : a ≤ 99999) (hn : n ≤ 99999) : (99999 : Int32) < nI a + nI n ↔ 99999 < a + n := by
  rw [nb_add]
  exact nb_lt (a := 99999) (by omega) (by omega)
theorem ca_pass {f : Nat} {mem : Mem} (hf : 2000 ≤ f) (hI : INV mem) (a1 : Int32) : CA (dW_pass f a1) (dM_pass f a1) mem := by
  have hI' := hI
  obtain ⟨S, hC, hM, hi, hm, hR⟩ := hI'
  cases h1 : inb a1 1 240 with
  | false => exact find_B (f := f) hI (by unfold dW_pass; rw [W_in, bd_ok, h1, ifz_f]) (fun m fx => by unfold dM_pass; rw [M_in, bd_ok, h1, ifz_f])
  | true =>
    obtain ⟨N, h0, hN, rfl⟩ := inb_t (a := 1) (n := 240) rfl (by omega) (by omega) h1
    by_cases c : 99999 < mi S + N
    · exact find_S (f := f) hI (by unfold dW_pass; rw [W_in, bd_ok, h1, ifz_t, hC.1, if_pos ((late_C hm (by omega)).mpr c)]) (fun m fx => by unfold dM_pass; rw [M_in, bd_ok, h1, ifz_t, (RM_10 hM fx).1, if_pos ((late_M hm (by omega)).mpr c)])
    · obtain ⟨m1, r1, r2, r3⟩ := W_pass_lp (f := f) hf hi hN hm N 0 f mem (by omega) (by omega) hC
      have hM1 := RM_cl hM (fz0 r3)
      obtain ⟨m2, s1, s2, s3⟩ := M_pass_lp (f := f) hf hi hN hm N 0 f m1 (by omega) (by omega) hM1
      have hmi := itM_f S N
      exact ans_ca (by unfold dW_pass; rw [W_in, bd_ok, h1, ifz_t, hC.1, if_neg (fun z => c ((late_C hm (by omega)).mp z))]; exact r1) (by unfold dM_pass; rw [M_in, bd_ok, h1, ifz_t, hM1.1, if_neg (fun z => c ((late_M hm (by omega)).mp z))]; exact s1) (INV_mv hR r2 (fz0 r3) s2 (fz13 s3) (IV_itM hi N (by omega)) (by omega))
theorem cntB_sh (p : Nat → Bool) : ∀ n, cntB p (n + 1) = (if p 0 then 1 else 0) + cntB (fun i => p (i + 1)) n
  | 0 => by simp [cntB]
  | n + 1 => by
    rw [cntB, cntB_sh p n, cntB]
    omega
theorem bc_cnt : ∀ (n a : Nat), n ≤ 16 → a < 2 ^ n → bcN a = cntB (fun i => a.testBit i) n
  | 0, a, _, h => by
    have : a = 0 := by omega
    rw [this, bc_zero]
    rfl
  | n + 1, a, hn, h => by
    have e : 2 ^ (n + 1) = 2 ^ n + 2 ^ n := by rw [Nat.pow_succ]; omega
    have h16 : 2 ^ (n + 1) ≤ 2 ^ 16 := Nat.pow_le_pow_right (by decide) hn
    rw [bc_half (by omega), bc_cnt n (a / 2) (by omega) (by omega), cntB_sh]
    congr 1
    · rw [Nat.testBit_zero]
      have m1 : a % 2 < 2 := Nat.mod_lt _ (by decide)
      by_cases c : a % 2 = 1
      · simp [c]
      · have : a % 2 = 0 := by omega
        simp [this]
    · refine cntB_congr fun i _ => ?_
      rw [Nat.testBit_succ]
theorem spk_mi {S : PS} (nr words : Nat) : ∀ k, mi (spkS S nr words k) = mi S + cntB (fun i => words.testBit i) k
  | 0 => rfl
  | k + 1 => by
    have ih := spk_mi (S := S) nr words k
    rw [spkS, spk1, cntB]
    by_cases c : words.testBit k = true
    · rw [if_pos c, if_pos c, (minS_f _).2.2.1]
      show mi (spkS S nr words k) + 1 = _
      omega
    · rw [if_neg c, if_neg c, ih]
      rfl
theorem ca_speak {f : Nat} {mem : Mem} (hf : 2000 ≤ f) (hI : INV mem) (a1 a2 : Int32) : CA (dW_speak f a1 a2) (dM_speak f a1 a2) mem := by
  have hI' := hI
  obtain ⟨S, hC, hM, hi, hm, hR⟩ := hI'
  cases h1 : inb a1 0 9 with
  | false => exact find_B (f := f) hI (by unfold dW_speak; rw [W_isRoom, bd_ok, h1, ifz_f]) (fun m fx => by unfold dM_speak; rw [M_isRoom, bd_ok, h1, ifz_f])
  | true =>
  cases h2 : inb a2 0 65535 with
  | false => exact find_B (f := f) hI (by unfold dW_speak; rw [W_isRoom, bd_ok, h1, ifz_t, W_isSet, bd_ok, h2, ifz_f]) (fun m fx => by unfold dM_speak; rw [M_isRoom, bd_ok, h1, ifz_t, M_in, bd_ok, h2, ifz_f])
  | true =>
    obtain ⟨r, -, hr, rfl⟩ := inb_t (a := 0) (n := 9) rfl (by omega) (by omega) h1
    obtain ⟨k, -, hk, rfl⟩ := inb_t (a := 0) (n := 65535) rfl (by omega) (by omega) h2
    have hb := bc_le 16 k (by omega) (by omega)
    by_cases c : 99999 < mi S + bcN k
    · exact find_S (f := f) hI (by unfold dW_speak; rw [W_isRoom, bd_ok, h1, ifz_t, W_isSet, bd_ok, h2, ifz_t, bcC_ok (by omega), bd_ok, hC.1, if_pos ((late_C hm (by omega)).mpr c)]) (fun m fx => by unfold dM_speak; rw [M_isRoom, bd_ok, h1, ifz_t, M_in, bd_ok, h2, ifz_t, bitsM_ok hf (by omega), bd_ok, (RM_10 hM fx).1, if_pos ((late_M hm (by omega)).mpr c)])
    · obtain ⟨m1, r1, r2, -, r3⟩ := utterAll_ok (f := f) (words := k) hf (by omega) hC hi (by omega) hr (by omega)
      have hM1 := RM_cl hM (fzL0 r3)
      obtain ⟨m2, s1, s2, -, s3⟩ := speaksM_ok (f := f) (words := k) hf hM1 hi (by omega) hr (by omega)
      have hmi := spk_mi (S := S) (nearS S r) k 16
      rw [← bc_cnt 16 k (by omega) (by omega)] at hmi
      exact ans_ca (by unfold dW_speak; rw [W_isRoom, bd_ok, h1, ifz_t, W_isSet, bd_ok, h2, ifz_t, bcC_ok (by omega), bd_ok, hC.1, if_neg (fun z => c ((late_C hm (by omega)).mp z)), r1, bd_ok]) (by unfold dM_speak; rw [M_isRoom, bd_ok, h1, ifz_t, M_in, bd_ok, h2, ifz_t, bitsM_ok hf (by omega), bd_ok, hM1.1, if_neg (fun z => c ((late_M hm (by omega)).mp z)), s1, bd_ok]) (INV_mv hR r2 (fzL0 r3) s2 (fzRL s3) (spk_inv hi _ k 16 (by omega) (by omega)).1 (by omega))
theorem ca_reach {f : Nat} {mem : Mem} (hf : 2000 ≤ f) (hI : INV mem) (a1 : Int32) : CA (dW_reach f a1) (dM_reach f a1) mem := by
  have hI' := hI
  obtain ⟨S, hC, hM, hi, hm, hR⟩ := hI'
  cases h1 : inb a1 0 9 with
  | false => exact find_B (f := f) hI (by unfold dW_reach; rw [W_isRoom, bd_ok, h1, ifz_f]) (fun m fx => by unfold dM_reach; rw [M_isRoom, bd_ok, h1, ifz_f])
  | true =>
    obtain ⟨r, -, hr, rfl⟩ := inb_t (a := 0) (n := 9) rfl (by omega) (by omega) h1
    exact ans_ca (by unfold dW_reach; rw [W_isRoom, bd_ok, h1, ifz_t, leaks_ok hf hC hi hr, bd_ok]) (by unfold dM_reach; rw [M_isRoom, bd_ok, h1, ifz_t, reachM_ok hf hM hi hr, bd_ok]) hI
theorem dutyM_ok {f t : Nat} {mem : Mem} {S : PS} (hf : 2000 ≤ f) (hM : RM mem S) (hi : IV S) (ht : t < 2 ^ 30) : dM_duty_21 f f (nI t) 0 0 mem = some (nI (dutyS S (ro S 0) t), mem) := by
  have hct : ct S ≤ 10 := hi.2.2.2.2.2.2.2.1
  refine lp (fun n (x : Int32 × Int32) => dM_duty_21 f n (nI t) x.1 x.2 mem) (fun i => (nI (setB (fun w => onF S (ro S 0) w t) i), nI i)) (c := ct S) (fun n => ?_) (fun n i hc => ?_) (ct S) 0 f (by omega) (by omega)
  · show dM_duty_21 f (n + 1) _ _ _ mem = _
    rw [dM_duty_21, hM.2.2.1, if_neg (nlt_n (by omega))]
    rfl
  · show dM_duty_21 f (n + 1) _ _ _ mem = dM_duty_21 f n _ _ _ mem
    rw [dM_duty_21, hM.2.2.1, if_pos (lt_n hc (by omega)), isOn_ok hM hi hc ht, bd_ok, add1, nb_bit (by omega), nb_or, or0, if_b2, setB]
    cases onF S (ro S 0) i t with
    | false => simp
    | true => simp
theorem ca_duty {f : Nat} {mem : Mem} (hf : 2000 ≤ f) (hI : INV mem) (a1 : Int32) : CA (dW_duty f a1) (dM_duty f a1) mem := by
  have hI' := hI
  obtain ⟨S, hC, hM, hi, hm, hR⟩ := hI'
  cases h1 : inb a1 0 99999 with
  | false => exact find_B (f := f) hI (by unfold dW_duty; rw [W_in, bd_ok, h1, ifz_f]) (fun m fx => by unfold dM_duty; rw [M_in, bd_ok, h1, ifz_f])
  | true =>
    obtain ⟨t, -, ht, rfl⟩ := inb_t (a := 0) (n := 99999) rfl (by omega) (by omega) h1
    exact ans_ca (by unfold dW_duty; rw [W_in, bd_ok, h1, ifz_t, hC.2.1 0 (by omega), onDuty_ok hf hC hi hi.2.1 hi.2.2.1 (by omega), bd_ok]) (by unfold dM_duty; rw [M_in, bd_ok, h1, ifz_t]; exact dutyM_ok hf hM hi (by omega)) hI
theorem wordsC_ok {f p : Nat} {mem : Mem} {S : PS} (hf : 2000 ≤ f) (hC : RC mem p S) (hi : IV S) : dP_wordsInFiles f p mem = some (nI (orS (fun w => wa S w 4) (ct S)), mem) := by
  have hct : ct S ≤ 10 := hi.2.2.2.2.2.2.2.1
  refine lp (fun n (x : Int32 × Int32) => dP_wordsInFiles_4 f n p x.1 x.2 mem) (fun i => (nI (orS (fun w => wa S w 4) i), nI i)) (c := ct S) (fun n => ?_) (fun n i hc => ?_) (ct S) 0 f (by omega) (by omega)
  · show dP_wordsInFiles_4 f (n + 1) _ _ _ mem = _
    rw [dP_wordsInFiles_4, hC.2.2.1, if_neg (nlt_n (by omega))]
  · show dP_wordsInFiles_4 f (n + 1) _ _ _ mem = dP_wordsInFiles_4 f n _ _ _ mem
    rw [dP_wordsInFiles_4, hC.2.2.1, if_pos (lt_n hc (by omega)), ck_in _ (by omega) (by omega), nI_clamp (by omega), hC.2.2.2 i hc 4 (by omega), nb_or, add1]
    rfl
theorem wordsM_ok {f : Nat} {mem : Mem} {S : PS} (hf : 2000 ≤ f) (hM : RM mem S) (hi : IV S) : dM_inFiles f mem = some (nI (orS (fun w => wa S w 4) (ct S)), mem) := by
  have hct : ct S ≤ 10 := hi.2.2.2.2.2.2.2.1
  refine lp (fun n (x : Int32 × Int32) => dM_inFiles_4 f n x.1 x.2 mem) (fun i => (nI (orS (fun w => wa S w 4) i), nI i)) (c := ct S) (fun n => ?_) (fun n i hc => ?_) (ct S) 0 f (by omega) (by omega)
  · show dM_inFiles_4 f (n + 1) _ _ mem = _
    rw [dM_inFiles_4, hM.2.2.1, if_neg (nlt_n (by omega))]
  · show dM_inFiles_4 f (n + 1) _ _ mem = dM_inFiles_4 f n _ _ mem
    rw [dM_inFiles_4, hM.2.2.1, if_pos (lt_n hc (by omega)), show dM_its f (nI i) 4 mem = _ from its_n (k := 4) hM hi hc (by omega), bd_ok, nb_or, add1]
    rfl
theorem tiredC_ok {f p : Nat} {mem : Mem} {S : PS} (hf : 2000 ≤ f) (hC : RC mem p S) (hi : IV S) : dP_tiredTogether f p mem = some (nI (smS (fun w => wa S w 5) (ct S)), mem) := by
  have hct : ct S ≤ 10 := hi.2.2.2.2.2.2.2.1
  refine lp (fun n (x : Int32 × Int32) => dP_tiredTogether_4 f n p x.1 x.2 mem) (fun i => (nI (smS (fun w => wa S w 5) i), nI i)) (c := ct S) (fun n => ?_) (fun n i hc => ?_) (ct S) 0 f (by omega) (by omega)
  · show dP_tiredTogether_4 f (n + 1) _ _ _ mem = _
    rw [dP_tiredTogether_4, hC.2.2.1, if_neg (nlt_n (by omega))]
  · show dP_tiredTogether_4 f (n + 1) _ _ _ mem = dP_tiredTogether_4 f n _ _ _ mem
    rw [dP_tiredTogether_4, hC.2.2.1, if_pos (lt_n hc (by omega)), ck_in _ (by omega) (by omega), nI_clamp (by omega), hC.2.2.2 i hc 5 (by omega), nb_add, add1]
    rfl
theorem tiredM_ok {f : Nat} {mem : Mem} {S : PS} (hf : 2000 ≤ f) (hM : RM mem S) (hi : IV S) : dM_tiredAll f mem = some (nI (smS (fun w => wa S w 5) (ct S)), mem) := by
  have hct : ct S ≤ 10 := hi.2.2.2.2.2.2.2.1
  refine lp (fun n (x : Int32 × Int32) => dM_tiredAll_4 f n x.1 x.2 mem) (fun i => (nI (smS (fun w => wa S w 5) i), nI i)) (c := ct S) (fun n => ?_) (fun n i hc => ?_) (ct S) 0 f (by omega) (by omega)
  · show dM_tiredAll_4 f (n + 1) _ _ mem = _
    rw [dM_tiredAll_4, hM.2.2.1, if_neg (nlt_n (by omega))]
  · show dM_tiredAll_4 f (n + 1) _ _ mem = dM_tiredAll_4 f n _ _ mem
    rw [dM_tiredAll_4, hM.2.2.1, if_pos (lt_n hc (by omega)), show dM_its f (nI i) 5 mem = _ from its_n (k := 5) hM hi hc (by omega), bd_ok, nb_add, add1]
    rfl
theorem filedC_ok {f p word : Nat} {mem : Mem} {S : PS} (hf : 2000 ≤ f) (hC : RC mem p S) (hi : IV S) (hw : word < 16) : dP_filesWith f p (nI word) mem = some (nI (smS (fun w => if (wa S w 4).testBit word then 1 else 0) (ct S)), mem) := by
  have hct : ct S ≤ 10 := hi.2.2.2.2.2.2.2.1
  refine lp (fun n (x : Int32 × Int32) => dP_filesWith_4 f n p (nI word) x.1 x.2 mem) (fun i => (nI (smS (fun w => if (wa S w 4).testBit word then 1 else 0) i), nI i)) (c := ct S) (fun n => ?_) (fun n i hc => ?_) (ct S) 0 f (by omega) (by omega)
  · show dP_filesWith_4 f (n + 1) _ _ _ _ mem = _
    rw [dP_filesWith_4, hC.2.2.1, if_neg (nlt_n (by omega))]
  · show dP_filesWith_4 f (n + 1) _ _ _ _ mem = dP_filesWith_4 f n _ _ _ _ mem
    obtain ⟨v0, v1, v2, v3, v4, v5⟩ := hi.2.2.2.2.2.2.2.2 i hc
    rw [dP_filesWith_4, hC.2.2.1, if_pos (lt_n hc (by omega)), ck_in _ (by omega) (by omega), nI_clamp (by omega), hC.2.2.2 i hc 4 (by omega), nb_has (by omega) (by omega), nb_add, add1]
    rfl
theorem filedM_ok {f word : Nat} {mem : Mem} {S : PS} (hf : 2000 ≤ f) (hM : RM mem S) (hi : IV S) (hw : word < 16) : dM_filed_18 f f (nI word) 0 0 mem = some (nI (smS (fun w => if (wa S w 4).testBit word then 1 else 0) (ct S)), mem) := by
  have hct : ct S ≤ 10 := hi.2.2.2.2.2.2.2.1
  refine lp (fun n (x : Int32 × Int32) => dM_filed_18 f n (nI word) x.1 x.2 mem) (fun i => (nI (smS (fun w => if (wa S w 4).testBit word then 1 else 0) i), nI i)) (c := ct S) (fun n => ?_) (fun n i hc => ?_) (ct S) 0 f (by omega) (by omega)
  · show dM_filed_18 f (n + 1) _ _ _ mem = _
    rw [dM_filed_18, hM.2.2.1, if_neg (nlt_n (by omega))]
  · show dM_filed_18 f (n + 1) _ _ _ mem = dM_filed_18 f n _ _ _ mem
    obtain ⟨v0, v1, v2, v3, v4, v5⟩ := hi.2.2.2.2.2.2.2.2 i hc
    rw [dM_filed_18, hM.2.2.1, if_pos (lt_n hc (by omega)), show dM_its f (nI i) 4 mem = _ from its_n (k := 4) hM hi hc (by omega), bd_ok, has_ok (by omega) (by omega), bd_ok, add1, add0, add1, if_b2, smS]
    cases (wa S i 4).testBit word with
    | false => simp
    | true => simp
theorem ca_filed {f : Nat} {mem : Mem} (hf : 2000 ≤ f) (hI : INV mem) (a1 : Int32) : CA (dW_filed f a1) (dM_filed f a1) mem := by
  have hI' := hI
  obtain ⟨S, hC, hM, hi, hm, hR⟩ := hI'
  cases h1 : inb a1 0 15 with
  | false => exact find_B (f := f) hI (by unfold dW_filed; rw [W_isWord, bd_ok, h1, ifz_f]) (fun m fx => by unfold dM_filed; rw [M_isWord, bd_ok, h1, ifz_f])
  | true =>
    obtain ⟨k, -, hk, rfl⟩ := inb_t (a := 0) (n := 15) rfl (by omega) (by omega) h1
    exact ans_ca (by unfold dW_filed; rw [W_isWord, bd_ok, h1, ifz_t, filedC_ok hf hC hi (by omega), bd_ok]) (by unfold dM_filed; rw [M_isWord, bd_ok, h1, ifz_t]; exact filedM_ok hf hM hi (by omega)) hI
theorem ca_now {f : Nat} {mem : Mem} (hf : 2000 ≤ f) (hI : INV mem) (a1 : Int32) : CA (dW_now f a1) (dM_now f a1) mem := by
  have hI' := hI
  obtain ⟨S, hC, hM, hi, hm, hR⟩ := hI'
  cases h1 : inb a1 0 6 with
  | false =>
    have n0 : ¬ a1 = 0 := inb_f (k := 0) (n := 6) h1 (by omega) (by omega)
    have n1 : ¬ a1 = 1 := inb_f (k := 1) (n := 6) h1 (by omega) (by omega)
    have n2 : ¬ a1 = 2 := inb_f (k := 2) (n := 6) h1 (by omega) (by omega)
    have n3 : ¬ a1 = 3 := inb_f (k := 3) (n := 6) h1 (by omega) (by omega)
    have n4 : ¬ a1 = 4 := inb_f (k := 4) (n := 6) h1 (by omega) (by omega)
    have n5 : ¬ a1 = 5 := inb_f (k := 5) (n := 6) h1 (by omega) (by omega)
    have n6 : ¬ a1 = 6 := inb_f (k := 6) (n := 6) h1 (by omega) (by omega)
    have i4 : inb a1 0 4 = false := by
      cases h5 : inb a1 0 4 with
      | false => rfl
      | true =>
        obtain ⟨k, -, hk, e⟩ := inb_t (a := 0) (n := 4) rfl (by omega) (by omega) h5
        exact absurd e (inb_f (k := k) (n := 6) h1 (by omega) (by omega))
    exact find_B (f := f) hI (by unfold dW_now; rw [if_neg n0, if_neg n1, if_neg n2, if_neg n3, if_neg n4, if_neg n5, if_neg n6]) (fun m fx => by unfold dM_now; rw [M_in, bd_ok, i4, ifz_f, if_neg n5, if_neg n6])
  | true =>
    obtain ⟨k, -, hk, rfl⟩ := inb_t (a := 0) (n := 6) rfl (by omega) (by omega) h1
    have e4 : inb (nI k) 0 4 = decide (k ≤ 4) := inb_0 (n := 4) (by omega) (by omega)
    have hkk : k = 0 ∨ k = 1 ∨ k = 2 ∨ k = 3 ∨ k = 4 ∨ k = 5 ∨ k = 6 := by omega
    have r0 : gI mem 13 0 1 = nI (ro S 0) := hM.2.1 0 (by omega)
    have r1 : gI mem 13 0 2 = nI (ro S 1) := hM.2.1 1 (by omega)
    have r2 : gI mem 13 0 3 = nI (ro S 2) := hM.2.1 2 (by omega)
    have r3 : gI mem 13 0 4 = nI (ro S 3) := hM.2.1 3 (by omega)
    rcases hkk with rfl | rfl | rfl | rfl | rfl | rfl | rfl
    · exact ans_ca (r := nI (mi S)) (m1 := mem) (m2 := mem) (by unfold dW_now; rw [if_pos (show nI 0 = 0 from rfl), hC.1]) (by unfold dM_now; rw [M_in, bd_ok, e4]; exact congrArg (fun z => some (z, mem)) hM.1) hI
    · exact ans_ca (r := nI (ro S 0)) (m1 := mem) (m2 := mem) (by unfold dW_now; exact congrArg (fun z => some (z, mem)) (hC.2.1 0 (by omega))) (by unfold dM_now; rw [M_in, bd_ok, e4]; exact congrArg (fun z => some (z, mem)) r0) hI
    · exact ans_ca (r := nI (ro S 1)) (m1 := mem) (m2 := mem) (by unfold dW_now; exact congrArg (fun z => some (z, mem)) (hC.2.1 1 (by omega))) (by unfold dM_now; rw [M_in, bd_ok, e4]; exact congrArg (fun z => some (z, mem)) r1) hI
    · exact ans_ca (r := nI (ro S 2)) (m1 := mem) (m2 := mem) (by unfold dW_now; exact congrArg (fun z => some (z, mem)) (hC.2.1 2 (by omega))) (by unfold dM_now; rw [M_in, bd_ok, e4]; exact congrArg (fun z => some (z, mem)) r2) hI
    · exact ans_ca (r := nI (ro S 3)) (m1 := mem) (m2 := mem) (by unfold dW_now; exact congrArg (fun z => some (z, mem)) (hC.2.1 3 (by omega))) (by unfold dM_now; rw [M_in, bd_ok, e4]; exact congrArg (fun z => some (z, mem)) r3) hI
    · refine ans_ca (r := nI (orS (fun w => wa S w 4) (ct S))) (m1 := mem) (m2 := mem) ?_ ?_ hI
      · unfold dW_now
        rw [wordsC_ok hf hC hi, bd_ok]
        rfl
      · unfold dM_now
        rw [M_in, bd_ok, e4, wordsM_ok hf hM hi, bd_ok]
        rfl
    · refine ans_ca (r := nI (smS (fun w => wa S w 5) (ct S))) (m1 := mem) (m2 := mem) ?_ ?_ hI
      · unfold dW_now
        rw [tiredC_ok hf hC hi, bd_ok]
        rfl
      · unfold dM_now
        rw [M_in, bd_ok, e4, tiredM_ok hf hM hi, bd_ok]
        rfl
