/-! say, pass, speak, reach, duty, now, filed. -/
theorem lp {σ β : Type} (F : Nat → σ → β) (x : Nat → σ) {c : Nat} {R : β} (h0 : ∀ n, F (n + 1) (x c) = R) (h1 : ∀ n i, i < c → F (n + 1) (x i) = F n (x (i + 1))) : ∀ (d i n : Nat), i + d = c → d < n → F n (x i) = R
  | 0, i, n, e, hn => by
    obtain ⟨n, rfl⟩ : ∃ k, n = k + 1 := ⟨n - 1, by omega⟩
    have : i = c := by omega
    subst this
    exact h0 n
  | d + 1, i, n, e, hn => by
    obtain ⟨n, rfl⟩ : ∃ k, n = k + 1 := ⟨n - 1, by omega⟩
    rw [h1 n i (by omega)]
    exact lp F x h0 h1 d (i + 1) n (by omega) (by omega)
def smS (g : Nat → Nat) : Nat → Nat
  | 0 => 0
  | n + 1 => smS g n + g n
def orS (g : Nat → Nat) : Nat → Nat
  | 0 => 0
  | n + 1 => orS g n ||| g n
theorem lt_n {i c : Nat} (h : i < c) (hc : c < 2 ^ 31) : nI i < nI c := (nb_lt (by omega) hc).mpr h
theorem nlt_n {c : Nat} (hc : c < 2 ^ 31) : ¬ nI c < nI c := fun z => by
  have := (nb_lt hc hc).mp z
  omega
def itM (S : PS) : Nat → PS
  | 0 => S
  | n + 1 => minS (itM S n)
theorem itM_f (S : PS) : ∀ n, mi (itM S n) = mi S + n
  | 0 => rfl
  | n + 1 => by
    rw [itM, (minS_f (itM S n)).2.2.1, itM_f S n]
    omega
theorem IV_itM {S : PS} (hi : IV S) : ∀ n, mi S + n ≤ 200000 → IV (itM S n)
  | 0, _ => hi
  | n + 1, h => by
    have := itM_f S n
    exact IV_minS (IV_itM hi n (by omega)) (by omega)
theorem W_pass_lp {f N : Nat} {S : PS} (hf : 2000 ≤ f) (hi : IV S) (hN : N ≤ 240) (hm : mi S ≤ 99999) : ∀ (d i n : Nat) (mem : Mem), i + d = N → d < n → RC mem 0 (itM S i) →
    ∃ m', dW_pass_41 f n (nI N) (nI i) mem = some (nI (mi S + N), m') ∧ RC m' 0 (itM S N) ∧ Fz (palZ 0) mem m'
  | 0, i, n, mem, e, hn, h => by
    obtain ⟨n, rfl⟩ : ∃ k, n = k + 1 := ⟨n - 1, by omega⟩
    have e' : i = N := by omega
    subst e'
    rw [dW_pass_41, if_neg (nlt_n (by omega)), h.1, itM_f]
    exact ⟨mem, rfl, h, Fz_rfl _ _⟩
  | d + 1, i, n, mem, e, hn, h => by
    obtain ⟨n, rfl⟩ : ∃ k, n = k + 1 := ⟨n - 1, by omega⟩
    have h1 := itM_f S i
    obtain ⟨m1, r1, r2, r3⟩ := goOn_ok (f := f) hf h (IV_itM hi i (by omega)) (by omega)
    rw [dW_pass_41, if_pos (lt_n (by omega) (by omega)), r1, bd_ok, add1]
    obtain ⟨m', t1, t2, t3⟩ := W_pass_lp hf hi hN hm d (i + 1) n m1 (by omega) (by omega) r2
    exact ⟨m', t1, t2, Fz_tr r3 t3⟩
theorem late_C {a n : Nat} (ha : a ≤ 99999) (hn : n ≤ 99999) : (99999 : Int32) - nI n < nI a ↔ 99999 < a + n := by
  have e : (99999 : Int32) - nI n = nI (99999 - n) := nb_sub (a := 99999) hn
  rw [e, nb_lt (by omega) (by omega)]
  omega
theorem late_M {a n : Nat} (ha : a ≤ 99999) (hn : n ≤ 99999) : (99999 : Int32) < nI a + nI n ↔ 99999 < a + n := by
  rw [nb_add]
  exact nb_lt (a := 99999) (by omega) (by omega)
theorem cntB_sh (p : Nat → Bool) : ∀ n, cntB p (n + 1) = (if p 0 then 1 else 0) + cntB (fun i => p (i + 1)) n
  | 0 => by simp [cntB]
  | n + 1 => by
    rw [cntB, cntB_sh p n, cntB]
    omega
theorem bc_cnt : ∀ (n a : Nat), n ≤ 16 → a < 2 ^ n → bcN a = cntB (fun i => a.testBit i) n
  | 0, a, _, h => by
    have : a = 0 := by omega
    rw [this, bc_zero]
    rfl
  | n + 1, a, hn, h => by
    have e : 2 ^ (n + 1) = 2 ^ n + 2 ^ n := by rw [Nat.pow_succ]; omega
    have h16 : 2 ^ (n + 1) ≤ 2 ^ 16 := Nat.pow_le_pow_right (by decide) hn
    rw [bc_half (by omega), bc_cnt n (a / 2) (by omega) (by omega), cntB_sh]
    congr 1
    · rw [Nat.testBit_zero]
      have m1 : a % 2 < 2 := Nat.mod_lt _ (by decide)
      by_cases c : a % 2 = 1
      · simp [c]
      · have : a % 2 = 0 := by omega
        simp [this]
    · refine cntB_congr fun i _ => ?_
      rw [Nat.testBit_succ]
theorem spk_mi {S : PS} (nr words : Nat) : ∀ k, mi (spkS S nr words k) = mi S + cntB (fun i => words.testBit i) k
  | 0 => rfl
  | k + 1 => by
    have ih := spk_mi (S := S) nr words k
    rw [spkS, spk1, cntB]
    by_cases c : words.testBit k = true
    · rw [if_pos c, if_pos c, (minS_f _).2.2.1]
      show mi (spkS S nr words k) + 1 = _
      omega
    · rw [if_neg c, if_neg c, ih]
      rfl
theorem wordsC_ok {f p : Nat} {mem : Mem} {S : PS} (hf : 2000 ≤ f) (hC : RC mem p S) (hi : IV S) : dP_wordsInFiles f p mem = some (nI (orS (fun w => wa S w 4) (ct S)), mem) := by
  have hct : ct S ≤ 10 := hi.2.2.2.2.2.2.2.1
  refine lp (fun n (x : Int32 × Int32) => dP_wordsInFiles_4 f n p x.1 x.2 mem) (fun i => (nI (orS (fun w => wa S w 4) i), nI i)) (c := ct S) (fun n => ?_) (fun n i hc => ?_) (ct S) 0 f (by omega) (by omega)
  · show dP_wordsInFiles_4 f (n + 1) _ _ _ mem = _
    rw [dP_wordsInFiles_4, hC.2.2.1, if_neg (nlt_n (by omega))]
  · show dP_wordsInFiles_4 f (n + 1) _ _ _ mem = dP_wordsInFiles_4 f n _ _ _ mem
    rw [dP_wordsInFiles_4, hC.2.2.1, if_pos (lt_n hc (by omega)), ck_in _ (by omega) (by omega), nI_clamp (by omega), hC.2.2.2 i hc 4 (by omega), nb_or, add1]
    rfl
theorem tiredC_ok {f p : Nat} {mem : Mem} {S : PS} (hf : 2000 ≤ f) (hC : RC mem p S) (hi : IV S) : dP_tiredTogether f p mem = some (nI (smS (fun w => wa S w 5) (ct S)), mem) := by
  have hct : ct S ≤ 10 := hi.2.2.2.2.2.2.2.1
  refine lp (fun n (x : Int32 × Int32) => dP_tiredTogether_4 f n p x.1 x.2 mem) (fun i => (nI (smS (fun w => wa S w 5) i), nI i)) (c := ct S) (fun n => ?_) (fun n i hc => ?_) (ct S) 0 f (by omega) (by omega)
  · show dP_tiredTogether_4 f (n + 1) _ _ _ mem = _
    rw [dP_tiredTogether_4, hC.2.2.1, if_neg (nlt_n (by omega))]
  · show dP_tiredTogether_4 f (n + 1) _ _ _ mem = dP_tiredTogether_4 f n _ _ _ mem
    rw [dP_tiredTogether_4, hC.2.2.1, if_pos (lt_n hc (by omega)), ck_in _ (by omega) (by omega), nI_clamp (by omega), hC.2.2.2 i hc 5 (by omega), nb_add, add1]
    rfl
