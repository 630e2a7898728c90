/-! Unheard: who listens ahead; safe, where, quiet, worst. -/
def uhS (S : PS) (rooms walls t : Nat) : Nat → Bool
  | 0 => true
  | n + 1 => uhS S rooms walls t n && !(walls.testBit n && (atS S rooms n && onF S (ro S 0) n t))
theorem uhS_f (S : PS) (rooms walls t : Nat) : ∀ d n, uhS S rooms walls t n = false → uhS S rooms walls t (n + d) = false
  | 0, n, h => h
  | d + 1, n, h => by
    show uhS S rooms walls t (n + d + 1) = false
    rw [uhS, uhS_f S rooms walls t d n h]
    rfl
theorem uhS_iff (S : PS) (rooms walls t : Nat) : ∀ n, uhS S rooms walls t n = true ↔ ∀ i, i < n → ¬ (walls.testBit i = true ∧ atS S rooms i = true ∧ onF S (ro S 0) i t = true)
  | 0 => ⟨fun _ i hi => absurd hi (by omega), fun _ => rfl⟩
  | n + 1 => by
    rw [uhS, Bool.and_eq_true, uhS_iff S rooms walls t n]
    constructor
    · rintro ⟨h1, h2⟩ i hi ⟨a, b, c⟩
      by_cases e : i = n
      · subst e
        rw [a, b, c] at h2
        cases h2
      · exact h1 i (by omega) ⟨a, b, c⟩
    · intro h
      refine ⟨fun i hi => h i (by omega), ?_⟩
      have := h n (by omega)
      cases a : walls.testBit n <;> cases b : atS S rooms n <;> cases c : onF S (ro S 0) n t <;> first | rfl | exact absurd ⟨a, b, c⟩ this
theorem isUn_lp {f rooms walls t : Nat} {mem : Mem} {S : PS} (hM : RM mem S) (hi : IV S) (hr : rooms < 2 ^ 31) (hw : walls < 2 ^ 31) (ht : t < 2 ^ 30) : ∀ (d i n : Nat), i + d = ct S → d < n →
    dM_isUnheard_6 f n (nI rooms) (nI t) (nI walls) (nI (b2 (uhS S rooms walls t i))) (nI i) mem = some (nI (b2 (uhS S rooms walls t (ct S))), mem) := by
  have hct : ct S ≤ 10 := hi.2.2.2.2.2.2.2.1
  intro d
  induction d with
  | zero =>
    intro i n e hn
    obtain ⟨n, rfl⟩ : ∃ k, n = k + 1 := ⟨n - 1, by omega⟩
    have e' : i = ct S := by omega
    subst e'
    rw [dM_isUnheard_6, hM.2.2.1, if_neg (nlt_n (by omega)), zb_b]
  | succ d ih =>
    intro i n e hn
    obtain ⟨n, rfl⟩ : ∃ k, n = k + 1 := ⟨n - 1, by omega⟩
    have ih' := ih (i + 1) n (by omega) (by omega)
    rw [dM_isUnheard_6, hM.2.2.1, if_pos (lt_n (by omega) (by omega))]
    cases hu : uhS S rooms walls t i with
    | false =>
      have := uhS_f S rooms walls t (ct S - i) i hu
      rw [show i + (ct S - i) = ct S by omega] at this
      rw [ifz_f, zb_b, this]
    | true =>
      rw [uhS, hu, Bool.true_and] at ih'
      rw [ifz_t, has_ok hw (by omega), bd_ok, add1]
      cases ha : walls.testBit i with
      | false =>
        rw [ha] at ih'
        rw [ifz_f]
        exact ih'
      | true =>
        rw [ha] at ih'
        rw [ifz_t, isAt_ok hM hi (by omega) hr, bd_ok]
        cases hb : atS S rooms i with
        | false =>
          rw [hb] at ih'
          rw [ifz_f]
          exact ih'
        | true =>
          rw [hb] at ih'
          rw [ifz_t, isOn_ok hM hi (by omega) ht, bd_ok]
          cases hc : onF S (ro S 0) i t with
          | false =>
            rw [hc] at ih'
            rw [ifz_f]
            exact ih'
          | true =>
            rw [hc] at ih'
            rw [ifz_t]
            exact ih'
theorem isUn_ok {f rooms walls t : Nat} {mem : Mem} {S : PS} (hf : 2000 ≤ f) (hM : RM mem S) (hi : IV S) (hr : rooms < 2 ^ 31) (hw : walls < 2 ^ 31) (ht : t < 2 ^ 30) :
    dM_isUnheard f (nI rooms) (nI t) (nI walls) mem = some (nI (b2 (uhS S rooms walls t (ct S))), mem) := by
  have hct : ct S ≤ 10 := hi.2.2.2.2.2.2.2.1
  exact isUn_lp hM hi hr hw ht (ct S) 0 f (by omega) (by omega)
theorem and_z (a b : Nat) : a &&& b = 0 ↔ ∀ i, ¬ (a.testBit i = true ∧ b.testBit i = true) := by
  constructor
  · intro h i ⟨h1, h2⟩
    have := congrArg (fun z => z.testBit i) h
    simp only [Nat.testBit_and, h1, h2, Nat.zero_testBit] at this
    cases this
  · intro h
    apply Nat.eq_of_testBit_eq
    intro i
    rw [Nat.testBit_and, Nat.zero_testBit]
    have := h i
    cases ha : a.testBit i <;> cases hb : b.testBit i <;> first | rfl | exact absurd ⟨ha, hb⟩ this
theorem duty_bit (S : PS) (b t i : Nat) : (dutyS S b t).testBit i = (decide (i < ct S) && onF S b i t) := by
  unfold dutyS
  rw [setB_bit]
theorem near_bt (S : PS) (room i : Nat) : (nearS S room).testBit i = (decide (i < ct S) && atS S (reachS S room) i) := by
  unfold nearS
  rw [setB_bit]
theorem uh_mute (S : PS) (room walls t : Nat) : uhS S (reachS S room) walls t (ct S) = muteS S (nearS S room &&& walls) (ro S 0) t := by
  have h : uhS S (reachS S room) walls t (ct S) = true ↔ muteS S (nearS S room &&& walls) (ro S 0) t = true := by
    rw [uhS_iff]
    unfold muteS
    rw [decide_eq_true_eq, and_z]
    constructor
    · intro h i ⟨h1, h2⟩
      rw [duty_bit, Bool.and_eq_true, decide_eq_true_eq] at h1
      rw [Nat.testBit_and, near_bt, Bool.and_eq_true, Bool.and_eq_true] at h2
      exact h i h1.1 ⟨h2.2, h2.1.2, h1.2⟩
    · intro h i hi ⟨h1, h2, h3⟩
      refine h i ⟨?_, ?_⟩
      · rw [duty_bit, h3, decide_eq_true hi]
        rfl
      · rw [Nat.testBit_and, near_bt, h1, h2, decide_eq_true hi]
        rfl
  cases a : uhS S (reachS S room) walls t (ct S) <;> cases b : muteS S (nearS S room &&& walls) (ro S 0) t <;> first | rfl | (rw [a, b] at h; exact absurd h (by decide))
theorem near_all {S : PS} (hi : IV S) (room : Nat) : nearS S room &&& 1023 = nearS S room := by
  have := nearS_lt hi room
  exact (Nat.and_two_pow_sub_one_eq_mod (nearS S room) 10).trans (Nat.mod_eq_of_lt this)
/-- in how many of N minutes nobody of these is on duty -/
def quS (S : PS) (near b N : Nat) : Nat := cntB (fun k => muteS S near b (mi S + k)) N
theorem unIn_ok {f room walls N : Nat} {mem : Mem} {S : PS} (hf : 2000 ≤ f) (hM : RM mem S) (hi : IV S) (hr : room ≤ 9) (hw : walls < 2 ^ 31) (hN : N ≤ 300) :
    dM_unheardIn f (nI room) (nI N) (nI walls) mem = some (nI (quS S (nearS S room &&& walls) (ro S 0) N), mem) := by
  have hm : mi S ≤ 200000 := hi.1
  unfold dM_unheardIn
  rw [reachM_ok hf hM hi hr, bd_ok]
  refine lp (fun n (x : Int32 × Int32) => dM_unheardIn_13 f n (nI N) (nI walls) (nI (reachS S room)) x.1 x.2 mem) (fun i => (nI (quS S (nearS S room &&& walls) (ro S 0) i), nI i)) (c := N) (fun n => ?_) (fun n i hc => ?_) N 0 f (by omega) (by omega)
  · show dM_unheardIn_13 f (n + 1) _ _ _ _ _ mem = _
    rw [dM_unheardIn_13, if_neg (nlt_n (by omega))]
  · show dM_unheardIn_13 f (n + 1) _ _ _ _ _ mem = dM_unheardIn_13 f n _ _ _ _ _ mem
    rw [dM_unheardIn_13, if_pos (lt_n hc (by omega)), hM.1, nb_add, isUn_ok hf hM hi (Nat.lt_trans (reachS_lt hi hr) (by decide)) hw (by omega), bd_ok, uh_mute, add0, add1, add1, if_b2]
    unfold quS
    rw [cntB]
    cases muteS S (nearS S room &&& walls) (ro S 0) (mi S + i) with
    | false => simp
    | true => simp
theorem ca_quiet {f : Nat} {mem : Mem} (hf : 2000 ≤ f) (hI : INV mem) (a1 a2 : Int32) : CA (dW_quiet f a1 a2) (dM_quiet f a1 a2) mem := by
  have hI' := hI
  obtain ⟨S, hC, hM, hi, hm, hR⟩ := hI'
  cases h1 : inb a1 0 9 with
  | false => exact find_B (f := f) hI (by unfold dW_quiet; rw [W_isRoom, bd_ok, h1, ifz_f]) (fun m fx => by unfold dM_quiet; rw [M_isRoom, bd_ok, h1, ifz_f])
  | true =>
  cases h2 : inb a2 1 240 with
  | false => exact find_B (f := f) hI (by unfold dW_quiet; rw [W_isRoom, bd_ok, h1, ifz_t, W_in, bd_ok, h2, ifz_f]) (fun m fx => by unfold dM_quiet; rw [M_isRoom, bd_ok, h1, ifz_t, M_in, bd_ok, h2, ifz_f])
  | true =>
    obtain ⟨r, -, hr, rfl⟩ := inb_t (a := 0) (n := 9) rfl (by omega) (by omega) h1
    obtain ⟨N, -, hN, rfl⟩ := inb_t (a := 1) (n := 240) rfl (by omega) (by omega) h2
    have U := unIn_ok (f := f) (walls := 1023) (N := N) hf hM hi hr (by omega) (by omega)
    rw [near_all hi] at U
    exact ans_ca (by unfold dW_quiet; rw [W_isRoom, bd_ok, h1, ifz_t, W_in, bd_ok, h2, ifz_t, near_ok hf hC hi hr, bd_ok, hC.2.1 0 (by omega), silent_ok hf hC hi (nearS_lt hi r) hN hi.2.1 hi.2.2.1, bd_ok]) (by unfold dM_quiet; rw [M_isRoom, bd_ok, h1, ifz_t, M_in, bd_ok, h2, ifz_t, show dM_unheardIn f (nI r) (nI N) 1023 mem = _ from U, bd_ok]; rfl) hI
/-- the sets foreseen -/
def AH (mem : Mem) (S : PS) (N : Nat) : Prop := ∀ i, i < N → gI mem 11 0 i = nI (dutyS S (ro S 0) (mi S + i))
theorem fz11 {mem m : Mem} (h : Fz (rowZ 11) mem m) : Fz clZ mem m := Fz_mo h (fun t i j q => by
  have : t = 11 := of_decide_eq_true q
  subst this
  exact clZ_11 i j)
theorem RC_11 {mem m : Mem} {p : Nat} {S : PS} (h : RC mem p S) (hi : IV S) (fx : Fz (rowZ 11) mem m) : RC m p S := RC_fz h hi.2.2.2.2.2.2.2.1 fx (fun t i j q => by
  have := notPal q
  exact decide_eq_false (by omega))
theorem fore_lp {f N : Nat} {S : PS} (hf : 2000 ≤ f) (hi : IV S) (hN : N ≤ 270) : ∀ (d i n : Nat) (mem : Mem), i + d = N → d < n → RC mem 0 S → AH mem S i →
    ∃ m', dW_foresee_2 f n (nI N) (nI i) mem = some ((), m') ∧ RC m' 0 S ∧ AH m' S N ∧ Fz (rowZ 11) mem m'
  | 0, i, n, mem, e, hn, h, ha => by
    obtain ⟨n, rfl⟩ : ∃ k, n = k + 1 := ⟨n - 1, by omega⟩
    have e' : i = N := by omega
    subst e'
    rw [dW_foresee_2, if_neg (nlt_n (by omega))]
    exact ⟨mem, rfl, h, ha, Fz_rfl _ _⟩
  | d + 1, i, n, mem, e, hn, h, ha => by
    obtain ⟨n, rfl⟩ : ∃ k, n = k + 1 := ⟨n - 1, by omega⟩
    have hm : mi S ≤ 200000 := hi.1
    have c270 : nI i < 270 := lt_n (c := 270) (by omega) (by omega)
    rw [dW_foresee_2, if_pos (lt_n (by omega) (by omega)), if_pos c270, h.1, h.2.1 0 (by omega), nb_add, onDuty_ok hf h hi hi.2.1 hi.2.2.1 (by omega), bd_ok, ck_in _ (by omega) (by omega), nI_clamp (by omega), add1]
    have f1 : Fz (rowZ 11) mem (sI mem 11 0 i (nI (dutyS S (ro S 0) (mi S + i)))) := Fz_sI rfl
    obtain ⟨m', t1, t2, t3, t4⟩ := fore_lp hf hi hN d (i + 1) n _ (by omega) (by omega) (RC_11 h hi f1) (fun k hk => by
      rw [gI_sI]
      by_cases e : k = i
      · rw [if_pos ⟨rfl, rfl, e⟩, e]
      · rw [if_neg (fun z => e z.2.2)]
        exact ha k (by omega))
    exact ⟨m', t1, t2, t3, Fz_tr f1 t4⟩
theorem fore_ok {f N : Nat} {mem : Mem} {S : PS} (hf : 2000 ≤ f) (h : RC mem 0 S) (hi : IV S) (hN : N ≤ 270) :
    ∃ m', dW_foresee f (nI N) mem = some ((), m') ∧ RC m' 0 S ∧ AH m' S N ∧ Fz (rowZ 11) mem m' :=
  fore_lp hf hi hN N 0 f mem (by omega) (by omega) h (fun i hi => absurd hi (by omega))
def fs (mu : Nat → Bool) (N : Nat) : Nat → Nat → Nat → Option Nat
  | 0, _, _ => none
  | d + 1, run, i => if (if mu i = true then run + 1 else 0) = N then some (i + 1 - N) else fs mu N d (if mu i = true then run + 1 else 0) (i + 1)
def oI : Option Nat → Int32
  | none => -1
  | some k => nI k
theorem fs_le (mu : Nat → Bool) (N : Nat) : ∀ d run i k, fs mu N d run i = some k → k < i + d + 1
  | 0, _, _, _, h => by cases h
  | d + 1, run, i, k, h => by
    rw [fs] at h
    by_cases c : (if mu i = true then run + 1 else 0) = N
    · rw [if_pos c] at h
      have := Option.some.inj h
      omega
    · rw [if_neg c] at h
      have := fs_le mu N d _ _ k h
      omega
theorem oI_neg {o : Option Nat} (h : ∀ k, o = some k → k < 2 ^ 31) : oI o < 0 ↔ o = none := by
  cases o with
  | none => exact ⟨fun _ => rfl, fun _ => (by decide : (-1 : Int32) < 0)⟩
  | some k => exact ⟨fun z => absurd z (nI_pos (h k rfl)), fun z => by cases z⟩
theorem subadd (i N : Nat) (h : N ≤ i + 1) : nI i - nI N + 1 = nI (i + 1 - N) := by
  have e : nI i - nI N + 1 = nI i + 1 - nI N := by
    rw [Int32.sub_eq_add_neg, Int32.sub_eq_add_neg, Int32.add_assoc, Int32.add_comm (-nI N) 1, ← Int32.add_assoc]
  rw [e, add1, nb_sub h]
theorem firstC_lp {f near N : Nat} {mem : Mem} {S : PS} (hi : IV S) (hn : near < 1024) (hN1 : 1 ≤ N) (hN : N ≤ 30) (ha : AH mem S (240 + N)) : ∀ (d i n run : Nat), i + d = 240 + N → d < n → run < N → run ≤ i →
    dW_firstSilence_15 f n (nI N) (nI near) (nI run) (nI i) mem = some (oI (fs (fun k => muteS S near (ro S 0) (mi S + k)) N d run i), mem)
  | 0, i, n, run, e, hnn, hr, hri => by
    obtain ⟨n, rfl⟩ : ∃ k, n = k + 1 := ⟨n - 1, by omega⟩
    have e2 : (240 : Int32) + nI N = nI (240 + N) := nb_add 240 N
    rw [dW_firstSilence_15, e2, ← e, Nat.add_zero, if_neg (nlt_n (by omega))]
    rfl
  | d + 1, i, n, run, e, hnn, hr, hri => by
    obtain ⟨n, rfl⟩ : ∃ k, n = k + 1 := ⟨n - 1, by omega⟩
    have hd := dutyS_lt hi (ro S 0) (mi S + i)
    have e2 : (240 : Int32) + nI N = nI (240 + N) := nb_add 240 N
    have c270 : nI i < 270 := lt_n (c := 270) (by omega) (by omega)
    have hlt : dutyS S (ro S 0) (mi S + i) &&& near < 2 ^ 31 := Nat.lt_of_le_of_lt Nat.and_le_left (by omega)
    have k0 : nI (dutyS S (ro S 0) (mi S + i) &&& near) = 0 ↔ muteS S near (ro S 0) (mi S + i) = true := by
      rw [nb_zero hlt]
      unfold muteS
      rw [decide_eq_true_eq]
    have step : ∀ s, s ≤ N → s ≤ i + 1 → (if muteS S near (ro S 0) (mi S + i) = true then run + 1 else 0) = s → dW_firstSilence_55 f (fun x2_ x3_ x4_ x5_ mem_ => dW_firstSilence_15 f n x2_ x3_ x4_ x5_ mem_) (nI N) (nI near) (nI i) (nI s) mem = some (oI (fs (fun k => muteS S near (ro S 0) (mi S + k)) N (d + 1) run i), mem) := by
      intro s hs hsi hse
      unfold dW_firstSilence_55
      rw [fs, hse]
      by_cases c : s = N
      · rw [if_neg (by rw [nb_lt (by omega) (by omega)]; omega), if_pos c, subadd i N (by omega)]
        rfl
      · rw [if_pos (lt_n (by omega) (by omega)), if_neg c, add1]
        exact firstC_lp hi hn hN1 hN ha d (i + 1) n s (by omega) (by omega) (by omega) (by omega)
    rw [dW_firstSilence_15, e2, if_pos (lt_n (by omega) (by omega)), if_pos c270, ck_in _ (by omega) (by omega), nI_clamp (by omega), ha i (by omega), nb_and, add1]
    by_cases c : muteS S near (ro S 0) (mi S + i) = true
    · rw [if_pos (k0.mpr c)]
      exact step (run + 1) (by omega) (by omega) (if_pos c)
    · rw [if_neg (fun z => c (k0.mp z))]
      exact step 0 (by omega) (by omega) (if_neg c)
theorem safeM_lp {f room N : Nat} {mem : Mem} {S : PS} (hf : 2000 ≤ f) (hM : RM mem S) (hi : IV S) (hr : room ≤ 9) (hN1 : 1 ≤ N) (hN : N ≤ 30) : ∀ (d i n run : Nat), i + d = 240 + N → d < n → run < N → run ≤ i →
    dM_safeIn_12 f n (nI N) (nI (reachS S room)) (nI run) (nI i) mem = some (oI (fs (fun k => muteS S (nearS S room) (ro S 0) (mi S + k)) N d run i), mem)
  | 0, i, n, run, e, hnn, hrr, hri => by
    obtain ⟨n, rfl⟩ : ∃ k, n = k + 1 := ⟨n - 1, by omega⟩
    have e2 : (240 : Int32) + nI N = nI (240 + N) := nb_add 240 N
    rw [dM_safeIn_12, e2, ← e, Nat.add_zero, if_neg (nlt_n (by omega))]
    rfl
  | d + 1, i, n, run, e, hnn, hrr, hri => by
    obtain ⟨n, rfl⟩ : ∃ k, n = k + 1 := ⟨n - 1, by omega⟩
    have hm : mi S ≤ 200000 := hi.1
    have e2 : (240 : Int32) + nI N = nI (240 + N) := nb_add 240 N
    have step : ∀ s, s ≤ N → s ≤ i + 1 → (if muteS S (nearS S room) (ro S 0) (mi S + i) = true then run + 1 else 0) = s → dM_safeIn_50 f (fun x2_ x3_ x4_ x5_ mem_ => dM_safeIn_12 f n x2_ x3_ x4_ x5_ mem_) (nI N) (nI (reachS S room)) (nI i) (nI s) mem = some (oI (fs (fun k => muteS S (nearS S room) (ro S 0) (mi S + k)) N (d + 1) run i), mem) := by
      intro s hs hsi hse
      unfold dM_safeIn_50
      rw [fs, hse]
      by_cases c : s = N
      · rw [if_pos (by rw [c]), if_pos c, add1, nb_sub (by omega)]
        rfl
      · rw [if_neg (fun z => c ((nb_inj (by omega) (by omega)).mp z)), if_neg c, add1]
        exact safeM_lp hf hM hi hr hN1 hN d (i + 1) n s (by omega) (by omega) (by omega) (by omega)
    have U := isUn_ok (f := f) (walls := 1023) (t := mi S + i) hf hM hi (Nat.lt_trans (reachS_lt hi hr) (by decide)) (by omega) (by omega)
    rw [uh_mute, near_all hi] at U
    rw [dM_safeIn_12, e2, if_pos (lt_n (by omega) (by omega)), hM.1, nb_add, show dM_isUnheard f (nI (reachS S room)) (nI (mi S + i)) 1023 mem = _ from U, bd_ok, add1, if_b2]
    by_cases c : muteS S (nearS S room) (ro S 0) (mi S + i) = true
    · rw [if_pos c]
      exact step (run + 1) (by omega) (by omega) (if_pos c)
    · rw [if_neg c]
      exact step 0 (by omega) (by omega) (if_neg c)
def fsR (S : PS) (room N : Nat) : Option Nat := fs (fun k => muteS S (nearS S room) (ro S 0) (mi S + k)) N (240 + N) 0 0
theorem fsR_lt (S : PS) (room : Nat) {N : Nat} (hN : N ≤ 30) : ∀ k, fsR S room N = some k → k < 2 ^ 31 := fun k h => by
  have := fs_le _ _ _ _ _ k h
  omega
theorem firstC_ok {f room N : Nat} {mem : Mem} {S : PS} (hf : 2000 ≤ f) (hC : RC mem 0 S) (hi : IV S) (hr : room ≤ 9) (hN1 : 1 ≤ N) (hN : N ≤ 30) (ha : AH mem S (240 + N)) : dW_firstSilence f (nI room) (nI N) mem = some (oI (fsR S room N), mem) := by
  unfold dW_firstSilence
  rw [near_ok hf hC hi hr, bd_ok]
  exact firstC_lp hi (nearS_lt hi room) hN1 hN ha (240 + N) 0 f 0 (by omega) (by omega) (by omega) (by omega)
theorem safeM_ok {f room N : Nat} {mem : Mem} {S : PS} (hf : 2000 ≤ f) (hM : RM mem S) (hi : IV S) (hr : room ≤ 9) (hN1 : 1 ≤ N) (hN : N ≤ 30) : dM_safeIn f (nI room) (nI N) mem = some (oI (fsR S room N), mem) := by
  unfold dM_safeIn
  rw [reachM_ok hf hM hi hr, bd_ok]
  exact safeM_lp hf hM hi hr hN1 hN (240 + N) 0 f 0 (by omega) (by omega) (by omega) (by omega)
theorem INV_11 {mem m : Mem} (h : INV mem) (fx : Fz (rowZ 11) mem m) : INV m := by
  obtain ⟨S, hC, hM, hi, hm, hR⟩ := h
  exact ⟨S, RC_11 hC hi fx, RM_cl hM (fz11 fx), hi, hm, RS_fz hR (fz11 fx) notL_cl⟩
theorem CA_pre {A A' B : Mem → Option (Int32 × Mem)} {mem m : Mem} (h : A mem = A' m) (hc : CA A' B m) : CA A B mem := by
  obtain ⟨r, m1, m2, h1, h2, h3⟩ := hc
  exact ⟨r, m1, m2, h.trans h1, h2, h3⟩
theorem ca_safe {f : Nat} {mem : Mem} (hf : 2000 ≤ f) (hI : INV mem) (a1 a2 : Int32) : CA (dW_safe f a1 a2) (dM_safe f a1 a2) mem := by
  have hI' := hI
  obtain ⟨S, hC, hM, hi, hm, hR⟩ := hI'
  cases h1 : inb a1 0 9 with
  | false => exact find_B (f := f) hI (by unfold dW_safe; rw [W_isRoom, bd_ok, h1, ifz_f]) (fun m fx => by unfold dM_safe; rw [M_isRoom, bd_ok, h1, ifz_f])
  | true =>
  cases h2 : inb a2 1 30 with
  | false => exact find_B (f := f) hI (by unfold dW_safe; rw [W_isRoom, bd_ok, h1, ifz_t, W_in, bd_ok, h2, ifz_f]) (fun m fx => by unfold dM_safe; rw [M_isRoom, bd_ok, h1, ifz_t, M_in, bd_ok, h2, ifz_f])
  | true =>
    obtain ⟨r, -, hr, rfl⟩ := inb_t (a := 0) (n := 9) rfl (by omega) (by omega) h1
    obtain ⟨N, hN1, hN, rfl⟩ := inb_t (a := 1) (n := 30) rfl (by omega) (by omega) h2
    obtain ⟨m1, r1, r2, r3, r4⟩ := fore_ok (f := f) (N := 240 + N) hf hC hi (by omega)
    have e2 : (240 : Int32) + nI N = nI (240 + N) := nb_add 240 N
    have hM1 := RM_cl hM (fz11 r4)
    have ho := oI_neg (fsR_lt S r hN)
    have hA : dW_safe f (nI r) (nI N) mem = if oI (fsR S r N) < 0 then (bd (dW_finding f (-1000000004 : Int32) m1) (fun r7 m7 => some (r7, m7))) else (some (oI (fsR S r N), m1)) := by
      unfold dW_safe
      rw [W_isRoom, bd_ok, h1, ifz_t, W_in, bd_ok, h2, ifz_t, e2, r1, bd_ok, firstC_ok hf r2 hi hr hN1 hN r3, bd_ok]
    have hB : ∀ m, RM m S → dM_safe f (nI r) (nI N) m = if oI (fsR S r N) < 0 then (bd (dM_finds f (-1000000004 : Int32) m) (fun r7 m7 => some (r7, m7))) else (some (oI (fsR S r N), m)) := by
      intro m hMm
      unfold dM_safe
      rw [M_isRoom, bd_ok, h1, ifz_t, M_in, bd_ok, h2, ifz_t, safeM_ok hf hMm hi hr hN1 hN, bd_ok]
    have hI1 := INV_11 hI r4
    by_cases c : oI (fsR S r N) < 0
    · exact CA_pre (A' := fun m => bd (dW_finding f (-1000000004 : Int32) m) (fun r7 m7 => some (r7, m7))) (by rw [hA, if_pos c]) (find_N (f := f) hI1 rfl (fun m fx => by rw [hB m (RM_10 hM1 fx), if_pos c]))
    · exact ans_ca (by rw [hA, if_neg c]) (by rw [hB m1 hM1, if_neg c]) hI1
def whS (g : Nat → Option Nat) : Nat → Nat × Option Nat
  | 0 => (241, none)
  | i + 1 => match g i with
    | none => whS g i
    | some k => if k < (whS g i).1 then (k, some i) else whS g i
theorem whS_b (g : Nat → Option Nat) : ∀ i, (whS g i).1 ≤ 241 ∧ ∀ p, (whS g i).2 = some p → p < i
  | 0 => ⟨Nat.le_refl _, fun p h => by cases h⟩
  | i + 1 => by
    obtain ⟨h1, h2⟩ := whS_b g i
    rw [whS]
    cases g i with
    | none => exact ⟨h1, fun p h => Nat.lt_succ_of_lt (h2 p h)⟩
    | some k =>
      show ((if k < (whS g i).1 then (k, some i) else whS g i).1 ≤ 241 ∧ ∀ p, (if k < (whS g i).1 then (k, some i) else whS g i).2 = some p → p < i + 1)
      by_cases c : k < (whS g i).1
      · rw [if_pos c]
        exact ⟨by show k ≤ 241; omega, fun p h => by have := Option.some.inj h; omega⟩
      · rw [if_neg c]
        exact ⟨h1, fun p h => Nat.lt_succ_of_lt (h2 p h)⟩
theorem oI_ne {o : Option Nat} {i : Nat} (h : ∀ p, o = some p → p < i) (hi : i < 1000) : ¬ oI o = nI i := by
  cases o with
  | none =>
    intro z
    have := nI_pos (n := i) (by omega)
    rw [← z] at this
    exact this (by decide)
  | some p =>
    intro z
    have := (nb_inj (a := p) (b := i) (by have := h p rfl; omega) (by omega)).mp z
    have := h p rfl
    omega
theorem whereC_lp {f N : Nat} {mem : Mem} {S : PS} (hf : 2000 ≤ f) (hC : RC mem 0 S) (hi : IV S) (hN1 : 1 ≤ N) (hN : N ≤ 30) (ha : AH mem S (240 + N)) :
    dW_where_35 f f (nI N) 241 (-1) 0 mem = if oI (whS (fun r => fsR S r N) 10).2 < 0 then (bd (dW_finding f (-1000000004 : Int32) mem) (fun r7 m7 => some (r7, m7))) else some (oI (whS (fun r => fsR S r N) 10).2, mem) := by
  refine lp (fun n (x : Int32 × Int32 × Int32) => dW_where_35 f n (nI N) x.1 x.2.1 x.2.2 mem) (fun i => (nI (whS (fun r => fsR S r N) i).1, oI (whS (fun r => fsR S r N) i).2, nI i)) (c := 10) (fun n => ?_) (fun n i hc => ?_) 10 0 f (by omega) (by omega)
  · show dW_where_35 f (n + 1) _ _ _ _ mem = _
    rw [dW_where_35, if_neg (show ¬ nI 10 < (10 : Int32) by decide)]
  · show dW_where_35 f (n + 1) _ _ _ _ mem = dW_where_35 f n _ _ _ _ mem
    obtain ⟨b1, b2'⟩ := whS_b (fun r => fsR S r N) i
    have hk := fsR_lt S i hN
    rw [dW_where_35, if_pos (show nI i < (10 : Int32) from lt_n (c := 10) hc (by omega)), firstC_ok hf hC hi (by omega) hN1 hN ha, bd_ok, add1, whS]
    cases hg : fsR S i N with
    | none => rw [if_pos (by decide)]
    | some k =>
      have hk' := hk k hg
      show (if nI k < 0 then _ else if nI k < _ then _ else _) = _
      rw [if_neg (nI_pos hk')]
      have kk : nI k < nI (whS (fun r => fsR S r N) i).1 ↔ k < (whS (fun r => fsR S r N) i).1 := nb_lt hk' (by omega)
      by_cases c : k < (whS (fun r => fsR S r N) i).1
      · rw [if_pos (kk.mpr c)]
        show _ = dW_where_35 f n (nI N) (nI (if k < (whS (fun r => fsR S r N) i).1 then (k, some i) else whS (fun r => fsR S r N) i).1) (oI (if k < (whS (fun r => fsR S r N) i).1 then (k, some i) else whS (fun r => fsR S r N) i).2) _ mem
        rw [if_pos c]
        rfl
      · rw [if_neg (fun z => c (kk.mp z))]
        show _ = dW_where_35 f n (nI N) (nI (if k < (whS (fun r => fsR S r N) i).1 then (k, some i) else whS (fun r => fsR S r N) i).1) (oI (if k < (whS (fun r => fsR S r N) i).1 then (k, some i) else whS (fun r => fsR S r N) i).2) _ mem
        rw [if_neg c]
theorem whereM_lp {f N : Nat} {mem : Mem} {S : PS} (hf : 2000 ≤ f) (hM : RM mem S) (hi : IV S) (hN1 : 1 ≤ N) (hN : N ≤ 30) :
    dM_where_26 f f (nI N) (-1) 241 0 mem = if oI (whS (fun r => fsR S r N) 10).2 < 0 then (bd (dM_finds f (-1000000004 : Int32) mem) (fun r7 m7 => some (r7, m7))) else some (oI (whS (fun r => fsR S r N) 10).2, mem) := by
  refine lp (fun n (x : Int32 × Int32 × Int32) => dM_where_26 f n (nI N) x.2.1 x.1 x.2.2 mem) (fun i => (nI (whS (fun r => fsR S r N) i).1, oI (whS (fun r => fsR S r N) i).2, nI i)) (c := 10) (fun n => ?_) (fun n i hc => ?_) 10 0 f (by omega) (by omega)
  · show dM_where_26 f (n + 1) _ _ _ _ mem = _
    rw [dM_where_26, if_neg (show ¬ nI 10 < (10 : Int32) by decide)]
  · show dM_where_26 f (n + 1) _ _ _ _ mem = dM_where_26 f n _ _ _ _ mem
    obtain ⟨b1, b2'⟩ := whS_b (fun r => fsR S r N) i
    have hk := fsR_lt S i hN
    have hne := oI_ne (o := (whS (fun r => fsR S r N) i).2) (i := i) b2' (by omega)
    rw [dM_where_26, if_pos (show nI i < (10 : Int32) from lt_n (c := 10) hc (by omega)), safeM_ok hf hM hi (by omega) hN1 hN, bd_ok, whS]
    unfold dM_where_59
    rw [if_neg hne, if_pos rfl, add1]
    cases hg : fsR S i N with
    | none => rw [if_pos (by decide)]
    | some k =>
      have hk' := hk k hg
      show (if nI k < 0 then _ else if nI k < _ then _ else _) = _
      rw [if_neg (nI_pos hk')]
      have kk : nI k < nI (whS (fun r => fsR S r N) i).1 ↔ k < (whS (fun r => fsR S r N) i).1 := nb_lt hk' (by omega)
      by_cases c : k < (whS (fun r => fsR S r N) i).1
      · rw [if_pos (kk.mpr c)]
        show _ = dM_where_26 f n (nI N) (oI (if k < (whS (fun r => fsR S r N) i).1 then (k, some i) else whS (fun r => fsR S r N) i).2) (nI (if k < (whS (fun r => fsR S r N) i).1 then (k, some i) else whS (fun r => fsR S r N) i).1) _ mem
        rw [if_pos c]
        rfl
      · rw [if_neg (fun z => c (kk.mp z))]
        show _ = dM_where_26 f n (nI N) (oI (if k < (whS (fun r => fsR S r N) i).1 then (k, some i) else whS (fun r => fsR S r N) i).2) (nI (if k < (whS (fun r => fsR S r N) i).1 then (k, some i) else whS (fun r => fsR S r N) i).1) _ mem
        rw [if_neg c]
theorem ca_where {f : Nat} {mem : Mem} (hf : 2000 ≤ f) (hI : INV mem) (a2 : Int32) : CA (dW_where f a2) (dM_where f a2) mem := by
  have hI' := hI
  obtain ⟨S, hC, hM, hi, hm, hR⟩ := hI'
  cases h2 : inb a2 1 30 with
  | false => exact find_B (f := f) hI (by unfold dW_where; rw [W_in, bd_ok, h2, ifz_f]) (fun m fx => by unfold dM_where; rw [M_in, bd_ok, h2, ifz_f])
  | true =>
    obtain ⟨N, hN1, hN, rfl⟩ := inb_t (a := 1) (n := 30) rfl (by omega) (by omega) h2
    obtain ⟨m1, r1, r2, r3, r4⟩ := fore_ok (f := f) (N := 240 + N) hf hC hi (by omega)
    have e2 : (240 : Int32) + nI N = nI (240 + N) := nb_add 240 N
    have hM1 := RM_cl hM (fz11 r4)
    have hA : dW_where f (nI N) mem = _ := (by unfold dW_where; rw [W_in, bd_ok, h2, ifz_t, e2, r1, bd_ok] : dW_where f (nI N) mem = dW_where_35 f f (nI N) 241 (-1) 0 m1).trans (whereC_lp hf r2 hi hN1 hN r3)
    have hB : ∀ m, RM m S → dM_where f (nI N) m = _ := fun m hMm => (by unfold dM_where; rw [M_in, bd_ok, h2, ifz_t] : dM_where f (nI N) m = dM_where_26 f f (nI N) (-1) 241 0 m).trans (whereM_lp hf hMm hi hN1 hN)
    have hI1 := INV_11 hI r4
    by_cases c : oI (whS (fun r => fsR S r N) 10).2 < 0
    · exact CA_pre (A' := fun m => bd (dW_finding f (-1000000004 : Int32) m) (fun r7 m7 => some (r7, m7))) (by rw [hA, if_pos c]) (find_N (f := f) hI1 rfl (fun m fx => by rw [hB m (RM_10 hM1 fx), if_pos c]))
    · exact ans_ca (by rw [hA, if_neg c]) (by rw [hB m1 hM1, if_neg c]) hI1
