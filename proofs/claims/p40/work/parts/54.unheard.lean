/-! Unheard: who listens ahead; safe, where, quiet, worst. -/
def uhS (S : PS) (rooms walls t : Nat) : Nat → Bool
  | 0 => true
  | n + 1 => uhS S rooms walls t n && !(walls.testBit n && (atS S rooms n && onF S (ro S 0) n t))
theorem uhS_f (S : PS) (rooms walls t : Nat) : ∀ d n, uhS S rooms walls t n = false → uhS S rooms walls t (n + d) = false
  | 0, n, h => h
  | d + 1, n, h => by
    show uhS S rooms walls t (n + d + 1) = false
    rw [uhS, uhS_f S rooms walls t d n h]
    rfl
theorem uhS_iff (S : PS) (rooms walls t : Nat) : ∀ n, uhS S rooms walls t n = true ↔ ∀ i, i < n → ¬ (walls.testBit i = true ∧ atS S rooms i = true ∧ onF S (ro S 0) i t = true)
  | 0 => ⟨fun _ i hi => absurd hi (by omega), fun _ => rfl⟩
  | n + 1 => by
    rw [uhS, Bool.and_eq_true, uhS_iff S rooms walls t n]
    constructor
    · rintro ⟨h1, h2⟩ i hi ⟨a, b, c⟩
      by_cases e : i = n
      · subst e
        rw [a, b, c] at h2
        cases h2
      · exact h1 i (by omega) ⟨a, b, c⟩
    · intro h
      refine ⟨fun i hi => h i (by omega), ?_⟩
      have := h n (by omega)
      cases a : walls.testBit n <;> cases b : atS S rooms n <;> cases c : onF S (ro S 0) n t <;> first | rfl | exact absurd ⟨a, b, c⟩ this
theorem and_z (a b : Nat) : a &&& b = 0 ↔ ∀ i, ¬ (a.testBit i = true ∧ b.testBit i = true) := by
  constructor
  · intro h i ⟨h1, h2⟩
    have := congrArg (fun z => z.testBit i) h
    simp only [Nat.testBit_and, h1, h2, Nat.zero_testBit] at this
    cases this
  · intro h
    apply Nat.eq_of_testBit_eq
    intro i
    rw [Nat.testBit_and, Nat.zero_testBit]
    have := h i
    cases ha : a.testBit i <;> cases hb : b.testBit i <;> first | rfl | exact absurd ⟨ha, hb⟩ this
theorem duty_bit (S : PS) (b t i : Nat) : (dutyS S b t).testBit i = (decide (i < ct S) && onF S b i t) := by
  unfold dutyS
  rw [setB_bit]
theorem near_bt (S : PS) (room i : Nat) : (nearS S room).testBit i = (decide (i < ct S) && atS S (reachS S room) i) := by
  unfold nearS
  rw [setB_bit]
theorem uh_mute (S : PS) (room walls t : Nat) : uhS S (reachS S room) walls t (ct S) = muteS S (nearS S room &&& walls) (ro S 0) t := by
  have h : uhS S (reachS S room) walls t (ct S) = true ↔ muteS S (nearS S room &&& walls) (ro S 0) t = true := by
    rw [uhS_iff]
    unfold muteS
    rw [decide_eq_true_eq, and_z]
    constructor
    · intro h i ⟨h1, h2⟩
      rw [duty_bit, Bool.and_eq_true, decide_eq_true_eq] at h1
      rw [Nat.testBit_and, near_bt, Bool.and_eq_true, Bool.and_eq_true] at h2
      exact h i h1.1 ⟨h2.2, h2.1.2, h1.2⟩
    · intro h i hi ⟨h1, h2, h3⟩
      refine h i ⟨?_, ?_⟩
      · rw [duty_bit, h3, decide_eq_true hi]
        rfl
      · rw [Nat.testBit_and, near_bt, h1, h2, decide_eq_true hi]
        rfl
  cases a : uhS S (reachS S room) walls t (ct S) <;> cases b : muteS S (nearS S room &&& walls) (ro S 0) t <;> first | rfl | (rw [a, b] at h; exact absurd h (by decide))
theorem near_all {S : PS} (hi : IV S) (room : Nat) : nearS S room &&& 1023 = nearS S room := by
  have := nearS_lt hi room
  exact (Nat.and_two_pow_sub_one_eq_mod (nearS S room) 10).trans (Nat.mod_eq_of_lt this)
/-- in how many of N minutes nobody of these is on duty -/
def quS (S : PS) (near b N : Nat) : Nat := cntB (fun k => muteS S near b (mi S + k)) N
/-- the sets foreseen -/
def AH (mem : Mem) (S : PS) (N : Nat) : Prop := ∀ i, i < N → gI mem 11 0 i = nI (dutyS S (ro S 0) (mi S + i))
theorem fz11 {mem m : Mem} (h : Fz (rowZ 11) mem m) : Fz clZ mem m := Fz_mo h (fun t i j q => by
  have : t = 11 := of_decide_eq_true q
  subst this
  exact clZ_11 i j)
theorem RC_11 {mem m : Mem} {p : Nat} {S : PS} (h : RC mem p S) (hi : IV S) (fx : Fz (rowZ 11) mem m) : RC m p S := RC_fz h hi.2.2.2.2.2.2.2.1 fx (fun t i j q => by
  have := notPal q
  exact decide_eq_false (by omega))
theorem fore_lp {f N : Nat} {S : PS} (hf : 2000 ≤ f) (hi : IV S) (hN : N ≤ 270) : ∀ (d i n : Nat) (mem : Mem), i + d = N → d < n → RC mem 0 S → AH mem S i →
    ∃ m', dW_foresee_2 f n (nI N) (nI i) mem = some ((), m') ∧ RC m' 0 S ∧ AH m' S N ∧ Fz (rowZ 11) mem m'
  | 0, i, n, mem, e, hn, h, ha => by
    obtain ⟨n, rfl⟩ : ∃ k, n = k + 1 := ⟨n - 1, by omega⟩
    have e' : i = N := by omega
    subst e'
    rw [dW_foresee_2, if_neg (nlt_n (by omega))]
    exact ⟨mem, rfl, h, ha, Fz_rfl _ _⟩
  | d + 1, i, n, mem, e, hn, h, ha => by
    obtain ⟨n, rfl⟩ : ∃ k, n = k + 1 := ⟨n - 1, by omega⟩
    have hm : mi S ≤ 200000 := hi.1
    have c270 : nI i < 270 := lt_n (c := 270) (by omega) (by omega)
    rw [dW_foresee_2, if_pos (lt_n (by omega) (by omega)), if_pos c270, h.1, h.2.1 0 (by omega), nb_add, onDuty_ok hf h hi hi.2.1 hi.2.2.1 (by omega), bd_ok, ck_in _ (by omega) (by omega), nI_clamp (by omega), add1]
    have f1 : Fz (rowZ 11) mem (sI mem 11 0 i (nI (dutyS S (ro S 0) (mi S + i)))) := Fz_sI rfl
    obtain ⟨m', t1, t2, t3, t4⟩ := fore_lp hf hi hN d (i + 1) n _ (by omega) (by omega) (RC_11 h hi f1) (fun k hk => by
      rw [gI_sI]
      by_cases e : k = i
      · rw [if_pos ⟨rfl, rfl, e⟩, e]
      · rw [if_neg (fun z => e z.2.2)]
        exact ha k (by omega))
    exact ⟨m', t1, t2, t3, Fz_tr f1 t4⟩
theorem fore_ok {f N : Nat} {mem : Mem} {S : PS} (hf : 2000 ≤ f) (h : RC mem 0 S) (hi : IV S) (hN : N ≤ 270) :
    ∃ m', dW_foresee f (nI N) mem = some ((), m') ∧ RC m' 0 S ∧ AH m' S N ∧ Fz (rowZ 11) mem m' :=
  fore_lp hf hi hN N 0 f mem (by omega) (by omega) h (fun i hi => absurd hi (by omega))
def fs (mu : Nat → Bool) (N : Nat) : Nat → Nat → Nat → Option Nat
  | 0, _, _ => none
  | d + 1, run, i => if (if mu i = true then run + 1 else 0) = N then some (i + 1 - N) else fs mu N d (if mu i = true then run + 1 else 0) (i + 1)
def oI : Option Nat → Int32
  | none => -1
  | some k => nI k
theorem fs_le (mu : Nat → Bool) (N : Nat) : ∀ d run i k, fs mu N d run i = some k → k < i + d + 1
  | 0, _, _, _, h => by cases h
  | d + 1, run, i, k, h => by
    rw [fs] at h
    by_cases c : (if mu i = true then run + 1 else 0) = N
    · rw [if_pos c] at h
      have := Option.some.inj h
      omega
    · rw [if_neg c] at h
      have := fs_le mu N d _ _ k h
      omega
theorem oI_neg {o : Option Nat} (h : ∀ k, o = some k → k < 2 ^ 31) : oI o < 0 ↔ o = none := by
  cases o with
  | none => exact ⟨fun _ => rfl, fun _ => (by decide : (-1 : Int32) < 0)⟩
  | some k => exact ⟨fun z => absurd z (nI_pos (h k rfl)), fun z => by cases z⟩
theorem subadd (i N : Nat) (h : N ≤ i + 1) : nI i - nI N + 1 = nI (i + 1 - N) := by
  have e : nI i - nI N + 1 = nI i + 1 - nI N := by
    rw [Int32.sub_eq_add_neg, Int32.sub_eq_add_neg, Int32.add_assoc, Int32.add_comm (-nI N) 1, ← Int32.add_assoc]
  rw [e, add1, nb_sub h]
theorem firstC_lp {f near N : Nat} {mem : Mem} {S : PS} (hi : IV S) (hn : near < 1024) (hN1 : 1 ≤ N) (hN : N ≤ 30) (ha : AH mem S (240 + N)) : ∀ (d i n run : Nat), i + d = 240 + N → d < n → run < N → run ≤ i →
    dW_firstSilence_15 f n (nI N) (nI near) (nI run) (nI i) mem = some (oI (fs (fun k => muteS S near (ro S 0) (mi S + k)) N d run i), mem)
  | 0, i, n, run, e, hnn, hr, hri => by
    obtain ⟨n, rfl⟩ : ∃ k, n = k + 1 := ⟨n - 1, by omega⟩
    have e2 : (240 : Int32) + nI N = nI (240 + N) := nb_add 240 N
    rw [dW_firstSilence_15, e2, ← e, Nat.add_zero, if_neg (nlt_n (by omega))]
    rfl
  | d + 1, i, n, run, e, hnn, hr, hri => by
    obtain ⟨n, rfl⟩ : ∃ k, n = k + 1 := ⟨n - 1, by omega⟩
    have hd := dutyS_lt hi (ro S 0) (mi S + i)
    have e2 : (240 : Int32) + nI N = nI (240 + N) := nb_add 240 N
    have c270 : nI i < 270 := lt_n (c := 270) (by omega) (by omega)
    have hlt : dutyS S (ro S 0) (mi S + i) &&& near < 2 ^ 31 := Nat.lt_of_le_of_lt Nat.and_le_left (by omega)
    have k0 : nI (dutyS S (ro S 0) (mi S + i) &&& near) = 0 ↔ muteS S near (ro S 0) (mi S + i) = true := by
      rw [nb_zero hlt]
      unfold muteS
      rw [decide_eq_true_eq]
    have step : ∀ s, s ≤ N → s ≤ i + 1 → (if muteS S near (ro S 0) (mi S + i) = true then run + 1 else 0) = s → dW_firstSilence_55 f (fun x2_ x3_ x4_ x5_ mem_ => dW_firstSilence_15 f n x2_ x3_ x4_ x5_ mem_) (nI N) (nI near) (nI i) (nI s) mem = some (oI (fs (fun k => muteS S near (ro S 0) (mi S + k)) N (d + 1) run i), mem) := by
      intro s hs hsi hse
      unfold dW_firstSilence_55
      rw [fs, hse]
      by_cases c : s = N
      · rw [if_neg (by rw [nb_lt (by omega) (by omega)]; omega), if_pos c, subadd i N (by omega)]
        rfl
      · rw [if_pos (lt_n (by omega) (by omega)), if_neg c, add1]
        exact firstC_lp hi hn hN1 hN ha d (i + 1) n s (by omega) (by omega) (by omega) (by omega)
    rw [dW_firstSilence_15, e2, if_pos (lt_n (by omega) (by omega)), if_pos c270, ck_in _ (by omega) (by omega), nI_clamp (by omega), ha i (by omega), nb_and, add1]
    by_cases c : muteS S near (ro S 0) (mi S + i) = true
    · rw [if_pos (k0.mpr c)]
      exact step (run + 1) (by omega) (by omega) (if_pos c)
    · rw [if_neg (fun z => c (k0.mp z))]
      exact step 0 (by omega) (by omega) (if_neg c)
def fsR (S : PS) (room N : Nat) : Option Nat := fs (fun k => muteS S (nearS S room) (ro S 0) (mi S + k)) N (240 + N) 0 0
theorem fsR_lt (S : PS) (room : Nat) {N : Nat} (hN : N ≤ 30) : ∀ k, fsR S room N = some k → k < 2 ^ 31 := fun k h => by
  have := fs_le _ _ _ _ _ k h
  omega
theorem firstC_ok {f room N : Nat} {mem : Mem} {S : PS} (hf : 2000 ≤ f) (hC : RC mem 0 S) (hi : IV S) (hr : room ≤ 9) (hN1 : 1 ≤ N) (hN : N ≤ 30) (ha : AH mem S (240 + N)) : dW_firstSilence f (nI room) (nI N) mem = some (oI (fsR S room N), mem) := by
  unfold dW_firstSilence
  rw [near_ok hf hC hi hr, bd_ok]
  exact firstC_lp hi (nearS_lt hi room) hN1 hN ha (240 + N) 0 f 0 (by omega) (by omega) (by omega) (by omega)
def whS (g : Nat → Option Nat) : Nat → Nat × Option Nat
  | 0 => (241, none)
  | i + 1 => match g i with
    | none => whS g i
    | some k => if k < (whS g i).1 then (k, some i) else whS g i
theorem whS_b (g : Nat → Option Nat) : ∀ i, (whS g i).1 ≤ 241 ∧ ∀ p, (whS g i).2 = some p → p < i
  | 0 => ⟨Nat.le_refl _, fun p h => by cases h⟩
  | i + 1 => by
    obtain ⟨h1, h2⟩ := whS_b g i
    rw [whS]
    cases g i with
    | none => exact ⟨h1, fun p h => Nat.lt_succ_of_lt (h2 p h)⟩
    | some k =>
      show ((if k < (whS g i).1 then (k, some i) else whS g i).1 ≤ 241 ∧ ∀ p, (if k < (whS g i).1 then (k, some i) else whS g i).2 = some p → p < i + 1)
      by_cases c : k < (whS g i).1
      · rw [if_pos c]
        exact ⟨by show k ≤ 241; omega, fun p h => by have := Option.some.inj h; omega⟩
      · rw [if_neg c]
        exact ⟨h1, fun p h => Nat.lt_succ_of_lt (h2 p h)⟩
theorem oI_ne {o : Option Nat} {i : Nat} (h : ∀ p, o = some p → p < i) (hi : i < 1000) : ¬ oI o = nI i := by
  cases o with
  | none =>
    intro z
    have := nI_pos (n := i) (by omega)
    rw [← z] at this
    exact this (by decide)
  | some p =>
    intro z
    have := (nb_inj (a := p) (b := i) (by have := h p rfl; omega) (by omega)).mp z
    have := h p rfl
    omega
theorem whereC_lp {f N : Nat} {mem : Mem} {S : PS} (hf : 2000 ≤ f) (hC : RC mem 0 S) (hi : IV S) (hN1 : 1 ≤ N) (hN : N ≤ 30) (ha : AH mem S (240 + N)) :
    dW_where_35 f f (nI N) 241 (-1) 0 mem = if oI (whS (fun r => fsR S r N) 10).2 < 0 then (bd (dW_finding f (-1000000004 : Int32) mem) (fun r7 m7 => some (r7, m7))) else some (oI (whS (fun r => fsR S r N) 10).2, mem) := by
  refine lp (fun n (x : Int32 × Int32 × Int32) => dW_where_35 f n (nI N) x.1 x.2.1 x.2.2 mem) (fun i => (nI (whS (fun r => fsR S r N) i).1, oI (whS (fun r => fsR S r N) i).2, nI i)) (c := 10) (fun n => ?_) (fun n i hc => ?_) 10 0 f (by omega) (by omega)
  · show dW_where_35 f (n + 1) _ _ _ _ mem = _
    rw [dW_where_35, if_neg (show ¬ nI 10 < (10 : Int32) by decide)]
  · show dW_where_35 f (n + 1) _ _ _ _ mem = dW_where_35 f n _ _ _ _ mem
    obtain ⟨b1, b2'⟩ := whS_b (fun r => fsR S r N) i
    have hk := fsR_lt S i hN
    rw [dW_where_35, if_pos (show nI i < (10 : Int32) from lt_n (c := 10) hc (by omega)), firstC_ok hf hC hi (by omega) hN1 hN ha, bd_ok, add1, whS]
    cases hg : fsR S i N with
    | none => rw [if_pos (by decide)]
    | some k =>
      have hk' := hk k hg
      show (if nI k < 0 then _ else if nI k < _ then _ else _) = _
      rw [if_neg (nI_pos hk')]
      have kk : nI k < nI (whS (fun r => fsR S r N) i).1 ↔ k < (whS (fun r => fsR S r N) i).1 := nb_lt hk' (by omega)
      by_cases c : k < (whS (fun r => fsR S r N) i).1
      · rw [if_pos (kk.mpr c)]
        show _ = dW_where_35 f n (nI N) (nI (if k < (whS (fun r => fsR S r N) i).1 then (k, some i) else whS (fun r => fsR S r N) i).1) (oI (if k < (whS (fun r => fsR S r N) i).1 then (k, some i) else whS (fun r => fsR S r N) i).2) _ mem
        rw [if_pos c]
        rfl
      · rw [if_neg (fun z => c (kk.mp z))]
        show _ = dW_where_35 f n (nI N) (nI (if k < (whS (fun r => fsR S r N) i).1 then (k, some i) else whS (fun r => fsR S r N) i).1) (oI (if k < (whS (fun r => fsR S r N) i).1 then (k, some i) else whS (fun r => fsR S r N) i).2) _ mem
        rw [if_neg c]
