/-! worst and cover. -/
theorem one_z {x w : Nat} (hw : w < 10) (hx : x < 1024) : x &&& (1023 ^^^ 2 ^ w) = 0 ↔ x = 0 ∨ x = 2 ^ w := by
  have b : ∀ i, (1023 ^^^ 2 ^ w).testBit i = (decide (i < 10) && !decide (w = i)) := by
    intro i
    rw [Nat.testBit_xor, show (1023 : Nat) = 2 ^ 10 - 1 from rfl, Nat.testBit_two_pow_sub_one, Nat.testBit_two_pow]
    by_cases h1 : i < 10 <;> by_cases h2 : w = i <;> simp [h1, h2]
    omega
  have hb : ∀ i, x.testBit i = true → i < 10 := fun i h => by
    by_cases c : i < 10
    · exact c
    · rw [Nat.testBit_lt_two_pow (Nat.lt_of_lt_of_le hx (Nat.pow_le_pow_right (by decide) (by omega) : 2 ^ 10 ≤ 2 ^ i))] at h
      cases h
  constructor
  · intro h
    have h1 := (and_z _ _).mp h
    have h2 : ∀ i, x.testBit i = true → w = i := fun i hi => by
      have := h1 i
      rw [b] at this
      by_cases e : w = i
      · exact e
      · exact absurd ⟨hi, by rw [decide_eq_true (hb i hi), decide_eq_false e]; rfl⟩ this
    by_cases c : x.testBit w = true
    · right
      apply Nat.eq_of_testBit_eq
      intro i
      rw [Nat.testBit_two_pow]
      by_cases e : w = i
      · subst e
        simp [c]
      · rw [decide_eq_false e]
        cases g : x.testBit i with
        | false => rfl
        | true => exact absurd (h2 i g) e
    · left
      apply Nat.eq_of_testBit_eq
      intro i
      rw [Nat.zero_testBit]
      cases g : x.testBit i with
      | false => rfl
      | true =>
        have := h2 i g
        subst this
        exact absurd g c
  · rintro (h | h)
    · rw [h, Nat.zero_and]
    · rw [h, and_z]
      rintro i ⟨h1, h2⟩
      rw [b] at h2
      rw [Nat.testBit_two_pow] at h1
      have := of_decide_eq_true h1
      subst this
      simp at h2
/-- in how many of N minutes one alone of these is on duty -/
def alS (S : PS) (near w N : Nat) : Nat := cntB (fun k => decide (dutyS S (ro S 0) (mi S + k) &&& near = 2 ^ w)) N
theorem alone_sum {S : PS} (hi : IV S) (near : Nat) (w N : Nat) (hw : w < 10) : quS S (near &&& (1023 ^^^ 2 ^ w)) (ro S 0) N = quS S near (ro S 0) N + alS S near w N := by
  unfold quS alS
  induction N with
  | zero => rfl
  | succ N ih =>
    rw [cntB, cntB, cntB, ih]
    have hd := dutyS_lt hi (ro S 0) (mi S + N)
    have hlt : dutyS S (ro S 0) (mi S + N) &&& near < 1024 := Nat.lt_of_le_of_lt Nat.and_le_left hd
    have key := one_z (x := dutyS S (ro S 0) (mi S + N) &&& near) hw hlt
    have hp : 0 < 2 ^ w := Nat.two_pow_pos w
    have e : muteS S (near &&& (1023 ^^^ 2 ^ w)) (ro S 0) (mi S + N) = decide (dutyS S (ro S 0) (mi S + N) &&& near = 0 ∨ dutyS S (ro S 0) (mi S + N) &&& near = 2 ^ w) := by
      unfold muteS
      rw [← Nat.and_assoc]
      exact decide_eq_decide.mpr key
    have e2 : muteS S near (ro S 0) (mi S + N) = decide (dutyS S (ro S 0) (mi S + N) &&& near = 0) := rfl
    rw [e, e2]
    simp only [decide_eq_true_eq]
    generalize dutyS S (ro S 0) (mi S + N) &&& near = x
    by_cases c0 : x = 0
    · have : ¬ x = 2 ^ w := by omega
      rw [if_pos (Or.inl c0), if_pos c0, if_neg this]
      omega
    · by_cases c1 : x = 2 ^ w
      · rw [if_pos (Or.inr c1), if_neg c0, if_pos c1]
        omega
      · rw [if_neg (by rintro (z | z); exact c0 z; exact c1 z), if_neg c0, if_neg c1]
        omega
theorem alC_ok {f near w N : Nat} {mem : Mem} {S : PS} (hf : 2000 ≤ f) (hi : IV S) (hn : near < 1024) (hw : w < 10) (hN : N ≤ 240) (ha : AH mem S N) : dW_minutesAlone f (nI (2 ^ w)) (nI near) (nI N) mem = some (nI (alS S near w N), mem) := by
  refine lp (fun n (x : Int32 × Int32) => dW_minutesAlone_6 f n (nI (2 ^ w)) (nI near) (nI N) x.1 x.2 mem) (fun i => (nI (alS S near w i), nI i)) (c := N) (fun n => ?_) (fun n i hc => ?_) N 0 f (by omega) (by omega)
  · show dW_minutesAlone_6 f (n + 1) _ _ _ _ _ mem = _
    rw [dW_minutesAlone_6, if_neg (nlt_n (by omega))]
  · show dW_minutesAlone_6 f (n + 1) _ _ _ _ _ mem = dW_minutesAlone_6 f n _ _ _ _ _ mem
    have hd := dutyS_lt hi (ro S 0) (mi S + i)
    have hlt : dutyS S (ro S 0) (mi S + i) &&& near < 1024 := Nat.lt_of_le_of_lt Nat.and_le_left hd
    have hp : 2 ^ w < 2 ^ 10 := Nat.pow_lt_pow_right (by decide) hw
    have k0 : nI (dutyS S (ro S 0) (mi S + i) &&& near) = nI (2 ^ w) ↔ dutyS S (ro S 0) (mi S + i) &&& near = 2 ^ w := nb_inj (by omega) (by omega)
    rw [dW_minutesAlone_6, if_pos (lt_n hc (by omega)), if_pos (show nI i < (270 : Int32) from lt_n (c := 270) (by omega) (by omega)), ck_in _ (by omega) (by omega), nI_clamp (by omega), ha i hc, nb_and, add1, add0, add1]
    unfold alS
    rw [cntB]
    by_cases c : dutyS S (ro S 0) (mi S + i) &&& near = 2 ^ w
    · rw [if_pos (k0.mpr c), decide_eq_true c, if_pos rfl]
    · rw [if_neg (fun z => c (k0.mp z)), decide_eq_false c, if_neg (by decide)]
      rfl
def woS (g : Nat → Nat) : Nat → Nat × Option Nat
  | 0 => (0, none)
  | i + 1 => if (woS g i).1 < g i then (g i, some i) else woS g i
theorem woS_b (g : Nat → Nat) {B : Nat} (hg : ∀ i, g i ≤ B) : ∀ i, (woS g i).1 ≤ B ∧ ∀ p, (woS g i).2 = some p → p < i
  | 0 => ⟨Nat.zero_le _, fun p h => by cases h⟩
  | i + 1 => by
    obtain ⟨h1, h2⟩ := woS_b g hg i
    rw [woS]
    by_cases c : (woS g i).1 < g i
    · rw [if_pos c]
      exact ⟨hg i, fun p h => by have := Option.some.inj h; omega⟩
    · rw [if_neg c]
      exact ⟨h1, fun p h => Nat.lt_succ_of_lt (h2 p h)⟩
/-- whether these hear in each of N minutes -/
def covB (S : PS) (these N : Nat) : Bool := decide (quS S these (ro S 0) N = 0)
theorem cntB_z (p : Nat → Bool) : ∀ n, cntB p n = 0 ↔ ∀ i, i < n → p i = false
  | 0 => ⟨fun _ i hi => absurd hi (by omega), fun _ => rfl⟩
  | n + 1 => by
    rw [cntB]
    constructor
    · intro h i hi
      by_cases e : i = n
      · subst e
        cases c : p i with
        | false => rfl
        | true =>
          rw [c, if_pos rfl] at h
          omega
      · exact (cntB_z p n).mp (by omega) i (by omega)
    · intro h
      rw [h n (by omega), (cntB_z p n).mpr (fun i hi => h i (by omega))]
      rfl
theorem covB_iff (S : PS) (these N : Nat) : covB S these N = true ↔ ∀ i, i < N → muteS S these (ro S 0) (mi S + i) = false := by
  unfold covB quS
  rw [decide_eq_true_eq, cntB_z]
theorem always_lp {f these N : Nat} {mem : Mem} {S : PS} (hi : IV S) (ht : these < 1024) (hN : N ≤ 240) (ha : AH mem S N) : ∀ (d i n : Nat), i + d = N → d < n → (∀ k, k < i → muteS S these (ro S 0) (mi S + k) = false) →
    dW_hearsAlways_2 f n (nI these) (nI N) (nI i) mem = some (nI (b2 (covB S these N)), mem)
  | 0, i, n, e, hn, h => by
    obtain ⟨n, rfl⟩ : ∃ k, n = k + 1 := ⟨n - 1, by omega⟩
    have e' : i = N := by omega
    subst e'
    rw [dW_hearsAlways_2, if_neg (nlt_n (by omega)), (covB_iff S these i).mpr h]
    rfl
  | d + 1, i, n, e, hn, h => by
    obtain ⟨n, rfl⟩ : ∃ k, n = k + 1 := ⟨n - 1, by omega⟩
    have hd := dutyS_lt hi (ro S 0) (mi S + i)
    have hlt : dutyS S (ro S 0) (mi S + i) &&& these < 2 ^ 31 := Nat.lt_of_le_of_lt Nat.and_le_left (by omega)
    rw [dW_hearsAlways_2, if_pos (lt_n (by omega) (by omega)), if_pos (show nI i < (270 : Int32) from lt_n (c := 270) (by omega) (by omega)), ck_in _ (by omega) (by omega), nI_clamp (by omega), ha i (by omega), nb_and, add1]
    cases c : muteS S these (ro S 0) (mi S + i) with
    | true =>
      have hz : dutyS S (ro S 0) (mi S + i) &&& these = 0 := of_decide_eq_true c
      rw [if_pos (by rw [nb_zero hlt]; exact hz)]
      have : covB S these N = false := by
        cases g : covB S these N with
        | false => rfl
        | true =>
          have := (covB_iff S these N).mp g i (by omega)
          rw [c] at this
          cases this
      rw [this]
      rfl
    | false =>
      have hz : ¬ dutyS S (ro S 0) (mi S + i) &&& these = 0 := of_decide_eq_false c
      rw [if_neg (by rw [nb_zero hlt]; exact hz)]
      exact always_lp hi ht hN ha d (i + 1) n (by omega) (by omega) (fun k hk => by
        by_cases e : k = i
        · rw [e]; exact c
        · exact h k (by omega))
theorem always_ok {f these N : Nat} {mem : Mem} {S : PS} (hf : 2000 ≤ f) (hi : IV S) (ht : these < 1024) (hN : N ≤ 240) (ha : AH mem S N) : dW_hearsAlways f (nI these) (nI N) mem = some (nI (b2 (covB S these N)), mem) :=
  always_lp hi ht hN ha N 0 f (by omega) (by omega) (fun k hk => absurd hk (by omega))
/-- the reference's way -/
def mcS (cov : Nat → Bool) : Nat → Option Nat
  | 0 => none
  | s + 1 => match mcS cov s with
    | none => if cov s = true then some s else none
    | some b => if bcN s < bcN b ∧ cov s = true then some s else some b
/-- the class's way -/
def wcS (near : Nat) (cov : Nat → Bool) : Nat → Nat
  | 0 => near
  | s + 1 => if s &&& near = s ∧ bcN s < bcN (wcS near cov s) ∧ cov s = true then s else wcS near cov s
theorem mcS_p (cov : Nat → Bool) : ∀ s, (∀ b, mcS cov s = some b → b < s ∧ cov b = true ∧ ∀ t, t < s → cov t = true → bcN b ≤ bcN t) ∧ (mcS cov s = none → ∀ t, t < s → cov t = false)
  | 0 => ⟨fun b h => (by cases h), fun _ t ht => absurd ht (by omega)⟩
  | s + 1 => by
    obtain ⟨h1, h2⟩ := mcS_p cov s
    rw [mcS]
    cases hm : mcS cov s with
    | none =>
      have h2' := h2 hm
      by_cases c : cov s = true
      · refine ⟨fun b hb => ?_, fun hb => ?_⟩
        · have hb' : (if cov s = true then some s else none) = some b := hb
          rw [if_pos c] at hb'
          have := Option.some.inj hb'
          subst this
          refine ⟨by omega, c, fun t ht hc => ?_⟩
          by_cases e : t = s
          · rw [e]
            exact Nat.le_refl _
          · rw [h2' t (by omega)] at hc
            cases hc
        · have hb' : (if cov s = true then some s else none) = none := hb
          rw [if_pos c] at hb'
          cases hb'
      · refine ⟨fun b hb => ?_, fun hb t ht => ?_⟩
        · have hb' : (if cov s = true then some s else none) = some b := hb
          rw [if_neg c] at hb'
          cases hb'
        · by_cases e : t = s
          · rw [e]
            exact Bool.not_eq_true _ ▸ c
          · exact h2' t (by omega)
    | some b0 =>
      obtain ⟨g1, g2, g3⟩ := h1 b0 hm
      by_cases c : bcN s < bcN b0 ∧ cov s = true
      · refine ⟨fun b hb => ?_, fun hb => ?_⟩
        · have hb' : (if bcN s < bcN b0 ∧ cov s = true then some s else some b0) = some b := hb
          rw [if_pos c] at hb'
          have := Option.some.inj hb'
          subst this
          refine ⟨by omega, c.2, fun t ht hc => ?_⟩
          by_cases e : t = s
          · rw [e]
            exact Nat.le_refl _
          · have := g3 t (by omega) hc
            omega
        · have hb' : (if bcN s < bcN b0 ∧ cov s = true then some s else some b0) = none := hb
          rw [if_pos c] at hb'
          cases hb'
      · refine ⟨fun b hb => ?_, fun hb => ?_⟩
        · have hb' : (if bcN s < bcN b0 ∧ cov s = true then some s else some b0) = some b := hb
          rw [if_neg c] at hb'
          have := Option.some.inj hb'
          subst this
          refine ⟨by omega, g2, fun t ht hc => ?_⟩
          by_cases e : t = s
          · subst e
            by_cases q : bcN t < bcN b0
            · exact absurd ⟨q, hc⟩ c
            · omega
          · exact g3 t (by omega) hc
        · have hb' : (if bcN s < bcN b0 ∧ cov s = true then some s else some b0) = none := hb
          rw [if_neg c] at hb'
          cases hb'
/-- one that isn't among those near never is better -/
theorem mcS_no {near : Nat} {cov : Nat → Bool} (hc : ∀ s, cov (near &&& s) = cov s) {s : Nat} (hs : s < 1024) (hn : near &&& s ≠ s) : mcS cov (s + 1) = mcS cov s := by
  obtain ⟨h1, h2⟩ := mcS_p cov s
  have hle : near &&& s ≤ s := Nat.and_le_right
  rw [mcS]
  cases c : cov s with
  | false =>
    cases hm : mcS cov s with
    | none => rfl
    | some b => simp
  | true =>
    have ct : cov (near &&& s) = true := (hc s).trans c
    have hsub : (near &&& s) &&& s = near &&& s := by rw [Nat.and_assoc, Nat.and_self]
    have hlt := bc_part 10 (near &&& s) s (by omega) hs hsub hn
    cases hm : mcS cov s with
    | none =>
      have := h2 hm (near &&& s) (by omega)
      rw [ct] at this
      cases this
    | some b =>
      have := (h1 b hm).2.2 (near &&& s) (by omega) ct
      have q : ¬ (bcN s < bcN b ∧ true = true) := by omega
      show (if bcN s < bcN b ∧ true = true then some s else some b) = some b
      rw [if_neg q]
theorem mc_wc {near : Nat} {cov : Nat → Bool} (hnr : near < 1024) (hc : ∀ s, cov (near &&& s) = cov s) : ∀ s, s ≤ near → wcS near cov s = (mcS cov s).getD near
  | 0, _ => rfl
  | s + 1, hs => by
    have ih := mc_wc hnr hc s (by omega)
    obtain ⟨h1, h2⟩ := mcS_p cov s
    rw [wcS, ih]
    by_cases c : near &&& s = s
    · have c' : s &&& near = s := by rw [Nat.and_comm]; exact c
      have hlt : bcN s < bcN near := bc_part 10 s near (by omega) hnr c' (by omega)
      rw [mcS]
      cases hm : mcS cov s with
      | none =>
        show (if s &&& near = s ∧ bcN s < bcN near ∧ cov s = true then s else near) = (if cov s = true then some s else none).getD near
        by_cases g : cov s = true
        · rw [if_pos ⟨c', hlt, g⟩, if_pos g]
          rfl
        · rw [if_neg (fun z => g z.2.2), if_neg g]
          rfl
      | some b =>
        show (if s &&& near = s ∧ bcN s < bcN b ∧ cov s = true then s else b) = (if bcN s < bcN b ∧ cov s = true then some s else some b).getD near
        by_cases g : bcN s < bcN b ∧ cov s = true
        · rw [if_pos ⟨c', g⟩, if_pos g]
          rfl
        · rw [if_neg (fun z => g z.2), if_neg g]
          rfl
    · rw [mcS_no hc (by omega) c, if_neg (fun z => c (by rw [Nat.and_comm]; exact z.1))]
theorem mc_at {near : Nat} {cov : Nat → Bool} (hnr : near < 1024) (hc : ∀ s, cov (near &&& s) = cov s) (hcn : cov near = true) : mcS cov (near + 1) = some (wcS near cov near) := by
  obtain ⟨h1, h2⟩ := mcS_p cov near
  rw [mc_wc hnr hc near (Nat.le_refl _), mcS]
  cases hm : mcS cov near with
  | none =>
    show (if cov near = true then some near else none) = _
    rw [if_pos hcn]
    rfl
  | some b =>
    obtain ⟨g1, g2, g3⟩ := h1 b hm
    show (if bcN near < bcN b ∧ cov near = true then some near else some b) = some b
    rw [if_neg]
    rintro ⟨z, -⟩
    have hle : near &&& b ≤ b := Nat.and_le_right
    by_cases e : near &&& b = b
    · have := bc_part 10 b near (by omega) hnr (by rw [Nat.and_comm]; exact e) (by omega)
      omega
    · have hlt := bc_part 10 (near &&& b) b (by omega) (by omega) (by rw [Nat.and_assoc, Nat.and_self]) e
      have := g3 (near &&& b) (by omega) ((hc b).trans g2)
      omega
theorem mc_end {near : Nat} {cov : Nat → Bool} (hnr : near < 1024) (hc : ∀ s, cov (near &&& s) = cov s) (hcn : cov near = true) : ∀ d, near + d < 1024 → mcS cov (near + 1 + d) = some (wcS near cov near)
  | 0, _ => mc_at hnr hc hcn
  | d + 1, h => by
    have hne : near &&& (near + 1 + d) ≠ near + 1 + d := fun z => by
      have : near &&& (near + 1 + d) ≤ near := Nat.and_le_left
      omega
    exact (mcS_no hc (s := near + 1 + d) (by omega) hne).trans (mc_end hnr hc hcn d (by omega))
theorem mc_none {cov : Nat → Bool} (h : ∀ s, cov s = false) : ∀ s, mcS cov s = none
  | 0 => rfl
  | s + 1 => by
    rw [mcS, mc_none h s]
    show (if cov s = true then some s else none) = none
    rw [h s]
    rfl
theorem sub_z {a b : Nat} (ha : a < 2 ^ 31) : (nI a &&& (nI b ^^^ (-1 : Int32)) = 0) ↔ a &&& b = a := by
  have e1 : (-1 : Int32) = nI 4294967295 := by decide
  have hlt : a &&& (b ^^^ 4294967295) < 2 ^ 31 := Nat.lt_of_le_of_lt Nat.and_le_left ha
  have hb : ∀ i, a.testBit i = true → i < 32 := fun i h => by
    by_cases c : i < 32
    · exact c
    · rw [Nat.testBit_lt_two_pow (Nat.lt_of_lt_of_le ha (Nat.pow_le_pow_right (by decide) (by omega) : 2 ^ 31 ≤ 2 ^ i))] at h
      cases h
  have b2 : ∀ i, (b ^^^ 4294967295).testBit i = (b.testBit i ^^ decide (i < 32)) := fun i => by
    rw [Nat.testBit_xor, show (4294967295 : Nat) = 2 ^ 32 - 1 from rfl, Nat.testBit_two_pow_sub_one]
  rw [e1, nb_xor, nb_and, nb_zero hlt, and_z]
  constructor
  · intro h
    apply Nat.eq_of_testBit_eq
    intro i
    rw [Nat.testBit_and]
    cases ha' : a.testBit i with
    | false => rfl
    | true =>
      have := h i
      rw [b2, ha', decide_eq_true (hb i ha')] at this
      cases hbb : b.testBit i with
      | true => rfl
      | false => rw [hbb] at this; exact absurd ⟨rfl, rfl⟩ this
  · intro h i ⟨h1, h2⟩
    rw [b2, decide_eq_true (hb i h1)] at h2
    have h3 : (a &&& b).testBit i = true := by rw [h]; exact h1
    rw [Nat.testBit_and, h1, Bool.true_and] at h3
    rw [h3] at h2
    cases h2
theorem wcS_lt {near : Nat} (cov : Nat → Bool) : ∀ s, s ≤ near → wcS near cov s ≤ near
  | 0, _ => Nat.le_refl _
  | s + 1, h => by
    have := wcS_lt (near := near) cov s (by omega)
    rw [wcS]
    split
    · omega
    · exact this
theorem cover_C {f near N : Nat} {mem : Mem} {S : PS} (hf : 2000 ≤ f) (hi : IV S) (hn : near < 1024) (hN : N ≤ 240) (ha : AH mem S N) : dW_cover_60 f f (nI N) (nI near) (nI near) 0 mem = some (nI (wcS near (fun s => covB S s N) near), mem) := by
  refine lp (fun n (x : Int32 × Int32) => dW_cover_60 f n (nI N) (nI near) x.1 x.2 mem) (fun i => (nI (wcS near (fun s => covB S s N) i), nI i)) (c := near) (fun n => ?_) (fun n i hc => ?_) near 0 f (by omega) (by omega)
  · show dW_cover_60 f (n + 1) _ _ _ _ mem = _
    rw [dW_cover_60, if_neg (nlt_n (by omega))]
  · show dW_cover_60 f (n + 1) _ _ _ _ mem = dW_cover_60 f n _ _ _ _ mem
    have hw := wcS_lt (near := near) (fun s => covB S s N) i (by omega)
    rw [dW_cover_60, if_pos (lt_n hc (by omega)), wcS]
    have hz := sub_z (a := i) (b := near) (by omega)
    have b1 := bc_le 10 i (by omega) (by omega)
    have b3 := bc_le 10 (wcS near (fun s => covB S s N) i) (by omega) (by omega)
    have kk : nI (bcN i) < nI (bcN (wcS near (fun s => covB S s N) i)) ↔ bcN i < bcN (wcS near (fun s => covB S s N) i) := nb_lt (by omega) (by omega)
    by_cases c1 : i &&& near = i
    · rw [if_pos (hz.mpr c1)]
      unfold dW_cover_80
      rw [if_neg (show ¬ (1 : Int32) = 0 by decide), bcC_ok (by omega), bd_ok, bcC_ok (by omega), bd_ok, always_ok hf hi (by omega) hN ha, bd_ok, add1]
      by_cases c2 : bcN i < bcN (wcS near (fun s => covB S s N) i)
      · rw [if_pos (kk.mpr c2), if_b2]
        by_cases c3 : covB S i N = true
        · rw [if_pos c3, if_pos ⟨c1, c2, c3⟩]
        · rw [if_neg c3, if_neg (fun z => c3 z.2.2)]
      · rw [if_neg (fun z => c2 (kk.mp z)), if_neg (fun z => c2 z.2.1)]
    · rw [if_neg (fun z => c1 (hz.mp z)), if_neg (fun z => c1 z.1)]
      unfold dW_cover_80
      rw [if_pos rfl, add1]
theorem cov_near (S : PS) (near s N : Nat) (h : covB S (near &&& s) N = true) : covB S near N = true := by
  rw [covB_iff] at h ⊢
  intro i hi
  have h1 := h i hi
  have h2 : ¬ dutyS S (ro S 0) (mi S + i) &&& (near &&& s) = 0 := of_decide_eq_false h1
  refine decide_eq_false fun z => h2 ?_
  rw [← Nat.and_assoc, z, Nat.zero_and]
