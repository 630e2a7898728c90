/-! What the answers are: soonest, first, worst, least cover, fewest. -/
theorem fs_b (mu : Nat → Bool) {N : Nat} (hN : 1 ≤ N) : ∀ d run i k, run ≤ i → fs mu N d run i = some k → i + 1 ≤ k + N ∧ k + N ≤ i + d
  | 0, _, _, _, _, h => by cases h
  | d + 1, run, i, k, hr, h => by
    rw [fs] at h
    by_cases c : (if mu i = true then run + 1 else 0) = N
    · rw [if_pos c] at h
      have := Option.some.inj h
      have h2 : N ≤ i + 1 := by
        rw [← c]
        split <;> omega
      omega
    · rw [if_neg c] at h
      have := fs_b mu hN d _ _ k (by split <;> omega) h
      omega
theorem fs_app (mu : Nat → Bool) {N : Nat} (hN : 1 ≤ N) : ∀ d1 d2 run i, run ≤ i → (∀ k, fs mu N d1 run i = some k → fs mu N (d1 + d2) run i = some k) ∧ (fs mu N d1 run i = none → ∀ k, fs mu N (d1 + d2) run i = some k → i + d1 + 1 ≤ k + N)
  | 0, d2, run, i, hr => by
    refine ⟨fun k h => (by cases h), fun _ k h => ?_⟩
    rw [Nat.zero_add] at h
    exact (fs_b mu hN d2 run i k hr h).1
  | d1 + 1, d2, run, i, hr => by
    rw [show d1 + 1 + d2 = (d1 + d2) + 1 by omega, fs, fs]
    by_cases c : (if mu i = true then run + 1 else 0) = N
    · rw [if_pos c, if_pos c]
      exact ⟨fun k h => h, fun h => by cases h⟩
    · rw [if_neg c, if_neg c]
      obtain ⟨h1, h2⟩ := fs_app mu hN d1 d2 (if mu i = true then run + 1 else 0) (i + 1) (by split <;> omega)
      exact ⟨h1, fun h k hk => by have := h2 h k hk; omega⟩
theorem fsR_le {S : PS} {room N : Nat} (hN : 1 ≤ N) {k : Nat} (h : fsR S room N = some k) : k ≤ 240 := by
  have := fs_b _ hN _ _ _ _ (Nat.le_refl 0) h
  omega
/-- the run of silent minutes that ends behind i of them; the first of N, as the law finds it -/
def rnF (mu : Nat → Bool) : Nat → Nat
  | 0 => 0
  | i + 1 => if mu i = true then rnF mu i + 1 else 0
def ffF (mu : Nat → Bool) (N : Nat) : Nat → Option Nat
  | 0 => none
  | i + 1 => if rnF mu (i + 1) = N ∧ ffF mu N i = none then some (i + 1 - N) else ffF mu N i
theorem rnF_le (mu : Nat → Bool) : ∀ i, rnF mu i ≤ i
  | 0 => Nat.le_refl _
  | i + 1 => by
    have := rnF_le mu i
    rw [rnF]
    split <;> omega
theorem ffF_stay (mu : Nat → Bool) (N i k : Nat) (h : ffF mu N i = some k) : ∀ d, ffF mu N (i + d) = some k
  | 0 => h
  | d + 1 => by
    have := ffF_stay mu N i k h d
    rw [show i + (d + 1) = i + d + 1 by omega, ffF, if_neg (fun z => by rw [this] at z; cases z.2), this]
theorem ffF_fs (mu : Nat → Bool) (N : Nat) : ∀ d i, ffF mu N i = none → ffF mu N (i + d) = fs mu N d (rnF mu i) i
  | 0, i, h => h
  | d + 1, i, h => by
    have e : rnF mu (i + 1) = if mu i = true then rnF mu i + 1 else 0 := rfl
    rw [fs, ← e]
    by_cases c : rnF mu (i + 1) = N
    · rw [if_pos c]
      have h1 : ffF mu N (i + 1) = some (i + 1 - N) := by rw [ffF, if_pos ⟨c, h⟩]
      have := ffF_stay mu N (i + 1) _ h1 d
      rw [show i + (d + 1) = i + 1 + d by omega]
      exact this
    · rw [if_neg c]
      have h1 : ffF mu N (i + 1) = none := by rw [ffF, if_neg (fun z => c z.1)]; exact h
      rw [show i + (d + 1) = i + 1 + d by omega]
      exact ffF_fs mu N d (i + 1) h1
theorem ffF_le (mu : Nat → Bool) (N : Nat) : ∀ i k, ffF mu N i = some k → k ≤ i
  | 0, k, h => by cases h
  | i + 1, k, h => by
    rw [ffF] at h
    split at h
    · have := Option.some.inj h
      omega
    · have := ffF_le mu N i k h
      omega
/-- what the law's own search tells of safe() -/
theorem safe_first {S : PS} {room N : Nat} (hN : 1 ≤ N) (mu : Nat → Bool) (hmu : mu = fun k => muteS S (nearS S room) (ro S 0) (mi S + k)) :
    (∀ k, fsR S room N = some k → k + N ≤ 60 → ffF mu N 60 = some k) ∧ (∀ k, fsR S room N = some k → 60 < k + N → ffF mu N 60 = none) ∧ (fsR S room N = none → ffF mu N 60 = none) := by
  have e : ffF mu N 60 = fs mu N 60 0 0 := by
    have := ffF_fs mu N 60 0 rfl
    rw [Nat.zero_add] at this
    exact this
  have e2 : fsR S room N = fs mu N (60 + (180 + N)) 0 0 := by
    unfold fsR
    rw [hmu, show 60 + (180 + N) = 240 + N by omega]
  obtain ⟨h1, h2⟩ := fs_app mu hN 60 (180 + N) 0 0 (Nat.le_refl 0)
  rw [e, e2]
  cases hf : fs mu N 60 0 0 with
  | none =>
    refine ⟨fun k hk hle => ?_, fun _ _ _ => rfl, fun _ => rfl⟩
    have := h2 hf k hk
    omega
  | some k0 =>
    have hb := fs_b mu hN 60 0 0 k0 (Nat.le_refl 0) hf
    have h1' := h1 k0 hf
    refine ⟨fun k hk hle => ?_, fun k hk hgt => ?_, fun hn => ?_⟩
    · rw [h1'] at hk
      exact hk
    · rw [h1'] at hk
      have := Option.some.inj hk
      omega
    · rw [h1'] at hn
      cases hn
theorem whS_p (g : Nat → Option Nat) (hg : ∀ i k, g i = some k → k ≤ 240) : ∀ n, (∀ p, (whS g n).2 = some p → p < n ∧ g p = some (whS g n).1 ∧ ∀ j, j < n → ∀ k, g j = some k → (whS g n).1 ≤ k ∧ (k = (whS g n).1 → p ≤ j)) ∧ ((whS g n).2 = none → (whS g n).1 = 241 ∧ ∀ j, j < n → g j = none)
  | 0 => ⟨fun p h => (by cases h), fun _ => ⟨rfl, fun j hj => absurd hj (by omega)⟩⟩
  | n + 1 => by
    obtain ⟨h1, h2⟩ := whS_p g hg n
    cases hn : g n with
    | none =>
      have e : whS g (n + 1) = whS g n := by rw [whS, hn]
      rw [e]
      refine ⟨fun p hp => ?_, fun hp => ?_⟩
      · obtain ⟨q1, q2, q3⟩ := h1 p hp
        refine ⟨by omega, q2, fun j hj k hk => ?_⟩
        by_cases ej : j = n
        · rw [ej, hn] at hk
          cases hk
        · exact q3 j (by omega) k hk
      · obtain ⟨q1, q2⟩ := h2 hp
        refine ⟨q1, fun j hj => ?_⟩
        by_cases ej : j = n
        · rw [ej]
          exact hn
        · exact q2 j (by omega)
    | some k0 =>
      have hk0 := hg n k0 hn
      have e : whS g (n + 1) = if k0 < (whS g n).1 then (k0, some n) else whS g n := by rw [whS, hn]
      by_cases c : k0 < (whS g n).1
      · rw [if_pos c] at e
        rw [e]
        refine ⟨fun p hp => ?_, fun hp => by cases hp⟩
        have ep : n = p := Option.some.inj hp
        subst ep
        refine ⟨by omega, hn, fun j hj k hk => ?_⟩
        show k0 ≤ k ∧ (k = k0 → n ≤ j)
        by_cases ej : j = n
        · rw [ej, hn] at hk
          have := Option.some.inj hk
          exact ⟨by omega, fun _ => by omega⟩
        · cases hw : (whS g n).2 with
          | none =>
            have := (h2 hw).2 j (by omega)
            rw [hk] at this
            cases this
          | some p0 =>
            have := ((h1 p0 hw).2.2 j (by omega) k hk).1
            exact ⟨by omega, fun _ => by omega⟩
      · rw [if_neg c] at e
        rw [e]
        refine ⟨fun p hp => ?_, fun hp => ?_⟩
        · obtain ⟨q1, q2, q3⟩ := h1 p hp
          refine ⟨by omega, q2, fun j hj k hk => ?_⟩
          by_cases ej : j = n
          · rw [ej, hn] at hk
            have := Option.some.inj hk
            exact ⟨by omega, fun _ => by omega⟩
          · exact q3 j (by omega) k hk
        · have := (h2 hp).1
          omega
theorem woS_p (g : Nat → Nat) : ∀ n p, (woS g n).2 = some p → p < n ∧ g p = (woS g n).1 ∧ 0 < (woS g n).1
  | 0, p, h => by cases h
  | n + 1, p, h => by
    rw [woS] at h ⊢
    by_cases c : (woS g n).1 < g n
    · rw [if_pos c] at h ⊢
      have ep : n = p := Option.some.inj h
      subst ep
      exact ⟨by omega, rfl, by show 0 < g n; omega⟩
    · rw [if_neg c] at h ⊢
      obtain ⟨h1, h2, h3⟩ := woS_p g n p h
      exact ⟨by omega, h2, h3⟩
theorem amS_p (g : Nat → Nat) (o : Nat) {F0 : Nat} (B0 : Nat) (hg : ∀ x, g x < F0) : ∀ j, (∃ i, i < j + 1 ∧ (amS g o F0 B0 (j + 1)).2 = o + i ∧ g (o + i) = (amS g o F0 B0 (j + 1)).1) ∧ ∀ i, i < j + 1 → (amS g o F0 B0 (j + 1)).1 ≤ g (o + i) ∧ (g (o + i) = (amS g o F0 B0 (j + 1)).1 → (amS g o F0 B0 (j + 1)).2 ≤ o + i)
  | 0 => by
    have e : amS g o F0 B0 (0 + 1) = (g (o + 0), o + 0) := by
      rw [amS_s, if_pos (show g (o + 0) < (amS g o F0 B0 0).1 from hg _)]
    rw [e]
    refine ⟨⟨0, by omega, rfl, rfl⟩, fun i hi => ?_⟩
    have : i = 0 := by omega
    subst this
    exact ⟨Nat.le_refl _, fun _ => Nat.le_refl _⟩
  | j + 1 => by
    obtain ⟨⟨i0, q1, q2, q3⟩, h2⟩ := amS_p g o B0 hg j
    rw [amS_s g o F0 B0 (j + 1)]
    by_cases c : g (o + (j + 1)) < (amS g o F0 B0 (j + 1)).1
    · rw [if_pos c]
      refine ⟨⟨j + 1, by omega, rfl, rfl⟩, fun i hi => ?_⟩
      show g (o + (j + 1)) ≤ g (o + i) ∧ (g (o + i) = g (o + (j + 1)) → o + (j + 1) ≤ o + i)
      by_cases e : i = j + 1
      · subst e
        exact ⟨Nat.le_refl _, fun _ => Nat.le_refl _⟩
      · have := (h2 i (by omega)).1
        exact ⟨by omega, fun z => by omega⟩
    · rw [if_neg c]
      refine ⟨⟨i0, by omega, q2, q3⟩, fun i hi => ?_⟩
      by_cases e : i = j + 1
      · subst e
        exact ⟨by omega, fun _ => by omega⟩
      · exact h2 i (by omega)
/-- without one of them -/
def wout (b w : Nat) : Nat := b &&& (1023 ^^^ 2 ^ w)
theorem m1023_bit {w : Nat} (hw : w < 10) (i : Nat) : (1023 ^^^ 2 ^ w).testBit i = (decide (i < 10) && !decide (w = i)) := by
  rw [Nat.testBit_xor, show (1023 : Nat) = 2 ^ 10 - 1 from rfl, Nat.testBit_two_pow_sub_one, Nat.testBit_two_pow]
  by_cases h1 : i < 10 <;> by_cases h2 : w = i <;> simp [h1, h2]
  omega
theorem big_bit {b : Nat} (hb : b < 1024) {i : Nat} (hi : ¬ i < 10) : b.testBit i = false :=
  Nat.testBit_lt_two_pow (Nat.lt_of_lt_of_le hb (Nat.pow_le_pow_right (by decide) (by omega) : 2 ^ 10 ≤ 2 ^ i))
theorem wout_nI {b w : Nat} (hb : b < 1024) (hw : w < 10) : nI b &&& (((1 : Int32) <<< (nI w &&& 31)) ^^^ (-1 : Int32)) = nI (wout b w) := by
  have e1 : (-1 : Int32) = nI 4294967295 := by decide
  rw [nb_bit (by omega), e1, nb_xor, nb_and]
  congr 1
  unfold wout
  apply Nat.eq_of_testBit_eq
  intro i
  rw [Nat.testBit_and, Nat.testBit_and, m1023_bit hw, Nat.testBit_xor, show (4294967295 : Nat) = 2 ^ 32 - 1 from rfl, Nat.testBit_two_pow_sub_one, Nat.testBit_two_pow]
  by_cases h1 : i < 10
  · have h32 : i < 32 := by omega
    by_cases h2 : w = i <;> simp [h1, h2, h32]
  · rw [big_bit hb h1, Bool.false_and, Bool.false_and]
theorem wout_bit {b w : Nat} (hw : w < 10) (i : Nat) (hb : b < 1024) : (wout b w).testBit i = (b.testBit i && !decide (w = i)) := by
  unfold wout
  rw [Nat.testBit_and, m1023_bit hw]
  by_cases h1 : i < 10
  · simp [h1]
  · rw [big_bit hb h1, Bool.false_and, Bool.false_and]
theorem wout_le (b w : Nat) : wout b w ≤ b := Nat.and_le_left
theorem wout_1023 (near w : Nat) : near &&& wout 1023 w = near &&& (1023 ^^^ 2 ^ w) ∨ 10 ≤ w := by
  by_cases hw : w < 10
  · left
    unfold wout
    congr 1
    apply Nat.eq_of_testBit_eq
    intro i
    rw [Nat.testBit_and, m1023_bit hw, show (1023 : Nat) = 2 ^ 10 - 1 from rfl, Nat.testBit_two_pow_sub_one]
    by_cases h1 : i < 10 <;> simp [h1]
  · right
    omega
theorem wcS_sub {near : Nat} (cov : Nat → Bool) : ∀ s, near &&& wcS near cov s = wcS near cov s
  | 0 => Nat.and_self _
  | s + 1 => by
    rw [wcS]
    split
    · rename_i h
      rw [Nat.and_comm]
      exact h.1
    · exact wcS_sub cov s
/-- a cover: it is near, it hears always, and with one of it left out it doesn't -/
theorem coR_p {S : PS} (hi : IV S) {near N b : Nat} (hnr : near < 1024) (h : coR S near N = some b) : near &&& b = b ∧ b ≤ near ∧ covB S b N = true ∧ ∀ w, w < 10 → b.testBit w = true → covB S (wout b w) N = false := by
  unfold coR at h
  by_cases c : covB S near N = true
  · rw [if_pos c] at h
    have hb : wcS near (fun s => covB S s N) near = b := Option.some.inj h
    have hsub := wcS_sub (near := near) (fun s => covB S s N) near
    have hle := wcS_lt (near := near) (fun s => covB S s N) near (Nat.le_refl _)
    rw [hb] at hsub hle
    have hc : ∀ s, (fun s => covB S (near &&& s) N) (near &&& s) = (fun s => covB S (near &&& s) N) s := fun s => by
      show covB S (near &&& (near &&& s)) N = covB S (near &&& s) N
      rw [← Nat.and_assoc, Nat.and_self]
    have hwc : ∀ s, s ≤ near → wcS near (fun s => covB S s N) s = wcS near (fun s => covB S (near &&& s) N) s := by
      intro s
      induction s with
      | zero => exact fun _ => rfl
      | succ s ih =>
        intro hs
        rw [wcS, wcS, ih (by omega)]
        by_cases c : s &&& near = s
        · have e : covB S (near &&& s) N = covB S s N := by rw [Nat.and_comm, c]
          rw [e]
        · rw [if_neg (fun z => c z.1), if_neg (fun z => c z.1)]
    have hcn : (fun s => covB S (near &&& s) N) near = true := by
      show covB S (near &&& near) N = true
      rw [Nat.and_self]
      exact c
    have hat := mc_at (cov := fun s => covB S (near &&& s) N) hnr hc hcn
    rw [← hwc near (Nat.le_refl _), hb] at hat
    obtain ⟨q1, q2, q3⟩ := (mcS_p (fun s => covB S (near &&& s) N) (near + 1)).1 b hat
    have q2' : covB S (near &&& b) N = true := q2
    rw [hsub] at q2'
    refine ⟨hsub, hle, q2', fun w hw hbit => ?_⟩
    have hb1024 : b < 1024 := by omega
    have hws : wout b w &&& b = wout b w := by
      unfold wout
      rw [Nat.and_assoc, Nat.and_comm (1023 ^^^ 2 ^ w) b, ← Nat.and_assoc, Nat.and_self]
    have hne : wout b w ≠ b := fun z => by
      have := wout_bit hw w hb1024
      rw [z, hbit] at this
      simp at this
    have hlt := bc_part 10 (wout b w) b (by omega) hb1024 hws hne
    have hwl := wout_le b w
    cases hcw : covB S (wout b w) N with
    | false => rfl
    | true =>
      have hnw : near &&& wout b w = wout b w := by
        rw [← hws, Nat.and_comm (wout b w) b, ← Nat.and_assoc, hsub]
      have := q3 (wout b w) (by omega) (by show covB S (near &&& wout b w) N = true; rw [hnw]; exact hcw)
      omega
  · rw [if_neg c] at h
    cases h
