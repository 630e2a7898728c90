/-! A speech: words one behind the other; both sides. -/
def spk1 (nr words k : Nat) (T : PS) : PS := if words.testBit k = true then minS (sayS T nr k (ct T)) else T
def spkS (S : PS) (nr words : Nat) : Nat → PS
  | 0 => S
  | k + 1 => spk1 nr words k (spkS S nr words k)
def spkW (S : PS) (nr words k : Nat) : Nat := setB (hitB (spkS S nr words k) nr k) (ct (spkS S nr words k))
def spkH (S : PS) (nr words : Nat) : Nat → Nat
  | 0 => 0
  | k + 1 => if words.testBit k = true then spkH S nr words k + bcN (spkW S nr words k) else spkH S nr words k
def spkL (S : PS) (nr words : Nat) : Nat → Nat
  | 0 => 0
  | k + 1 => if words.testBit k = true then (if spkW S nr words k = 0 then spkL S nr words k ||| 2 ^ k else spkL S nr words k) else spkL S nr words k
theorem minS_f (S : PS) : ct (minS S) = ct S ∧ ro (minS S) = ro S ∧ mi (minS S) = mi S + 1 ∧ ∀ w k, k ≠ 5 → wa (minS S) w k = wa S w k := by
  unfold minS
  split
  · exact ⟨rfl, rfl, rfl, fun w k h => minP_old S _ w h⟩
  · exact ⟨rfl, rfl, rfl, fun w k h => minP_old S _ w h⟩
theorem IV_minS {S : PS} (hi : IV S) (hm : mi S < 200000) : IV (minS S) := by
  unfold minS
  split
  · exact IV_minP hi hm _
  · exact IV_minP hi hm _
theorem spk_inv {S : PS} (hi : IV S) (nr words : Nat) : ∀ k, k ≤ 16 → mi S + 16 ≤ 200000 → IV (spkS S nr words k) ∧ mi (spkS S nr words k) ≤ mi S + k ∧ ct (spkS S nr words k) = ct S ∧ ro (spkS S nr words k) = ro S ∧ ∀ w j, j ≠ 4 → j ≠ 5 → wa (spkS S nr words k) w j = wa S w j
  | 0, _, _ => ⟨hi, Nat.le_refl _, rfl, rfl, fun _ _ _ _ => rfl⟩
  | k + 1, hk, hm => by
    obtain ⟨h1, h2, h3, h4, h5⟩ := spk_inv hi nr words k (by omega) hm
    rw [spkS, spk1]
    split
    · obtain ⟨g1, g2, g3, g4⟩ := minS_f (sayS (spkS S nr words k) nr k (ct (spkS S nr words k)))
      have e : mi (sayS (spkS S nr words k) nr k (ct (spkS S nr words k))) = mi (spkS S nr words k) := rfl
      refine ⟨IV_minS (IV_say h1 nr (by omega) _) (by omega), by omega, g1.trans h3, g2.trans h4, fun w j a b => ?_⟩
      rw [g4 w j b, sayS_old _ _ _ _ _ a b, h5 w j a b]
    · exact ⟨h1, by omega, h3, h4, h5⟩
theorem spkW_lt {S : PS} (hi : IV S) (nr words k : Nat) (hk : k ≤ 16) (hm : mi S + 16 ≤ 200000) : spkW S nr words k < 1024 := by
  obtain ⟨h1, h2, h3, h4, h5⟩ := spk_inv hi nr words k hk hm
  have hct : ct S ≤ 10 := hi.2.2.2.2.2.2.2.1
  have := setB_lt (hitB (spkS S nr words k) nr k) (ct (spkS S nr words k))
  have h6 : 2 ^ ct (spkS S nr words k) ≤ 2 ^ 10 := Nat.pow_le_pow_right (by decide) (by omega)
  unfold spkW
  omega
theorem spkH_le {S : PS} (hi : IV S) (nr words : Nat) (hm : mi S + 16 ≤ 200000) : ∀ k, k ≤ 16 → spkH S nr words k ≤ 10 * k
  | 0, _ => Nat.le_refl _
  | k + 1, hk => by
    have ih := spkH_le hi nr words hm k (by omega)
    have := bc_le 10 _ (by omega) (spkW_lt hi nr words k (by omega) hm)
    rw [spkH]
    split <;> omega
theorem spkL_lt (S : PS) (nr words : Nat) : ∀ k, spkL S nr words k < 2 ^ k
  | 0 => by simp [spkL]
  | k + 1 => by
    have ih := spkL_lt S nr words k
    have h2 : (2 : Nat) ^ k < 2 ^ (k + 1) := Nat.pow_lt_pow_right (by decide) (by omega)
    rw [spkL]
    split
    · split
      · exact Nat.or_lt_two_pow (by omega) h2
      · omega
    · omega
def palL (p t i j : Nat) : Bool := palZ p t i j || decide (t = 1 ∧ i = p ∧ j = 4)
theorem palL_of {p t i j : Nat} (h : palZ p t i j = true) : palL p t i j = true := by unfold palL; rw [h]; rfl
theorem palZ_4 (p : Nat) : palZ p 1 p 4 = false := by simp [palZ]
theorem palL_4 (p : Nat) : palL p 1 p 4 = true := by simp [palL]
theorem RC_4 {mem : Mem} {p : Nat} {S : PS} (h : RC mem p S) (v : Int32) : RC (sI mem 1 p 4 v) p S := by
  obtain ⟨h1, h2, h3, h4⟩ := h
  refine ⟨?_, fun j hj => ?_, ?_, fun w hw k hk => ?_⟩
  · rw [gI_sI, if_neg (by omega)]; exact h1
  · rw [gI_sI, if_neg (by omega)]; exact h2 j hj
  · rw [gI_sI, if_neg (by omega)]; exact h3
  · rw [gI_sI, if_neg (by omega)]; exact h4 w hw k hk
theorem or0 (a : Nat) : nI a ||| 0 = nI a := by
  have := nb_or a 0
  rw [Nat.or_zero] at this
  exact this
theorem utterAll_lp {f p nr words : Nat} {S : PS} (hf : 2000 ≤ f) (hp : p < 3) (hi : IV S) (hm : mi S + 16 ≤ 200000) (hnr : nr < 1024) (hwo : words < 65536) : ∀ (d i n : Nat) (mem : Mem), i + d = 16 → d < n → RC mem p (spkS S nr words i) → gI mem 1 p 4 = nI (spkL S nr words i) →
    ∃ m', dP_utterAll_17 f n p (nI words) (nI nr) (nI (spkH S nr words i)) (nI i) mem = some (nI (spkH S nr words 16), m') ∧ RC m' p (spkS S nr words 16) ∧ gI m' 1 p 4 = nI (spkL S nr words 16) ∧ Fz (palL p) mem m' := by
  intro d
  induction d with
  | zero =>
    intro i n mem e hn h h4
    obtain ⟨n, rfl⟩ : ∃ k, n = k + 1 := ⟨n - 1, by omega⟩
    have e' : i = 16 := by omega
    subst e'
    rw [dP_utterAll_17, if_neg (by decide)]
    exact ⟨mem, rfl, h, h4, Fz_rfl _ _⟩
  | succ d ih =>
    intro i n mem e hn h h4
    obtain ⟨n, rfl⟩ : ∃ k, n = k + 1 := ⟨n - 1, by omega⟩
    have c16 : nI i < 16 := (nb_lt (a := i) (b := 16) (by omega) (by omega)).mpr (by omega)
    obtain ⟨g1, g2, g3, g4, g5⟩ := spk_inv hi nr words i (by omega) hm
    have hH := spkH_le hi nr words hm i (by omega)
    have hW := spkW_lt hi nr words i (by omega) hm
    have ih' := ih (i + 1) n
    rw [dP_utterAll_17, if_pos c16, nb_has (by omega) (by omega), add1]
    cases ht : words.testBit i with
    | false =>
      rw [if_neg (by decide)]
      have ih2 := ih' mem (by omega) (by omega) (by rw [spkS, spk1, if_neg (by rw [ht]; decide)]; exact h) (by rw [spkL, if_neg (by rw [ht]; decide)]; exact h4)
      rw [spkH, if_neg (by rw [ht]; decide)] at ih2
      exact ih2
    | true =>
      rw [if_pos (by decide)]
      obtain ⟨m1, r1, r2, r3⟩ := utter_ok (f := f) (word := i) hf hp h g1 hnr (by omega)
      have hw1 : spkS S nr words (i + 1) = minS (sayS (spkS S nr words i) nr i (ct (spkS S nr words i))) := by rw [spkS, spk1, if_pos ht]
      have hs4 : gI m1 1 p 4 = nI (spkL S nr words i) := (r3 1 p 4 (palZ_4 p)).1.trans h4
      rw [r1, bd_ok]
      show ∃ m', bd (dJInt_bitCount f (nI (spkW S nr words i)) m1) _ = _ ∧ _
      rw [bcC_ok (by omega), bd_ok]
      have hmm : mi (sayS (spkS S nr words i) nr i (ct (spkS S nr words i))) = mi (spkS S nr words i) := rfl
      have hgo : ∀ v, spkL S nr words (i + 1) = v → ∃ m', bd (dP_goOn f p (sI m1 1 p 4 (nI v))) (fun _ m4 => dP_utterAll_17 f n p (nI words) (nI nr) (nI (spkH S nr words i) + nI (bcN (spkW S nr words i))) (nI (i + 1)) m4) = some (nI (spkH S nr words 16), m') ∧ RC m' p (spkS S nr words 16) ∧ gI m' 1 p 4 = nI (spkL S nr words 16) ∧ Fz (palL p) mem m' := by
        intro v hv
        obtain ⟨m2, s1, s2, s3⟩ := goOn_ok (f := f) hf (RC_4 r2 (nI v)) (IV_say g1 nr (by omega) _) (by omega)
        rw [s1, bd_ok, nb_add]
        have s4 : gI m2 1 p 4 = nI (spkL S nr words (i + 1)) := (s3 1 p 4 (palZ_4 p)).1.trans (by rw [gI_sI, if_pos ⟨rfl, rfl, rfl⟩, hv])
        obtain ⟨m', t1, t2, t3, t4⟩ := ih' m2 (by omega) (by omega) (by rw [hw1]; exact s2) s4
        rw [spkH, if_pos ht] at t1
        exact ⟨m', t1, t2, t3, Fz_tr (Fz_mo r3 (fun _ _ _ => palL_of)) (Fz_tr (Fz_sI (palL_4 p)) (Fz_tr (Fz_mo s3 (fun _ _ _ => palL_of)) t4))⟩
      have k0 : nI (setB (hitB (spkS S nr words i) nr i) (ct (spkS S nr words i))) = 0 ↔ spkW S nr words i = 0 := nb_zero (n := spkW S nr words i) (by omega)
      by_cases c0 : spkW S nr words i = 0
      · rw [if_pos (k0.mpr c0), nb_bit (by omega), hs4, nb_or]
        exact hgo _ (by rw [spkL, if_pos ht, if_pos c0])
      · rw [if_neg (fun z => c0 (k0.mp z)), hs4, or0]
        exact hgo _ (by rw [spkL, if_pos ht, if_neg c0])
theorem utterAll_ok {f p room words : Nat} {mem : Mem} {S : PS} (hf : 2000 ≤ f) (hp : p < 3) (h : RC mem p S) (hi : IV S) (hm : mi S + 16 ≤ 200000) (hr : room ≤ 9) (hwo : words < 65536) :
    ∃ m', dP_utterAll f p (nI room) (nI words) mem = some (nI (spkH S (nearS S room) words 16), m') ∧ RC m' p (spkS S (nearS S room) words 16) ∧ gI m' 1 p 4 = nI (spkL S (nearS S room) words 16) ∧ Fz (palL p) mem m' := by
  unfold dP_utterAll
  rw [near_ok hf h hi hr, bd_ok]
  obtain ⟨m', t1, t2, t3, t4⟩ := utterAll_lp (f := f) hf hp hi hm (nearS_lt hi room) hwo 16 0 f (sI mem 1 p 4 0) (by omega) (by omega) (RC_4 h 0) (by rw [gI_sI, if_pos ⟨rfl, rfl, rfl⟩]; rfl)
  exact ⟨m', t1, t2, t3, Fz_tr (Fz_sI (palL_4 p)) t4⟩
theorem inR_congr {S T : PS} (hw : ∀ w k, k ≠ 4 → k ≠ 5 → wa T w k = wa S w k) (set : Nat) : ∀ n, inR T set n = inR S set n
  | 0 => rfl
  | n + 1 => by
    rw [inR, inR, inR_congr hw set n]
    unfold stepR atS bothS
    rw [hw n 0 (by decide) (by decide), hw n 1 (by decide) (by decide), hw n 2 (by decide) (by decide)]
theorem outR_congr {S T : PS} (hc : ct T = ct S) (hw : ∀ w k, k ≠ 4 → k ≠ 5 → wa T w k = wa S w k) (set : Nat) : ∀ n, outR T set n = outR S set n
  | 0 => rfl
  | n + 1 => by rw [outR, outR, outR_congr hc hw set n, inR_congr hw, hc]
theorem reachS_congr {S T : PS} (hc : ct T = ct S) (hw : ∀ w k, k ≠ 4 → k ≠ 5 → wa T w k = wa S w k) (room : Nat) : reachS T room = reachS S room := outR_congr hc hw _ 10
theorem nearS_congr {S T : PS} (hc : ct T = ct S) (hw : ∀ w k, k ≠ 4 → k ≠ 5 → wa T w k = wa S w k) (room : Nat) : nearS T room = nearS S room := by
  unfold nearS
  rw [reachS_congr hc hw, hc]
  refine setB_congr fun i _ => ?_
  unfold atS
  rw [hw i 1 (by decide) (by decide), hw i 2 (by decide) (by decide)]
def rowL (t i j : Nat) : Bool := decide (t = 13 ∨ t = 12 ∧ i = 0 ∧ j = 2)
theorem rowL_of {t i j : Nat} (h : rowZ 13 t i j = true) : rowL t i j = true := by
  have : t = 13 := of_decide_eq_true h
  simp [rowL, this]
theorem RM_12 {mem : Mem} {S : PS} (h : RM mem S) (j : Nat) (v : Int32) : RM (sI mem 12 0 j v) S :=
  RK_fz (t := 13) (P := fun t _ _ => decide (t = 12)) h (Fz_sI rfl) (fun _ => rfl)
