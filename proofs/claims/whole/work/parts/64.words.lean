/-! THE TEXT: the names, and both sides' ways to know them. -/
def lc (q i : Nat) : Nat := (litC q i).toNatClampNeg
theorem lc_all : ∀ q, q < 12 → litN q ≤ 12 ∧ ∀ i, i < litN q → (litC q i = nI (lc q i) ∧ 97 ≤ lc q i ∧ lc q i ≤ 122 ∧ vp_nar .char (((litC q i) &&& (255 : Int32)).toUInt32 % 65536).toInt32 = (((litC q i) &&& (255 : Int32)).toUInt32 % 65536).toInt32 ∧ (((litC q i) &&& (255 : Int32)).toUInt32 % 65536).toInt32 = litC q i) := by decide +kernel
def named (T : TT) (e q : Nat) : Bool := decide (so T e = 2 ∧ en T e - bg T e = litN q ∧ ∀ i, i < litN q → T.1 (bg T e + i) = lc q i)
theorem slen_ok {f q : Nat} {mem : Mem} : dJStr_length f q mem = some (nI (litN q), mem) := by
  have e : ((0 : Int32) &&& 31) = 0 := by decide
  have e2 : ∀ x : Int32, x >>> (0 : Int32) = x := fun x => by
    apply Int32.toBitVec_inj.mp
    rw [Int32.toBitVec_shiftRight, BitVec.sshiftRight_eq', show ((0 : Int32).toBitVec.smod 32).toNat = 0 by decide, BitVec.sshiftRight_zero]
  unfold dJStr_length dJStr_coder
  rw [if_neg (by decide), bd_ok, e, e2]
  rfl
theorem char_ok {f q i : Nat} {mem : Mem} (hq : q < 12) (hi : i < litN q) : dJStr_charAt f q (nI i) mem = some (nI (lc q i), mem) := by
  obtain ⟨h1, h2⟩ := lc_all q hq
  obtain ⟨g1, g2, g3, g4, g5⟩ := h2 i hi
  unfold dJStr_charAt dJStr_isLatin1 dJLat_charAt dJStr_checkIndex dJPre_checkIndex
  rw [if_neg (by decide), if_pos rfl, bd_ok, if_neg (by decide), if_neg (nI_pos (by omega)), if_pos (show nI i < Int32.ofNat (litN q) from lt_n hi (by omega)), bd_ok, bd_ok, ck_in _ hi (by omega), nI_clamp (by omega), g5]
  have n1 : vp_nar .char (litC q i) = litC q i := by
    rw [g5] at g4
    exact g4
  unfold nz
  rw [n1, if_pos rfl, bd_ok, n1, if_pos rfl, ← g1]
theorem namedC_lp {f q e : Nat} {mem : Mem} {T : TT} (hT : okT T) (h : TpC mem T) (ht : TC mem T e) (hq : q < 12) (hs : so T e = 2) (hl : en T e - bg T e = litN q) (he : e ≤ T.2) : ∀ (d i n : Nat), i + d = litN q → d < n → (∀ j, j < i → T.1 (bg T e + j) = lc q j) →
    dT_isNamed_28 f n q (nI i) mem = some (nI (b2 (named T e q)), mem)
  | 0, i, n, ee, hn, hp => by
    obtain ⟨n, rfl⟩ : ∃ k, n = k + 1 := ⟨n - 1, by omega⟩
    have e' : i = litN q := by omega
    have h12 := (lc_all q hq).1
    rw [dT_isNamed_28, slen_ok, bd_ok, e', if_neg (nlt_n (by omega))]
    have : named T e q = true := decide_eq_true ⟨hs, hl, by rw [e'] at hp; exact hp⟩
    rw [this]
    rfl
  | d + 1, i, n, ee, hn, hp => by
    obtain ⟨n, rfl⟩ : ∃ k, n = k + 1 := ⟨n - 1, by omega⟩
    have h12 := (lc_all q hq).1
    have hN := hT.1
    have hle := en_le (T := T) he
    have hlk := en_like (T := T) (e := e) (j := bg T e + i) (Or.inl hs) (by omega) (by omega)
    obtain ⟨g1, g2⟩ := sc2 (T := T) (i := bg T e + i) (by rw [hlk.1, hs])
    obtain ⟨c1, c2, c3, -⟩ := (lc_all q hq).2 i (by omega)
    rw [dT_isNamed_28, slen_ok, bd_ok, if_pos (lt_n (by omega) (by omega)), ht.1, nb_add, byteC_ok hT h (by omega), bd_ok, char_ok hq (by omega), bd_ok, add1]
    unfold bAt
    rw [if_pos g1]
    have kk : nI (T.1 (bg T e + i)) = nI (lc q i) ↔ T.1 (bg T e + i) = lc q i := nb_inj (by omega) (by omega)
    by_cases c : T.1 (bg T e + i) = lc q i
    · rw [if_pos (kk.mpr c)]
      exact namedC_lp hT h ht hq hs hl he d (i + 1) n (by omega) (by omega) (fun j hj => by
        by_cases ej : j = i
        · rw [ej]; exact c
        · exact hp j (by omega))
    · rw [if_neg (fun z => c (kk.mp z))]
      have : named T e q = false := decide_eq_false (fun z => c (z.2.2 i (by omega)))
      rw [this]
      rfl
theorem namedC_ok {f q e : Nat} {mem : Mem} {T : TT} (hf : 2000 ≤ f) (hT : okT T) (he : e ≤ T.2) (h : TpC mem T) (ht : TC mem T e) (hq : q < 12) : dT_isNamed f q mem = some (nI (b2 (named T e q)), mem) := by
  have hN := hT.1
  have h12 := (lc_all q hq).1
  have hs : so T e ≤ 4 := sc_le T (bg T e)
  have hge := en_ge T e
  have hle := en_le (T := T) he
  have k2 : nI (so T e) = 2 ↔ so T e = 2 := nb_inj (b := 2) (by omega) (by omega)
  have kl : nI (en T e - bg T e) = nI (litN q) ↔ en T e - bg T e = litN q := nb_inj (by omega) (by omega)
  unfold dT_isNamed
  rw [ht.2.2.1]
  by_cases c : so T e = 2
  · rw [if_pos (k2.mpr c), slen_ok, bd_ok, ht.2.1, ht.1, nb_sub hge]
    by_cases cl : en T e - bg T e = litN q
    · rw [if_pos (kl.mpr cl)]
      exact namedC_lp hT h ht hq c cl he (litN q) 0 f (by omega) (by omega) (fun j hj => absurd hj (by omega))
    · rw [if_neg (fun z => cl (kl.mp z))]
      have : named T e q = false := decide_eq_false (fun z => cl z.2.1)
      rw [this]
      rfl
  · rw [if_neg (fun z => c (k2.mp z))]
    have : named T e q = false := decide_eq_false (fun z => c z.1)
    rw [this]
    rfl
theorem wv_lt (g : Nat → Nat) : ∀ n, (∀ i, i < n → g i ≤ 122) → wvF g n < 27 ^ n
  | 0, _ => by simp [wvF]
  | n + 1, h => by
    have ih := wv_lt g n (fun i hi => h i (by omega))
    have := h n (by omega)
    rw [wvF, Nat.pow_succ]
    omega
theorem wv_inj (g h : Nat → Nat) : ∀ n m, (∀ i, i < n → 97 ≤ g i ∧ g i ≤ 122) → (∀ i, i < m → 97 ≤ h i ∧ h i ≤ 122) → wvF g n = wvF h m → n = m ∧ ∀ i, i < n → g i = h i
  | 0, 0, _, _, _ => ⟨rfl, fun i hi => absurd hi (by omega)⟩
  | 0, m + 1, _, hh, e => by
    have := hh m (by omega)
    rw [wvF, wvF] at e
    omega
  | n + 1, 0, hg, _, e => by
    have := hg n (by omega)
    rw [wvF, wvF] at e
    omega
  | n + 1, m + 1, hg, hh, e => by
    have a := hg n (by omega)
    have b := hh m (by omega)
    rw [wvF, wvF] at e
    obtain ⟨r1, r2⟩ := wv_inj g h n m (fun i hi => hg i (by omega)) (fun i hi => hh i (by omega)) (by omega)
    refine ⟨by omega, fun i hi => ?_⟩
    by_cases c : i = n
    · subst c
      subst r1
      omega
    · exact r2 i (by omega)
theorem lN_inj {a b : Nat} (ha : a < 2 ^ 63) (hb : b < 2 ^ 63) (h : lN a = lN b) : a = b := by
  have h1 : (lN a).toBitVec = (lN b).toBitVec := by rw [h]
  have h2 : (BitVec.ofNat 64 a).toNat = (BitVec.ofNat 64 b).toNat := congrArg BitVec.toNat h1
  rw [BitVec.toNat_ofNat, BitVec.toNat_ofNat, Nat.mod_eq_of_lt (by omega), Nat.mod_eq_of_lt (by omega)] at h2
  exact h2
theorem lN_m1 {a : Nat} (ha : a < 2 ^ 63) : ¬ lN a = -1 := by
  intro h
  have h1 : (lN a).toBitVec = (-1 : Int64).toBitVec := by rw [h]
  have h2 : (BitVec.ofNat 64 a).toNat = (-1 : Int64).toBitVec.toNat := congrArg BitVec.toNat h1
  rw [BitVec.toNat_ofNat, Nat.mod_eq_of_lt (by omega), show (-1 : Int64).toBitVec.toNat = 18446744073709551615 by decide] at h2
  omega
theorem p27 {n : Nat} (h : n ≤ 12) : 27 ^ n < 2 ^ 63 := by
  have : 27 ^ n ≤ 27 ^ 12 := Nat.pow_le_pow_right (by decide) h
  have h2 : (27 : Nat) ^ 12 < 2 ^ 63 := by decide
  omega
def lvN (q : Nat) : Int64 := lN (wvF (lc q) (litN q))
theorem wo_iff {T : TT} {e q : Nat} (he : e ≤ T.2) (hq : q < 12) (hs : so T e = 2) : wo T e = lvN q ↔ named T e q = true := by
  obtain ⟨h12, hl⟩ := lc_all q hq
  have hg : ∀ i, i < en T e - bg T e → 97 ≤ T.1 (bg T e + i) ∧ T.1 (bg T e + i) ≤ 122 := fun i hi => by
    have hlk := en_like (T := T) (e := e) (j := bg T e + i) (Or.inl hs) (by omega) (by omega)
    exact (sc2 (T := T) (i := bg T e + i) (by rw [hlk.1, hs])).2
  have hh : ∀ i, i < litN q → 97 ≤ lc q i ∧ lc q i ≤ 122 := fun i hi => ⟨(hl i hi).2.1, (hl i hi).2.2.1⟩
  have b2' := wv_lt (lc q) (litN q) (fun i hi => (hh i hi).2)
  have p2 := p27 h12
  unfold wo wvL lvN named
  rw [decide_eq_true_eq]
  by_cases c : en T e - bg T e ≤ 12
  · rw [if_pos c]
    have b1 := wv_lt (fun i => T.1 (bg T e + i)) (en T e - bg T e) (fun i hi => (hg i hi).2)
    have p1 := p27 c
    constructor
    · intro h
      have h' := lN_inj (by omega) (by omega) h
      obtain ⟨r1, r2⟩ := wv_inj _ _ _ _ hg hh h'
      exact ⟨hs, r1, fun i hi => r2 i (by omega)⟩
    · rintro ⟨-, r1, r2⟩
      have : ∀ n, n ≤ litN q → wvF (fun i => T.1 (bg T e + i)) n = wvF (lc q) n := by
        intro n
        induction n with
        | zero => exact fun _ => rfl
        | succ n ih =>
          intro hn
          rw [wvF, wvF, ih (by omega), r2 n (by omega)]
      rw [r1, this _ (Nat.le_refl _)]
  · rw [if_neg c]
    constructor
    · intro h
      exact absurd h.symm (lN_m1 (by omega))
    · rintro ⟨-, r1, -⟩
      omega
theorem rs1 {T : TT} {e : Nat} : nI (rsN (so T e)) = 1 ↔ so T e = 2 := by
  have hs : so T e ≤ 4 := sc_le T (bg T e)
  have hcase : so T e = 0 ∨ so T e = 1 ∨ so T e = 2 ∨ so T e = 3 ∨ so T e = 4 := by omega
  rcases hcase with c | c | c | c | c <;> rw [c] <;> decide
theorem rs2 {T : TT} {e : Nat} : nI (rsN (so T e)) = 2 ↔ so T e = 3 := by
  have hs : so T e ≤ 4 := sc_le T (bg T e)
  have hcase : so T e = 0 ∨ so T e = 1 ∨ so T e = 2 ∨ so T e = 3 ∨ so T e = 4 := by omega
  rcases hcase with c | c | c | c | c <;> rw [c] <;> decide
theorem rs0 {T : TT} {e : Nat} : nI (rsN (so T e)) = 0 ↔ so T e = 0 := by
  have hs : so T e ≤ 4 := sc_le T (bg T e)
  have hcase : so T e = 0 ∨ so T e = 1 ∨ so T e = 2 ∨ so T e = 3 ∨ so T e = 4 := by omega
  rcases hcase with c | c | c | c | c <;> rw [c] <;> decide
theorem rs3 {T : TT} {e : Nat} : nI (rsN (so T e)) = 3 ↔ so T e = 1 ∨ so T e = 4 := by
  have hs : so T e ≤ 4 := sc_le T (bg T e)
  have hcase : so T e = 0 ∨ so T e = 1 ∨ so T e = 2 ∨ so T e = 3 ∨ so T e = 4 := by omega
  rcases hcase with c | c | c | c | c <;> rw [c] <;> decide
theorem namedM {f q e : Nat} {mem : Mem} {T : TT} (he : e ≤ T.2) (ht : TM mem T e) (hq : q < 12) : dM_isWord f (lvN q) mem = some (nI (b2 (named T e q)), mem) := by
  unfold dM_isWord
  rw [ht.2.1]
  by_cases c : so T e = 2
  · have k := wo_iff he hq c
    rw [if_pos (rs1.mpr c), ht.2.2.2.1 c]
    by_cases c2 : named T e q = true
    · rw [if_pos ((cmp_0 _ _).mpr (k.mpr c2)), c2]
      rfl
    · rw [if_neg (fun z => c2 (k.mp ((cmp_0 _ _).mp z))), Bool.eq_false_iff.mpr c2]
      rfl
  · have : named T e q = false := decide_eq_false (fun z => c z.1)
    rw [if_neg (fun z => c (rs1.mp z)), this]
    rfl
theorem lv_wall : (453774 : Int64) = lvN 5 := by decide +kernel
theorem lv_north : (7749089 : Int64) = lvN 0 := by decide +kernel
theorem lv_papered : (6221691463 : Int64) = lvN 1 := by decide +kernel
theorem lv_thin : (399749 : Int64) = lvN 2 := by decide +kernel
theorem lv_stone : (10502357 : Int64) = lvN 3 := by decide +kernel
theorem lv_tapestry : (209827113334 : Int64) = lvN 4 := by decide +kernel
theorem lv_of : (411 : Int64) = lvN 6 := by decide +kernel
theorem lv_and : (1111 : Int64) = lvN 7 := by decide +kernel
theorem lv_side : (380651 : Int64) = lvN 8 := by decide +kernel
theorem lv_shift : (10261586 : Int64) = lvN 9 := by decide +kernel
theorem lv_change : (47328332 : Int64) = lvN 10 := by decide +kernel
theorem lv_season : (275320391 : Int64) = lvN 11 := by decide +kernel
