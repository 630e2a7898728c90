/-! THE LAW'S LOOP: one call after the other, alike. -/
theorem ca_go {A B : Mem → Option (Int32 × Mem)} {mem : Mem} (h : CA A B mem) (G : Mem → Option (Int32 × Mem)) : ∃ m2, INV m2 ∧ bd (A mem) (fun r1 m1 => bd (B m1) (fun r2 m2 => if r1 = r2 then G m2 else some ((0 : Int32), m2))) = G m2 := by
  obtain ⟨r, m1, m2, h1, h2, h3⟩ := h
  refine ⟨m2, h3, ?_⟩
  rw [h1, bd_ok, h2, bd_ok, if_pos rfl]
theorem cal_go {A B : Mem → Option (Int64 × Mem)} {mem : Mem} (h : CAL A B mem) (G : Mem → Option (Int32 × Mem)) : ∃ m2, INV m2 ∧ bd (A mem) (fun r1 m1 => bd (B m1) (fun r2 m2 => if (lg_cmp r1 r2) = 0 then G m2 else some ((0 : Int32), m2))) = G m2 := by
  obtain ⟨r, m1, m2, h1, h2, h3⟩ := h
  refine ⟨m2, h3, ?_⟩
  rw [h1, bd_ok, h2, bd_ok, if_pos ((cmp_0 r r).mpr rfl)]
theorem sublt2 {z x y : Nat} (hz : z < 2 ^ 31) (hx : x < 2 ^ 31) (hy : y < 2 ^ 31) : nI z - nI y < nI x ↔ z < x + y := by
  have e : (nI z - nI y).toInt = (z : Int) - (y : Int) := by
    rw [Int32.toInt_sub, nI_toInt hz, nI_toInt hy]
    exact Int.bmod_eq_of_le (by omega) (by omega)
  rw [Int32.lt_iff_toInt_lt, e, nI_toInt hx]
  omega
set_option maxRecDepth 100000 in
set_option maxHeartbeats 4000000 in
theorem law_ok {LL f : Nat} {xs : Nat → Int32} (hf : 2000 ≤ f) (hLL : LL ≤ 3072) : ∀ (d i n : Nat) (mem : Mem), LL ≤ i + d → i ≤ LL + 6 → d < n → INV mem → ∃ m', dL_law_18 LL xs f n (nI i) mem = some ((1 : Int32), m') := by
  intro d
  induction d with
  | zero =>
    intro i n mem h hi hn hI
    obtain ⟨n, rfl⟩ : ∃ k, n = k + 1 := ⟨n - 1, by omega⟩
    have e : Int32.ofNat LL - 6 < nI i := (sublt2 (z := LL) (x := i) (y := 6) (by omega) (by omega) (by omega)).mpr (by omega)
    rw [dL_law_18, if_pos e]
    exact ⟨mem, rfl⟩
  | succ d ih =>
    intro i n mem h hi hn hI
    obtain ⟨n, rfl⟩ : ∃ k, n = k + 1 := ⟨n - 1, by omega⟩
    have kk : Int32.ofNat LL - 6 < nI i ↔ LL < i + 6 := sublt2 (z := LL) (x := i) (y := 6) (by omega) (by omega) (by omega)
    rw [dL_law_18]
    by_cases c : LL < i + 6
    · rw [if_pos (kk.mpr c)]
      exact ⟨mem, rfl⟩
    rw [if_neg (fun z => c (kk.mp z)), ck_in _ (by omega) (by omega)]
    have e6 : nI i + 6 = nI (i + 6) := nb_add i 6
    have kc : ∀ {α : Type} (j : Nat) (A : Option α), j < 6 → ck (nI i + nI j) LL A = A := fun j A hj => by
      rw [nb_add]
      exact ck_in _ (by omega) (by omega)
    have k1 : ∀ {α : Type} (A : Option α), ck (nI i + 1) LL A = A := fun A => kc 1 A (by omega)
    have k2 : ∀ {α : Type} (A : Option α), ck (nI i + 2) LL A = A := fun A => kc 2 A (by omega)
    have k3 : ∀ {α : Type} (A : Option α), ck (nI i + 3) LL A = A := fun A => kc 3 A (by omega)
    have k4 : ∀ {α : Type} (A : Option α), ck (nI i + 4) LL A = A := fun A => kc 4 A (by omega)
    have k5 : ∀ {α : Type} (A : Option α), ck (nI i + 5) LL A = A := fun A => kc 5 A (by omega)
    have go : ∀ {A B : Mem → Option (Int32 × Mem)}, CA A B mem → ∃ m', bd (A mem) (fun r1 m1 => bd (B m1) (fun r2 m2 => if r1 = r2 then dL_law_18 LL xs f n (nI i + 6) m2 else some ((0 : Int32), m2))) = some ((1 : Int32), m') := by
      intro A B hc
      obtain ⟨m2, g1, g2⟩ := ca_go hc (fun m => dL_law_18 LL xs f n (nI i + 6) m)
      obtain ⟨m', q⟩ := ih (i + 6) n m2 (by omega) (by omega) (by omega) g1
      rw [← e6] at q
      exact ⟨m', g2.trans q⟩
    have gol : ∀ {A B : Mem → Option (Int64 × Mem)}, CAL A B mem → ∃ m', bd (A mem) (fun r1 m1 => bd (B m1) (fun r2 m2 => if (lg_cmp r1 r2) = 0 then dL_law_18 LL xs f n (nI i + 6) m2 else some ((0 : Int32), m2))) = some ((1 : Int32), m') := by
      intro A B hc
      obtain ⟨m2, g1, g2⟩ := cal_go hc (fun m => dL_law_18 LL xs f n (nI i + 6) m)
      obtain ⟨m', q⟩ := ih (i + 6) n m2 (by omega) (by omega) (by omega) g1
      rw [← e6] at q
      exact ⟨m', g2.trans q⟩
    generalize (xs (nI i).toNatClampNeg &&& 63) = sw
    by_cases c0 : sw = 0
    · rw [if_pos c0]
      simp only [k1, k2]
      exact go (ca_rota hI _ _)
    rw [if_neg c0]
    by_cases c1 : sw = 1
    · rw [if_pos c1]
      simp only [k1, k2, k3]
      exact go (ca_wall hI _ _ _)
    rw [if_neg c1]
    by_cases c2 : sw = 2
    · rw [if_pos c2]
      simp only [k1, k2]
      exact go (ca_of hf hI _ _)
    rw [if_neg c2]
    by_cases c3 : sw = 3
    · rw [if_pos c3]
      simp only [k1, k2, k3]
      exact go (ca_set hI _ _ _)
    rw [if_neg c3]
    by_cases c4 : sw = 4
    · rw [if_pos c4]
      simp only [k1, k2]
      exact go (ca_turn hI _ _)
    rw [if_neg c4]
    by_cases c5 : sw = 5
    · rw [if_pos c5]
      simp only [k1, k2]
      exact go (ca_as hf hI _ _)
    rw [if_neg c5]
    by_cases c6 : sw = 6
    · rw [if_pos c6]
      simp only [k1, k2]
      exact go (ca_hears hI _ _)
    rw [if_neg c6]
    by_cases c7 : sw = 7
    · rw [if_pos c7]
      simp only [k1, k2]
      exact go (ca_say hf hI _ _)
    rw [if_neg c7]
    by_cases c8 : sw = 8
    · rw [if_pos c8]
      simp only [k1]
      exact go (ca_pass hf hI _)
    rw [if_neg c8]
    by_cases c9 : sw = 9
    · rw [if_pos c9]
      simp only [k1, k2]
      exact go (ca_speak hf hI _ _)
    rw [if_neg c9]
    by_cases c10 : sw = 10
    · rw [if_pos c10]
      simp only [k1]
      exact go (ca_reach hf hI _)
    rw [if_neg c10]
    by_cases c11 : sw = 11
    · rw [if_pos c11]
      simp only [k1]
      exact go (ca_duty hf hI _)
    rw [if_neg c11]
    by_cases c12 : sw = 12
    · rw [if_pos c12]
      simp only [k1]
      exact go (ca_now hf hI _)
    rw [if_neg c12]
    by_cases c13 : sw = 13
    · rw [if_pos c13]
      simp only [k1]
      exact go (ca_filed hf hI _)
    rw [if_neg c13]
    by_cases c14 : sw = 14
    · rw [if_pos c14]
      simp only [k1, k2]
      exact go (ca_safe hf hI _ _)
    rw [if_neg c14]
    by_cases c15 : sw = 15
    · rw [if_pos c15]
      simp only [k1]
      exact go (ca_where hf hI _)
    rw [if_neg c15]
    by_cases c16 : sw = 16
    · rw [if_pos c16]
      simp only [k1, k2]
      exact go (ca_quiet hf hI _ _)
    rw [if_neg c16]
    by_cases c17 : sw = 17
    · rw [if_pos c17]
      simp only [k1, k2]
      exact go (ca_worst hf hI _ _)
    rw [if_neg c17]
    by_cases c18 : sw = 18
    · rw [if_pos c18]
      simp only [k1, k2]
      exact go (ca_cover hf hI _ _)
    rw [if_neg c18]
    by_cases c19 : sw = 19
    · rw [if_pos c19]
      simp only [k1, k2]
      exact go (ca_shift hf hI _ _)
    rw [if_neg c19]
    by_cases c20 : sw = 20
    · rw [if_pos c20]
      simp only [k1, k2, k3]
      exact go (ca_side hf hI _ _ _)
    rw [if_neg c20]
    by_cases c21 : sw = 21
    · rw [if_pos c21]
      simp only [k1, k2]
      exact go (ca_lost hf hI _ _)
    rw [if_neg c21]
    by_cases c22 : sw = 22
    · rw [if_pos c22]
      simp only [k1]
      exact go (ca_best hf hI _)
    rw [if_neg c22]
    by_cases c23 : sw = 23
    · rw [if_pos c23]
      simp only [k1, k2]
      exact go (ca_feed hf hI _ _)
    rw [if_neg c23]
    by_cases c24 : sw = 24
    · rw [if_pos c24]
      exact go (ca_wipe hI)
    rw [if_neg c24]
    by_cases c25 : sw = 25
    · rw [if_pos c25]
      exact go (ca_palace hf hI)
    rw [if_neg c25]
    by_cases c26 : sw = 26
    · rw [if_pos c26]
      simp only [k1, k2, k3]
      exact go (ca_sheet hf hI _ _ _)
    rw [if_neg c26]
    by_cases c27 : sw = 27
    · rw [if_pos c27]
      simp only [k1, k2, k3, k4]
      exact gol (ca_write hI _ _ _)
    rw [if_neg c27]
    by_cases c28 : sw = 28
    · rw [if_pos c28]
      simp only [k1, k2, k3, k4, k5]
      exact go (ca_copy hf hI _ _ _ _ _)
    rw [if_neg c28]
    by_cases c29 : sw = 29
    · rw [if_pos c29]
      simp only [k1]
      exact go (ca_lays hf hI _)
    rw [if_neg c29]
    by_cases c30 : sw = 30
    · rw [if_pos c30]
      simp only [k1, k2]
      exact go (ca_book hf hI _ _)
    rw [if_neg c30]
    by_cases c31 : sw = 31
    · rw [if_pos c31]
      simp only [k1, k2]
      exact go (ca_read hf hI _ _)
    rw [if_neg c31]
    by_cases c32 : sw = 32
    · rw [if_pos c32]
      exact go (ca_image hf hI)
    rw [if_neg c32]
    by_cases c33 : sw = 33
    · rw [if_pos c33]
      exact go (ca_undo hf hI)
    rw [if_neg c33]
    by_cases c34 : sw = 34
    · rw [if_pos c34]
      exact go (ca_tear hI)
    rw [if_neg c34]
    by_cases c35 : sw = 35
    · rw [if_pos c35]
      simp only [k1]
      exact go (ca_count hf hI _)
    rw [if_neg c35]
    by_cases c36 : sw = 36
    · rw [if_pos c36]
      simp only [k1]
      exact go (ca_status hf hI _)
    rw [if_neg c36]
    rw [e6]
    exact ih (i + 6) n mem (by omega) (by omega) (by omega) hI
