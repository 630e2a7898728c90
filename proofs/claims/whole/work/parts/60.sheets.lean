/-! sheet, write, copy. -/
def shB (s t i j : Nat) : Bool := decide ((t = 8 ∨ t = 9) ∧ i = s ∨ (t = 17 ∨ t = 18) ∧ j = s ∨ t = 19 ∧ j / 40 = s ∨ t = 20)
theorem INV_sh {mem m : Mem} {S : PS} {s : Nat} (hC : RC mem 0 S) (hM : RM mem S) (hi : IV S) (hm : mi S ≤ 99999) (hR : RS mem) (fx : Fz (shB s) mem m) (h1 : SH1 m s) : INV m := by
  have dp : ∀ {p t i j : Nat}, palZ p t i j = true → shB s t i j = false := fun q => by
    have := notPal q
    exact decide_eq_false (by omega)
  refine ⟨S, RC_fz hC hi.2.2.2.2.2.2.2.1 fx (fun _ _ _ q => dp q), RK_fz (t := 13) hM fx (fun _ => decide_eq_false (by omega)), hi, hm, fun s' hs' => ?_, TP_fz' hR.2.1 fx (decide_eq_false (by omega)) (decide_eq_false (by omega)) (fun _ => decide_eq_false (by omega)) (fun _ => decide_eq_false (by omega)), FD_fz' hR.2.2.1 fx (fun _ => decide_eq_false (by omega)) (fun _ => decide_eq_false (by omega)), KP_fz hR.2.2.2 fx (decide_eq_false (by omega)) (decide_eq_false (by omega)) (fun _ _ _ q => dp q) (fun _ => decide_eq_false (by omega))⟩
  by_cases c : s' = s
  · rw [c]
    exact h1
  · exact SH1_fz (hR.1 s' hs') fx hs' (fun _ => decide_eq_false (by omega)) (fun _ => decide_eq_false (by omega)) (decide_eq_false (by omega)) (decide_eq_false (by omega)) (fun _ _ => decide_eq_false (by omega))
def n9 (s t i _j : Nat) : Bool := decide (t = 9 ∧ i = s)
def n19 (s t _i j : Nat) : Bool := decide (t = 19 ∧ j / 40 = s)
theorem n9_B {s : Nat} {mem m : Mem} (h : Fz (n9 s) mem m) : Fz (shB s) mem m := Fz_mo h (fun t i j q => by
  have := of_decide_eq_true q
  exact decide_eq_true (by omega))
theorem n19_B {s : Nat} {mem m : Mem} (h : Fz (n19 s) mem m) : Fz (shB s) mem m := Fz_mo h (fun t i j q => by
  have := of_decide_eq_true q
  exact decide_eq_true (by omega))
theorem fillC_lp {f s : Nat} : ∀ (d i n : Nat) (mem : Mem), i + d = 40 → d < n → (∀ j, j < i → gL mem 9 s j = 0) →
    ∃ m', dJArr_fill_6 f n s 0 (nI i) 40 mem = some ((), m') ∧ (∀ j, j < 40 → gL m' 9 s j = 0) ∧ Fz (n9 s) mem m'
  | 0, i, n, mem, e, hn, h => by
    obtain ⟨n, rfl⟩ : ∃ k, n = k + 1 := ⟨n - 1, by omega⟩
    have e' : i = 40 := by omega
    subst e'
    rw [dJArr_fill_6, if_neg (show ¬ nI 40 < (40 : Int32) by decide)]
    exact ⟨mem, rfl, h, Fz_rfl _ _⟩
  | d + 1, i, n, mem, e, hn, h => by
    obtain ⟨n, rfl⟩ : ∃ k, n = k + 1 := ⟨n - 1, by omega⟩
    rw [dJArr_fill_6, if_pos (show nI i < (40 : Int32) from lt_n (c := 40) (by omega) (by omega)), ck_in _ (by omega) (by omega), nI_clamp (by omega), add1]
    obtain ⟨m', r1, r2, r3⟩ := fillC_lp (f := f) (s := s) d (i + 1) n (sL mem 9 s i 0) (by omega) (by omega) (fun j hj => by
      rw [gL_sL]
      by_cases c : j = i
      · rw [if_pos ⟨rfl, rfl, c⟩]
      · rw [if_neg (fun z => c z.2.2)]
        exact h j (by omega))
    exact ⟨m', r1, r2, Fz_tr (Fz_sL (decide_eq_true ⟨rfl, rfl⟩)) r3⟩
theorem at40 (s j : Nat) : (40 : Int32) * nI s + nI j = nI (40 * s + j) := by
  have e1 : (40 : Int32) * nI s = nI (40 * s) := nb_mul 40 s
  rw [e1, nb_add]
theorem n19_at {s j : Nat} (h : j < 40) (i : Nat) : n19 s 19 i (40 * s + j) = true := decide_eq_true ⟨rfl, by omega⟩
theorem fillM_lp {f s z : Nat} (hs : s < 4) : ∀ (d i n : Nat) (mem : Mem), i + d = 40 → d < n → (∀ j, j < i → gL mem 19 0 (40 * s + j) = 0) → gI mem 18 0 s = nI z →
    ∃ m', dM_sheet_85 f n (nI s) (nI i) mem = some (nI z, m') ∧ (∀ j, j < 40 → gL m' 19 0 (40 * s + j) = 0) ∧ Fz (n19 s) mem m'
  | 0, i, n, mem, e, hn, h, hz => by
    obtain ⟨n, rfl⟩ : ∃ k, n = k + 1 := ⟨n - 1, by omega⟩
    have e' : i = 40 := by omega
    subst e'
    rw [dM_sheet_85, if_neg (show ¬ nI 40 < (40 : Int32) by decide), ck_in _ hs (by omega), nI_clamp (by omega), hz]
    exact ⟨mem, rfl, h, Fz_rfl _ _⟩
  | d + 1, i, n, mem, e, hn, h, hz => by
    obtain ⟨n, rfl⟩ : ∃ k, n = k + 1 := ⟨n - 1, by omega⟩
    rw [dM_sheet_85, if_pos (show nI i < (40 : Int32) from lt_n (c := 40) (by omega) (by omega)), at40, ck_in _ (by omega) (by omega), nI_clamp (by omega), add1]
    obtain ⟨m', r1, r2, r3⟩ := fillM_lp (f := f) (z := z) hs d (i + 1) n (sL mem 19 0 (40 * s + i) 0) (by omega) (by omega) (fun j hj => by
      rw [gL_sL]
      by_cases c : j = i
      · rw [if_pos ⟨rfl, rfl, by omega⟩]
      · rw [if_neg (by omega)]
        exact h j (by omega)) hz
    exact ⟨m', r1, r2, Fz_tr (Fz_sL (n19_at (by omega) 0)) r3⟩
theorem sheet_core {f s b : Nat} {mem : Mem} (hf : 2000 ≤ f) (hI : INV mem) (hs : s < 4) (hb : b = 0 ∨ b = 8 ∨ b = 16 ∨ b = 64) (a3 : Int32) : CA (dW_sheet_36 f (nI s) (nI b) a3) (dM_sheet_36 f (nI s) (nI b) a3) mem := by
  by_cases c0 : a3 < 0
  · exact find_Z (f := f) hI (by unfold dW_sheet_36; rw [if_pos c0]) (fun m fx => by unfold dM_sheet_36; rw [if_pos c0])
  by_cases c4 : (40 : Int32) < a3
  · exact find_B (f := f) hI (by unfold dW_sheet_36; rw [if_neg c0, if_pos c4]) (fun m fx => by unfold dM_sheet_36; rw [if_neg c0, if_pos c4])
  obtain ⟨z, hz, rfl⟩ := nb_in (n := 40) (by omega) c0 c4
  obtain ⟨S, hC, hM, hi, hm, hR⟩ := hI
  have kb : nI b = 0 ↔ b = 0 := nb_zero (by omega)
  obtain ⟨z', hz', hzb⟩ : ∃ z', z' ≤ 40 ∧ nI z' = if b = 0 then (0 : Int32) else nI z := by
    by_cases c : b = 0
    · exact ⟨0, by omega, by rw [if_pos c]; rfl⟩
    · exact ⟨z, hz, by rw [if_neg c]⟩
  have hA : dW_sheet_36 f (nI s) (nI b) (nI z) mem = bd (dS_renew_15 f s s (nI z') (sI mem 8 s 0 (nI b))) (fun r4 m4 => some (r4, m4)) := by
    unfold dW_sheet_36 dS_renew
    rw [if_neg c0, if_neg c4, ck_in _ hs (by omega), nI_clamp (by omega), hzb]
    by_cases c : b = 0
    · rw [if_pos (kb.mpr c), if_pos c]
    · rw [if_neg (fun q => c (kb.mp q)), if_neg c]
  have hB : ∀ m, dM_sheet_36 f (nI s) (nI b) (nI z) m = dM_sheet_85 f f (nI s) 0 (sI (sI m 17 0 s (nI b)) 18 0 s (nI z')) := by
    intro m
    unfold dM_sheet_36
    rw [if_neg c0, if_neg c4, ck_in _ hs (by omega), ck_in _ hs (by omega), ck_in _ hs (by omega), nI_clamp (by omega), hzb]
    by_cases c : b = 0
    · rw [if_pos (kb.mpr c), if_pos c]
    · rw [if_neg (fun q => c (kb.mp q)), if_neg c]
  obtain ⟨m1, r1, r2, r3⟩ := fillC_lp (f := f) (s := s) 40 0 f (sI (sI mem 8 s 0 (nI b)) 8 s 1 (nI z')) (by omega) (by omega) (fun j hj => absurd hj (by omega))
  have e1 : gI m1 8 s 1 = nI z' := ((r3 8 s 1 (decide_eq_false (by omega))).1).trans (by rw [gI_sI, if_pos ⟨rfl, rfl, rfl⟩])
  have e0 : gI m1 8 s 0 = nI b := ((r3 8 s 0 (decide_eq_false (by omega))).1).trans (by rw [gI_sI, if_neg (by omega), gI_sI, if_pos ⟨rfl, rfl, rfl⟩])
  obtain ⟨m2, s1, s2, s3⟩ := fillM_lp (f := f) (s := s) (z := z') hs 40 0 f (sI (sI m1 17 0 s (nI b)) 18 0 s (nI z')) (by omega) (by omega) (fun j hj => absurd hj (by omega)) (by rw [gI_sI, if_pos ⟨rfl, rfl, rfl⟩])
  have f1 : Fz (shB s) mem m1 := Fz_tr (Fz_tr (Fz_sI (decide_eq_true (by omega))) (Fz_sI (decide_eq_true (by omega)))) (n9_B r3)
  have f2 : Fz (shB s) m1 m2 := Fz_tr (Fz_tr (Fz_sI (decide_eq_true (by omega))) (Fz_sI (decide_eq_true (by omega)))) (n19_B s3)
  have f3 : ∀ t i j, t = 8 ∨ t = 9 → gI m2 t i j = gI m1 t i j ∧ gL m2 t i j = gL m1 t i j := fun t i j ht => by
    have g := s3 t i j (decide_eq_false (by omega))
    refine ⟨g.1.trans ?_, g.2⟩
    rw [gI_sI, if_neg (by omega), gI_sI, if_neg (by omega)]
  refine ans_ca (r := nI z') (m1 := m1) (m2 := m2) ?_ ?_ (INV_sh hC hM hi hm hR (Fz_tr f1 f2) ⟨b, z', hb, hz', ?_, ?_, ?_, ?_, fun j hj => ?_⟩)
  · rw [hA]
    unfold dS_renew_15 dJArr_fill
    rw [show dJArr_fill_6 f f s 0 0 40 (sI (sI mem 8 s 0 (nI b)) 8 s 1 (nI z')) = _ from r1, bd_ok, bd_ok, e1]
  · rw [hB]
    exact s1
  · rw [(f3 8 s 0 (by omega)).1, e0]
  · rw [(s3 17 0 s (decide_eq_false (by omega))).1, gI_sI, if_neg (by omega), gI_sI, if_pos ⟨rfl, rfl, rfl⟩]
  · rw [(f3 8 s 1 (by omega)).1, e1]
  · rw [(s3 18 0 s (decide_eq_false (by omega))).1, gI_sI, if_pos ⟨rfl, rfl, rfl⟩]
  · rw [(f3 9 s j (by omega)).2, r2 j hj, s2 j hj]
theorem ca_sheet {f : Nat} {mem : Mem} (hf : 2000 ≤ f) (hI : INV mem) (a1 a2 a3 : Int32) : CA (dW_sheet f a1 a2 a3) (dM_sheet f a1 a2 a3) mem := by
  cases h1 : inb a1 0 3 with
  | false => exact find_B (f := f) hI (by unfold dW_sheet; rw [W_isSheet, bd_ok, h1, ifz_f]) (fun m fx => by unfold dM_sheet; rw [M_isSheet, bd_ok, h1, ifz_f])
  | true =>
    have hA : ∀ m, dW_sheet f a1 a2 a3 m = _ := fun m => (by unfold dW_sheet; rw [W_isSheet, bd_ok, h1, ifz_t] : dW_sheet f a1 a2 a3 m = (if a2 = 0 then (dW_sheet_36 f a1 a2 a3 m) else (if a2 = (8 : Int32) then (dW_sheet_36 f a1 a2 a3 m) else (if a2 = (16 : Int32) then (dW_sheet_36 f a1 a2 a3 m) else (if a2 = (64 : Int32) then (dW_sheet_36 f a1 a2 a3 m) else (bd (dW_finding f (-1000000001 : Int32) m) (fun r3 m3 => some (r3, m3))))))))
    have hB : ∀ m, dM_sheet f a1 a2 a3 m = _ := fun m => (by unfold dM_sheet; rw [M_isSheet, bd_ok, h1, ifz_t] : dM_sheet f a1 a2 a3 m = (if a2 = 0 then (dM_sheet_36 f a1 a2 a3 m) else (if a2 = (8 : Int32) then (dM_sheet_36 f a1 a2 a3 m) else (if a2 = (16 : Int32) then (dM_sheet_36 f a1 a2 a3 m) else (if a2 = (64 : Int32) then (dM_sheet_36 f a1 a2 a3 m) else (bd (dM_finds f (-1000000001 : Int32) m) (fun r3 m3 => some (r3, m3))))))))
    obtain ⟨s, -, hs, rfl⟩ := inb_t (a := 0) (n := 3) rfl (by omega) (by omega) h1
    by_cases c0 : a2 = 0
    · obtain ⟨r, m1, m2, g1, g2, g3⟩ := sheet_core (f := f) (s := s) (b := 0) hf hI (by omega) (by omega) a3
      subst c0
      exact ⟨r, m1, m2, by rw [hA, if_pos rfl]; exact g1, by rw [hB, if_pos rfl]; exact g2, g3⟩
    by_cases c8 : a2 = 8
    · obtain ⟨r, m1, m2, g1, g2, g3⟩ := sheet_core (f := f) (s := s) (b := 8) hf hI (by omega) (by omega) a3
      subst c8
      exact ⟨r, m1, m2, by rw [hA, if_neg c0, if_pos rfl]; exact g1, by rw [hB, if_neg c0, if_pos rfl]; exact g2, g3⟩
    by_cases c16 : a2 = 16
    · obtain ⟨r, m1, m2, g1, g2, g3⟩ := sheet_core (f := f) (s := s) (b := 16) hf hI (by omega) (by omega) a3
      subst c16
      exact ⟨r, m1, m2, by rw [hA, if_neg c0, if_neg c8, if_pos rfl]; exact g1, by rw [hB, if_neg c0, if_neg c8, if_pos rfl]; exact g2, g3⟩
    by_cases c64 : a2 = 64
    · obtain ⟨r, m1, m2, g1, g2, g3⟩ := sheet_core (f := f) (s := s) (b := 64) hf hI (by omega) (by omega) a3
      subst c64
      exact ⟨r, m1, m2, by rw [hA, if_neg c0, if_neg c8, if_neg c16, if_pos rfl]; exact g1, by rw [hB, if_neg c0, if_neg c8, if_neg c16, if_pos rfl]; exact g2, g3⟩
    exact find_B (f := f) hI (by rw [hA, if_neg c0, if_neg c8, if_neg c16, if_neg c64]) (fun m fx => by rw [hB, if_neg c0, if_neg c8, if_neg c16, if_neg c64])
def CAL (A B : Mem → Option (Int64 × Mem)) (mem : Mem) : Prop := ∃ r m1 m2, A mem = some (r, m1) ∧ B m1 = some (r, m2) ∧ INV m2
theorem find_L {f k : Nat} {c : Int32} {A B : Mem → Option (Int64 × Mem)} {mem : Mem} (hI : INV mem) (hk : k < 7) (hc : (-1000000001 : Int32) - c = nI k)
    (hA : A mem = bd (dW_finding f c mem) (fun r m => some (r.toInt64, m))) (hB : ∀ m, Fz (rowZ 10) mem m → B m = bd (dM_finds f c m) (fun r m => some (r.toInt64, m))) : CAL A B mem := by
  obtain ⟨r, m1, m2, g1, g2, g3⟩ := find_ca (f := f) (A := fun m => bd (dW_finding f c m) (fun r m => some (r, m))) (B := fun m => bd (dM_finds f c m) (fun r m => some (r, m))) hI hk hc rfl (fun _ _ => rfl)
  have f1 : Fz (rowZ 10) mem (sI mem 10 0 k (gI mem 10 0 k + 1)) := Fz_sI rfl
  have g1' : bd (dW_finding f c mem) (fun r m => some (r, m)) = some (r, m1) := g1
  have g2' : bd (dM_finds f c m1) (fun r m => some (r, m)) = some (r, m2) := g2
  rw [W_find hk hc, bd_ok] at g1'
  have hr := Prod.mk.inj (Option.some.inj g1')
  rw [← hr.2, M_find hk hc, bd_ok] at g2'
  have hr2 := Prod.mk.inj (Option.some.inj g2')
  refine ⟨c.toInt64, _, m2, by rw [hA, W_find hk hc, bd_ok], by rw [hB _ f1, M_find hk hc, bd_ok, ← hr2.2], g3⟩
theorem miss_ok {f s b : Nat} {mem : Mem} (hb : b < 100) (h : gI mem 8 s 0 = nI b) : dS_isMissing f s mem = some (nI (b2 (decide (b = 0))), mem) := by
  have k : nI b = 0 ↔ b = 0 := nb_zero (by omega)
  unfold dS_isMissing
  rw [h]
  by_cases c : b = 0
  · rw [if_pos (k.mpr c), decide_eq_true c]
    rfl
  · rw [if_neg (fun z => c (k.mp z)), decide_eq_false c]
    rfl
theorem inb_lt {z : Nat} {x : Int32} (hz : z < 2 ^ 31) (h : inb x 0 (nI z - 1) = true) : ∃ i, i < z ∧ x = nI i := by
  by_cases c : z = 0
  · rw [c] at h
    unfold inb at h
    rw [Bool.and_eq_true] at h
    have h1 := of_decide_eq_true h.1
    have h2 := of_decide_eq_true h.2
    have := Int32.le_trans h1 h2
    exact absurd this (by decide)
  · rw [sub1 (by omega)] at h
    obtain ⟨k, -, h2, e⟩ := inb_t (a := 0) rfl (by omega) (by omega) h
    exact ⟨k, by omega, e⟩
theorem ca_write {f : Nat} {mem : Mem} (hI : INV mem) (a1 a2 : Int32) (a3 : Int64) : CAL (dW_write f a1 a2 a3) (dM_write f a1 a2 a3) mem := by
  have hI' := hI
  obtain ⟨S, hC, hM, hi, hm, hR⟩ := hI'
  cases h1 : inb a1 0 3 with
  | false => exact find_L (f := f) (k := 0) (c := -1000000001) hI (by decide) (by decide) (by unfold dW_write; rw [W_isSheet, bd_ok, h1, ifz_f]) (fun m fx => by unfold dM_write; rw [M_isSheet, bd_ok, h1, ifz_f])
  | true =>
    obtain ⟨s, -, hs, rfl⟩ := inb_t (a := 0) (n := 3) rfl (by omega) (by omega) h1
    obtain ⟨b, z, hb, hz, e1, e2, e3, e4, e5⟩ := hR.1 s (by omega)
    have kb : nI b = 0 ↔ b = 0 := nb_zero (by omega)
    by_cases cb : b = 0
    · exact find_L (f := f) (k := 5) (c := -1000000006) hI (by decide) (by decide) (by unfold dW_write; rw [W_isSheet, bd_ok, h1, ifz_t, ck_in _ (by omega) (by omega), nI_clamp (by omega), miss_ok (by omega) e1, bd_ok, decide_eq_true cb, ifz_t]) (fun m fx => by unfold dM_write; rw [M_isSheet, bd_ok, h1, ifz_t, ck_in _ (by omega) (by omega), nI_clamp (by omega), (fx 17 0 s rfl).1, e2, if_pos (kb.mpr cb)])
    cases h2 : inb a2 0 (nI z - 1) with
    | false => exact find_L (f := f) (k := 0) (c := -1000000001) hI (by decide) (by decide) (by unfold dW_write; rw [W_isSheet, bd_ok, h1, ifz_t, ck_in _ (by omega) (by omega), nI_clamp (by omega), miss_ok (by omega) e1, bd_ok, decide_eq_false cb, ifz_f, ck_in _ (by omega) (by omega), e3, W_in, bd_ok, h2, ifz_f]) (fun m fx => by unfold dM_write; rw [M_isSheet, bd_ok, h1, ifz_t, ck_in _ (by omega) (by omega), nI_clamp (by omega), (fx 17 0 s rfl).1, e2, if_neg (fun q => cb (kb.mp q)), ck_in _ (by omega) (by omega), (fx 18 0 s rfl).1, e4, M_in, bd_ok, h2, ifz_f])
    | true =>
      obtain ⟨i, hii, rfl⟩ := inb_lt (by omega) h2
      have f1 : Fz (n9 s) mem (sL mem 9 s i (narF b a3)) := Fz_sL (decide_eq_true ⟨rfl, rfl⟩)
      have f2 : Fz (n19 s) (sL mem 9 s i (narF b a3)) (sL (sL mem 9 s i (narF b a3)) 19 0 (40 * s + i) (narF b a3)) := Fz_sL (n19_at (by omega) 0)
      refine ⟨gL mem 9 s i, sL mem 9 s i (narF b a3), sL (sL mem 9 s i (narF b a3)) 19 0 (40 * s + i) (narF b a3), ?_, ?_, INV_sh hC hM hi hm hR (Fz_tr (n9_B f1) (n19_B f2)) ⟨b, z, hb, hz, e1, e2, e3, e4, fun j hj => ?_⟩⟩
      · unfold dW_write
        rw [W_isSheet, bd_ok, h1, ifz_t, ck_in _ (by omega) (by omega), nI_clamp (by omega), miss_ok (by omega) e1, bd_ok, decide_eq_false cb, ifz_f, ck_in _ (by omega) (by omega), e3, W_in, bd_ok, h2, ifz_t, ck_in _ (by omega) (by omega), ck_in _ (by omega) (by omega), ck_in _ (by omega) (by omega), putC_ok (by omega) e1 (by omega), bd_ok, nI_clamp (by omega)]
      · unfold dM_write
        have q17 : gI (sL mem 9 s i (narF b a3)) 17 0 s = nI b := e2
        have q18 : gI (sL mem 9 s i (narF b a3)) 18 0 s = nI z := e4
        have q19 : gL (sL mem 9 s i (narF b a3)) 19 0 (40 * s + i) = gL mem 9 s i := by
          rw [gL_sL, if_neg (by omega)]
          exact (e5 i (by omega)).symm
        rw [M_isSheet, bd_ok, h1, ifz_t, ck_in _ (by omega) (by omega), nI_clamp (by omega), q17, if_neg (fun q => cb (kb.mp q)), ck_in _ (by omega) (by omega), q18, M_in, bd_ok, h2, ifz_t, at40, ck_in _ (by omega) (by omega), ck_in _ (by omega) (by omega), q17, narM_ok (by omega), bd_ok, ck_in _ (by omega) (by omega), nI_clamp (by omega), q19]
      · rw [gL_sL, if_neg (by omega), gL_sL, gL_sL]
        by_cases c : j = i
        · rw [if_pos ⟨rfl, rfl, c⟩, if_pos ⟨rfl, rfl, by omega⟩]
        · rw [if_neg (fun q => c q.2.2), if_neg (by omega), gL_sL, if_neg (by omega)]
          exact e5 j hj
theorem sublt {z x y : Nat} (hz : z ≤ 40) (hx : x < 2 ^ 31) (hy : y < 2 ^ 31) : nI z - nI y < nI x ↔ z < x + y := by
  have e : (nI z - nI y).toInt = (z : Int) - (y : Int) := by
    rw [Int32.toInt_sub, nI_toInt (by omega), nI_toInt hy]
    exact Int.bmod_eq_of_le (by omega) (by omega)
  rw [Int32.lt_iff_toInt_lt, e, nI_toInt hx]
  omega
def okP (z : Nat) (a n : Int32) : Bool := decide (¬ a < 0) && (decide (¬ n < 0) && decide (¬ nI z - n < a))
theorem partC_ok {f s z : Nat} {mem : Mem} (h : gI mem 8 s 1 = nI z) (a n : Int32) : dS_hasPart f s a n mem = some (nI (b2 (okP z a n)), mem) := by
  unfold dS_hasPart okP
  rw [h]
  by_cases c1 : a < 0
  · rw [if_pos c1, decide_eq_false (not_not_intro c1)]
    rfl
  rw [if_neg c1, decide_eq_true c1]
  by_cases c2 : n < 0
  · rw [if_pos c2, decide_eq_false (not_not_intro c2)]
    rfl
  rw [if_neg c2, decide_eq_true c2]
  by_cases c3 : nI z - n < a
  · rw [if_pos c3, decide_eq_false (not_not_intro c3)]
    rfl
  rw [if_neg c3, decide_eq_true c3]
  rfl
theorem partM_ok {f s z : Nat} {mem : Mem} (hs : s < 4) (hz : z ≤ 40) (h : gI mem 18 0 s = nI z) (a n : Int32) : dM_isPart f (nI s) a n mem = some (nI (b2 (okP z a n)), mem) := by
  unfold dM_isPart okP
  rw [ck_in _ hs (by omega), ck_in _ hs (by omega), nI_clamp (by omega), h]
  by_cases c1 : a < 0
  · rw [if_pos c1, decide_eq_false (not_not_intro c1)]
    rfl
  rw [if_neg c1, decide_eq_true c1]
  by_cases c2 : n < 0
  · rw [if_pos c2, decide_eq_false (not_not_intro c2)]
    rfl
  rw [if_neg c2, decide_eq_true c2]
  obtain ⟨ea, ha⟩ := nb_nn c1
  obtain ⟨en, hn⟩ := nb_nn c2
  generalize a.toNatClampNeg = x at ea ha
  generalize n.toNatClampNeg = y at en hn
  subst ea en
  by_cases c4 : nI z < nI y
  · have : z < y := (nb_lt (by omega) hn).mp c4
    have c3 : nI z - nI y < nI x := (sublt hz ha hn).mpr (by omega)
    rw [if_pos c4, decide_eq_false (not_not_intro c3)]
    rfl
  rw [if_neg c4]
  by_cases c3 : nI z - nI y < nI x
  · rw [if_pos c3, decide_eq_false (not_not_intro c3)]
    rfl
  rw [if_neg c3, decide_eq_true c3]
  rfl
theorem okP_t {z : Nat} {a n : Int32} (hz : z ≤ 40) (h : okP z a n = true) : ∃ x y, a = nI x ∧ n = nI y ∧ x + y ≤ z := by
  unfold okP at h
  rw [Bool.and_eq_true, Bool.and_eq_true] at h
  have c1 := of_decide_eq_true h.1
  have c2 := of_decide_eq_true h.2.1
  have c3 := of_decide_eq_true h.2.2
  obtain ⟨ea, ha⟩ := nb_nn c1
  obtain ⟨en, hn⟩ := nb_nn c2
  generalize a.toNatClampNeg = x at ea ha
  generalize n.toNatClampNeg = y at en hn
  subst ea en
  rw [sublt hz ha hn] at c3
  exact ⟨x, y, rfl, rfl, by omega⟩
theorem cpy_in {α : Type} {x y n a b : Nat} (A : Option α) (ha : x + n ≤ a) (hb : y + n ≤ b) (hab : a < 2 ^ 31 ∧ b < 2 ^ 31) : cpy (nI x) (nI y) (nI n) a b A = A := by
  unfold cpy
  rw [nI_clamp (by omega), nI_clamp (by omega), nI_clamp (by omega), if_neg]
  rintro (z | z | z | z | z)
  · exact nI_pos (by omega) z
  · exact nI_pos (by omega) z
  · exact nI_pos (by omega) z
  · omega
  · omega
theorem at403 (s x i : Nat) : (40 : Int32) * nI s + nI x + nI i = nI (40 * s + x + i) := by rw [at40, nb_add]
theorem cpM2 {f t y n : Nat} {g : Nat → Int64} (ht : t < 4) (hy : y + n ≤ 40) : ∀ (d i k : Nat) (mem m0 : Mem), i + d = n → d < k → (∀ j, j < n → gL mem 20 0 j = g j) → (∀ j, j < 40 → gL mem 19 0 (40 * t + j) = if y ≤ j ∧ j < y + i then g (j - y) else gL m0 19 0 (40 * t + j)) →
    ∃ m', dM_copy_138 f k (nI t) (nI y) (nI n) (nI i) mem = some (nI n, m') ∧ (∀ j, j < 40 → gL m' 19 0 (40 * t + j) = if y ≤ j ∧ j < y + n then g (j - y) else gL m0 19 0 (40 * t + j)) ∧ Fz (n19 t) mem m'
  | 0, i, k, mem, m0, e, hk, h20, h => by
    obtain ⟨k, rfl⟩ : ∃ q, k = q + 1 := ⟨k - 1, by omega⟩
    have e' : i = n := by omega
    subst e'
    rw [dM_copy_138, if_neg (nlt_n (by omega))]
    exact ⟨mem, rfl, h, Fz_rfl _ _⟩
  | d + 1, i, k, mem, m0, e, hk, h20, h => by
    obtain ⟨k, rfl⟩ : ∃ q, k = q + 1 := ⟨k - 1, by omega⟩
    rw [dM_copy_138, if_pos (lt_n (by omega) (by omega)), at403, ck_in _ (by omega) (by omega), ck_in _ (by omega) (by omega), nI_clamp (by omega), nI_clamp (by omega), add1, h20 i (by omega)]
    obtain ⟨m', r1, r2, r3⟩ := cpM2 (f := f) ht hy d (i + 1) k (sL mem 19 0 (40 * t + y + i) (g i)) m0 (by omega) (by omega) (fun j hj => by rw [gL_sL, if_neg (by omega), h20 j hj]) (fun j hj => by
      rw [gL_sL]
      by_cases c : j = y + i
      · rw [if_pos ⟨rfl, rfl, by omega⟩, if_pos ⟨by omega, by omega⟩, show j - y = i by omega]
      · rw [if_neg (by omega), h j hj]
        by_cases c2 : y ≤ j ∧ j < y + i
        · rw [if_pos c2, if_pos ⟨c2.1, by omega⟩]
        · rw [if_neg c2, if_neg (by omega)])
    refine ⟨m', r1, r2, Fz_tr (Fz_sL ?_) r3⟩
    rw [show 40 * t + y + i = 40 * t + (y + i) by omega]
    exact n19_at (by omega) 0
def n20 (t _i _j : Nat) : Bool := decide (t = 20)
theorem cpM1 {f s x t y n : Nat} {m1 : Mem} (hs : s < 4) (hx : x + n ≤ 40) (K : Mem → Option (Int32 × Mem)) (hK : ∀ m, dM_copy_138 f f (nI t) (nI y) (nI n) 0 m = K m) : ∀ (d i k : Nat) (mem : Mem), i + d = n → d < k → (∀ j, j < i → gL mem 20 0 j = gL m1 19 0 (40 * s + x + j)) → Fz n20 m1 mem →
    ∃ m', dM_copy_101 f k (nI s) (nI x) (nI t) (nI y) (nI n) (nI i) mem = K m' ∧ (∀ j, j < n → gL m' 20 0 j = gL m1 19 0 (40 * s + x + j)) ∧ Fz n20 m1 m'
  | 0, i, k, mem, e, hk, h, fx => by
    obtain ⟨k, rfl⟩ : ∃ q, k = q + 1 := ⟨k - 1, by omega⟩
    have e' : i = n := by omega
    subst e'
    rw [dM_copy_101, if_neg (nlt_n (by omega)), hK]
    exact ⟨mem, rfl, h, fx⟩
  | d + 1, i, k, mem, e, hk, h, fx => by
    obtain ⟨k, rfl⟩ : ∃ q, k = q + 1 := ⟨k - 1, by omega⟩
    rw [dM_copy_101, if_pos (lt_n (by omega) (by omega)), at403, ck_in _ (by omega) (by omega), ck_in _ (by omega) (by omega), nI_clamp (by omega), nI_clamp (by omega), add1, (fx 19 0 (40 * s + x + i) rfl).2]
    exact cpM1 hs hx K hK d (i + 1) k (sL mem 20 0 i (gL m1 19 0 (40 * s + x + i))) (by omega) (by omega) (fun j hj => by
      rw [gL_sL]
      by_cases c : j = i
      · rw [if_pos ⟨rfl, rfl, c⟩, c]
      · rw [if_neg (fun z => c z.2.2), h j (by omega)]) (Fz_tr fx (Fz_sL rfl))
theorem ca_copy {f : Nat} {mem : Mem} (hf : 2000 ≤ f) (hI : INV mem) (a1 a2 a3 a4 a5 : Int32) : CA (dW_copy f a1 a2 a3 a4 a5) (dM_copy f a1 a2 a3 a4 a5) mem := by
  have hI' := hI
  obtain ⟨S, hC, hM, hi, hm, hR⟩ := hI'
  cases h1 : inb a1 0 3 with
  | false => exact find_B (f := f) hI (by unfold dW_copy; rw [W_isSheet, bd_ok, h1, ifz_f]) (fun m fx => by unfold dM_copy; rw [M_isSheet, bd_ok, h1, ifz_f])
  | true =>
  cases h3 : inb a3 0 3 with
  | false => exact find_B (f := f) hI (by unfold dW_copy; rw [W_isSheet, bd_ok, h1, ifz_t, W_isSheet, bd_ok, h3, ifz_f]) (fun m fx => by unfold dM_copy; rw [M_isSheet, bd_ok, h1, ifz_t, M_isSheet, bd_ok, h3, ifz_f])
  | true =>
  obtain ⟨s, -, hs, rfl⟩ := inb_t (a := 0) (n := 3) rfl (by omega) (by omega) h1
  obtain ⟨t, -, ht, rfl⟩ := inb_t (a := 0) (n := 3) rfl (by omega) (by omega) h3
  obtain ⟨b, z, hb, hz, e1, e2, e3, e4, e5⟩ := hR.1 s (by omega)
  obtain ⟨b', z', hb', hz', g1, g2, g3, g4, g5⟩ := hR.1 t (by omega)
  have kb : nI b = 0 ↔ b = 0 := nb_zero (by omega)
  have kb' : nI b' = 0 ↔ b' = 0 := nb_zero (by omega)
  have kk : nI b = nI b' ↔ b = b' := nb_inj (by omega) (by omega)
  have hA : dW_copy f (nI s) a2 (nI t) a4 a5 mem = bd (dS_isMissing f s mem) (fun r7 m7 => if r7 = 0 then (bd (dS_isMissing f t m7) (fun r8 m8 => if r8 = 0 then (if (gI m8 8 s 0) = (gI m8 8 t 0) then (bd (dS_hasPart f s a2 a5 m8) (fun r9 m9 => if r9 = 0 then (bd (dW_finding f (-1000000001 : Int32) m9) (fun r10 m10 => some (r10, m10))) else (bd (dS_hasPart f t a4 a5 m9) (fun r11 m11 => if r11 = 0 then (bd (dW_finding f (-1000000001 : Int32) m11) (fun r12 m12 => some (r12, m12))) else (cpy a2 a4 a5 40 40 (some (a5, (sLr m11 9 t (va_cpy (gL m11 9 s) (gL m11 9 t) a2.toNatClampNeg a4.toNatClampNeg a5.toNatClampNeg))))))))) else (bd (dW_finding f (-1000000003 : Int32) m8) (fun r13 m13 => some (r13, m13)))) else (bd (dW_finding f (-1000000006 : Int32) m8) (fun r14 m14 => some (r14, m14))))) else (bd (dW_finding f (-1000000006 : Int32) m7) (fun r15 m15 => some (r15, m15)))) := by
    unfold dW_copy
    rw [W_isSheet, bd_ok, h1, ifz_t, W_isSheet, bd_ok, h3, ifz_t, ck_in _ (by omega) (by omega), ck_in _ (by omega) (by omega), nI_clamp (by omega), nI_clamp (by omega)]
  have hB : ∀ m, gI m 17 0 s = nI b → gI m 17 0 t = nI b' → dM_copy f (nI s) a2 (nI t) a4 a5 m = if b = 0 then (bd (dM_finds f (-1000000006 : Int32) m) (fun r5 m5 => some (r5, m5))) else if b' = 0 then (bd (dM_finds f (-1000000006 : Int32) m) (fun r6 m6 => some (r6, m6))) else if b = b' then (bd (dM_isPart f (nI s) a2 a5 m) (fun r7 m7 => if r7 = 0 then (bd (dM_finds f (-1000000001 : Int32) m7) (fun r8 m8 => some (r8, m8))) else (bd (dM_isPart f (nI t) a4 a5 m7) (fun r9 m9 => if r9 = 0 then (bd (dM_finds f (-1000000001 : Int32) m9) (fun r10 m10 => some (r10, m10))) else (dM_copy_101 f f (nI s) a2 (nI t) a4 a5 (0 : Int32) m9))))) else (bd (dM_finds f (-1000000003 : Int32) m) (fun r11 m11 => some (r11, m11))) := by
    intro m q1 q2
    unfold dM_copy
    rw [M_isSheet, bd_ok, h1, ifz_t, M_isSheet, bd_ok, h3, ifz_t, ck_in _ (by omega) (by omega), nI_clamp (by omega), q1, ck_in _ (by omega) (by omega), nI_clamp (by omega), q2, ck_in _ (by omega) (by omega), ck_in _ (by omega) (by omega)]
    by_cases c : b = 0
    · rw [if_pos (kb.mpr c), if_pos c]
    rw [if_neg (fun q => c (kb.mp q)), if_neg c]
    by_cases c' : b' = 0
    · rw [if_pos (kb'.mpr c'), if_pos c']
    rw [if_neg (fun q => c' (kb'.mp q)), if_neg c']
    by_cases c2 : b = b'
    · rw [if_pos (kk.mpr c2), if_pos c2]
    · rw [if_neg (fun q => c2 (kk.mp q)), if_neg c2]
  have hB10 : ∀ m, Fz (rowZ 10) mem m → dM_copy f (nI s) a2 (nI t) a4 a5 m = _ := fun m fx => hB m ((fx 17 0 s rfl).1.trans e2) ((fx 17 0 t rfl).1.trans g2)
  by_cases c : b = 0
  · exact find_M (f := f) hI (by rw [hA, miss_ok (by omega) e1, bd_ok, decide_eq_true c, ifz_t]) (fun m fx => by rw [hB10 m fx, if_pos c])
  by_cases c' : b' = 0
  · exact find_M (f := f) hI (by rw [hA, miss_ok (by omega) e1, bd_ok, decide_eq_false c, ifz_f, miss_ok (by omega) g1, bd_ok, decide_eq_true c', ifz_t]) (fun m fx => by rw [hB10 m fx, if_neg c, if_pos c'])
  by_cases c2 : b = b'
  · cases p1 : okP z a2 a5 with
    | false => exact find_B (f := f) hI (by rw [hA, miss_ok (by omega) e1, bd_ok, decide_eq_false c, ifz_f, miss_ok (by omega) g1, bd_ok, decide_eq_false c', ifz_f, e1, g1, if_pos (kk.mpr c2), partC_ok e3, bd_ok, p1, ifz_f]) (fun m fx => by rw [hB10 m fx, if_neg c, if_neg c', if_pos c2, partM_ok (by omega) hz ((fx 18 0 s rfl).1.trans e4), bd_ok, p1, ifz_f])
    | true =>
    cases p2 : okP z' a4 a5 with
    | false => exact find_B (f := f) hI (by rw [hA, miss_ok (by omega) e1, bd_ok, decide_eq_false c, ifz_f, miss_ok (by omega) g1, bd_ok, decide_eq_false c', ifz_f, e1, g1, if_pos (kk.mpr c2), partC_ok e3, bd_ok, p1, ifz_t, partC_ok g3, bd_ok, p2, ifz_f]) (fun m fx => by rw [hB10 m fx, if_neg c, if_neg c', if_pos c2, partM_ok (by omega) hz ((fx 18 0 s rfl).1.trans e4), bd_ok, p1, ifz_t, partM_ok (by omega) hz' ((fx 18 0 t rfl).1.trans g4), bd_ok, p2, ifz_f])
    | true =>
      obtain ⟨x, n, rfl, rfl, hxn⟩ := okP_t hz p1
      obtain ⟨y, n', rfl, en, hyn⟩ := okP_t hz' p2
      have hnn : n < 2 ^ 31 ∨ 2 ^ 31 ≤ n := by omega
      have hn' : n = n' := by
        have h1 : n ≤ 40 := by omega
        have h2 : n' ≤ 40 := by omega
        exact (nb_inj (by omega) (by omega)).mp en
      subst hn'
      have f1 : Fz (shB t) mem (sLr mem 9 t (va_cpy (gL mem 9 s) (gL mem 9 t) x y n)) := Fz_sLr (fun _ => decide_eq_true (by omega))
      have w : ∀ tt i j, tt ≠ 9 → gL (sLr mem 9 t (va_cpy (gL mem 9 s) (gL mem 9 t) x y n)) tt i j = gL mem tt i j := fun tt i j hh => by rw [gL_sLr, if_neg (fun q => hh q.1)]
      obtain ⟨m2, r1, r2, r3⟩ := cpM1 (f := f) (t := t) (y := y) (m1 := sLr mem 9 t (va_cpy (gL mem 9 s) (gL mem 9 t) x y n)) (show s < 4 by omega) (show x + n ≤ 40 by omega) (fun m => dM_copy_138 f f (nI t) (nI y) (nI n) 0 m) (fun _ => rfl) n 0 f _ (by omega) (by omega) (fun j hj => absurd hj (by omega)) (Fz_rfl _ _)
      obtain ⟨m3, s1, s2, s3⟩ := cpM2 (f := f) (t := t) (y := y) (n := n) (g := fun j => gL mem 19 0 (40 * s + x + j)) (by omega) (by omega) n 0 f m2 mem (by omega) (by omega) (fun j hj => by rw [r2 j hj, w _ _ _ (by omega)]) (fun j hj => by rw [if_neg (by omega), (r3 19 0 _ rfl).2, w _ _ _ (by omega)])
      have f2 : Fz (shB t) (sLr mem 9 t (va_cpy (gL mem 9 s) (gL mem 9 t) x y n)) m2 := Fz_mo r3 (fun tt i j q => by
        have : tt = 20 := of_decide_eq_true q
        exact decide_eq_true (by omega))
      have q3 : ∀ tt i j, tt ≠ 19 → tt ≠ 20 → gI m3 tt i j = gI mem tt i j ∧ gL m3 tt i j = gL (sLr mem 9 t (va_cpy (gL mem 9 s) (gL mem 9 t) x y n)) tt i j := fun tt i j ha hb2 => by
        have u1 := s3 tt i j (decide_eq_false (by omega))
        have u2 := r3 tt i j (decide_eq_false (by omega))
        exact ⟨u1.1.trans (u2.1.trans (gI_sLr _ _ _ _ _ _ _)), u1.2.trans u2.2⟩
      refine ans_ca (r := nI n) (m1 := sLr mem 9 t (va_cpy (gL mem 9 s) (gL mem 9 t) x y n)) (m2 := m3) ?_ ?_ (INV_sh hC hM hi hm hR (Fz_tr f1 (Fz_tr f2 (n19_B s3))) ⟨b', z', hb', hz', ?_, ?_, ?_, ?_, fun j hj => ?_⟩)
      · rw [hA, miss_ok (by omega) e1, bd_ok, decide_eq_false c, ifz_f, miss_ok (by omega) g1, bd_ok, decide_eq_false c', ifz_f, e1, g1, if_pos (kk.mpr c2), partC_ok e3, bd_ok, p1, ifz_t, partC_ok g3, bd_ok, p2, ifz_t, cpy_in _ (by omega) (by omega) (by omega), nI_clamp (by omega), nI_clamp (by omega), nI_clamp (by omega)]
      · have e4' : gI (sLr mem 9 t (va_cpy (gL mem 9 s) (gL mem 9 t) x y n)) 18 0 s = nI z := e4
        have g4' : gI (sLr mem 9 t (va_cpy (gL mem 9 s) (gL mem 9 t) x y n)) 18 0 t = nI z' := g4
        rw [hB (sLr mem 9 t (va_cpy (gL mem 9 s) (gL mem 9 t) x y n)) e2 g2, if_neg c, if_neg c', if_pos c2, partM_ok (by omega) hz e4', bd_ok, p1, ifz_t, partM_ok (by omega) hz' g4', bd_ok, p2, ifz_t]
        exact r1.trans s1
      · rw [(q3 8 t 0 (by omega) (by omega)).1, g1]
      · rw [(q3 17 0 t (by omega) (by omega)).1, g2]
      · rw [(q3 8 t 1 (by omega) (by omega)).1, g3]
      · rw [(q3 18 0 t (by omega) (by omega)).1, g4]
      · rw [(q3 9 t j (by omega) (by omega)).2, s2 j hj, gL_sLr, if_pos ⟨rfl, rfl⟩]
        unfold va_cpy
        by_cases cj : y ≤ j ∧ j < y + n
        · rw [if_pos cj, if_pos cj, e5 _ (by omega), show 40 * s + (x + (j - y)) = 40 * s + x + (j - y) by omega]
        · rw [if_neg cj, if_neg cj, g5 j hj]
  · exact find_K (f := f) hI (by rw [hA, miss_ok (by omega) e1, bd_ok, decide_eq_false c, ifz_f, miss_ok (by omega) g1, bd_ok, decide_eq_false c', ifz_f, e1, g1, if_neg (fun q => c2 (kk.mp q))]) (fun m fx => by rw [hB10 m fx, if_neg c, if_neg c', if_neg c2])
