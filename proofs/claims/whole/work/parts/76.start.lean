/-! THE START: the law up to its loop. -/
theorem dz_0 : decode code 0 = .ok (.new 7, 3) := by decide +kernel
theorem dz_3 : decode code 3 = .ok (.dup, 1) := by decide +kernel
theorem dz_4 : decode code 4 = .ok (.invokespecial 9, 3) := by decide +kernel
theorem dz_7 : decode code 7 = .ok (.astore_n 1, 1) := by decide +kernel
theorem dz_8 : decode code 8 = .ok (.new 10, 3) := by decide +kernel
theorem dz_11 : decode code 11 = .ok (.dup, 1) := by decide +kernel
theorem dz_12 : decode code 12 = .ok (.invokespecial 12, 3) := by decide +kernel
theorem dz_15 : decode code 15 = .ok (.astore_n 2, 1) := by decide +kernel
theorem dz_16 : decode code 16 = .ok (.iconst 0, 1) := by decide +kernel
theorem dz_17 : decode code 17 = .ok (.istore_n 3, 1) := by decide +kernel
theorem zc_W : Cond.classLink "WallShiftsLaw" 7 "WallShifts" ∈ wG := by decide +kernel
theorem zi_W : Cond.initialized "WallShifts" ∈ wG := by decide +kernel
theorem zl_W : Cond.methodLink "WallShiftsLaw" 9 ⟨"WallShifts", "<init>", "()V"⟩ ∈ wG := by decide +kernel
theorem zn_W : Cond.instanceMethod ⟨"WallShifts", "<init>", "()V"⟩ ∈ wG := by decide +kernel
theorem zk_W : Cond.code ⟨"WallShifts", "<init>", "()V"⟩ prog_1_method_1_code 2 none ∈ wG := by decide +kernel
theorem zc_M : Cond.classLink "WallShiftsLaw" 10 "WallShiftsModel" ∈ wG := by decide +kernel
theorem zi_M : Cond.initialized "WallShiftsModel" ∈ wG := by decide +kernel
theorem zl_M : Cond.methodLink "WallShiftsLaw" 12 ⟨"WallShiftsModel", "<init>", "()V"⟩ ∈ wG := by decide +kernel
theorem zn_M : Cond.instanceMethod ⟨"WallShiftsModel", "<init>", "()V"⟩ ∈ wG := by decide +kernel
theorem zk_M : Cond.code ⟨"WallShiftsModel", "<init>", "()V"⟩ prog_6_method_1_code 1 none ∈ wG := by decide +kernel
theorem ad_s {w mo b : Nat} {u : (Nat → Nat) × (Nat → Nat × Nat × (Nat → Nat)) × (Nat → Nat) × (Nat → Nat) × (Nat → Nat)} {v tS aK aV : Nat → Nat} {i : Nat} (hi : i < 4) : adA w mo u v tS aK aV b (oT 23 + i) = tS i := by
  show adA w mo u v tS aK aV b (64 + i) = _
  unfold adA
  rw [if_neg (by omega), if_pos (by omega), Nat.add_sub_cancel_left]
theorem ad_k {w mo b : Nat} {u : (Nat → Nat) × (Nat → Nat × Nat × (Nat → Nat)) × (Nat → Nat) × (Nat → Nat) × (Nat → Nat)} {v tS aK aV : Nat → Nat} {i : Nat} (hi : i < 12) : adA w mo u v tS aK aV b (oT 25 + i) = aK i := by
  show adA w mo u v tS aK aV b (69 + i) = _
  unfold adA
  rw [if_neg (by omega), if_neg (by omega), if_neg (by omega), if_pos (by omega), Nat.add_sub_cancel_left]
theorem ad_v {w mo b : Nat} {u : (Nat → Nat) × (Nat → Nat × Nat × (Nat → Nat)) × (Nat → Nat) × (Nat → Nat) × (Nat → Nat)} {v tS aK aV : Nat → Nat} {i : Nat} (hi : i < 12) : adA w mo u v tS aK aV b (oT 26 + i) = aV i := by
  show adA w mo u v tS aK aV b (81 + i) = _
  unfold adA
  rw [if_neg (by omega), if_neg (by omega), if_neg (by omega), if_neg (by omega), Nat.add_sub_cancel_left]
theorem vkS_eq {N : Nat} {len : List Nat} {byt : List (List Int32)} {f g f' g' : Nat → Nat} {A : Nat → Prop} {U : State} {H : Heap} (h : vk_S N len byt f g A U H) (hf : ∀ i, i < N → f' i = f i) (hg : ∀ i, i < N → g' i = g i) : vk_S N len byt f' g' A U H := by
  refine ⟨fun i hi => ?_, fun i j hi hj e => h.2 i j hi hj (by rw [← hf i hi, ← hf j hj]; exact e)⟩
  rw [hf i hi, hg i hi]
  exact h.1 i hi
set_option maxHeartbeats 4000000 in
set_option maxRecDepth 100000 in
/-- THE LAW, from its entry -/
theorem whole_go {p : Program} {e : Env} {s : State} {m : MethodId} {below : List Frame} {meth : Method} {c : Code} (l : Launch) {b L : Nat} {xs : Nat → Int32} (hL : L ≤ 3072) (C0 : lw_At p s m meth c b L xs) : W p l e room_1 s m #[Value.ref b] below meth c s.heap [] 0 0 (lw_Z below #[Value.ref b] s) (entryFrame m ([Value.ref b] : List Value).toArray 4) := by
  obtain ⟨tS, aK, aV, oq, fS, fC, fF, fR, fZ⟩ := start_facts C0
  obtain ⟨D, cT, hKI⟩ := start_K C0
  have hNs := start_nests C0
  obtain ⟨hx, hb, hr, hml, hown, hts, hX, hbl, hlocks, hgv⟩ := id C0
  have hown : s.vm.findClass "WallShiftsLaw" = some m.cls := hown
  have hg : ∀ w ∈ wG, w.before #[Value.ref b] s = true := fun w hw => hts w (wG_in hw)
  have hK := hKI.1
  have hA : ∀ q : Nat, s.heap.size ≤ q → (fun q : Nat => s.heap.size ≤ q) q := fun _ h => h
  have hS : va_S (fun q : Nat => s.heap.size ≤ q) s.heap s.heap [] := va_S.rf
  have hP : va_P D wcl [] s.heap := fun k q h => by simp at h
  have hD : va_D (fun q : Nat => s.heap.size ≤ q) [] := ⟨fun i j p q h => by simp at h, fun k q h => by simp at h⟩
  have hl := lv_entry ([.ref b]) (n := 4) (Nat.le_of_ble_eq_true rfl)
  rw [lg_entry_eq]
  generalize (lg_sl ([.ref b]) ++ List.replicate (4 - (lg_sl ([.ref b])).length) Slot.unset).toArray = ls at hl ⊢
  have hl : lv_has ls 4 [(0, .ref b)] := hl
  refine va_new (ci := 3) (fs := [.null, .null, .int 0, .null, .null, .null, .null, .null]) (C := "WallShifts") (T := T_WallShifts) (N := 8) hx hb hg in_WallShifts ty_WallShifts ty_WallShifts_ok hown (hg _ zc_W) (hg _ gi_WallShifts) (hg _ zi_W) hK hP hD hS hA rfl df_WallShifts (Nat.le_of_ble_eq_true rfl) (Nat.le_of_ble_eq_true rfl) dz_0 (fun w H hP hD hS => ?_)
  refine lv_dup hx hb dz_3 rfl ?_
  refine C_ctor (X := []) (nL := 4) (y := ⟨"WallShifts", "<init>", "()V"⟩) (n := 2) (b := prog_1_method_1_code) (Wf := walW cT w) (ct_WallShifts l D cT w H.size) hx hb hml hown hg hKI zk_W zi_W zn_W zl_W (by decide +kernel) rfl ⟨Nat.le_of_ble_eq_true rfl, Nat.le_of_ble_eq_true rfl⟩ hP hD hS hA hl.1 (Nat.le_of_ble_eq_true rfl) (Nat.le_of_ble_eq_true rfl) (Nat.le_of_ble_eq_true rfl) dz_4 (fun u H locs hP hD hS => ?_)
  have hP : va_P D wcl (walW cT w u) H := hP
  have hD : va_D (fun q : Nat => s.heap.size ≤ q) (walW cT w u) := hD
  refine lv_astore_n (lv' := [(1, .ref w), (0, .ref b)]) hx hb dz_7 rfl hl (by decide) rfl (fun ls hl => ?_)
  refine va_new (ci := 4) (fs := [.null, .null, .int 0, .null, .null, .int 0, .int 0, .int 0, .int 0, .long 0, .int 0, .int 0, .null, .null, .null, .null, .null, .null, .int 0]) (C := "WallShiftsModel") (T := T_Model) (N := 19) hx hb hg in_Model ty_Model ty_Model_ok hown (hg _ zc_M) (hg _ gi_Model) (hg _ zi_M) hK hP hD hS hA rfl df_Model (Nat.le_of_ble_eq_true rfl) (Nat.le_of_ble_eq_true rfl) dz_8 (fun mo H hP hD hS => ?_)
  refine lv_dup hx hb dz_11 rfl ?_
  refine C_ctor (X := walW cT w u) (nL := 4) (y := ⟨"WallShiftsModel", "<init>", "()V"⟩) (n := 1) (b := prog_6_method_1_code) (Wf := modW cT mo) (ct_Model l D cT mo H.size) hx hb hml hown hg hKI zk_M zi_M zn_M zl_M (by decide +kernel) rfl ⟨Nat.le_of_ble_eq_true rfl, Nat.le_of_ble_eq_true rfl⟩ hP hD hS hA hl.1 (Nat.le_of_ble_eq_true rfl) (Nat.le_of_ble_eq_true rfl) (Nat.le_of_ble_eq_true rfl) dz_12 (fun v H locs hP hD hS => ?_)
  refine lv_astore_n (lv' := [(2, .ref mo), (1, .ref w), (0, .ref b)]) hx hb dz_15 rfl hl (by decide) rfl (fun ls hl => ?_)
  refine lv_iconst (v := nI 0) hx hb dz_16 (by decide) ?_
  refine lv_istore_n (lv' := [(3, .int (nI 0)), (2, .ref mo), (1, .ref w), (0, .ref b)]) hx hb dz_17 rfl hl (by decide) rfl (fun ls hl => ?_)
  have hKF : KF (D, cT, adA w mo u v tS aK aV b, s.heap.size, L, xs, oq) s := by
    refine ⟨hK, fun m => wl_D hD m, Nat.le_refl _, hNs, fun i hi => ?_, fC, fF, fun i hi => ?_, vkS_eq fZ (fun i hi => ad_k hi) (fun i hi => ad_v hi), hX, hbl⟩
    · have e : ka (D, cT, adA w mo u v tS aK aV b, s.heap.size, L, xs, oq) (oT 23 + i) = tS i := ad_s hi
      rw [e]
      exact fS i hi
    · have e : ka (D, cT, adA w mo u v tS aK aV b, s.heap.size, L, xs, oq) (oT 25 + i) = aK i := ad_k hi
      rw [e]
      exact fR i hi
  have hCX : CX p s m #[Value.ref b] meth c (D, cT, adA w mo u v tS aK aV b, s.heap.size, L, xs, oq) code 4 "WallShiftsLaw" := ⟨hx, hb, hml, hown, hg, hKF, hlocks⟩
  obtain ⟨m', hlaw⟩ := law_ok (LL := L) (f := 4000) (xs := xs) (by omega) hL L 0 4000 mem0 (by omega) (by omega) (by omega) inv0
  have hV := cL_law_18 (l := l) (e := e) (below := below) (f := 4000) hCX hr rfl 4000 (nI 0) mem0 hlaw
  refine W.widen (k := 600000) (n := 7302250) (Nat.le_of_ble_eq_true rfl) (Nat.le_of_ble_eq_true rfl) ?_
  exact hV H _ ls (wl_P hP) hS (lv_sub hl [3, 2, 1, 0] rfl)
