/-! THE START: the law up to its first call. -/
theorem dz_0 : decode code 0 = .ok (.new 45, 3) := by decide +kernel
theorem dz_3 : decode code 3 = .ok (.dup, 1) := by decide +kernel
theorem dz_4 : decode code 4 = .ok (.invokespecial 82, 3) := by decide +kernel
theorem dz_7 : decode code 7 = .ok (.astore_n 1, 1) := by decide +kernel
theorem dz_8 : decode code 8 = .ok (.bipush 66, 2) := by decide +kernel
theorem dz_10 : decode code 10 = .ok (.newarray .int, 2) := by decide +kernel
theorem dz_12 : decode code 12 = .ok (.astore_n 2, 1) := by decide +kernel
theorem zc_W : Cond.classLink "WallShiftsLaw" 45 "WallShifts" ∈ wG := by decide +kernel
theorem zi_W : Cond.initialized "WallShifts" ∈ wG := by decide +kernel
theorem zl_W : Cond.methodLink "WallShiftsLaw" 82 ⟨"WallShifts", "<init>", "()V"⟩ ∈ wG := by decide +kernel
theorem zn_W : Cond.instanceMethod ⟨"WallShifts", "<init>", "()V"⟩ ∈ wG := by decide +kernel
theorem zk_W : Cond.code ⟨"WallShifts", "<init>", "()V"⟩ prog_1_method_1_code 2 none ∈ wG := by decide +kernel
theorem za_I : Cond.arrayClass .int ∈ wG := by decide +kernel
theorem ad_s {w z b : Nat} {u : (Nat → Nat) × (Nat → Nat × Nat × (Nat → Nat)) × (Nat → Nat) × (Nat → Nat) × (Nat → Nat)} {tS : Nat → Nat} {i : Nat} (hi : i < 3) : adA w z u tS b (oT 23 + i) = tS i := by
  show adA w z u tS b (54 + i) = _
  unfold adA
  rw [if_neg (by omega), if_pos (by omega), Nat.add_sub_cancel_left]
set_option maxHeartbeats 4000000 in
set_option maxRecDepth 100000 in
/-- THE LAW, from its entry -/
theorem whole_go {p : Program} {e : Env} {s : State} {m : MethodId} {below : List Frame} {meth : Method} {c : Code} (l : Launch) {b L : Nat} {xs : Nat → Int32} (hL : L ≤ 260) (C0 : lw_At p s m meth c b L xs) : W p l e room_1 s m #[Value.ref b] below meth c s.heap [] 0 0 (lw_Z below #[Value.ref b] s) (entryFrame m ([Value.ref b] : List Value).toArray 33) := by
  obtain ⟨tS, fS⟩ := start_facts C0
  obtain ⟨D, cT, hKI⟩ := start_K C0
  have hNs := start_nests C0
  obtain ⟨hx, hb, hr, hml, hown, hts, hX, hbl, hlocks, hgv⟩ := id C0
  have hown : s.vm.findClass "WallShiftsLaw" = some m.cls := hown
  have hg : ∀ w ∈ wG, w.before #[Value.ref b] s = true := fun w hw => hts w (wG_in hw)
  have hK := hKI.1
  have hA : ∀ q : Nat, s.heap.size ≤ q → (fun q : Nat => s.heap.size ≤ q) q := fun _ h => h
  have hS : va_S (fun q : Nat => s.heap.size ≤ q) s.heap s.heap [] := va_S.rf
  have hP : va_P D wcl [] s.heap := fun k q h => by simp at h
  have hD : va_D (fun q : Nat => s.heap.size ≤ q) [] := ⟨fun i j p q h => by simp at h, fun k q h => by simp at h⟩
  have hl := lv_entry ([.ref b]) (n := 33) (Nat.le_of_ble_eq_true rfl)
  rw [lg_entry_eq]
  generalize (lg_sl ([.ref b]) ++ List.replicate (33 - (lg_sl ([.ref b])).length) Slot.unset).toArray = ls at hl ⊢
  have hl : lv_has ls 33 [(0, .ref b)] := hl
  refine va_new (ci := 3) (fs := [.null, .null, .int 0, .null, .null, .null, .null, .null]) (C := "WallShifts") (T := T_WallShifts) (N := 8) hx hb hg in_WallShifts ty_WallShifts ty_WallShifts_ok hown (hg _ zc_W) (hg _ gi_WallShifts) (hg _ zi_W) hK hP hD hS hA rfl df_WallShifts (Nat.le_of_ble_eq_true rfl) (Nat.le_of_ble_eq_true rfl) dz_0 (fun w H hP hD hS => ?_)
  refine lv_dup hx hb dz_3 rfl ?_
  refine C_ctor (X := []) (nL := 33) (y := ⟨"WallShifts", "<init>", "()V"⟩) (n := 2) (b := prog_1_method_1_code) (Wf := walW cT w) (ct_WallShifts l D cT w H.size) hx hb hml hown hg hKI zk_W zi_W zn_W zl_W (by decide +kernel) rfl ⟨Nat.le_of_ble_eq_true rfl, Nat.le_of_ble_eq_true rfl⟩ hP hD hS hA hl.1 (Nat.le_of_ble_eq_true rfl) (Nat.le_of_ble_eq_true rfl) (Nat.le_of_ble_eq_true rfl) dz_4 (fun u H locs hP hD hS => ?_)
  have hP : va_P D wcl (walW cT w u) H := hP
  have hD : va_D (fun q : Nat => s.heap.size ≤ q) (walW cT w u) := hD
  refine lv_astore_n (lv' := [(1, .ref w), (0, .ref b)]) hx hb dz_7 rfl hl (by decide) rfl (fun ls hl => ?_)
  refine lv_bipush (v := nI 66) hx hb dz_8 (by decide) ?_
  refine C_newI (n := 66) hx hb (hg _ za_I) hK hP hD hS hA (by decide) (Nat.le_of_ble_eq_true rfl) (Nat.le_of_ble_eq_true rfl) dz_10 (fun z H hP hD hS => ?_)
  refine lv_astore_n (lv' := [(2, .ref z), (1, .ref w), (0, .ref b)]) hx hb dz_12 rfl hl (by decide) rfl (fun ls hl => ?_)
  have hKF : KF (D, cT, adA w z u tS b, s.heap.size, L, xs, none) s := by
    refine ⟨hK, fun m => wl_D hD m, Nat.le_refl _, hNs, fun i hi => ?_, hX, hbl⟩
    have e : ka (D, cT, adA w z u tS b, s.heap.size, L, xs, none) (oT 23 + i) = tS i := ad_s hi
    rw [e]
    exact fS i hi
  have hCX : CX p s m #[Value.ref b] meth c (D, cT, adA w z u tS b, s.heap.size, L, xs, none) code 33 "WallShiftsLaw" := ⟨hx, hb, hml, hown, hg, hKF, hlocks⟩
  obtain ⟨m', hlaw⟩ := law_ok (LL := L) (f := 4000) (xs := xs) (mem := mem0) (by omega) hL rc0 row0
  have hV := cL_law_13 (l := l) (e := e) (below := below) (f := 4000) hCX hr rfl mem0 hlaw
  refine W.widen (k := 600000) (n := 7302250) (Nat.le_of_ble_eq_true rfl) (Nat.le_of_ble_eq_true rfl) ?_
  exact hV H _ ls (wl_P hP) hS (lv_sub hl [2, 1, 0] rfl)
