/-! GENERATED: the walks. -/
set_option maxHeartbeats 4000000 in
set_option maxRecDepth 100000 in
theorem cW_isIn {f : Nat} {a0 : Int32} {a1 : Int32} {a2 : Int32} {mem : Mem} {o : Int32} {mem' : Mem}  (h : dW_isIn f a0 a1 a2 mem = some (o, mem')) : RT yW_isIn prog_1_method_46_code 3 (Option.some Jvm.ClassFile.FieldType.boolean) (rmM 0 0) [aI a0, aI a1, aI a2] mem (some (aI o)) mem' := by
  refine RT.of (by decide +kernel) (Nat.le_of_ble_eq_true rfl) (fun p l e s m args below meth c k X hr => ?_)
  replace X : CX p s m args meth c k prog_1_method_46_code 3 "WallShifts" := X
  unfold dW_isIn at h
  refine v_sub (lv' := [(0, _), (1, _), (2, _)]) [0, 1, 2] rfl ?_
  refine v_iload_n X (pc := 0) 0 rfl eW_isIn_0 rfl ?_
  refine v_iload_n X (pc := 1) 1 rfl eW_isIn_1 rfl ?_
  refine v_icmp_lt X (pc := 2) (tgt := 14) h eW_isIn_2 (by decide) (fun h => ?_) (fun h => ?_)
  · refine v_iconst X (pc := 14) (v := (0 : Int32)) eW_isIn_14 (by decide) ?_
    exact v_zret X (pc := 15) h hr rfl eW_isIn_15
  · refine v_iload_n X (pc := 5) 0 rfl eW_isIn_5 rfl ?_
    refine v_iload_n X (pc := 6) 2 rfl eW_isIn_6 rfl ?_
    refine v_icmp_gt X (pc := 7) (tgt := 14) h eW_isIn_7 (by decide) (fun h => ?_) (fun h => ?_)
    · refine v_iconst X (pc := 14) (v := (0 : Int32)) eW_isIn_14 (by decide) ?_
      exact v_zret X (pc := 15) h hr rfl eW_isIn_15
    · refine v_iconst X (pc := 10) (v := (1 : Int32)) eW_isIn_10 (by decide) ?_
      refine v_goto X (pc := 11) (tgt := 15) eW_isIn_11 (by decide) ?_
      exact v_zret X (pc := 15) h hr rfl eW_isIn_15
set_option maxHeartbeats 4000000 in
set_option maxRecDepth 100000 in
theorem cW_mayBeRota {f : Nat} {a0 : Int32} {a1 : Int32} {mem : Mem} {o : Int32} {mem' : Mem}  (h : dW_mayBeRota f a0 a1 mem = some (o, mem')) : RT yW_mayBeRota prog_1_method_52_code 2 (Option.some Jvm.ClassFile.FieldType.boolean) (rmM 1 22) [aI a0, aI a1] mem (some (aI o)) mem' := by
  refine RT.of (by decide +kernel) (Nat.le_of_ble_eq_true rfl) (fun p l e s m args below meth c k X hr => ?_)
  replace X : CX p s m args meth c k prog_1_method_52_code 2 "WallShifts" := X
  unfold dW_mayBeRota at h
  refine v_sub (lv' := [(0, _), (1, _)]) [0, 1] rfl ?_
  refine v_iload_n X (pc := 0) 0 rfl eW_mayBeRota_0 rfl ?_
  refine v_iconst X (pc := 1) (v := (0 : Int32)) eW_mayBeRota_1 (by decide) ?_
  refine v_iconst X (pc := 2) (v := (3 : Int32)) eW_mayBeRota_2 (by decide) ?_
  obtain ⟨r1, m1, hc1, h⟩ := bd_some h
  refine v_callS X (pc := 3) [_, _, _] [] ok_S_W_82 (cW_isIn  hc1) rfl (Nat.le_of_ble_eq_true rfl) ⟨Nat.le_of_ble_eq_true rfl, Nat.le_of_ble_eq_true rfl⟩ ⟨Nat.zero_le _, Nat.zero_le _⟩ eW_mayBeRota_3 ?_
  refine v_if_eq X (pc := 6) (tgt := 30) h eW_mayBeRota_6 (by decide) (fun h => ?_) (fun h => ?_)
  · refine v_iconst X (pc := 30) (v := (0 : Int32)) eW_mayBeRota_30 (by decide) ?_
    exact v_zret X (pc := 31) h hr rfl eW_mayBeRota_31
  · refine v_iload_n X (pc := 9) 1 rfl eW_mayBeRota_9 rfl ?_
    refine v_gets X (pc := 10) 2 (by decide) qw_175 eW_mayBeRota_10 ?_
    refine v_iload_n X (pc := 13) 0 rfl eW_mayBeRota_13 rfl ?_
    refine v_stld X (pc := 14) h (by decide) eW_mayBeRota_14 (fun h => ?_)
    refine v_gets X (pc := 15) 3 (by decide) qw_177 eW_mayBeRota_15 ?_
    refine v_iload_n X (pc := 18) 0 rfl eW_mayBeRota_18 rfl ?_
    refine v_stld X (pc := 19) h (by decide) eW_mayBeRota_19 (fun h => ?_)
    obtain ⟨r2, m2, hc2, h⟩ := bd_some h
    refine v_callS X (pc := 20) [_, _, _] [] ok_S_W_82 (cW_isIn  hc2) rfl (Nat.le_of_ble_eq_true rfl) ⟨Nat.le_of_ble_eq_true rfl, Nat.le_of_ble_eq_true rfl⟩ ⟨Nat.zero_le _, Nat.zero_le _⟩ eW_mayBeRota_20 ?_
    refine v_if_eq X (pc := 23) (tgt := 30) h eW_mayBeRota_23 (by decide) (fun h => ?_) (fun h => ?_)
    · refine v_iconst X (pc := 30) (v := (0 : Int32)) eW_mayBeRota_30 (by decide) ?_
      exact v_zret X (pc := 31) h hr rfl eW_mayBeRota_31
    · refine v_iconst X (pc := 26) (v := (1 : Int32)) eW_mayBeRota_26 (by decide) ?_
      refine v_goto X (pc := 27) (tgt := 31) eW_mayBeRota_27 (by decide) ?_
      exact v_zret X (pc := 31) h hr rfl eW_mayBeRota_31
set_option maxHeartbeats 4000000 in
set_option maxRecDepth 100000 in
theorem cW_finding {f : Nat} {a1 : Int32} {mem : Mem} {o : Int32} {mem' : Mem}  (h : dW_finding f a1 mem = some (o, mem')) : RT yW_finding prog_1_method_39_code 3 (Option.some Jvm.ClassFile.FieldType.int) (rmM 1 22) [aR 0 0, aI a1] mem (some (aI o)) mem' := by
  refine RT.of (by decide +kernel) (Nat.le_of_ble_eq_true rfl) (fun p l e s m args below meth c k X hr => ?_)
  replace X : CX p s m args meth c k prog_1_method_39_code 3 "WallShifts" := X
  unfold dW_finding at h
  refine v_sub (lv' := [(0, _), (1, _)]) [0, 1] rfl ?_
  refine v_ldc X (pc := 0) qw_179 eW_finding_0 ?_
  refine v_iload_n X (pc := 2) 1 rfl eW_finding_2 rfl ?_
  refine v_isub X (pc := 3) eW_finding_3 ?_
  refine v_istore_n X (pc := 4) (lv' := [(2, _), (0, _), (1, _)]) eW_finding_4 rfl (Nat.le_of_ble_eq_true rfl) rfl ?_
  refine v_iload_n X (pc := 5) 0 rfl eW_finding_5 rfl ?_
  refine v_iconst X (pc := 6) (v := (0 : Int32)) eW_finding_6 (by decide) ?_
  refine v_bipush X (pc := 7) (v := (6 : Int32)) eW_finding_7 (by decide) ?_
  obtain ⟨r1, m1, hc1, h⟩ := bd_some h
  refine v_callS X (pc := 9) [_, _, _] [] ok_S_W_82 (cW_isIn  hc1) rfl (Nat.le_of_ble_eq_true rfl) ⟨Nat.le_of_ble_eq_true rfl, Nat.le_of_ble_eq_true rfl⟩ ⟨Nat.zero_le _, Nat.zero_le _⟩ eW_finding_9 ?_
  refine v_if_eq X (pc := 12) (tgt := 25) h eW_finding_12 (by decide) (fun h => ?_) (fun h => ?_)
  · refine v_iload_n X (pc := 25) 2 rfl eW_finding_25 rfl ?_
    exact v_iret X (pc := 26) h hr eW_finding_26
  · refine v_aload_n X (pc := 15) 1 rfl eW_finding_15 rfl ?_
    refine v_get X (pc := 16) 6 (a := aR 10 0) (by decide) (by decide) rfl rfl rfl in_WallShifts (by decide) qw_146 rfl eW_finding_16 ?_
    refine v_iload_n X (pc := 19) 0 rfl eW_finding_19 rfl ?_
    refine v_dup2 X (pc := 20) rfl rfl eW_finding_20 ?_
    refine v_iald X (pc := 21) h (by decide) (by decide) rfl eW_finding_21 (fun h => ?_)
    refine v_iconst X (pc := 22) (v := (1 : Int32)) eW_finding_22 (by decide) ?_
    refine v_iadd X (pc := 23) eW_finding_23 ?_
    refine v_iast X (pc := 24) h (by decide) (by decide) (fun _ => rfl) eW_finding_24 (fun h => ?_)
    refine v_iload_n X (pc := 25) 2 rfl eW_finding_25 rfl ?_
    exact v_iret X (pc := 26) h hr eW_finding_26
set_option maxHeartbeats 4000000 in
set_option maxRecDepth 100000 in
theorem cW_rota {f : Nat} {a1 : Int32} {a2 : Int32} {mem : Mem} {o : Int32} {mem' : Mem}  (h : dW_rota f a1 a2 mem = some (o, mem')) : RT yW_rota prog_1_method_2_code 4 (Option.some Jvm.ClassFile.FieldType.int) (rmM 2 44) [aR 0 0, aI a1, aI a2] mem (some (aI o)) mem' := by
  refine RT.of (by decide +kernel) (Nat.le_of_ble_eq_true rfl) (fun p l e s m args below meth c k X hr => ?_)
  replace X : CX p s m args meth c k prog_1_method_2_code 4 "WallShifts" := X
  unfold dW_rota at h
  refine v_sub (lv' := [(0, _), (1, _), (2, _)]) [0, 1, 2] rfl ?_
  refine v_iload_n X (pc := 0) 1 rfl eW_rota_0 rfl ?_
  refine v_iload_n X (pc := 1) 2 rfl eW_rota_1 rfl ?_
  obtain ⟨r1, m1, hc1, h⟩ := bd_some h
  refine v_callS X (pc := 2) [_, _] [] ok_S_W_47 (cW_mayBeRota  hc1) rfl (Nat.le_of_ble_eq_true rfl) ⟨Nat.le_of_ble_eq_true rfl, Nat.le_of_ble_eq_true rfl⟩ ⟨Nat.zero_le _, Nat.zero_le _⟩ eW_rota_2 ?_
  refine v_if_ne X (pc := 5) (tgt := 15) h eW_rota_5 (by decide) (fun h => ?_) (fun h => ?_)
  · refine v_aload_n X (pc := 8) 0 rfl eW_rota_8 rfl ?_
    refine v_ldc X (pc := 9) qw_179 eW_rota_9 ?_
    obtain ⟨r2, m2, hc2, h⟩ := bd_some h
    refine v_callV X (pc := 11) [_] [] ok_V_W_52 (cW_finding  hc2) rfl (Nat.le_of_ble_eq_true rfl) ⟨Nat.le_of_ble_eq_true rfl, Nat.le_of_ble_eq_true rfl⟩ ⟨Nat.zero_le _, Nat.zero_le _⟩ (by decide) (by decide) rfl rfl eW_rota_11 ?_
    exact v_iret X (pc := 14) h hr eW_rota_14
  · refine v_aload_n X (pc := 15) 0 rfl eW_rota_15 rfl ?_
    refine v_get X (pc := 16) 0 (a := aR 1 0) (by decide) (by decide) rfl rfl rfl in_WallShifts (by decide) qw_140 rfl eW_rota_16 ?_
    refine v_get X (pc := 19) 1 (a := aR 2 0) (by decide) (by decide) rfl rfl rfl in_Palace (by decide) qw_73 rfl eW_rota_19 ?_
    refine v_iload_n X (pc := 22) 1 rfl eW_rota_22 rfl ?_
    refine v_iald X (pc := 23) h (by decide) (by decide) rfl eW_rota_23 (fun h => ?_)
    refine v_istore_n X (pc := 24) (lv' := [(3, _), (0, _), (1, _), (2, _)]) eW_rota_24 rfl (Nat.le_of_ble_eq_true rfl) rfl ?_
    refine v_aload_n X (pc := 25) 1 rfl eW_rota_25 rfl ?_
    refine v_get X (pc := 26) 0 (a := aR 1 0) (by decide) (by decide) rfl rfl rfl in_WallShifts (by decide) qw_140 rfl eW_rota_26 ?_
    refine v_get X (pc := 29) 1 (a := aR 2 0) (by decide) (by decide) rfl rfl rfl in_Palace (by decide) qw_73 rfl eW_rota_29 ?_
    refine v_iload_n X (pc := 32) 2 rfl eW_rota_32 rfl ?_
    refine v_iload_n X (pc := 33) 3 rfl eW_rota_33 rfl ?_
    refine v_iast X (pc := 34) h (by decide) (by decide) (fun _ => rfl) eW_rota_34 (fun h => ?_)
    refine v_iload_n X (pc := 35) 0 rfl eW_rota_35 rfl ?_
    exact v_iret X (pc := 36) h hr eW_rota_36
set_option maxHeartbeats 4000000 in
set_option maxRecDepth 100000 in
theorem cW_isKind {f : Nat} {a0 : Int32} {mem : Mem} {o : Int32} {mem' : Mem}  (h : dW_isKind f a0 mem = some (o, mem')) : RT yW_isKind prog_1_method_47_code 1 (Option.some Jvm.ClassFile.FieldType.boolean) (rmM 1 22) [aI a0] mem (some (aI o)) mem' := by
  refine RT.of (by decide +kernel) (Nat.le_of_ble_eq_true rfl) (fun p l e s m args below meth c k X hr => ?_)
  replace X : CX p s m args meth c k prog_1_method_47_code 1 "WallShifts" := X
  unfold dW_isKind at h
  refine v_sub (lv' := [(0, _)]) [0] rfl ?_
  refine v_iload_n X (pc := 0) 0 rfl eW_isKind_0 rfl ?_
  refine v_iconst X (pc := 1) (v := (0 : Int32)) eW_isKind_1 (by decide) ?_
  refine v_iconst X (pc := 2) (v := (5 : Int32)) eW_isKind_2 (by decide) ?_
  obtain ⟨r1, m1, hc1, h⟩ := bd_some h
  refine v_callS X (pc := 3) [_, _, _] [] ok_S_W_82 (cW_isIn  hc1) rfl (Nat.le_of_ble_eq_true rfl) ⟨Nat.le_of_ble_eq_true rfl, Nat.le_of_ble_eq_true rfl⟩ ⟨Nat.zero_le _, Nat.zero_le _⟩ eW_isKind_3 ?_
  obtain ⟨hz, h⟩ := zb_some h
  exact v_zret X (pc := 6) h hr (zb_n hz) eW_isKind_6
set_option maxHeartbeats 4000000 in
set_option maxRecDepth 100000 in
theorem cW_isRoom {f : Nat} {a0 : Int32} {mem : Mem} {o : Int32} {mem' : Mem}  (h : dW_isRoom f a0 mem = some (o, mem')) : RT yW_isRoom prog_1_method_48_code 1 (Option.some Jvm.ClassFile.FieldType.boolean) (rmM 1 22) [aI a0] mem (some (aI o)) mem' := by
  refine RT.of (by decide +kernel) (Nat.le_of_ble_eq_true rfl) (fun p l e s m args below meth c k X hr => ?_)
  replace X : CX p s m args meth c k prog_1_method_48_code 1 "WallShifts" := X
  unfold dW_isRoom at h
  refine v_sub (lv' := [(0, _)]) [0] rfl ?_
  refine v_iload_n X (pc := 0) 0 rfl eW_isRoom_0 rfl ?_
  refine v_iconst X (pc := 1) (v := (0 : Int32)) eW_isRoom_1 (by decide) ?_
  refine v_bipush X (pc := 2) (v := (9 : Int32)) eW_isRoom_2 (by decide) ?_
  obtain ⟨r1, m1, hc1, h⟩ := bd_some h
  refine v_callS X (pc := 4) [_, _, _] [] ok_S_W_82 (cW_isIn  hc1) rfl (Nat.le_of_ble_eq_true rfl) ⟨Nat.le_of_ble_eq_true rfl, Nat.le_of_ble_eq_true rfl⟩ ⟨Nat.zero_le _, Nat.zero_le _⟩ eW_isRoom_4 ?_
  obtain ⟨hz, h⟩ := zb_some h
  exact v_zret X (pc := 7) h hr (zb_n hz) eW_isRoom_7
set_option maxHeartbeats 4000000 in
set_option maxRecDepth 100000 in
theorem cP_isBuiltUp {f : Nat} {q0 : Nat} {mem : Mem} {o : Int32} {mem' : Mem} (hq0 : q0 < 3) (h : dP_isBuiltUp f q0 mem = some (o, mem')) : RT yP_isBuiltUp prog_2_method_3_code 1 (Option.some Jvm.ClassFile.FieldType.boolean) (rmM 0 0) [aR 1 q0] mem (some (aI o)) mem' := by
  refine RT.of (by decide +kernel) (Nat.le_of_ble_eq_true rfl) (fun p l e s m args below meth c k X hr => ?_)
  replace X : CX p s m args meth c k prog_2_method_3_code 1 "WallShifts$Palace" := X
  unfold dP_isBuiltUp at h
  refine v_sub (lv' := [(0, _)]) [0] rfl ?_
  refine v_aload_n X (pc := 0) 0 rfl eP_isBuiltUp_0 rfl ?_
  refine v_get X (pc := 1) 2 (a := aI (gI mem 1 q0 2)) (by decide) hq0 rfl rfl rfl in_Palace (by decide) qw_75 rfl eP_isBuiltUp_1 ?_
  refine v_bipush X (pc := 4) (v := (10 : Int32)) eP_isBuiltUp_4 (by decide) ?_
  refine v_icmp_lt X (pc := 6) (tgt := 13) h eP_isBuiltUp_6 (by decide) (fun h => ?_) (fun h => ?_)
  · refine v_iconst X (pc := 13) (v := (0 : Int32)) eP_isBuiltUp_13 (by decide) ?_
    exact v_zret X (pc := 14) h hr rfl eP_isBuiltUp_14
  · refine v_iconst X (pc := 9) (v := (1 : Int32)) eP_isBuiltUp_9 (by decide) ?_
    refine v_goto X (pc := 10) (tgt := 14) eP_isBuiltUp_10 (by decide) ?_
    exact v_zret X (pc := 14) h hr rfl eP_isBuiltUp_14
set_option maxHeartbeats 4000000 in
set_option maxRecDepth 100000 in
theorem cP_build {f : Nat} {q0 : Nat} {a1 : Int32} {a2 : Int32} {a3 : Int32} {a4 : Int32} {mem : Mem} {o : Int32} {mem' : Mem} (hq0 : q0 < 3) (h : dP_build f q0 a1 a2 a3 a4 mem = some (o, mem')) : RT yP_build prog_2_method_4_code 6 (Option.some Jvm.ClassFile.FieldType.int) (rmM 0 0) [aR 1 q0, aI a1, aI a2, aI a3, aI a4] mem (some (aI o)) mem' := by
  refine RT.of (by decide +kernel) (Nat.le_of_ble_eq_true rfl) (fun p l e s m args below meth c k X hr => ?_)
  replace X : CX p s m args meth c k prog_2_method_4_code 6 "WallShifts$Palace" := X
  unfold dP_build at h
  refine v_sub (lv' := [(0, _), (1, _), (2, _), (3, _), (4, _)]) [0, 1, 2, 3, 4] rfl ?_
  refine v_aload_n X (pc := 0) 0 rfl eP_build_0 rfl ?_
  refine v_get X (pc := 1) 3 (a := aR 3 q0) (by decide) hq0 rfl rfl rfl in_Palace (by decide) qw_77 rfl eP_build_1 ?_
  refine v_aload_n X (pc := 4) 0 rfl eP_build_4 rfl ?_
  refine v_get X (pc := 5) 2 (a := aI (gI mem 1 q0 2)) (by decide) hq0 rfl rfl rfl in_Palace (by decide) qw_75 rfl eP_build_5 ?_
  refine v_aaldW X (pc := 8) h hq0 eP_build_8 (fun hb1 h => ?_)
  refine v_astore X (pc := 9) (lv' := [(5, _), (0, _), (1, _), (2, _), (3, _), (4, _)]) eP_build_9 (Nat.le_of_ble_eq_true rfl) rfl ?_
  refine v_aload X (pc := 11) 0 rfl eP_build_11 ?_
  refine v_iconst X (pc := 13) (v := (0 : Int32)) eP_build_13 (by decide) ?_
  refine v_iload_n X (pc := 14) 2 rfl eP_build_14 rfl ?_
  refine v_iastK X (pc := 15) (n := 6) 0 (by decide) (by decide) (by decide) hb1 (fun _ => rfl) eP_build_15 ?_
  refine v_aload X (pc := 16) 0 rfl eP_build_16 ?_
  refine v_iconst X (pc := 18) (v := (1 : Int32)) eP_build_18 (by decide) ?_
  refine v_iload_n X (pc := 19) 3 rfl eP_build_19 rfl ?_
  refine v_iastK X (pc := 20) (n := 6) 1 (by decide) (by decide) (by decide) hb1 (fun _ => rfl) eP_build_20 ?_
  refine v_aload X (pc := 21) 0 rfl eP_build_21 ?_
  refine v_iconst X (pc := 23) (v := (2 : Int32)) eP_build_23 (by decide) ?_
  refine v_iload_n X (pc := 24) 4 rfl eP_build_24 rfl ?_
  refine v_iastK X (pc := 25) (n := 6) 2 (by decide) (by decide) (by decide) hb1 (fun _ => rfl) eP_build_25 ?_
  refine v_aload X (pc := 26) 0 rfl eP_build_26 ?_
  refine v_iconst X (pc := 28) (v := (3 : Int32)) eP_build_28 (by decide) ?_
  refine v_iload X (pc := 29) 5 rfl eP_build_29 ?_
  refine v_iastK X (pc := 31) (n := 6) 3 (by decide) (by decide) (by decide) hb1 (fun _ => rfl) eP_build_31 ?_
  refine v_aload X (pc := 32) 0 rfl eP_build_32 ?_
  refine v_iconst X (pc := 34) (v := (4 : Int32)) eP_build_34 (by decide) ?_
  refine v_iconst X (pc := 35) (v := (0 : Int32)) eP_build_35 (by decide) ?_
  refine v_iastK X (pc := 36) (n := 6) 4 (by decide) (by decide) (by decide) hb1 (fun _ => rfl) eP_build_36 ?_
  refine v_aload X (pc := 37) 0 rfl eP_build_37 ?_
  refine v_iconst X (pc := 39) (v := (5 : Int32)) eP_build_39 (by decide) ?_
  refine v_iconst X (pc := 40) (v := (0 : Int32)) eP_build_40 (by decide) ?_
  refine v_iastK X (pc := 41) (n := 6) 5 (by decide) (by decide) (by decide) hb1 (fun _ => rfl) eP_build_41 ?_
  refine v_aload_n X (pc := 42) 1 rfl eP_build_42 rfl ?_
  refine v_dup X (pc := 43) rfl eP_build_43 ?_
  refine v_get X (pc := 44) 2 (a := aI (gI (sI (sI (sI (sI (sI (sI mem 4 (10 * q0 + (gI mem 1 q0 2).toNatClampNeg) 0 a1) 4 (10 * q0 + (gI mem 1 q0 2).toNatClampNeg) 1 a2) 4 (10 * q0 + (gI mem 1 q0 2).toNatClampNeg) 2 a3) 4 (10 * q0 + (gI mem 1 q0 2).toNatClampNeg) 3 a4) 4 (10 * q0 + (gI mem 1 q0 2).toNatClampNeg) 4 (0 : Int32)) 4 (10 * q0 + (gI mem 1 q0 2).toNatClampNeg) 5 (0 : Int32)) 1 q0 2)) (by decide) hq0 rfl rfl rfl in_Palace (by decide) qw_75 rfl eP_build_44 ?_
  refine v_dup_x1 X (pc := 47) rfl rfl eP_build_47 ?_
  refine v_iconst X (pc := 48) (v := (1 : Int32)) eP_build_48 (by decide) ?_
  refine v_iadd X (pc := 49) eP_build_49 ?_
  refine v_put X (pc := 50) 2 (mem' := (sI (sI (sI (sI (sI (sI (sI mem 4 (10 * q0 + (gI mem 1 q0 2).toNatClampNeg) 0 a1) 4 (10 * q0 + (gI mem 1 q0 2).toNatClampNeg) 1 a2) 4 (10 * q0 + (gI mem 1 q0 2).toNatClampNeg) 2 a3) 4 (10 * q0 + (gI mem 1 q0 2).toNatClampNeg) 3 a4) 4 (10 * q0 + (gI mem 1 q0 2).toNatClampNeg) 4 (0 : Int32)) 4 (10 * q0 + (gI mem 1 q0 2).toNatClampNeg) 5 (0 : Int32)) 1 q0 2 ((gI (sI (sI (sI (sI (sI (sI mem 4 (10 * q0 + (gI mem 1 q0 2).toNatClampNeg) 0 a1) 4 (10 * q0 + (gI mem 1 q0 2).toNatClampNeg) 1 a2) 4 (10 * q0 + (gI mem 1 q0 2).toNatClampNeg) 2 a3) 4 (10 * q0 + (gI mem 1 q0 2).toNatClampNeg) 3 a4) 4 (10 * q0 + (gI mem 1 q0 2).toNatClampNeg) 4 (0 : Int32)) 4 (10 * q0 + (gI mem 1 q0 2).toNatClampNeg) 5 (0 : Int32)) 1 q0 2) + (1 : Int32)))) (by decide) hq0 rfl (pf_1_2 _ _ _ _ _) rowI_ne rfl in_Palace ty_Palace_ok nm_Palace (by decide) qw_75 rfl rfl rfl (Nat.le_of_ble_eq_true rfl) eP_build_50 ?_
  exact v_iret X (pc := 53) h hr eP_build_53
set_option maxHeartbeats 4000000 in
set_option maxRecDepth 100000 in
theorem cW_wall {f : Nat} {a1 : Int32} {a2 : Int32} {a3 : Int32} {mem : Mem} {o : Int32} {mem' : Mem}  (h : dW_wall f a1 a2 a3 mem = some (o, mem')) : RT yW_wall prog_1_method_3_code 4 (Option.some Jvm.ClassFile.FieldType.int) (rmM 2 44) [aR 0 0, aI a1, aI a2, aI a3] mem (some (aI o)) mem' := by
  refine RT.of (by decide +kernel) (Nat.le_of_ble_eq_true rfl) (fun p l e s m args below meth c k X hr => ?_)
  replace X : CX p s m args meth c k prog_1_method_3_code 4 "WallShifts" := X
  unfold dW_wall at h
  refine v_sub (lv' := [(0, _), (1, _), (2, _), (3, _)]) [0, 1, 2, 3] rfl ?_
  refine v_iload_n X (pc := 0) 1 rfl eW_wall_0 rfl ?_
  obtain ⟨r1, m1, hc1, h⟩ := bd_some h
  refine v_callS X (pc := 1) [_] [] ok_S_W_59 (cW_isKind  hc1) rfl (Nat.le_of_ble_eq_true rfl) ⟨Nat.le_of_ble_eq_true rfl, Nat.le_of_ble_eq_true rfl⟩ ⟨Nat.zero_le _, Nat.zero_le _⟩ eW_wall_1 ?_
  refine v_if_eq X (pc := 4) (tgt := 21) h eW_wall_4 (by decide) (fun h => ?_) (fun h => ?_)
  · refine v_aload_n X (pc := 21) 0 rfl eW_wall_21 rfl ?_
    refine v_ldc X (pc := 22) qw_179 eW_wall_22 ?_
    obtain ⟨r2, m2, hc2, h⟩ := bd_some h
    refine v_callV X (pc := 24) [_] [] ok_V_W_52 (cW_finding  hc2) rfl (Nat.le_of_ble_eq_true rfl) ⟨Nat.le_of_ble_eq_true rfl, Nat.le_of_ble_eq_true rfl⟩ ⟨Nat.zero_le _, Nat.zero_le _⟩ (by decide) (by decide) rfl rfl eW_wall_24 ?_
    exact v_iret X (pc := 27) h hr eW_wall_27
  · refine v_iload_n X (pc := 7) 2 rfl eW_wall_7 rfl ?_
    obtain ⟨r3, m3, hc3, h⟩ := bd_some h
    refine v_callS X (pc := 8) [_] [] ok_S_W_63 (cW_isRoom  hc3) rfl (Nat.le_of_ble_eq_true rfl) ⟨Nat.le_of_ble_eq_true rfl, Nat.le_of_ble_eq_true rfl⟩ ⟨Nat.zero_le _, Nat.zero_le _⟩ eW_wall_8 ?_
    refine v_if_eq X (pc := 11) (tgt := 21) h eW_wall_11 (by decide) (fun h => ?_) (fun h => ?_)
    · refine v_aload_n X (pc := 21) 0 rfl eW_wall_21 rfl ?_
      refine v_ldc X (pc := 22) qw_179 eW_wall_22 ?_
      obtain ⟨r4, m4, hc4, h⟩ := bd_some h
      refine v_callV X (pc := 24) [_] [] ok_V_W_52 (cW_finding  hc4) rfl (Nat.le_of_ble_eq_true rfl) ⟨Nat.le_of_ble_eq_true rfl, Nat.le_of_ble_eq_true rfl⟩ ⟨Nat.zero_le _, Nat.zero_le _⟩ (by decide) (by decide) rfl rfl eW_wall_24 ?_
      exact v_iret X (pc := 27) h hr eW_wall_27
    · refine v_iload_n X (pc := 14) 3 rfl eW_wall_14 rfl ?_
      obtain ⟨r5, m5, hc5, h⟩ := bd_some h
      refine v_callS X (pc := 15) [_] [] ok_S_W_63 (cW_isRoom  hc5) rfl (Nat.le_of_ble_eq_true rfl) ⟨Nat.le_of_ble_eq_true rfl, Nat.le_of_ble_eq_true rfl⟩ ⟨Nat.zero_le _, Nat.zero_le _⟩ eW_wall_15 ?_
      refine v_if_ne X (pc := 18) (tgt := 28) h eW_wall_18 (by decide) (fun h => ?_) (fun h => ?_)
      · refine v_aload_n X (pc := 21) 0 rfl eW_wall_21 rfl ?_
        refine v_ldc X (pc := 22) qw_179 eW_wall_22 ?_
        obtain ⟨r6, m6, hc6, h⟩ := bd_some h
        refine v_callV X (pc := 24) [_] [] ok_V_W_52 (cW_finding  hc6) rfl (Nat.le_of_ble_eq_true rfl) ⟨Nat.le_of_ble_eq_true rfl, Nat.le_of_ble_eq_true rfl⟩ ⟨Nat.zero_le _, Nat.zero_le _⟩ (by decide) (by decide) rfl rfl eW_wall_24 ?_
        exact v_iret X (pc := 27) h hr eW_wall_27
      · refine v_aload_n X (pc := 28) 0 rfl eW_wall_28 rfl ?_
        refine v_get X (pc := 29) 0 (a := aR 1 0) (by decide) (by decide) rfl rfl rfl in_WallShifts (by decide) qw_140 rfl eW_wall_29 ?_
        obtain ⟨r7, m7, hc7, h⟩ := bd_some h
        refine v_callV X (pc := 32) [] [] ok_V_W_66 (cP_isBuiltUp (by decide) hc7) rfl (Nat.le_of_ble_eq_true rfl) ⟨Nat.le_of_ble_eq_true rfl, Nat.le_of_ble_eq_true rfl⟩ ⟨Nat.zero_le _, Nat.zero_le _⟩ (by decide) (by decide) rfl rfl eW_wall_32 ?_
        refine v_if_eq X (pc := 35) (tgt := 45) h eW_wall_35 (by decide) (fun h => ?_) (fun h => ?_)
        · refine v_aload_n X (pc := 45) 0 rfl eW_wall_45 rfl ?_
          refine v_get X (pc := 46) 0 (a := aR 1 0) (by decide) (by decide) rfl rfl rfl in_WallShifts (by decide) qw_140 rfl eW_wall_46 ?_
          refine v_iload_n X (pc := 49) 1 rfl eW_wall_49 rfl ?_
          refine v_iload_n X (pc := 50) 2 rfl eW_wall_50 rfl ?_
          refine v_iload_n X (pc := 51) 3 rfl eW_wall_51 rfl ?_
          refine v_iconst X (pc := 52) (v := (0 : Int32)) eW_wall_52 (by decide) ?_
          obtain ⟨r8, m8, hc8, h⟩ := bd_some h
          refine v_callV X (pc := 53) [_, _, _, _] [] ok_V_W_71 (cP_build (by decide) hc8) rfl (Nat.le_of_ble_eq_true rfl) ⟨Nat.le_of_ble_eq_true rfl, Nat.le_of_ble_eq_true rfl⟩ ⟨Nat.zero_le _, Nat.zero_le _⟩ (by decide) (by decide) rfl rfl eW_wall_53 ?_
          exact v_iret X (pc := 56) h hr eW_wall_56
        · refine v_aload_n X (pc := 38) 0 rfl eW_wall_38 rfl ?_
          refine v_ldc X (pc := 39) qw_198 eW_wall_39 ?_
          obtain ⟨r9, m9, hc9, h⟩ := bd_some h
          refine v_callV X (pc := 41) [_] [] ok_V_W_52 (cW_finding  hc9) rfl (Nat.le_of_ble_eq_true rfl) ⟨Nat.le_of_ble_eq_true rfl, Nat.le_of_ble_eq_true rfl⟩ ⟨Nat.zero_le _, Nat.zero_le _⟩ (by decide) (by decide) rfl rfl eW_wall_41 ?_
          exact v_iret X (pc := 44) h hr eW_wall_44
set_option maxHeartbeats 4000000 in
set_option maxRecDepth 100000 in
theorem cW_isWall {f : Nat} {a1 : Int32} {mem : Mem} {o : Int32} {mem' : Mem}  (h : dW_isWall f a1 mem = some (o, mem')) : RT yW_isWall prog_1_method_40_code 2 (Option.some Jvm.ClassFile.FieldType.boolean) (rmM 1 22) [aR 0 0, aI a1] mem (some (aI o)) mem' := by
  refine RT.of (by decide +kernel) (Nat.le_of_ble_eq_true rfl) (fun p l e s m args below meth c k X hr => ?_)
  replace X : CX p s m args meth c k prog_1_method_40_code 2 "WallShifts" := X
  unfold dW_isWall at h
  refine v_sub (lv' := [(0, _), (1, _)]) [0, 1] rfl ?_
  refine v_iload_n X (pc := 0) 1 rfl eW_isWall_0 rfl ?_
  refine v_iconst X (pc := 1) (v := (0 : Int32)) eW_isWall_1 (by decide) ?_
  refine v_aload_n X (pc := 2) 0 rfl eW_isWall_2 rfl ?_
  refine v_get X (pc := 3) 0 (a := aR 1 0) (by decide) (by decide) rfl rfl rfl in_WallShifts (by decide) qw_140 rfl eW_isWall_3 ?_
  refine v_get X (pc := 6) 2 (a := aI (gI mem 1 0 2)) (by decide) (by decide) rfl rfl rfl in_Palace (by decide) qw_76 rfl eW_isWall_6 ?_
  refine v_iconst X (pc := 9) (v := (1 : Int32)) eW_isWall_9 (by decide) ?_
  refine v_isub X (pc := 10) eW_isWall_10 ?_
  obtain ⟨r1, m1, hc1, h⟩ := bd_some h
  refine v_callS X (pc := 11) [_, _, _] [] ok_S_W_82 (cW_isIn  hc1) rfl (Nat.le_of_ble_eq_true rfl) ⟨Nat.le_of_ble_eq_true rfl, Nat.le_of_ble_eq_true rfl⟩ ⟨Nat.zero_le _, Nat.zero_le _⟩ eW_isWall_11 ?_
  obtain ⟨hz, h⟩ := zb_some h
  exact v_zret X (pc := 14) h hr (zb_n hz) eW_isWall_14
set_option maxHeartbeats 4000000 in
set_option maxRecDepth 100000 in
theorem cW_quarterOf {f : Nat} {a0 : Int32} {a1 : Int32} {mem : Mem} {o : Int32} {mem' : Mem}  (h : dW_quarterOf f a0 a1 mem = some (o, mem')) : RT yW_quarterOf prog_1_method_54_code 2 (Option.some Jvm.ClassFile.FieldType.int) (rmM 0 0) [aI a0, aI a1] mem (some (aI o)) mem' := by
  refine RT.of (by decide +kernel) (Nat.le_of_ble_eq_true rfl) (fun p l e s m args below meth c k X hr => ?_)
  replace X : CX p s m args meth c k prog_1_method_54_code 2 "WallShifts" := X
  unfold dW_quarterOf at h
  refine v_sub (lv' := [(0, _), (1, _)]) [0, 1] rfl ?_
  refine v_iload_n X (pc := 0) 1 rfl eW_quarterOf_0 rfl ?_
  refine v_iconst X (pc := 1) (v := (1 : Int32)) eW_quarterOf_1 (by decide) ?_
  refine v_icmp_ge X (pc := 2) (tgt := 9) h eW_quarterOf_2 (by decide) (fun h => ?_) (fun h => ?_)
  · refine v_iconst X (pc := 5) (v := (0 : Int32)) eW_quarterOf_5 (by decide) ?_
    refine v_goto X (pc := 6) (tgt := 14) eW_quarterOf_6 (by decide) ?_
    exact v_iret X (pc := 14) h hr eW_quarterOf_14
  · refine v_iload_n X (pc := 9) 0 rfl eW_quarterOf_9 rfl ?_
    refine v_iload_n X (pc := 10) 1 rfl eW_quarterOf_10 rfl ?_
    refine v_idiv X (pc := 11) h eW_quarterOf_11 (fun h => ?_)
    refine v_iconst X (pc := 12) (v := (4 : Int32)) eW_quarterOf_12 (by decide) ?_
    refine v_irem X (pc := 13) h eW_quarterOf_13 (fun h => ?_)
    exact v_iret X (pc := 14) h hr eW_quarterOf_14
set_option maxHeartbeats 4000000 in
set_option maxRecDepth 100000 in
theorem cW_restOf {f : Nat} {a0 : Int32} {a1 : Int32} {mem : Mem} {o : Int32} {mem' : Mem}  (h : dW_restOf f a0 a1 mem = some (o, mem')) : RT yW_restOf prog_1_method_55_code 2 (Option.some Jvm.ClassFile.FieldType.int) (rmM 0 0) [aI a0, aI a1] mem (some (aI o)) mem' := by
  refine RT.of (by decide +kernel) (Nat.le_of_ble_eq_true rfl) (fun p l e s m args below meth c k X hr => ?_)
  replace X : CX p s m args meth c k prog_1_method_55_code 2 "WallShifts" := X
  unfold dW_restOf at h
  refine v_sub (lv' := [(0, _), (1, _)]) [0, 1] rfl ?_
  refine v_iload_n X (pc := 0) 1 rfl eW_restOf_0 rfl ?_
  refine v_iconst X (pc := 1) (v := (1 : Int32)) eW_restOf_1 (by decide) ?_
  refine v_icmp_ge X (pc := 2) (tgt := 9) h eW_restOf_2 (by decide) (fun h => ?_) (fun h => ?_)
  · refine v_iconst X (pc := 5) (v := (0 : Int32)) eW_restOf_5 (by decide) ?_
    refine v_goto X (pc := 6) (tgt := 12) eW_restOf_6 (by decide) ?_
    exact v_iret X (pc := 12) h hr eW_restOf_12
  · refine v_iload_n X (pc := 9) 0 rfl eW_restOf_9 rfl ?_
    refine v_iload_n X (pc := 10) 1 rfl eW_restOf_10 rfl ?_
    refine v_irem X (pc := 11) h eW_restOf_11 (fun h => ?_)
    exact v_iret X (pc := 12) h hr eW_restOf_12
set_option maxHeartbeats 4000000 in
set_option maxRecDepth 100000 in
theorem cP_listens_50 {p : Program} {l : Launch} {e : Env} {s : State} {m : MethodId} {args : Array Value} {below : List Frame} {meth : Method} {c : Code} {k : KK} {f : Nat} {o : Int32} {mem' : Mem} (X : CX p s m args meth c k prog_2_method_7_code 8 "WallShifts$Palace") (hr : meth.sig.returnType = (Option.some Jvm.ClassFile.FieldType.boolean)) : ∀ (x1 : Int32) (x2 : Int32) (x3 : Int32) (x4 : Int32) (x5 : Int32) (x6 : Int32) (s0 : Int32) (mem : Mem), dP_listens_50 f x1 x2 x3 x4 x5 x6 s0 mem = some (o, mem') → V p l e (rmM 0 0) s m args below meth c 0 0 (MQ below (RQc k (some (aI o)) mem') args s 0 0 (kA k)) k 8 mem 50 [(1, aI x1), (2, aI x2), (3, aI x3), (4, aI x4), (5, aI x5), (6, aI x6)] [aI s0] := by
  intro x1 x2 x3 x4 x5 x6 s0 mem  h
  unfold dP_listens_50 at h
  refine v_istore X (pc := 50) (lv' := [(7, _), (1, _), (2, _), (3, _), (4, _), (5, _), (6, _)]) eP_listens_50 (Nat.le_of_ble_eq_true rfl) rfl ?_
  refine v_iload_n X (pc := 52) 1 rfl eP_listens_52 rfl ?_
  by_cases g1 : x1 = (1 : Int32)
  · have h := it_t h g1
    refine v_tsw X (pc := 53) (tgt := 88) (1 : Int32) g1 eP_listens_53 (by decide) (by decide) rfl (by decide) ?_
    refine v_iload X (pc := 88) 6 rfl eP_listens_88 ?_
    refine v_if_eq X (pc := 90) (tgt := 102) h eP_listens_90 (by decide) (fun h => ?_) (fun h => ?_)
    · refine v_iconst X (pc := 102) (v := (0 : Int32)) eP_listens_102 (by decide) ?_
      exact v_zret X (pc := 103) h hr rfl eP_listens_103
    · refine v_iload X (pc := 93) 0 rfl eP_listens_93 ?_
      refine v_if_ne X (pc := 95) (tgt := 102) h eP_listens_95 (by decide) (fun h => ?_) (fun h => ?_)
      · refine v_iconst X (pc := 98) (v := (1 : Int32)) eP_listens_98 (by decide) ?_
        refine v_goto X (pc := 99) (tgt := 103) eP_listens_99 (by decide) ?_
        exact v_zret X (pc := 103) h hr rfl eP_listens_103
      · refine v_iconst X (pc := 102) (v := (0 : Int32)) eP_listens_102 (by decide) ?_
        exact v_zret X (pc := 103) h hr rfl eP_listens_103
  have h := it_f h g1
  by_cases g2 : x1 = (2 : Int32)
  · have h := it_t h g2
    refine v_tsw X (pc := 53) (tgt := 150) (2 : Int32) g2 eP_listens_53 (by decide) (by decide) rfl (by decide) ?_
    refine v_iload X (pc := 150) 6 rfl eP_listens_150 ?_
    obtain ⟨hz, h⟩ := zb_some h
    exact v_zret X (pc := 152) h hr (zb_n hz) eP_listens_152
  have h := it_f h g2
  by_cases g3 : x1 = (3 : Int32)
  · have h := it_t h g3
    refine v_tsw X (pc := 53) (tgt := 150) (3 : Int32) g3 eP_listens_53 (by decide) (by decide) rfl (by decide) ?_
    refine v_iload X (pc := 150) 6 rfl eP_listens_150 ?_
    obtain ⟨hz, h⟩ := zb_some h
    exact v_zret X (pc := 152) h hr (zb_n hz) eP_listens_152
  have h := it_f h g3
  by_cases g4 : x1 = (4 : Int32)
  · have h := it_t h g4
    refine v_tsw X (pc := 53) (tgt := 104) (4 : Int32) g4 eP_listens_53 (by decide) (by decide) rfl (by decide) ?_
    refine v_iload X (pc := 104) 0 rfl eP_listens_104 ?_
    refine v_if_eq X (pc := 106) (tgt := 122) h eP_listens_106 (by decide) (fun h => ?_) (fun h => ?_)
    · refine v_iload X (pc := 122) 6 rfl eP_listens_122 ?_
      obtain ⟨hz, h⟩ := zb_some h
      exact v_zret X (pc := 124) h hr (zb_n hz) eP_listens_124
    · refine v_iload X (pc := 109) 4 rfl eP_listens_109 ?_
      refine v_if_ne X (pc := 111) (tgt := 118) h eP_listens_111 (by decide) (fun h => ?_) (fun h => ?_)
      · refine v_iconst X (pc := 114) (v := (1 : Int32)) eP_listens_114 (by decide) ?_
        refine v_goto X (pc := 115) (tgt := 124) eP_listens_115 (by decide) ?_
        exact v_zret X (pc := 124) h hr rfl eP_listens_124
      · refine v_iconst X (pc := 118) (v := (0 : Int32)) eP_listens_118 (by decide) ?_
        refine v_goto X (pc := 119) (tgt := 124) eP_listens_119 (by decide) ?_
        exact v_zret X (pc := 124) h hr rfl eP_listens_124
  have h := it_f h g4
  by_cases g5 : x1 = (5 : Int32)
  · have h := it_t h g5
    refine v_tsw X (pc := 53) (tgt := 125) (5 : Int32) g5 eP_listens_53 (by decide) (by decide) rfl (by decide) ?_
    refine v_iload X (pc := 125) 6 rfl eP_listens_125 ?_
    refine v_if_ne X (pc := 127) (tgt := 144) h eP_listens_127 (by decide) (fun h => ?_) (fun h => ?_)
    · refine v_iload_n X (pc := 130) 3 rfl eP_listens_130 rfl ?_
      refine v_iload_n X (pc := 131) 2 rfl eP_listens_131 rfl ?_
      refine v_iconst X (pc := 132) (v := (1 : Int32)) eP_listens_132 (by decide) ?_
      refine v_iadd X (pc := 133) eP_listens_133 ?_
      refine v_iconst X (pc := 134) (v := (4 : Int32)) eP_listens_134 (by decide) ?_
      refine v_irem X (pc := 135) h eP_listens_135 (fun h => ?_)
      refine v_icmp_ne X (pc := 136) (tgt := 148) h eP_listens_136 (by decide) (fun h => ?_) (fun h => ?_)
      · refine v_iload X (pc := 139) 5 rfl eP_listens_139 ?_
        refine v_if_eq X (pc := 141) (tgt := 148) h eP_listens_141 (by decide) (fun h => ?_) (fun h => ?_)
        · refine v_iconst X (pc := 148) (v := (0 : Int32)) eP_listens_148 (by decide) ?_
          exact v_zret X (pc := 149) h hr rfl eP_listens_149
        · refine v_iconst X (pc := 144) (v := (1 : Int32)) eP_listens_144 (by decide) ?_
          refine v_goto X (pc := 145) (tgt := 149) eP_listens_145 (by decide) ?_
          exact v_zret X (pc := 149) h hr rfl eP_listens_149
      · refine v_iconst X (pc := 148) (v := (0 : Int32)) eP_listens_148 (by decide) ?_
        exact v_zret X (pc := 149) h hr rfl eP_listens_149
    · refine v_iconst X (pc := 144) (v := (1 : Int32)) eP_listens_144 (by decide) ?_
      refine v_goto X (pc := 145) (tgt := 149) eP_listens_145 (by decide) ?_
      exact v_zret X (pc := 149) h hr rfl eP_listens_149
  have h := it_f h g5
  refine v_tswD X (pc := 53) (tgt := 150) (tsw_out_1_5 g1 g2 g3 g4 g5) eP_listens_53 (by decide) ?_
  refine v_iload X (pc := 150) 6 rfl eP_listens_150 ?_
  obtain ⟨hz, h⟩ := zb_some h
  exact v_zret X (pc := 152) h hr (zb_n hz) eP_listens_152
set_option maxHeartbeats 4000000 in
set_option maxRecDepth 100000 in
theorem cP_listens_33 {p : Program} {l : Launch} {e : Env} {s : State} {m : MethodId} {args : Array Value} {below : List Frame} {meth : Method} {c : Code} {k : KK} {f : Nat} {o : Int32} {mem' : Mem} (X : CX p s m args meth c k prog_2_method_7_code 8 "WallShifts$Palace") (hr : meth.sig.returnType = (Option.some Jvm.ClassFile.FieldType.boolean)) : ∀ (q0 : Nat) (x1 : Int32) (x2 : Int32) (x3 : Int32) (x4 : Int32) (x5 : Int32) (s0 : Int32) (mem : Mem), q0 < 3 → dP_listens_33 f q0 x1 x2 x3 x4 x5 s0 mem = some (o, mem') → V p l e (rmM 0 0) s m args below meth c 0 0 (MQ below (RQc k (some (aI o)) mem') args s 0 0 (kA k)) k 8 mem 33 [(0, aR 1 q0), (1, aI x1), (2, aI x2), (3, aI x3), (4, aI x4), (5, aI x5)] [aI s0] := by
  intro q0 x1 x2 x3 x4 x5 s0 mem hq0 h
  unfold dP_listens_33 at h
  refine v_istore X (pc := 33) (lv' := [(6, _), (0, _), (1, _), (2, _), (3, _), (4, _), (5, _)]) eP_listens_33 (Nat.le_of_ble_eq_true rfl) rfl ?_
  refine v_aload_n X (pc := 35) 1 rfl eP_listens_35 rfl ?_
  refine v_get X (pc := 36) 1 (a := aR 2 q0) (by decide) hq0 rfl rfl rfl in_Palace (by decide) qw_72 rfl eP_listens_36 ?_
  refine v_iconst X (pc := 39) (v := (2 : Int32)) eP_listens_39 (by decide) ?_
  refine v_ialdK X (pc := 40) (n := 4) 2 (by decide) (by decide) (by decide) hq0 rfl eP_listens_40 ?_
  refine v_iconst X (pc := 41) (v := (3 : Int32)) eP_listens_41 (by decide) ?_
  refine v_icmp_ne X (pc := 42) (tgt := 49) h eP_listens_42 (by decide) (fun h => ?_) (fun h => ?_)
  · refine v_iconst X (pc := 45) (v := (1 : Int32)) eP_listens_45 (by decide) ?_
    refine v_goto X (pc := 46) (tgt := 50) eP_listens_46 (by decide) ?_
    exact v_sub [2, 3, 4, 5, 6, 0] rfl (cP_listens_50 X hr _ _ _ _ _ _ _ _  h)
  · refine v_iconst X (pc := 49) (v := (0 : Int32)) eP_listens_49 (by decide) ?_
    exact v_sub [2, 3, 4, 5, 6, 0] rfl (cP_listens_50 X hr _ _ _ _ _ _ _ _  h)
set_option maxHeartbeats 4000000 in
set_option maxRecDepth 100000 in
theorem cP_listens_16 {p : Program} {l : Launch} {e : Env} {s : State} {m : MethodId} {args : Array Value} {below : List Frame} {meth : Method} {c : Code} {k : KK} {f : Nat} {o : Int32} {mem' : Mem} (X : CX p s m args meth c k prog_2_method_7_code 8 "WallShifts$Palace") (hr : meth.sig.returnType = (Option.some Jvm.ClassFile.FieldType.boolean)) : ∀ (q0 : Nat) (x1 : Int32) (x2 : Int32) (x3 : Int32) (x4 : Int32) (s0 : Int32) (mem : Mem), q0 < 3 → dP_listens_16 f q0 x1 x2 x3 x4 s0 mem = some (o, mem') → V p l e (rmM 0 0) s m args below meth c 0 0 (MQ below (RQc k (some (aI o)) mem') args s 0 0 (kA k)) k 8 mem 16 [(0, aR 1 q0), (1, aI x1), (2, aI x2), (3, aI x3), (4, aI x4)] [aI s0] := by
  intro q0 x1 x2 x3 x4 s0 mem hq0 h
  unfold dP_listens_16 at h
  refine v_istore X (pc := 16) (lv' := [(5, _), (0, _), (1, _), (2, _), (3, _), (4, _)]) eP_listens_16 (Nat.le_of_ble_eq_true rfl) rfl ?_
  refine v_iload_n X (pc := 18) 4 rfl eP_listens_18 rfl ?_
  refine v_iload_n X (pc := 19) 3 rfl eP_listens_19 rfl ?_
  refine v_icmp_ne X (pc := 20) (tgt := 32) h eP_listens_20 (by decide) (fun h => ?_) (fun h => ?_)
  · refine v_iload X (pc := 23) 0 rfl eP_listens_23 ?_
    refine v_if_eq X (pc := 25) (tgt := 32) h eP_listens_25 (by decide) (fun h => ?_) (fun h => ?_)
    · refine v_iconst X (pc := 32) (v := (0 : Int32)) eP_listens_32 (by decide) ?_
      exact v_sub [1, 2, 3, 4, 5, 0] rfl (cP_listens_33 X hr _ _ _ _ _ _ _ _ hq0 h)
    · refine v_iconst X (pc := 28) (v := (1 : Int32)) eP_listens_28 (by decide) ?_
      refine v_goto X (pc := 29) (tgt := 33) eP_listens_29 (by decide) ?_
      exact v_sub [1, 2, 3, 4, 5, 0] rfl (cP_listens_33 X hr _ _ _ _ _ _ _ _ hq0 h)
  · refine v_iconst X (pc := 32) (v := (0 : Int32)) eP_listens_32 (by decide) ?_
    exact v_sub [1, 2, 3, 4, 5, 0] rfl (cP_listens_33 X hr _ _ _ _ _ _ _ _ hq0 h)
set_option maxHeartbeats 4000000 in
set_option maxRecDepth 100000 in
theorem cP_listens {f : Nat} {q0 : Nat} {a1 : Int32} {a2 : Int32} {a3 : Int32} {a4 : Int32} {mem : Mem} {o : Int32} {mem' : Mem} (hq0 : q0 < 3) (h : dP_listens f q0 a1 a2 a3 a4 mem = some (o, mem')) : RT yP_listens prog_2_method_7_code 8 (Option.some Jvm.ClassFile.FieldType.boolean) (rmM 0 0) [aR 1 q0, aI a1, aI a2, aI a3, aI a4] mem (some (aI o)) mem' := by
  refine RT.of (by decide +kernel) (Nat.le_of_ble_eq_true rfl) (fun p l e s m args below meth c k X hr => ?_)
  replace X : CX p s m args meth c k prog_2_method_7_code 8 "WallShifts$Palace" := X
  unfold dP_listens at h
  refine v_sub (lv' := [(0, _), (1, _), (2, _), (3, _), (4, _)]) [0, 1, 2, 3, 4] rfl ?_
  refine v_iload X (pc := 0) 4 rfl eP_listens_0 ?_
  refine v_aload_n X (pc := 2) 0 rfl eP_listens_2 rfl ?_
  refine v_get X (pc := 3) 1 (a := aR 2 q0) (by decide) hq0 rfl rfl rfl in_Palace (by decide) qw_72 rfl eP_listens_3 ?_
  refine v_iconst X (pc := 6) (v := (1 : Int32)) eP_listens_6 (by decide) ?_
  refine v_ialdK X (pc := 7) (n := 4) 1 (by decide) (by decide) (by decide) hq0 rfl eP_listens_7 ?_
  refine v_icmp_lt X (pc := 8) (tgt := 15) h eP_listens_8 (by decide) (fun h => ?_) (fun h => ?_)
  · refine v_iconst X (pc := 15) (v := (0 : Int32)) eP_listens_15 (by decide) ?_
    exact v_sub [0, 1, 2, 3, 4] rfl (cP_listens_16 X hr _ _ _ _ _ _ _ hq0 h)
  · refine v_iconst X (pc := 11) (v := (1 : Int32)) eP_listens_11 (by decide) ?_
    refine v_goto X (pc := 12) (tgt := 16) eP_listens_12 (by decide) ?_
    exact v_sub [0, 1, 2, 3, 4] rfl (cP_listens_16 X hr _ _ _ _ _ _ _ hq0 h)
set_option maxHeartbeats 4000000 in
set_option maxRecDepth 100000 in
theorem cP_onDuty_19 {p : Program} {l : Launch} {e : Env} {s : State} {m : MethodId} {args : Array Value} {below : List Frame} {meth : Method} {c : Code} {k : KK} {f : Nat} {o : Int32} {mem' : Mem} (X : CX p s m args meth c k prog_2_method_9_code 7 "WallShifts$Palace") (hr : meth.sig.returnType = (Option.some Jvm.ClassFile.FieldType.int)) : ∀ (n : Nat) (q0 : Nat) (x3 : Int32) (x4 : Int32) (x5 : Int32) (x6 : Int32) (mem : Mem), q0 < 3 → dP_onDuty_19 f n q0 x3 x4 x5 x6 mem = some (o, mem') → V p l e (rmM 1 27) s m args below meth c 0 0 (MQ below (RQc k (some (aI o)) mem') args s 0 0 (kA k)) k 7 mem 19 [(0, aR 1 q0), (3, aI x3), (4, aI x4), (5, aI x5), (6, aI x6)] [] := by
  intro n
  induction n with
  | zero =>
    intro q0 x3 x4 x5 x6 mem hq0 h
    exact nomatch (show (none : Option (Int32 × Mem)) = some _ from h)
  | succ n ih =>
    intro q0 x3 x4 x5 x6 mem hq0 h
    rw [dP_onDuty_19] at h
    refine v_iload X (pc := 19) 4 rfl eP_onDuty_19 ?_
    refine v_aload_n X (pc := 21) 0 rfl eP_onDuty_21 rfl ?_
    refine v_get X (pc := 22) 2 (a := aI (gI mem 1 q0 2)) (by decide) hq0 rfl rfl rfl in_Palace (by decide) qw_75 rfl eP_onDuty_22 ?_
    refine v_icmp_ge X (pc := 25) (tgt := 71) h eP_onDuty_25 (by decide) (fun h => ?_) (fun h => ?_)
    · refine v_aload_n X (pc := 28) 0 rfl eP_onDuty_28 rfl ?_
      refine v_aload_n X (pc := 29) 0 rfl eP_onDuty_29 rfl ?_
      refine v_get X (pc := 30) 3 (a := aR 3 q0) (by decide) hq0 rfl rfl rfl in_Palace (by decide) qw_77 rfl eP_onDuty_30 ?_
      refine v_iload X (pc := 33) 4 rfl eP_onDuty_33 ?_
      refine v_aaldW X (pc := 35) h hq0 eP_onDuty_35 (fun hb1 h => ?_)
      refine v_iconst X (pc := 36) (v := (0 : Int32)) eP_onDuty_36 (by decide) ?_
      refine v_ialdK X (pc := 37) (n := 6) 0 (by decide) (by decide) (by decide) hb1 rfl eP_onDuty_37 ?_
      refine v_aload_n X (pc := 38) 0 rfl eP_onDuty_38 rfl ?_
      refine v_get X (pc := 39) 3 (a := aR 3 q0) (by decide) hq0 rfl rfl rfl in_Palace (by decide) qw_77 rfl eP_onDuty_39 ?_
      refine v_iload X (pc := 42) 4 rfl eP_onDuty_42 ?_
      refine v_aaldW X (pc := 44) h hq0 eP_onDuty_44 (fun hb2 h => ?_)
      refine v_iconst X (pc := 45) (v := (3 : Int32)) eP_onDuty_45 (by decide) ?_
      refine v_ialdK X (pc := 46) (n := 6) 3 (by decide) (by decide) (by decide) hb2 rfl eP_onDuty_46 ?_
      refine v_iload_n X (pc := 47) 1 rfl eP_onDuty_47 rfl ?_
      refine v_iload X (pc := 48) 2 rfl eP_onDuty_48 ?_
      obtain ⟨r3, m3, hc3, h⟩ := bd_some h
      refine v_callV X (pc := 50) [_, _, _, _] [] ok_V_P_46 (cP_listens hq0 hc3) rfl (Nat.le_of_ble_eq_true rfl) ⟨Nat.le_of_ble_eq_true rfl, Nat.le_of_ble_eq_true rfl⟩ ⟨Nat.zero_le _, Nat.zero_le _⟩ (by decide) hq0 rfl rfl eP_onDuty_50 ?_
      refine v_if_eq X (pc := 53) (tgt := 65) h eP_onDuty_53 (by decide) (fun h => ?_) (fun h => ?_)
      · refine v_iinc X (pc := 65) (v := (x6 + (1 : Int32))) (lv' := [(6, _), (0, _), (3, _), (4, _), (5, _)]) 4 rfl (by rfl) eP_onDuty_65 (Nat.le_of_ble_eq_true rfl) rfl ?_
        refine v_goto X (pc := 68) (tgt := 19) eP_onDuty_68 (by decide) ?_
        exact v_sub [1, 2, 3, 4, 0] rfl (ih _ _ _ _ _ _ hq0 h)
      · refine v_iload X (pc := 56) 3 rfl eP_onDuty_56 ?_
        refine v_iconst X (pc := 58) (v := (1 : Int32)) eP_onDuty_58 (by decide) ?_
        refine v_iload X (pc := 59) 4 rfl eP_onDuty_59 ?_
        refine v_ishl X (pc := 61) eP_onDuty_61 ?_
        refine v_ior X (pc := 62) eP_onDuty_62 ?_
        refine v_istore X (pc := 63) (lv' := [(5, _), (0, _), (3, _), (4, _), (6, _)]) eP_onDuty_63 (Nat.le_of_ble_eq_true rfl) rfl ?_
        refine v_iinc X (pc := 65) (v := (x6 + (1 : Int32))) (lv' := [(6, _), (5, _), (0, _), (3, _), (4, _)]) 4 rfl (by rfl) eP_onDuty_65 (Nat.le_of_ble_eq_true rfl) rfl ?_
        refine v_goto X (pc := 68) (tgt := 19) eP_onDuty_68 (by decide) ?_
        exact v_sub [2, 3, 4, 1, 0] rfl (ih _ _ _ _ _ _ hq0 h)
    · refine v_iload X (pc := 71) 3 rfl eP_onDuty_71 ?_
      exact v_iret X (pc := 73) h hr eP_onDuty_73
set_option maxHeartbeats 4000000 in
set_option maxRecDepth 100000 in
theorem cP_onDuty {f : Nat} {q0 : Nat} {a1 : Int32} {a2 : Int32} {mem : Mem} {o : Int32} {mem' : Mem} (hq0 : q0 < 3) (h : dP_onDuty f q0 a1 a2 mem = some (o, mem')) : RT yP_onDuty prog_2_method_9_code 7 (Option.some Jvm.ClassFile.FieldType.int) (rmM 1 27) [aR 1 q0, aI a1, aI a2] mem (some (aI o)) mem' := by
  refine RT.of (by decide +kernel) (Nat.le_of_ble_eq_true rfl) (fun p l e s m args below meth c k X hr => ?_)
  replace X : CX p s m args meth c k prog_2_method_9_code 7 "WallShifts$Palace" := X
  unfold dP_onDuty at h
  refine v_sub (lv' := [(0, _), (1, _), (2, _)]) [0, 1, 2] rfl ?_
  refine v_iload_n X (pc := 0) 1 rfl eP_onDuty_0 rfl ?_
  refine v_iload_n X (pc := 1) 2 rfl eP_onDuty_1 rfl ?_
  obtain ⟨r1, m1, hc1, h⟩ := bd_some h
  refine v_callN X (pc := 2) [_, _] [] ok_N_P_40 (cW_quarterOf  hc1) rfl (Nat.le_of_ble_eq_true rfl) ⟨Nat.le_of_ble_eq_true rfl, Nat.le_of_ble_eq_true rfl⟩ ⟨Nat.zero_le _, Nat.zero_le _⟩ eP_onDuty_2 ?_
  refine v_istore_n X (pc := 5) (lv' := [(3, _), (0, _), (1, _), (2, _)]) eP_onDuty_5 rfl (Nat.le_of_ble_eq_true rfl) rfl ?_
  refine v_iload_n X (pc := 6) 2 rfl eP_onDuty_6 rfl ?_
  refine v_iload_n X (pc := 7) 3 rfl eP_onDuty_7 rfl ?_
  obtain ⟨r2, m2, hc2, h⟩ := bd_some h
  refine v_callN X (pc := 8) [_, _] [] ok_N_P_43 (cW_restOf  hc2) rfl (Nat.le_of_ble_eq_true rfl) ⟨Nat.le_of_ble_eq_true rfl, Nat.le_of_ble_eq_true rfl⟩ ⟨Nat.zero_le _, Nat.zero_le _⟩ eP_onDuty_8 ?_
  refine v_istore X (pc := 11) (lv' := [(4, _), (3, _), (0, _), (1, _), (2, _)]) eP_onDuty_11 (Nat.le_of_ble_eq_true rfl) rfl ?_
  refine v_iconst X (pc := 13) (v := (0 : Int32)) eP_onDuty_13 (by decide) ?_
  refine v_istore X (pc := 14) (lv' := [(5, _), (4, _), (3, _), (0, _), (1, _), (2, _)]) eP_onDuty_14 (Nat.le_of_ble_eq_true rfl) rfl ?_
  refine v_iconst X (pc := 16) (v := (0 : Int32)) eP_onDuty_16 (by decide) ?_
  refine v_istore X (pc := 17) (lv' := [(6, _), (5, _), (4, _), (3, _), (0, _), (1, _), (2, _)]) eP_onDuty_17 (Nat.le_of_ble_eq_true rfl) rfl ?_
  exact v_sub [4, 3, 2, 1, 0] rfl (cP_onDuty_19 X hr _ _ _ _ _ _ _ hq0 h)
set_option maxHeartbeats 4000000 in
set_option maxRecDepth 100000 in
theorem cP_dutyOf {f : Nat} {q0 : Nat} {a1 : Int32} {a2 : Int32} {mem : Mem} {o : Int32} {mem' : Mem} (hq0 : q0 < 3) (h : dP_dutyOf f q0 a1 a2 mem = some (o, mem')) : RT yP_dutyOf prog_2_method_8_code 3 (Option.some Jvm.ClassFile.FieldType.boolean) (rmM 2 53) [aR 1 q0, aI a1, aI a2] mem (some (aI o)) mem' := by
  refine RT.of (by decide +kernel) (Nat.le_of_ble_eq_true rfl) (fun p l e s m args below meth c k X hr => ?_)
  replace X : CX p s m args meth c k prog_2_method_8_code 3 "WallShifts$Palace" := X
  unfold dP_dutyOf at h
  refine v_sub (lv' := [(0, _), (1, _), (2, _)]) [0, 1, 2] rfl ?_
  refine v_aload_n X (pc := 0) 0 rfl eP_dutyOf_0 rfl ?_
  refine v_iload_n X (pc := 1) 2 rfl eP_dutyOf_1 rfl ?_
  refine v_aload_n X (pc := 2) 0 rfl eP_dutyOf_2 rfl ?_
  refine v_get X (pc := 3) 1 (a := aR 2 q0) (by decide) hq0 rfl rfl rfl in_Palace (by decide) qw_72 rfl eP_dutyOf_3 ?_
  refine v_iconst X (pc := 6) (v := (0 : Int32)) eP_dutyOf_6 (by decide) ?_
  refine v_ialdK X (pc := 7) (n := 4) 0 (by decide) (by decide) (by decide) hq0 rfl eP_dutyOf_7 ?_
  obtain ⟨r1, m1, hc1, h⟩ := bd_some h
  refine v_callV X (pc := 8) [_, _] [] ok_V_P_36 (cP_onDuty hq0 hc1) rfl (Nat.le_of_ble_eq_true rfl) ⟨Nat.le_of_ble_eq_true rfl, Nat.le_of_ble_eq_true rfl⟩ ⟨Nat.zero_le _, Nat.zero_le _⟩ (by decide) hq0 rfl rfl eP_dutyOf_8 ?_
  refine v_iload_n X (pc := 11) 1 rfl eP_dutyOf_11 rfl ?_
  refine v_ishr X (pc := 12) eP_dutyOf_12 ?_
  refine v_iconst X (pc := 13) (v := (1 : Int32)) eP_dutyOf_13 (by decide) ?_
  refine v_iand X (pc := 14) eP_dutyOf_14 ?_
  refine v_iconst X (pc := 15) (v := (1 : Int32)) eP_dutyOf_15 (by decide) ?_
  refine v_icmp_ne X (pc := 16) (tgt := 23) h eP_dutyOf_16 (by decide) (fun h => ?_) (fun h => ?_)
  · refine v_iconst X (pc := 19) (v := (1 : Int32)) eP_dutyOf_19 (by decide) ?_
    refine v_goto X (pc := 20) (tgt := 24) eP_dutyOf_20 (by decide) ?_
    exact v_zret X (pc := 24) h hr rfl eP_dutyOf_24
  · refine v_iconst X (pc := 23) (v := (0 : Int32)) eP_dutyOf_23 (by decide) ?_
    exact v_zret X (pc := 24) h hr rfl eP_dutyOf_24
set_option maxHeartbeats 4000000 in
set_option maxRecDepth 100000 in
theorem cP_isAwake {f : Nat} {q0 : Nat} {q1 : Nat} {mem : Mem} {o : Int32} {mem' : Mem} (hq0 : q0 < 3) (hq1 : q1 < 30) (h : dP_isAwake f q0 q1 mem = some (o, mem')) : RT yP_isAwake prog_2_method_6_code 2 (Option.some Jvm.ClassFile.FieldType.boolean) (rmM 0 0) [aR 1 q0, aR 4 q1] mem (some (aI o)) mem' := by
  refine RT.of (by decide +kernel) (Nat.le_of_ble_eq_true rfl) (fun p l e s m args below meth c k X hr => ?_)
  replace X : CX p s m args meth c k prog_2_method_6_code 2 "WallShifts$Palace" := X
  unfold dP_isAwake at h
  refine v_sub (lv' := [(0, _), (1, _)]) [0, 1] rfl ?_
  refine v_aload_n X (pc := 0) 1 rfl eP_isAwake_0 rfl ?_
  refine v_iconst X (pc := 1) (v := (5 : Int32)) eP_isAwake_1 (by decide) ?_
  refine v_ialdK X (pc := 2) (n := 6) 5 (by decide) (by decide) (by decide) hq1 rfl eP_isAwake_2 ?_
  refine v_aload_n X (pc := 3) 0 rfl eP_isAwake_3 rfl ?_
  refine v_get X (pc := 4) 1 (a := aR 2 q0) (by decide) hq0 rfl rfl rfl in_Palace (by decide) qw_72 rfl eP_isAwake_4 ?_
  refine v_iconst X (pc := 7) (v := (3 : Int32)) eP_isAwake_7 (by decide) ?_
  refine v_ialdK X (pc := 8) (n := 4) 3 (by decide) (by decide) (by decide) hq0 rfl eP_isAwake_8 ?_
  refine v_icmp_ge X (pc := 9) (tgt := 16) h eP_isAwake_9 (by decide) (fun h => ?_) (fun h => ?_)
  · refine v_iconst X (pc := 12) (v := (1 : Int32)) eP_isAwake_12 (by decide) ?_
    refine v_goto X (pc := 13) (tgt := 17) eP_isAwake_13 (by decide) ?_
    exact v_zret X (pc := 17) h hr rfl eP_isAwake_17
  · refine v_iconst X (pc := 16) (v := (0 : Int32)) eP_isAwake_16 (by decide) ?_
    exact v_zret X (pc := 17) h hr rfl eP_isAwake_17
set_option maxHeartbeats 4000000 in
set_option maxRecDepth 100000 in
theorem cW_tires {f : Nat} {a0 : Int32} {mem : Mem} {o : Int32} {mem' : Mem}  (h : dW_tires f a0 mem = some (o, mem')) : RT yW_tires prog_1_method_56_code 1 (Option.some Jvm.ClassFile.FieldType.int) (rmM 0 0) [aI a0] mem (some (aI o)) mem' := by
  refine RT.of (by decide +kernel) (Nat.le_of_ble_eq_true rfl) (fun p l e s m args below meth c k X hr => ?_)
  replace X : CX p s m args meth c k prog_1_method_56_code 1 "WallShifts" := X
  unfold dW_tires at h
  refine v_sub (lv' := [(0, _)]) [0] rfl ?_
  refine v_iload_n X (pc := 0) 0 rfl eW_tires_0 rfl ?_
  by_cases g3 : a0 = (3 : Int32)
  · have h := it_t h g3
    refine v_tsw X (pc := 1) (tgt := 28) (3 : Int32) g3 eW_tires_1 (by decide) (by decide) rfl (by decide) ?_
    refine v_iconst X (pc := 28) (v := (2 : Int32)) eW_tires_28 (by decide) ?_
    exact v_iret X (pc := 29) h hr eW_tires_29
  have h := it_f h g3
  by_cases g4 : a0 = (4 : Int32)
  · have h := it_t h g4
    refine v_tsw X (pc := 1) (tgt := 30) (4 : Int32) g4 eW_tires_1 (by decide) (by decide) rfl (by decide) ?_
    refine v_iconst X (pc := 30) (v := (0 : Int32)) eW_tires_30 (by decide) ?_
    exact v_iret X (pc := 31) h hr eW_tires_31
  have h := it_f h g4
  by_cases g5 : a0 = (5 : Int32)
  · have h := it_t h g5
    refine v_tsw X (pc := 1) (tgt := 28) (5 : Int32) g5 eW_tires_1 (by decide) (by decide) rfl (by decide) ?_
    refine v_iconst X (pc := 28) (v := (2 : Int32)) eW_tires_28 (by decide) ?_
    exact v_iret X (pc := 29) h hr eW_tires_29
  have h := it_f h g5
  refine v_tswD X (pc := 1) (tgt := 32) (tsw_out_3_5 g3 g4 g5) eW_tires_1 (by decide) ?_
  refine v_iconst X (pc := 32) (v := (1 : Int32)) eW_tires_32 (by decide) ?_
  exact v_iret X (pc := 33) h hr eW_tires_33
set_option maxHeartbeats 4000000 in
set_option maxRecDepth 100000 in
theorem cW_of {f : Nat} {a1 : Int32} {a2 : Int32} {mem : Mem} {o : Int32} {mem' : Mem}  (h : dW_of f a1 a2 mem = some (o, mem')) : RT yW_of prog_1_method_4_code 4 (Option.some Jvm.ClassFile.FieldType.int) (rmM 3 75) [aR 0 0, aI a1, aI a2] mem (some (aI o)) mem' := by
  refine RT.of (by decide +kernel) (Nat.le_of_ble_eq_true rfl) (fun p l e s m args below meth c k X hr => ?_)
  replace X : CX p s m args meth c k prog_1_method_4_code 4 "WallShifts" := X
  unfold dW_of at h
  refine v_sub (lv' := [(0, _), (1, _), (2, _)]) [0, 1, 2] rfl ?_
  refine v_aload_n X (pc := 0) 0 rfl eW_of_0 rfl ?_
  refine v_iload_n X (pc := 1) 1 rfl eW_of_1 rfl ?_
  obtain ⟨r1, m1, hc1, h⟩ := bd_some h
  refine v_callV X (pc := 2) [_] [] ok_V_W_75 (cW_isWall  hc1) rfl (Nat.le_of_ble_eq_true rfl) ⟨Nat.le_of_ble_eq_true rfl, Nat.le_of_ble_eq_true rfl⟩ ⟨Nat.zero_le _, Nat.zero_le _⟩ (by decide) (by decide) rfl rfl eW_of_2 ?_
  refine v_if_ne X (pc := 5) (tgt := 15) h eW_of_5 (by decide) (fun h => ?_) (fun h => ?_)
  · refine v_aload_n X (pc := 8) 0 rfl eW_of_8 rfl ?_
    refine v_ldc X (pc := 9) qw_179 eW_of_9 ?_
    obtain ⟨r2, m2, hc2, h⟩ := bd_some h
    refine v_callV X (pc := 11) [_] [] ok_V_W_52 (cW_finding  hc2) rfl (Nat.le_of_ble_eq_true rfl) ⟨Nat.le_of_ble_eq_true rfl, Nat.le_of_ble_eq_true rfl⟩ ⟨Nat.zero_le _, Nat.zero_le _⟩ (by decide) (by decide) rfl rfl eW_of_11 ?_
    exact v_iret X (pc := 14) h hr eW_of_14
  · refine v_aload_n X (pc := 15) 0 rfl eW_of_15 rfl ?_
    refine v_get X (pc := 16) 0 (a := aR 1 0) (by decide) (by decide) rfl rfl rfl in_WallShifts (by decide) qw_140 rfl eW_of_16 ?_
    refine v_get X (pc := 19) 3 (a := aR 3 0) (by decide) (by decide) rfl rfl rfl in_Palace (by decide) qw_78 rfl eW_of_19 ?_
    refine v_iload_n X (pc := 22) 1 rfl eW_of_22 rfl ?_
    refine v_aaldW X (pc := 23) h (by decide) eW_of_23 (fun hb3 h => ?_)
    refine v_astore_n X (pc := 24) (lv' := [(3, _), (0, _), (1, _), (2, _)]) eW_of_24 rfl (Nat.le_of_ble_eq_true rfl) rfl ?_
    refine v_iload_n X (pc := 25) 3 rfl eW_of_25 rfl ?_
    refine v_iconst X (pc := 26) (v := (0 : Int32)) eW_of_26 (by decide) ?_
    refine v_iconst X (pc := 27) (v := (5 : Int32)) eW_of_27 (by decide) ?_
    obtain ⟨r4, m4, hc4, h⟩ := bd_some h
    refine v_callS X (pc := 28) [_, _, _] [] ok_S_W_82 (cW_isIn  hc4) rfl (Nat.le_of_ble_eq_true rfl) ⟨Nat.le_of_ble_eq_true rfl, Nat.le_of_ble_eq_true rfl⟩ ⟨Nat.zero_le _, Nat.zero_le _⟩ eW_of_28 ?_
    refine v_if_eq X (pc := 31) (tgt := 38) h eW_of_31 (by decide) (fun h => ?_) (fun h => ?_)
    · refine v_iload_n X (pc := 38) 3 rfl eW_of_38 rfl ?_
      by_cases g6 : a2 = (6 : Int32)
      · have h := it_t h g6
        refine v_tsw X (pc := 39) (tgt := 64) (6 : Int32) g6 eW_of_39 (by decide) (by decide) rfl (by decide) ?_
        refine v_aload_n X (pc := 64) 1 rfl eW_of_64 rfl ?_
        refine v_get X (pc := 65) 0 (a := aR 1 0) (by decide) (by decide) rfl rfl rfl in_WallShifts (by decide) qw_140 rfl eW_of_65 ?_
        refine v_iload_n X (pc := 68) 2 rfl eW_of_68 rfl ?_
        refine v_aload_n X (pc := 69) 1 rfl eW_of_69 rfl ?_
        refine v_get X (pc := 70) 0 (a := aR 1 0) (by decide) (by decide) rfl rfl rfl in_WallShifts (by decide) qw_140 rfl eW_of_70 ?_
        refine v_get X (pc := 73) 0 (a := aI (gI m4 1 0 0)) (by decide) (by decide) rfl rfl rfl in_Palace (by decide) qw_71 rfl eW_of_73 ?_
        obtain ⟨r5, m5, hc5, h⟩ := bd_some h
        refine v_callV X (pc := 76) [_, _] [] ok_V_W_90 (cP_dutyOf (by decide) hc5) rfl (Nat.le_of_ble_eq_true rfl) ⟨Nat.le_of_ble_eq_true rfl, Nat.le_of_ble_eq_true rfl⟩ ⟨Nat.zero_le _, Nat.zero_le _⟩ (by decide) (by decide) rfl rfl eW_of_76 ?_
        refine v_if_eq X (pc := 79) (tgt := 86) h eW_of_79 (by decide) (fun h => ?_) (fun h => ?_)
        · refine v_iconst X (pc := 86) (v := (0 : Int32)) eW_of_86 (by decide) ?_
          exact v_iret X (pc := 87) h hr eW_of_87
        · refine v_iconst X (pc := 82) (v := (1 : Int32)) eW_of_82 (by decide) ?_
          refine v_goto X (pc := 83) (tgt := 87) eW_of_83 (by decide) ?_
          exact v_iret X (pc := 87) h hr eW_of_87
      have h := it_f h g6
      by_cases g7 : a2 = (7 : Int32)
      · have h := it_t h g7
        refine v_tsw X (pc := 39) (tgt := 88) (7 : Int32) g7 eW_of_39 (by decide) (by decide) rfl (by decide) ?_
        refine v_aload_n X (pc := 88) 1 rfl eW_of_88 rfl ?_
        refine v_get X (pc := 89) 0 (a := aR 1 0) (by decide) (by decide) rfl rfl rfl in_WallShifts (by decide) qw_140 rfl eW_of_89 ?_
        refine v_aload_n X (pc := 92) 0 rfl eW_of_92 rfl ?_
        obtain ⟨r6, m6, hc6, h⟩ := bd_some h
        refine v_callV X (pc := 93) [_] [] ok_V_W_93 (cP_isAwake (by decide) hb3 hc6) rfl (Nat.le_of_ble_eq_true rfl) ⟨Nat.le_of_ble_eq_true rfl, Nat.le_of_ble_eq_true rfl⟩ ⟨Nat.zero_le _, Nat.zero_le _⟩ (by decide) (by decide) rfl rfl eW_of_93 ?_
        refine v_if_eq X (pc := 96) (tgt := 103) h eW_of_96 (by decide) (fun h => ?_) (fun h => ?_)
        · refine v_iconst X (pc := 103) (v := (0 : Int32)) eW_of_103 (by decide) ?_
          exact v_iret X (pc := 104) h hr eW_of_104
        · refine v_iconst X (pc := 99) (v := (1 : Int32)) eW_of_99 (by decide) ?_
          refine v_goto X (pc := 100) (tgt := 104) eW_of_100 (by decide) ?_
          exact v_iret X (pc := 104) h hr eW_of_104
      have h := it_f h g7
      by_cases g8 : a2 = (8 : Int32)
      · have h := it_t h g8
        refine v_tsw X (pc := 39) (tgt := 105) (8 : Int32) g8 eW_of_39 (by decide) (by decide) rfl (by decide) ?_
        refine v_aload_n X (pc := 105) 0 rfl eW_of_105 rfl ?_
        refine v_iconst X (pc := 106) (v := (0 : Int32)) eW_of_106 (by decide) ?_
        refine v_ialdK X (pc := 107) (n := 6) 0 (by decide) (by decide) (by decide) hb3 rfl eW_of_107 ?_
        obtain ⟨r7, m7, hc7, h⟩ := bd_some h
        refine v_callS X (pc := 108) [_] [] ok_S_W_97 (cW_tires  hc7) rfl (Nat.le_of_ble_eq_true rfl) ⟨Nat.le_of_ble_eq_true rfl, Nat.le_of_ble_eq_true rfl⟩ ⟨Nat.zero_le _, Nat.zero_le _⟩ eW_of_108 ?_
        exact v_iret X (pc := 111) h hr eW_of_111
      have h := it_f h g8
      refine v_tswD X (pc := 39) (tgt := 112) (tsw_out_6_8 g6 g7 g8) eW_of_39 (by decide) ?_
      refine v_aload_n X (pc := 112) 1 rfl eW_of_112 rfl ?_
      refine v_ldc X (pc := 113) qw_179 eW_of_113 ?_
      obtain ⟨r8, m8, hc8, h⟩ := bd_some h
      refine v_callV X (pc := 115) [_] [] ok_V_W_52 (cW_finding  hc8) rfl (Nat.le_of_ble_eq_true rfl) ⟨Nat.le_of_ble_eq_true rfl, Nat.le_of_ble_eq_true rfl⟩ ⟨Nat.zero_le _, Nat.zero_le _⟩ (by decide) (by decide) rfl rfl eW_of_115 ?_
      exact v_iret X (pc := 118) h hr eW_of_118
    · refine v_aload_n X (pc := 34) 0 rfl eW_of_34 rfl ?_
      refine v_iload_n X (pc := 35) 3 rfl eW_of_35 rfl ?_
      refine v_iald X (pc := 36) h (by decide) hb3 rfl eW_of_36 (fun h => ?_)
      exact v_iret X (pc := 37) h hr eW_of_37
set_option maxHeartbeats 4000000 in
set_option maxRecDepth 100000 in
theorem cP_replace {f : Nat} {q0 : Nat} {a1 : Int32} {a2 : Int32} {a3 : Int32} {mem : Mem} {o : Int32} {mem' : Mem} (hq0 : q0 < 3) (h : dP_replace f q0 a1 a2 a3 mem = some (o, mem')) : RT yP_replace prog_2_method_5_code 5 (Option.some Jvm.ClassFile.FieldType.int) (rmM 0 0) [aR 1 q0, aI a1, aI a2, aI a3] mem (some (aI o)) mem' := by
  refine RT.of (by decide +kernel) (Nat.le_of_ble_eq_true rfl) (fun p l e s m args below meth c k X hr => ?_)
  replace X : CX p s m args meth c k prog_2_method_5_code 5 "WallShifts$Palace" := X
  unfold dP_replace at h
  refine v_sub (lv' := [(0, _), (1, _), (2, _), (3, _)]) [0, 1, 2, 3] rfl ?_
  refine v_aload_n X (pc := 0) 0 rfl eP_replace_0 rfl ?_
  refine v_get X (pc := 1) 3 (a := aR 3 q0) (by decide) hq0 rfl rfl rfl in_Palace (by decide) qw_77 rfl eP_replace_1 ?_
  refine v_iload_n X (pc := 4) 1 rfl eP_replace_4 rfl ?_
  refine v_aaldW X (pc := 5) h hq0 eP_replace_5 (fun hb1 h => ?_)
  refine v_iload_n X (pc := 6) 2 rfl eP_replace_6 rfl ?_
  refine v_iald X (pc := 7) h (by decide) hb1 rfl eP_replace_7 (fun h => ?_)
  refine v_istore X (pc := 8) (lv' := [(4, _), (0, _), (1, _), (2, _), (3, _)]) eP_replace_8 (Nat.le_of_ble_eq_true rfl) rfl ?_
  refine v_aload_n X (pc := 10) 1 rfl eP_replace_10 rfl ?_
  refine v_get X (pc := 11) 3 (a := aR 3 q0) (by decide) hq0 rfl rfl rfl in_Palace (by decide) qw_77 rfl eP_replace_11 ?_
  refine v_iload_n X (pc := 14) 2 rfl eP_replace_14 rfl ?_
  refine v_aaldW X (pc := 15) h hq0 eP_replace_15 (fun hb2 h => ?_)
  refine v_iload_n X (pc := 16) 3 rfl eP_replace_16 rfl ?_
  refine v_iload_n X (pc := 17) 4 rfl eP_replace_17 rfl ?_
  refine v_iast X (pc := 18) h (by decide) hb2 (fun _ => rfl) eP_replace_18 (fun h => ?_)
  refine v_iload X (pc := 19) 0 rfl eP_replace_19 ?_
  exact v_iret X (pc := 21) h hr eP_replace_21
set_option maxHeartbeats 4000000 in
set_option maxRecDepth 100000 in
theorem cW_set {f : Nat} {a1 : Int32} {a2 : Int32} {a3 : Int32} {mem : Mem} {o : Int32} {mem' : Mem}  (h : dW_set f a1 a2 a3 mem = some (o, mem')) : RT yW_set prog_1_method_5_code 4 (Option.some Jvm.ClassFile.FieldType.int) (rmM 2 44) [aR 0 0, aI a1, aI a2, aI a3] mem (some (aI o)) mem' := by
  refine RT.of (by decide +kernel) (Nat.le_of_ble_eq_true rfl) (fun p l e s m args below meth c k X hr => ?_)
  replace X : CX p s m args meth c k prog_1_method_5_code 4 "WallShifts" := X
  unfold dW_set at h
  refine v_sub (lv' := [(0, _), (1, _), (2, _), (3, _)]) [0, 1, 2, 3] rfl ?_
  refine v_aload_n X (pc := 0) 0 rfl eW_set_0 rfl ?_
  refine v_iload_n X (pc := 1) 1 rfl eW_set_1 rfl ?_
  obtain ⟨r1, m1, hc1, h⟩ := bd_some h
  refine v_callV X (pc := 2) [_] [] ok_V_W_75 (cW_isWall  hc1) rfl (Nat.le_of_ble_eq_true rfl) ⟨Nat.le_of_ble_eq_true rfl, Nat.le_of_ble_eq_true rfl⟩ ⟨Nat.zero_le _, Nat.zero_le _⟩ (by decide) (by decide) rfl rfl eW_set_2 ?_
  refine v_if_eq X (pc := 5) (tgt := 30) h eW_set_5 (by decide) (fun h => ?_) (fun h => ?_)
  · refine v_aload_n X (pc := 30) 0 rfl eW_set_30 rfl ?_
    refine v_ldc X (pc := 31) qw_179 eW_set_31 ?_
    obtain ⟨r2, m2, hc2, h⟩ := bd_some h
    refine v_callV X (pc := 33) [_] [] ok_V_W_52 (cW_finding  hc2) rfl (Nat.le_of_ble_eq_true rfl) ⟨Nat.le_of_ble_eq_true rfl, Nat.le_of_ble_eq_true rfl⟩ ⟨Nat.zero_le _, Nat.zero_le _⟩ (by decide) (by decide) rfl rfl eW_set_33 ?_
    exact v_iret X (pc := 36) h hr eW_set_36
  · refine v_iload_n X (pc := 8) 2 rfl eW_set_8 rfl ?_
    refine v_iconst X (pc := 9) (v := (1 : Int32)) eW_set_9 (by decide) ?_
    refine v_iconst X (pc := 10) (v := (5 : Int32)) eW_set_10 (by decide) ?_
    obtain ⟨r3, m3, hc3, h⟩ := bd_some h
    refine v_callS X (pc := 11) [_, _, _] [] ok_S_W_82 (cW_isIn  hc3) rfl (Nat.le_of_ble_eq_true rfl) ⟨Nat.le_of_ble_eq_true rfl, Nat.le_of_ble_eq_true rfl⟩ ⟨Nat.zero_le _, Nat.zero_le _⟩ eW_set_11 ?_
    refine v_if_eq X (pc := 14) (tgt := 30) h eW_set_14 (by decide) (fun h => ?_) (fun h => ?_)
    · refine v_aload_n X (pc := 30) 0 rfl eW_set_30 rfl ?_
      refine v_ldc X (pc := 31) qw_179 eW_set_31 ?_
      obtain ⟨r4, m4, hc4, h⟩ := bd_some h
      refine v_callV X (pc := 33) [_] [] ok_V_W_52 (cW_finding  hc4) rfl (Nat.le_of_ble_eq_true rfl) ⟨Nat.le_of_ble_eq_true rfl, Nat.le_of_ble_eq_true rfl⟩ ⟨Nat.zero_le _, Nat.zero_le _⟩ (by decide) (by decide) rfl rfl eW_set_33 ?_
      exact v_iret X (pc := 36) h hr eW_set_36
    · refine v_iload_n X (pc := 17) 3 rfl eW_set_17 rfl ?_
      refine v_iconst X (pc := 18) (v := (0 : Int32)) eW_set_18 (by decide) ?_
      refine v_gets X (pc := 19) 1 (by decide) qw_240 eW_set_19 ?_
      refine v_iload_n X (pc := 22) 2 rfl eW_set_22 rfl ?_
      refine v_stld X (pc := 23) h (by decide) eW_set_23 (fun h => ?_)
      obtain ⟨r5, m5, hc5, h⟩ := bd_some h
      refine v_callS X (pc := 24) [_, _, _] [] ok_S_W_82 (cW_isIn  hc5) rfl (Nat.le_of_ble_eq_true rfl) ⟨Nat.le_of_ble_eq_true rfl, Nat.le_of_ble_eq_true rfl⟩ ⟨Nat.zero_le _, Nat.zero_le _⟩ eW_set_24 ?_
      refine v_if_ne X (pc := 27) (tgt := 37) h eW_set_27 (by decide) (fun h => ?_) (fun h => ?_)
      · refine v_aload_n X (pc := 30) 0 rfl eW_set_30 rfl ?_
        refine v_ldc X (pc := 31) qw_179 eW_set_31 ?_
        obtain ⟨r6, m6, hc6, h⟩ := bd_some h
        refine v_callV X (pc := 33) [_] [] ok_V_W_52 (cW_finding  hc6) rfl (Nat.le_of_ble_eq_true rfl) ⟨Nat.le_of_ble_eq_true rfl, Nat.le_of_ble_eq_true rfl⟩ ⟨Nat.zero_le _, Nat.zero_le _⟩ (by decide) (by decide) rfl rfl eW_set_33 ?_
        exact v_iret X (pc := 36) h hr eW_set_36
      · refine v_aload_n X (pc := 37) 0 rfl eW_set_37 rfl ?_
        refine v_get X (pc := 38) 0 (a := aR 1 0) (by decide) (by decide) rfl rfl rfl in_WallShifts (by decide) qw_140 rfl eW_set_38 ?_
        refine v_iload_n X (pc := 41) 1 rfl eW_set_41 rfl ?_
        refine v_iload_n X (pc := 42) 2 rfl eW_set_42 rfl ?_
        refine v_iload_n X (pc := 43) 3 rfl eW_set_43 rfl ?_
        obtain ⟨r7, m7, hc7, h⟩ := bd_some h
        refine v_callV X (pc := 44) [_, _, _] [] ok_V_W_103 (cP_replace (by decide) hc7) rfl (Nat.le_of_ble_eq_true rfl) ⟨Nat.le_of_ble_eq_true rfl, Nat.le_of_ble_eq_true rfl⟩ ⟨Nat.zero_le _, Nat.zero_le _⟩ (by decide) (by decide) rfl rfl eW_set_44 ?_
        exact v_iret X (pc := 47) h hr eW_set_47
set_option maxHeartbeats 4000000 in
set_option maxRecDepth 100000 in
theorem cW_turn {f : Nat} {a1 : Int32} {a2 : Int32} {mem : Mem} {o : Int32} {mem' : Mem}  (h : dW_turn f a1 a2 mem = some (o, mem')) : RT yW_turn prog_1_method_6_code 3 (Option.some Jvm.ClassFile.FieldType.int) (rmM 2 44) [aR 0 0, aI a1, aI a2] mem (some (aI o)) mem' := by
  refine RT.of (by decide +kernel) (Nat.le_of_ble_eq_true rfl) (fun p l e s m args below meth c k X hr => ?_)
  replace X : CX p s m args meth c k prog_1_method_6_code 3 "WallShifts" := X
  unfold dW_turn at h
  refine v_sub (lv' := [(0, _), (1, _), (2, _)]) [0, 1, 2] rfl ?_
  refine v_aload_n X (pc := 0) 0 rfl eW_turn_0 rfl ?_
  refine v_iload_n X (pc := 1) 1 rfl eW_turn_1 rfl ?_
  obtain ⟨r1, m1, hc1, h⟩ := bd_some h
  refine v_callV X (pc := 2) [_] [] ok_V_W_75 (cW_isWall  hc1) rfl (Nat.le_of_ble_eq_true rfl) ⟨Nat.le_of_ble_eq_true rfl, Nat.le_of_ble_eq_true rfl⟩ ⟨Nat.zero_le _, Nat.zero_le _⟩ (by decide) (by decide) rfl rfl eW_turn_2 ?_
  refine v_if_eq X (pc := 5) (tgt := 15) h eW_turn_5 (by decide) (fun h => ?_) (fun h => ?_)
  · refine v_aload_n X (pc := 15) 0 rfl eW_turn_15 rfl ?_
    refine v_ldc X (pc := 16) qw_179 eW_turn_16 ?_
    obtain ⟨r2, m2, hc2, h⟩ := bd_some h
    refine v_callV X (pc := 18) [_] [] ok_V_W_52 (cW_finding  hc2) rfl (Nat.le_of_ble_eq_true rfl) ⟨Nat.le_of_ble_eq_true rfl, Nat.le_of_ble_eq_true rfl⟩ ⟨Nat.zero_le _, Nat.zero_le _⟩ (by decide) (by decide) rfl rfl eW_turn_18 ?_
    exact v_iret X (pc := 21) h hr eW_turn_21
  · refine v_iload_n X (pc := 8) 2 rfl eW_turn_8 rfl ?_
    obtain ⟨r3, m3, hc3, h⟩ := bd_some h
    refine v_callS X (pc := 9) [_] [] ok_S_W_59 (cW_isKind  hc3) rfl (Nat.le_of_ble_eq_true rfl) ⟨Nat.le_of_ble_eq_true rfl, Nat.le_of_ble_eq_true rfl⟩ ⟨Nat.zero_le _, Nat.zero_le _⟩ eW_turn_9 ?_
    refine v_if_ne X (pc := 12) (tgt := 22) h eW_turn_12 (by decide) (fun h => ?_) (fun h => ?_)
    · refine v_aload_n X (pc := 15) 0 rfl eW_turn_15 rfl ?_
      refine v_ldc X (pc := 16) qw_179 eW_turn_16 ?_
      obtain ⟨r4, m4, hc4, h⟩ := bd_some h
      refine v_callV X (pc := 18) [_] [] ok_V_W_52 (cW_finding  hc4) rfl (Nat.le_of_ble_eq_true rfl) ⟨Nat.le_of_ble_eq_true rfl, Nat.le_of_ble_eq_true rfl⟩ ⟨Nat.zero_le _, Nat.zero_le _⟩ (by decide) (by decide) rfl rfl eW_turn_18 ?_
      exact v_iret X (pc := 21) h hr eW_turn_21
    · refine v_aload_n X (pc := 22) 0 rfl eW_turn_22 rfl ?_
      refine v_get X (pc := 23) 0 (a := aR 1 0) (by decide) (by decide) rfl rfl rfl in_WallShifts (by decide) qw_140 rfl eW_turn_23 ?_
      refine v_iload_n X (pc := 26) 1 rfl eW_turn_26 rfl ?_
      refine v_iconst X (pc := 27) (v := (0 : Int32)) eW_turn_27 (by decide) ?_
      refine v_iload_n X (pc := 28) 2 rfl eW_turn_28 rfl ?_
      obtain ⟨r5, m5, hc5, h⟩ := bd_some h
      refine v_callV X (pc := 29) [_, _, _] [] ok_V_W_103 (cP_replace (by decide) hc5) rfl (Nat.le_of_ble_eq_true rfl) ⟨Nat.le_of_ble_eq_true rfl, Nat.le_of_ble_eq_true rfl⟩ ⟨Nat.zero_le _, Nat.zero_le _⟩ (by decide) (by decide) rfl rfl eW_turn_29 ?_
      exact v_iret X (pc := 32) h hr eW_turn_32
set_option maxHeartbeats 4000000 in
set_option maxRecDepth 100000 in
theorem cW_isUnder_4 {p : Program} {l : Launch} {e : Env} {s : State} {m : MethodId} {args : Array Value} {below : List Frame} {meth : Method} {c : Code} {k : KK} {f : Nat} {o : Int32} {mem' : Mem} (X : CX p s m args meth c k prog_1_method_53_code 4 "WallShifts") (hr : meth.sig.returnType = (Option.some Jvm.ClassFile.FieldType.boolean)) : ∀ (n : Nat) (x1 : Int32) (x2 : Int32) (x3 : Int32) (mem : Mem), dW_isUnder_4 f n x1 x2 x3 mem = some (o, mem') → V p l e (rmM 2 42) s m args below meth c 0 0 (MQ below (RQc k (some (aI o)) mem') args s 0 0 (kA k)) k 4 mem 4 [(1, aI x1), (2, aI x2), (3, aI x3)] [] := by
  intro n
  induction n with
  | zero =>
    intro x1 x2 x3 mem  h
    exact nomatch (show (none : Option (Int32 × Mem)) = some _ from h)
  | succ n ih =>
    intro x1 x2 x3 mem  h
    rw [dW_isUnder_4] at h
    refine v_iload_n X (pc := 4) 2 rfl eW_isUnder_4 rfl ?_
    refine v_bipush X (pc := 5) (v := (6 : Int32)) eW_isUnder_5 (by decide) ?_
    refine v_icmp_ge X (pc := 7) (tgt := 36) h eW_isUnder_7 (by decide) (fun h => ?_) (fun h => ?_)
    · refine v_iload_n X (pc := 10) 1 rfl eW_isUnder_10 rfl ?_
      obtain ⟨r1, m1, hc1, h⟩ := bd_some h
      refine v_callS X (pc := 11) [_] [] ok_S_W_59 (cW_isKind  hc1) rfl (Nat.le_of_ble_eq_true rfl) ⟨Nat.le_of_ble_eq_true rfl, Nat.le_of_ble_eq_true rfl⟩ ⟨Nat.zero_le _, Nat.zero_le _⟩ eW_isUnder_11 ?_
      refine v_if_eq X (pc := 14) (tgt := 36) h eW_isUnder_14 (by decide) (fun h => ?_) (fun h => ?_)
      · refine v_iconst X (pc := 36) (v := (0 : Int32)) eW_isUnder_36 (by decide) ?_
        exact v_zret X (pc := 37) h hr rfl eW_isUnder_37
      · refine v_iload_n X (pc := 17) 1 rfl eW_isUnder_17 rfl ?_
        refine v_iload_n X (pc := 18) 0 rfl eW_isUnder_18 rfl ?_
        refine v_icmp_ne X (pc := 19) (tgt := 24) h eW_isUnder_19 (by decide) (fun h => ?_) (fun h => ?_)
        · refine v_iconst X (pc := 22) (v := (1 : Int32)) eW_isUnder_22 (by decide) ?_
          exact v_zret X (pc := 23) h hr rfl eW_isUnder_23
        · refine v_gets X (pc := 24) 0 (by decide) qw_257 eW_isUnder_24 ?_
          refine v_iload_n X (pc := 27) 1 rfl eW_isUnder_27 rfl ?_
          refine v_stld X (pc := 28) h (by decide) eW_isUnder_28 (fun h => ?_)
          refine v_istore_n X (pc := 29) (lv' := [(2, _), (1, _), (3, _)]) eW_isUnder_29 rfl (Nat.le_of_ble_eq_true rfl) rfl ?_
          refine v_iinc X (pc := 30) (v := (x3 + (1 : Int32))) (lv' := [(3, _), (2, _), (1, _)]) 2 rfl (by rfl) eW_isUnder_30 (Nat.le_of_ble_eq_true rfl) rfl ?_
          refine v_goto X (pc := 33) (tgt := 4) eW_isUnder_33 (by decide) ?_
          exact v_sub [2, 1, 0] rfl (ih _ _ _ _  h)
    · refine v_iconst X (pc := 36) (v := (0 : Int32)) eW_isUnder_36 (by decide) ?_
      exact v_zret X (pc := 37) h hr rfl eW_isUnder_37
set_option maxHeartbeats 4000000 in
set_option maxRecDepth 100000 in
theorem cW_isUnder {f : Nat} {a0 : Int32} {a1 : Int32} {mem : Mem} {o : Int32} {mem' : Mem}  (h : dW_isUnder f a0 a1 mem = some (o, mem')) : RT yW_isUnder prog_1_method_53_code 4 (Option.some Jvm.ClassFile.FieldType.boolean) (rmM 2 42) [aI a0, aI a1] mem (some (aI o)) mem' := by
  refine RT.of (by decide +kernel) (Nat.le_of_ble_eq_true rfl) (fun p l e s m args below meth c k X hr => ?_)
  replace X : CX p s m args meth c k prog_1_method_53_code 4 "WallShifts" := X
  unfold dW_isUnder at h
  refine v_sub (lv' := [(0, _), (1, _)]) [0, 1] rfl ?_
  refine v_iload_n X (pc := 0) 0 rfl eW_isUnder_0 rfl ?_
  refine v_istore_n X (pc := 1) (lv' := [(2, _), (0, _), (1, _)]) eW_isUnder_1 rfl (Nat.le_of_ble_eq_true rfl) rfl ?_
  refine v_iconst X (pc := 2) (v := (0 : Int32)) eW_isUnder_2 (by decide) ?_
  refine v_istore_n X (pc := 3) (lv' := [(3, _), (2, _), (0, _), (1, _)]) eW_isUnder_3 rfl (Nat.le_of_ble_eq_true rfl) rfl ?_
  exact v_sub [3, 1, 0] rfl (cW_isUnder_4 X hr _ _ _ _ _  h)
set_option maxHeartbeats 4000000 in
set_option maxRecDepth 100000 in
theorem cW_as {f : Nat} {a1 : Int32} {a2 : Int32} {mem : Mem} {o : Int32} {mem' : Mem}  (h : dW_as f a1 a2 mem = some (o, mem')) : RT yW_as prog_1_method_7_code 4 (Option.some Jvm.ClassFile.FieldType.int) (rmM 3 65) [aR 0 0, aI a1, aI a2] mem (some (aI o)) mem' := by
  refine RT.of (by decide +kernel) (Nat.le_of_ble_eq_true rfl) (fun p l e s m args below meth c k X hr => ?_)
  replace X : CX p s m args meth c k prog_1_method_7_code 4 "WallShifts" := X
  unfold dW_as at h
  refine v_sub (lv' := [(0, _), (1, _), (2, _)]) [0, 1, 2] rfl ?_
  refine v_aload_n X (pc := 0) 0 rfl eW_as_0 rfl ?_
  refine v_iload_n X (pc := 1) 1 rfl eW_as_1 rfl ?_
  obtain ⟨r1, m1, hc1, h⟩ := bd_some h
  refine v_callV X (pc := 2) [_] [] ok_V_W_75 (cW_isWall  hc1) rfl (Nat.le_of_ble_eq_true rfl) ⟨Nat.le_of_ble_eq_true rfl, Nat.le_of_ble_eq_true rfl⟩ ⟨Nat.zero_le _, Nat.zero_le _⟩ (by decide) (by decide) rfl rfl eW_as_2 ?_
  refine v_if_eq X (pc := 5) (tgt := 15) h eW_as_5 (by decide) (fun h => ?_) (fun h => ?_)
  · refine v_aload_n X (pc := 15) 0 rfl eW_as_15 rfl ?_
    refine v_ldc X (pc := 16) qw_179 eW_as_16 ?_
    obtain ⟨r2, m2, hc2, h⟩ := bd_some h
    refine v_callV X (pc := 18) [_] [] ok_V_W_52 (cW_finding  hc2) rfl (Nat.le_of_ble_eq_true rfl) ⟨Nat.le_of_ble_eq_true rfl, Nat.le_of_ble_eq_true rfl⟩ ⟨Nat.zero_le _, Nat.zero_le _⟩ (by decide) (by decide) rfl rfl eW_as_18 ?_
    exact v_iret X (pc := 21) h hr eW_as_21
  · refine v_iload_n X (pc := 8) 2 rfl eW_as_8 rfl ?_
    obtain ⟨r3, m3, hc3, h⟩ := bd_some h
    refine v_callS X (pc := 9) [_] [] ok_S_W_59 (cW_isKind  hc3) rfl (Nat.le_of_ble_eq_true rfl) ⟨Nat.le_of_ble_eq_true rfl, Nat.le_of_ble_eq_true rfl⟩ ⟨Nat.zero_le _, Nat.zero_le _⟩ eW_as_9 ?_
    refine v_if_ne X (pc := 12) (tgt := 22) h eW_as_12 (by decide) (fun h => ?_) (fun h => ?_)
    · refine v_aload_n X (pc := 15) 0 rfl eW_as_15 rfl ?_
      refine v_ldc X (pc := 16) qw_179 eW_as_16 ?_
      obtain ⟨r4, m4, hc4, h⟩ := bd_some h
      refine v_callV X (pc := 18) [_] [] ok_V_W_52 (cW_finding  hc4) rfl (Nat.le_of_ble_eq_true rfl) ⟨Nat.le_of_ble_eq_true rfl, Nat.le_of_ble_eq_true rfl⟩ ⟨Nat.zero_le _, Nat.zero_le _⟩ (by decide) (by decide) rfl rfl eW_as_18 ?_
      exact v_iret X (pc := 21) h hr eW_as_21
    · refine v_aload_n X (pc := 22) 0 rfl eW_as_22 rfl ?_
      refine v_get X (pc := 23) 0 (a := aR 1 0) (by decide) (by decide) rfl rfl rfl in_WallShifts (by decide) qw_140 rfl eW_as_23 ?_
      refine v_get X (pc := 26) 3 (a := aR 3 0) (by decide) (by decide) rfl rfl rfl in_Palace (by decide) qw_78 rfl eW_as_26 ?_
      refine v_iload_n X (pc := 29) 1 rfl eW_as_29 rfl ?_
      refine v_aaldW X (pc := 30) h (by decide) eW_as_30 (fun hb5 h => ?_)
      refine v_astore_n X (pc := 31) (lv' := [(3, _), (0, _), (1, _), (2, _)]) eW_as_31 rfl (Nat.le_of_ble_eq_true rfl) rfl ?_
      refine v_aload_n X (pc := 32) 0 rfl eW_as_32 rfl ?_
      refine v_iconst X (pc := 33) (v := (0 : Int32)) eW_as_33 (by decide) ?_
      refine v_ialdK X (pc := 34) (n := 6) 0 (by decide) (by decide) (by decide) hb5 rfl eW_as_34 ?_
      refine v_iload_n X (pc := 35) 3 rfl eW_as_35 rfl ?_
      obtain ⟨r6, m6, hc6, h⟩ := bd_some h
      refine v_callS X (pc := 36) [_, _] [] ok_S_W_107 (cW_isUnder  hc6) rfl (Nat.le_of_ble_eq_true rfl) ⟨Nat.le_of_ble_eq_true rfl, Nat.le_of_ble_eq_true rfl⟩ ⟨Nat.zero_le _, Nat.zero_le _⟩ eW_as_36 ?_
      refine v_if_ne X (pc := 39) (tgt := 49) h eW_as_39 (by decide) (fun h => ?_) (fun h => ?_)
      · refine v_aload_n X (pc := 42) 1 rfl eW_as_42 rfl ?_
        refine v_ldc X (pc := 43) qw_259 eW_as_43 ?_
        obtain ⟨r7, m7, hc7, h⟩ := bd_some h
        refine v_callV X (pc := 45) [_] [] ok_V_W_52 (cW_finding  hc7) rfl (Nat.le_of_ble_eq_true rfl) ⟨Nat.le_of_ble_eq_true rfl, Nat.le_of_ble_eq_true rfl⟩ ⟨Nat.zero_le _, Nat.zero_le _⟩ (by decide) (by decide) rfl rfl eW_as_45 ?_
        exact v_iret X (pc := 48) h hr eW_as_48
      · refine v_aload_n X (pc := 49) 0 rfl eW_as_49 rfl ?_
        refine v_iconst X (pc := 50) (v := (4 : Int32)) eW_as_50 (by decide) ?_
        refine v_ialdK X (pc := 51) (n := 6) 4 (by decide) (by decide) (by decide) hb5 rfl eW_as_51 ?_
        exact v_iret X (pc := 52) h hr eW_as_52
set_option maxHeartbeats 4000000 in
set_option maxRecDepth 100000 in
theorem cW_isWord {f : Nat} {a0 : Int32} {mem : Mem} {o : Int32} {mem' : Mem}  (h : dW_isWord f a0 mem = some (o, mem')) : RT yW_isWord prog_1_method_49_code 1 (Option.some Jvm.ClassFile.FieldType.boolean) (rmM 1 22) [aI a0] mem (some (aI o)) mem' := by
  refine RT.of (by decide +kernel) (Nat.le_of_ble_eq_true rfl) (fun p l e s m args below meth c k X hr => ?_)
  replace X : CX p s m args meth c k prog_1_method_49_code 1 "WallShifts" := X
  unfold dW_isWord at h
  refine v_sub (lv' := [(0, _)]) [0] rfl ?_
  refine v_iload_n X (pc := 0) 0 rfl eW_isWord_0 rfl ?_
  refine v_iconst X (pc := 1) (v := (0 : Int32)) eW_isWord_1 (by decide) ?_
  refine v_bipush X (pc := 2) (v := (15 : Int32)) eW_isWord_2 (by decide) ?_
  obtain ⟨r1, m1, hc1, h⟩ := bd_some h
  refine v_callS X (pc := 4) [_, _, _] [] ok_S_W_82 (cW_isIn  hc1) rfl (Nat.le_of_ble_eq_true rfl) ⟨Nat.le_of_ble_eq_true rfl, Nat.le_of_ble_eq_true rfl⟩ ⟨Nat.zero_le _, Nat.zero_le _⟩ eW_isWord_4 ?_
  obtain ⟨hz, h⟩ := zb_some h
  exact v_zret X (pc := 7) h hr (zb_n hz) eW_isWord_7
set_option maxHeartbeats 4000000 in
set_option maxRecDepth 100000 in
theorem cW_becomes {f : Nat} {q0 : Nat} {a1 : Int32} {mem : Mem} {o : Int32} {mem' : Mem} (hq0 : q0 < 30) (h : dW_becomes f q0 a1 mem = some (o, mem')) : RT yW_becomes prog_1_method_57_code 2 (Option.some Jvm.ClassFile.FieldType.int) (rmM 0 0) [aR 4 q0, aI a1] mem (some (aI o)) mem' := by
  refine RT.of (by decide +kernel) (Nat.le_of_ble_eq_true rfl) (fun p l e s m args below meth c k X hr => ?_)
  replace X : CX p s m args meth c k prog_1_method_57_code 2 "WallShifts" := X
  unfold dW_becomes at h
  refine v_sub (lv' := [(0, _), (1, _)]) [0, 1] rfl ?_
  refine v_aload_n X (pc := 0) 0 rfl eW_becomes_0 rfl ?_
  refine v_iconst X (pc := 1) (v := (0 : Int32)) eW_becomes_1 (by decide) ?_
  refine v_ialdK X (pc := 2) (n := 6) 0 (by decide) (by decide) (by decide) hq0 rfl eW_becomes_2 ?_
  by_cases g2 : (gI mem 4 q0 0) = (2 : Int32)
  · have h := it_t h g2
    refine v_tsw X (pc := 3) (tgt := 32) (2 : Int32) g2 eW_becomes_3 (by decide) (by decide) rfl (by decide) ?_
    refine v_iload_n X (pc := 32) 1 rfl eW_becomes_32 rfl ?_
    refine v_iconst X (pc := 33) (v := (1 : Int32)) eW_becomes_33 (by decide) ?_
    refine v_ixor X (pc := 34) eW_becomes_34 ?_
    exact v_iret X (pc := 35) h hr eW_becomes_35
  have h := it_f h g2
  by_cases g3 : (gI mem 4 q0 0) = (3 : Int32)
  · have h := it_t h g3
    refine v_tsw X (pc := 3) (tgt := 61) (3 : Int32) g3 eW_becomes_3 (by decide) (by decide) rfl (by decide) ?_
    refine v_iload_n X (pc := 61) 1 rfl eW_becomes_61 rfl ?_
    exact v_iret X (pc := 62) h hr eW_becomes_62
  have h := it_f h g3
  by_cases g4 : (gI mem 4 q0 0) = (4 : Int32)
  · have h := it_t h g4
    refine v_tsw X (pc := 3) (tgt := 36) (4 : Int32) g4 eW_becomes_3 (by decide) (by decide) rfl (by decide) ?_
    refine v_iload_n X (pc := 36) 1 rfl eW_becomes_36 rfl ?_
    refine v_iconst X (pc := 37) (v := (4 : Int32)) eW_becomes_37 (by decide) ?_
    refine v_icmp_ge X (pc := 38) (tgt := 45) h eW_becomes_38 (by decide) (fun h => ?_) (fun h => ?_)
    · refine v_iconst X (pc := 41) (v := (-1 : Int32)) eW_becomes_41 (by decide) ?_
      refine v_goto X (pc := 42) (tgt := 46) eW_becomes_42 (by decide) ?_
      exact v_iret X (pc := 46) h hr eW_becomes_46
    · refine v_iload_n X (pc := 45) 1 rfl eW_becomes_45 rfl ?_
      exact v_iret X (pc := 46) h hr eW_becomes_46
  have h := it_f h g4
  by_cases g5 : (gI mem 4 q0 0) = (5 : Int32)
  · have h := it_t h g5
    refine v_tsw X (pc := 3) (tgt := 47) (5 : Int32) g5 eW_becomes_3 (by decide) (by decide) rfl (by decide) ?_
    refine v_aload_n X (pc := 47) 0 rfl eW_becomes_47 rfl ?_
    refine v_iconst X (pc := 48) (v := (5 : Int32)) eW_becomes_48 (by decide) ?_
    refine v_ialdK X (pc := 49) (n := 6) 5 (by decide) (by decide) (by decide) hq0 rfl eW_becomes_49 ?_
    refine v_if_ne X (pc := 50) (tgt := 57) h eW_becomes_50 (by decide) (fun h => ?_) (fun h => ?_)
    · refine v_iload_n X (pc := 53) 1 rfl eW_becomes_53 rfl ?_
      refine v_goto X (pc := 54) (tgt := 60) eW_becomes_54 (by decide) ?_
      exact v_iret X (pc := 60) h hr eW_becomes_60
    · refine v_iload_n X (pc := 57) 1 rfl eW_becomes_57 rfl ?_
      refine v_iconst X (pc := 58) (v := (1 : Int32)) eW_becomes_58 (by decide) ?_
      refine v_ixor X (pc := 59) eW_becomes_59 ?_
      exact v_iret X (pc := 60) h hr eW_becomes_60
  have h := it_f h g5
  refine v_tswD X (pc := 3) (tgt := 61) (tsw_out_2_5 g2 g3 g4 g5) eW_becomes_3 (by decide) ?_
  refine v_iload_n X (pc := 61) 1 rfl eW_becomes_61 rfl ?_
  exact v_iret X (pc := 62) h hr eW_becomes_62
set_option maxHeartbeats 4000000 in
set_option maxRecDepth 100000 in
theorem cW_hears {f : Nat} {a1 : Int32} {a2 : Int32} {mem : Mem} {o : Int32} {mem' : Mem}  (h : dW_hears f a1 a2 mem = some (o, mem')) : RT yW_hears prog_1_method_8_code 4 (Option.some Jvm.ClassFile.FieldType.int) (rmM 2 44) [aR 0 0, aI a1, aI a2] mem (some (aI o)) mem' := by
  refine RT.of (by decide +kernel) (Nat.le_of_ble_eq_true rfl) (fun p l e s m args below meth c k X hr => ?_)
  replace X : CX p s m args meth c k prog_1_method_8_code 4 "WallShifts" := X
  unfold dW_hears at h
  refine v_sub (lv' := [(0, _), (1, _), (2, _)]) [0, 1, 2] rfl ?_
  refine v_aload_n X (pc := 0) 0 rfl eW_hears_0 rfl ?_
  refine v_iload_n X (pc := 1) 1 rfl eW_hears_1 rfl ?_
  obtain ⟨r1, m1, hc1, h⟩ := bd_some h
  refine v_callV X (pc := 2) [_] [] ok_V_W_75 (cW_isWall  hc1) rfl (Nat.le_of_ble_eq_true rfl) ⟨Nat.le_of_ble_eq_true rfl, Nat.le_of_ble_eq_true rfl⟩ ⟨Nat.zero_le _, Nat.zero_le _⟩ (by decide) (by decide) rfl rfl eW_hears_2 ?_
  refine v_if_eq X (pc := 5) (tgt := 15) h eW_hears_5 (by decide) (fun h => ?_) (fun h => ?_)
  · refine v_aload_n X (pc := 15) 0 rfl eW_hears_15 rfl ?_
    refine v_ldc X (pc := 16) qw_179 eW_hears_16 ?_
    obtain ⟨r2, m2, hc2, h⟩ := bd_some h
    refine v_callV X (pc := 18) [_] [] ok_V_W_52 (cW_finding  hc2) rfl (Nat.le_of_ble_eq_true rfl) ⟨Nat.le_of_ble_eq_true rfl, Nat.le_of_ble_eq_true rfl⟩ ⟨Nat.zero_le _, Nat.zero_le _⟩ (by decide) (by decide) rfl rfl eW_hears_18 ?_
    exact v_iret X (pc := 21) h hr eW_hears_21
  · refine v_iload_n X (pc := 8) 2 rfl eW_hears_8 rfl ?_
    obtain ⟨r3, m3, hc3, h⟩ := bd_some h
    refine v_callS X (pc := 9) [_] [] ok_S_W_111 (cW_isWord  hc3) rfl (Nat.le_of_ble_eq_true rfl) ⟨Nat.le_of_ble_eq_true rfl, Nat.le_of_ble_eq_true rfl⟩ ⟨Nat.zero_le _, Nat.zero_le _⟩ eW_hears_9 ?_
    refine v_if_ne X (pc := 12) (tgt := 22) h eW_hears_12 (by decide) (fun h => ?_) (fun h => ?_)
    · refine v_aload_n X (pc := 15) 0 rfl eW_hears_15 rfl ?_
      refine v_ldc X (pc := 16) qw_179 eW_hears_16 ?_
      obtain ⟨r4, m4, hc4, h⟩ := bd_some h
      refine v_callV X (pc := 18) [_] [] ok_V_W_52 (cW_finding  hc4) rfl (Nat.le_of_ble_eq_true rfl) ⟨Nat.le_of_ble_eq_true rfl, Nat.le_of_ble_eq_true rfl⟩ ⟨Nat.zero_le _, Nat.zero_le _⟩ (by decide) (by decide) rfl rfl eW_hears_18 ?_
      exact v_iret X (pc := 21) h hr eW_hears_21
    · refine v_aload_n X (pc := 22) 0 rfl eW_hears_22 rfl ?_
      refine v_get X (pc := 23) 0 (a := aR 1 0) (by decide) (by decide) rfl rfl rfl in_WallShifts (by decide) qw_140 rfl eW_hears_23 ?_
      refine v_get X (pc := 26) 3 (a := aR 3 0) (by decide) (by decide) rfl rfl rfl in_Palace (by decide) qw_78 rfl eW_hears_26 ?_
      refine v_iload_n X (pc := 29) 1 rfl eW_hears_29 rfl ?_
      refine v_aaldW X (pc := 30) h (by decide) eW_hears_30 (fun hb5 h => ?_)
      refine v_iload_n X (pc := 31) 2 rfl eW_hears_31 rfl ?_
      obtain ⟨r6, m6, hc6, h⟩ := bd_some h
      refine v_callS X (pc := 32) [_, _] [] ok_S_W_114 (cW_becomes hb5 hc6) rfl (Nat.le_of_ble_eq_true rfl) ⟨Nat.le_of_ble_eq_true rfl, Nat.le_of_ble_eq_true rfl⟩ ⟨Nat.zero_le _, Nat.zero_le _⟩ eW_hears_32 ?_
      refine v_istore_n X (pc := 35) (lv' := [(3, _), (0, _), (1, _), (2, _)]) eW_hears_35 rfl (Nat.le_of_ble_eq_true rfl) rfl ?_
      refine v_iload_n X (pc := 36) 0 rfl eW_hears_36 rfl ?_
      refine v_if_ge X (pc := 37) (tgt := 49) h eW_hears_37 (by decide) (fun h => ?_) (fun h => ?_)
      · refine v_aload_n X (pc := 40) 1 rfl eW_hears_40 rfl ?_
        refine v_ldc X (pc := 41) qw_270 eW_hears_41 ?_
        obtain ⟨r7, m7, hc7, h⟩ := bd_some h
        refine v_callV X (pc := 43) [_] [] ok_V_W_52 (cW_finding  hc7) rfl (Nat.le_of_ble_eq_true rfl) ⟨Nat.le_of_ble_eq_true rfl, Nat.le_of_ble_eq_true rfl⟩ ⟨Nat.zero_le _, Nat.zero_le _⟩ (by decide) (by decide) rfl rfl eW_hears_43 ?_
        refine v_goto X (pc := 46) (tgt := 50) eW_hears_46 (by decide) ?_
        exact v_iret X (pc := 50) h hr eW_hears_50
      · refine v_iload_n X (pc := 49) 0 rfl eW_hears_49 rfl ?_
        exact v_iret X (pc := 50) h hr eW_hears_50
set_option maxHeartbeats 4000000 in
set_option maxRecDepth 100000 in
theorem cP_roomsOf {f : Nat} {q0 : Nat} {q1 : Nat} {mem : Mem} {o : Int32} {mem' : Mem} (hq0 : q0 < 3) (hq1 : q1 < 30) (h : dP_roomsOf f q0 q1 mem = some (o, mem')) : RT yP_roomsOf prog_2_method_13_code 2 (Option.some Jvm.ClassFile.FieldType.int) (rmM 0 0) [aR 1 q0, aR 4 q1] mem (some (aI o)) mem' := by
  refine RT.of (by decide +kernel) (Nat.le_of_ble_eq_true rfl) (fun p l e s m args below meth c k X hr => ?_)
  replace X : CX p s m args meth c k prog_2_method_13_code 2 "WallShifts$Palace" := X
  unfold dP_roomsOf at h
  refine v_sub (lv' := [(0, _), (1, _)]) [0, 1] rfl ?_
  refine v_iconst X (pc := 0) (v := (1 : Int32)) eP_roomsOf_0 (by decide) ?_
  refine v_aload_n X (pc := 1) 1 rfl eP_roomsOf_1 rfl ?_
  refine v_iconst X (pc := 2) (v := (1 : Int32)) eP_roomsOf_2 (by decide) ?_
  refine v_ialdK X (pc := 3) (n := 6) 1 (by decide) (by decide) (by decide) hq1 rfl eP_roomsOf_3 ?_
  refine v_ishl X (pc := 4) eP_roomsOf_4 ?_
  refine v_iconst X (pc := 5) (v := (1 : Int32)) eP_roomsOf_5 (by decide) ?_
  refine v_aload_n X (pc := 6) 1 rfl eP_roomsOf_6 rfl ?_
  refine v_iconst X (pc := 7) (v := (2 : Int32)) eP_roomsOf_7 (by decide) ?_
  refine v_ialdK X (pc := 8) (n := 6) 2 (by decide) (by decide) (by decide) hq1 rfl eP_roomsOf_8 ?_
  refine v_ishl X (pc := 9) eP_roomsOf_9 ?_
  refine v_ior X (pc := 10) eP_roomsOf_10 ?_
  exact v_iret X (pc := 11) h hr eP_roomsOf_11
set_option maxHeartbeats 4000000 in
set_option maxRecDepth 100000 in
theorem cP_leaks_15 {p : Program} {l : Launch} {e : Env} {s : State} {m : MethodId} {args : Array Value} {below : List Frame} {meth : Method} {c : Code} {k : KK} {f : Nat} {o : Int32} {mem' : Mem} (X : CX p s m args meth c k prog_2_method_11_code 6 "WallShifts$Palace") (hr : meth.sig.returnType = (Option.some Jvm.ClassFile.FieldType.int)) {k6 : Nat → Int32 → Int32 → Mem → Option (Int32 × Mem)} (hk6 : ∀ (q0 : Nat) (x2 : Int32) (x3 : Int32) (mem : Mem), q0 < 3 → k6 q0 x2 x3 mem = some (o, mem') → V p l e (rmM 1 21) s m args below meth c 0 0 (MQ below (RQc k (some (aI o)) mem') args s 0 0 (kA k)) k 6 mem 6 [(0, aR 1 q0), (2, aI x2), (3, aI x3)] []) : ∀ (n : Nat) (q0 : Nat) (x2 : Int32) (x3 : Int32) (x4 : Int32) (mem : Mem), q0 < 3 → dP_leaks_15 f k6 n q0 x2 x3 x4 mem = some (o, mem') → V p l e (rmM 1 21) s m args below meth c 0 0 (MQ below (RQc k (some (aI o)) mem') args s 0 0 (kA k)) k 6 mem 15 [(0, aR 1 q0), (2, aI x2), (3, aI x3), (4, aI x4)] [] := by
  intro n
  induction n with
  | zero =>
    intro q0 x2 x3 x4 mem hq0 h
    exact nomatch (show (none : Option (Int32 × Mem)) = some _ from h)
  | succ n ih =>
    intro q0 x2 x3 x4 mem hq0 h
    rw [dP_leaks_15] at h
    refine v_iload X (pc := 15) 3 rfl eP_leaks_15 ?_
    refine v_aload_n X (pc := 17) 0 rfl eP_leaks_17 rfl ?_
    refine v_get X (pc := 18) 2 (a := aI (gI mem 1 q0 2)) (by decide) hq0 rfl rfl rfl in_Palace (by decide) qw_75 rfl eP_leaks_18 ?_
    refine v_icmp_ge X (pc := 21) (tgt := 68) h eP_leaks_21 (by decide) (fun h => ?_) (fun h => ?_)
    · refine v_aload_n X (pc := 24) 0 rfl eP_leaks_24 rfl ?_
      refine v_aload_n X (pc := 25) 0 rfl eP_leaks_25 rfl ?_
      refine v_get X (pc := 26) 3 (a := aR 3 q0) (by decide) hq0 rfl rfl rfl in_Palace (by decide) qw_77 rfl eP_leaks_26 ?_
      refine v_iload X (pc := 29) 3 rfl eP_leaks_29 ?_
      refine v_aaldW X (pc := 31) h hq0 eP_leaks_31 (fun hb1 h => ?_)
      obtain ⟨r2, m2, hc2, h⟩ := bd_some h
      refine v_callV X (pc := 32) [_] [] ok_V_P_50 (cP_roomsOf hq0 hb1 hc2) rfl (Nat.le_of_ble_eq_true rfl) ⟨Nat.le_of_ble_eq_true rfl, Nat.le_of_ble_eq_true rfl⟩ ⟨Nat.zero_le _, Nat.zero_le _⟩ (by decide) hq0 rfl rfl eP_leaks_32 ?_
      refine v_istore X (pc := 35) (lv' := [(5, _), (0, _), (2, _), (3, _), (4, _)]) eP_leaks_35 (Nat.le_of_ble_eq_true rfl) rfl ?_
      refine v_aload_n X (pc := 37) 1 rfl eP_leaks_37 rfl ?_
      refine v_get X (pc := 38) 3 (a := aR 3 q0) (by decide) hq0 rfl rfl rfl in_Palace (by decide) qw_77 rfl eP_leaks_38 ?_
      refine v_iload X (pc := 41) 4 rfl eP_leaks_41 ?_
      refine v_aaldW X (pc := 43) h hq0 eP_leaks_43 (fun hb3 h => ?_)
      refine v_iconst X (pc := 44) (v := (0 : Int32)) eP_leaks_44 (by decide) ?_
      refine v_ialdK X (pc := 45) (n := 6) 0 (by decide) (by decide) (by decide) hb3 rfl eP_leaks_45 ?_
      refine v_iconst X (pc := 46) (v := (3 : Int32)) eP_leaks_46 (by decide) ?_
      refine v_icmp_ne X (pc := 47) (tgt := 62) h eP_leaks_47 (by decide) (fun h => ?_) (fun h => ?_)
      · refine v_iload X (pc := 50) 0 rfl eP_leaks_50 ?_
        refine v_iload_n X (pc := 52) 2 rfl eP_leaks_52 rfl ?_
        refine v_iand X (pc := 53) eP_leaks_53 ?_
        refine v_if_eq X (pc := 54) (tgt := 62) h eP_leaks_54 (by decide) (fun h => ?_) (fun h => ?_)
        · refine v_iinc X (pc := 62) (v := (x4 + (1 : Int32))) (lv' := [(4, _), (5, _), (0, _), (2, _), (3, _)]) 4 rfl (by rfl) eP_leaks_62 (Nat.le_of_ble_eq_true rfl) rfl ?_
          refine v_goto X (pc := 65) (tgt := 15) eP_leaks_65 (by decide) ?_
          exact v_sub [2, 3, 4, 0] rfl (ih _ _ _ _ _ hq0 h)
        · refine v_iload_n X (pc := 57) 2 rfl eP_leaks_57 rfl ?_
          refine v_iload X (pc := 58) 0 rfl eP_leaks_58 ?_
          refine v_ior X (pc := 60) eP_leaks_60 ?_
          refine v_istore_n X (pc := 61) (lv' := [(2, _), (5, _), (0, _), (3, _), (4, _)]) eP_leaks_61 rfl (Nat.le_of_ble_eq_true rfl) rfl ?_
          refine v_iinc X (pc := 62) (v := (x4 + (1 : Int32))) (lv' := [(4, _), (2, _), (5, _), (0, _), (3, _)]) 4 rfl (by rfl) eP_leaks_62 (Nat.le_of_ble_eq_true rfl) rfl ?_
          refine v_goto X (pc := 65) (tgt := 15) eP_leaks_65 (by decide) ?_
          exact v_sub [3, 1, 4, 0] rfl (ih _ _ _ _ _ hq0 h)
      · refine v_iinc X (pc := 62) (v := (x4 + (1 : Int32))) (lv' := [(4, _), (5, _), (0, _), (2, _), (3, _)]) 4 rfl (by rfl) eP_leaks_62 (Nat.le_of_ble_eq_true rfl) rfl ?_
        refine v_goto X (pc := 65) (tgt := 15) eP_leaks_65 (by decide) ?_
        exact v_sub [2, 3, 4, 0] rfl (ih _ _ _ _ _ hq0 h)
    · refine v_iinc X (pc := 68) (v := (x3 + (1 : Int32))) (lv' := [(3, _), (0, _), (2, _), (4, _)]) 2 rfl (by rfl) eP_leaks_68 (Nat.le_of_ble_eq_true rfl) rfl ?_
      refine v_goto X (pc := 71) (tgt := 6) eP_leaks_71 (by decide) ?_
      exact v_sub [1, 2, 0] rfl (hk6 _ _ _ _ hq0 h)
set_option maxHeartbeats 4000000 in
set_option maxRecDepth 100000 in
theorem cP_leaks_6 {p : Program} {l : Launch} {e : Env} {s : State} {m : MethodId} {args : Array Value} {below : List Frame} {meth : Method} {c : Code} {k : KK} {f : Nat} {o : Int32} {mem' : Mem} (X : CX p s m args meth c k prog_2_method_11_code 6 "WallShifts$Palace") (hr : meth.sig.returnType = (Option.some Jvm.ClassFile.FieldType.int)) : ∀ (n : Nat) (q0 : Nat) (x2 : Int32) (x3 : Int32) (mem : Mem), q0 < 3 → dP_leaks_6 f n q0 x2 x3 mem = some (o, mem') → V p l e (rmM 1 21) s m args below meth c 0 0 (MQ below (RQc k (some (aI o)) mem') args s 0 0 (kA k)) k 6 mem 6 [(0, aR 1 q0), (2, aI x2), (3, aI x3)] [] := by
  intro n
  induction n with
  | zero =>
    intro q0 x2 x3 mem hq0 h
    exact nomatch (show (none : Option (Int32 × Mem)) = some _ from h)
  | succ n ih =>
    intro q0 x2 x3 mem hq0 h
    rw [dP_leaks_6] at h
    refine v_iload_n X (pc := 6) 2 rfl eP_leaks_6 rfl ?_
    refine v_bipush X (pc := 7) (v := (10 : Int32)) eP_leaks_7 (by decide) ?_
    refine v_icmp_ge X (pc := 9) (tgt := 74) h eP_leaks_9 (by decide) (fun h => ?_) (fun h => ?_)
    · refine v_iconst X (pc := 12) (v := (0 : Int32)) eP_leaks_12 (by decide) ?_
      refine v_istore X (pc := 13) (lv' := [(4, _), (0, _), (2, _), (3, _)]) eP_leaks_13 (Nat.le_of_ble_eq_true rfl) rfl ?_
      exact v_sub [1, 2, 3, 0] rfl (cP_leaks_15 X hr ih _ _ _ _ _ _ hq0 h)
    · refine v_iload_n X (pc := 74) 1 rfl eP_leaks_74 rfl ?_
      exact v_iret X (pc := 75) h hr eP_leaks_75
set_option maxHeartbeats 4000000 in
set_option maxRecDepth 100000 in
theorem cP_leaks {f : Nat} {q0 : Nat} {a1 : Int32} {mem : Mem} {o : Int32} {mem' : Mem} (hq0 : q0 < 3) (h : dP_leaks f q0 a1 mem = some (o, mem')) : RT yP_leaks prog_2_method_11_code 6 (Option.some Jvm.ClassFile.FieldType.int) (rmM 1 21) [aR 1 q0, aI a1] mem (some (aI o)) mem' := by
  refine RT.of (by decide +kernel) (Nat.le_of_ble_eq_true rfl) (fun p l e s m args below meth c k X hr => ?_)
  replace X : CX p s m args meth c k prog_2_method_11_code 6 "WallShifts$Palace" := X
  unfold dP_leaks at h
  refine v_sub (lv' := [(0, _), (1, _)]) [0, 1] rfl ?_
  refine v_iconst X (pc := 0) (v := (1 : Int32)) eP_leaks_0 (by decide) ?_
  refine v_iload_n X (pc := 1) 1 rfl eP_leaks_1 rfl ?_
  refine v_ishl X (pc := 2) eP_leaks_2 ?_
  refine v_istore_n X (pc := 3) (lv' := [(2, _), (0, _), (1, _)]) eP_leaks_3 rfl (Nat.le_of_ble_eq_true rfl) rfl ?_
  refine v_iconst X (pc := 4) (v := (0 : Int32)) eP_leaks_4 (by decide) ?_
  refine v_istore_n X (pc := 5) (lv' := [(3, _), (2, _), (0, _), (1, _)]) eP_leaks_5 rfl (Nat.le_of_ble_eq_true rfl) rfl ?_
  exact v_sub [2, 1, 0] rfl (cP_leaks_6 X hr _ _ _ _ _ hq0 h)
set_option maxHeartbeats 4000000 in
set_option maxRecDepth 100000 in
theorem cP_near_11 {p : Program} {l : Launch} {e : Env} {s : State} {m : MethodId} {args : Array Value} {below : List Frame} {meth : Method} {c : Code} {k : KK} {f : Nat} {o : Int32} {mem' : Mem} (X : CX p s m args meth c k prog_2_method_12_code 5 "WallShifts$Palace") (hr : meth.sig.returnType = (Option.some Jvm.ClassFile.FieldType.int)) : ∀ (n : Nat) (q0 : Nat) (x2 : Int32) (x3 : Int32) (x4 : Int32) (mem : Mem), q0 < 3 → dP_near_11 f n q0 x2 x3 x4 mem = some (o, mem') → V p l e (rmM 2 46) s m args below meth c 0 0 (MQ below (RQc k (some (aI o)) mem') args s 0 0 (kA k)) k 5 mem 11 [(0, aR 1 q0), (2, aI x2), (3, aI x3), (4, aI x4)] [] := by
  intro n
  induction n with
  | zero =>
    intro q0 x2 x3 x4 mem hq0 h
    exact nomatch (show (none : Option (Int32 × Mem)) = some _ from h)
  | succ n ih =>
    intro q0 x2 x3 x4 mem hq0 h
    rw [dP_near_11] at h
    refine v_iload X (pc := 11) 3 rfl eP_near_11 ?_
    refine v_aload_n X (pc := 13) 0 rfl eP_near_13 rfl ?_
    refine v_get X (pc := 14) 2 (a := aI (gI mem 1 q0 2)) (by decide) hq0 rfl rfl rfl in_Palace (by decide) qw_75 rfl eP_near_14 ?_
    refine v_icmp_ge X (pc := 17) (tgt := 49) h eP_near_17 (by decide) (fun h => ?_) (fun h => ?_)
    · refine v_aload_n X (pc := 20) 0 rfl eP_near_20 rfl ?_
      refine v_aload_n X (pc := 21) 0 rfl eP_near_21 rfl ?_
      refine v_get X (pc := 22) 3 (a := aR 3 q0) (by decide) hq0 rfl rfl rfl in_Palace (by decide) qw_77 rfl eP_near_22 ?_
      refine v_iload X (pc := 25) 3 rfl eP_near_25 ?_
      refine v_aaldW X (pc := 27) h hq0 eP_near_27 (fun hb1 h => ?_)
      obtain ⟨r2, m2, hc2, h⟩ := bd_some h
      refine v_callV X (pc := 28) [_] [] ok_V_P_50 (cP_roomsOf hq0 hb1 hc2) rfl (Nat.le_of_ble_eq_true rfl) ⟨Nat.le_of_ble_eq_true rfl, Nat.le_of_ble_eq_true rfl⟩ ⟨Nat.zero_le _, Nat.zero_le _⟩ (by decide) hq0 rfl rfl eP_near_28 ?_
      refine v_iload_n X (pc := 31) 1 rfl eP_near_31 rfl ?_
      refine v_iand X (pc := 32) eP_near_32 ?_
      refine v_if_eq X (pc := 33) (tgt := 43) h eP_near_33 (by decide) (fun h => ?_) (fun h => ?_)
      · refine v_iinc X (pc := 43) (v := (x4 + (1 : Int32))) (lv' := [(4, _), (0, _), (2, _), (3, _)]) 3 rfl (by rfl) eP_near_43 (Nat.le_of_ble_eq_true rfl) rfl ?_
        refine v_goto X (pc := 46) (tgt := 11) eP_near_46 (by decide) ?_
        exact v_sub [1, 2, 3, 0] rfl (ih _ _ _ _ _ hq0 h)
      · refine v_iload_n X (pc := 36) 2 rfl eP_near_36 rfl ?_
        refine v_iconst X (pc := 37) (v := (1 : Int32)) eP_near_37 (by decide) ?_
        refine v_iload X (pc := 38) 3 rfl eP_near_38 ?_
        refine v_ishl X (pc := 40) eP_near_40 ?_
        refine v_ior X (pc := 41) eP_near_41 ?_
        refine v_istore_n X (pc := 42) (lv' := [(3, _), (0, _), (2, _), (4, _)]) eP_near_42 rfl (Nat.le_of_ble_eq_true rfl) rfl ?_
        refine v_iinc X (pc := 43) (v := (x4 + (1 : Int32))) (lv' := [(4, _), (3, _), (0, _), (2, _)]) 3 rfl (by rfl) eP_near_43 (Nat.le_of_ble_eq_true rfl) rfl ?_
        refine v_goto X (pc := 46) (tgt := 11) eP_near_46 (by decide) ?_
        exact v_sub [2, 3, 1, 0] rfl (ih _ _ _ _ _ hq0 h)
    · refine v_iload_n X (pc := 49) 2 rfl eP_near_49 rfl ?_
      exact v_iret X (pc := 50) h hr eP_near_50
set_option maxHeartbeats 4000000 in
set_option maxRecDepth 100000 in
theorem cP_near {f : Nat} {q0 : Nat} {a1 : Int32} {mem : Mem} {o : Int32} {mem' : Mem} (hq0 : q0 < 3) (h : dP_near f q0 a1 mem = some (o, mem')) : RT yP_near prog_2_method_12_code 5 (Option.some Jvm.ClassFile.FieldType.int) (rmM 2 46) [aR 1 q0, aI a1] mem (some (aI o)) mem' := by
  refine RT.of (by decide +kernel) (Nat.le_of_ble_eq_true rfl) (fun p l e s m args below meth c k X hr => ?_)
  replace X : CX p s m args meth c k prog_2_method_12_code 5 "WallShifts$Palace" := X
  unfold dP_near at h
  refine v_sub (lv' := [(0, _), (1, _)]) [0, 1] rfl ?_
  refine v_aload_n X (pc := 0) 0 rfl eP_near_0 rfl ?_
  refine v_iload_n X (pc := 1) 1 rfl eP_near_1 rfl ?_
  obtain ⟨r1, m1, hc1, h⟩ := bd_some h
  refine v_callV X (pc := 2) [_] [] ok_V_P_54 (cP_leaks hq0 hc1) rfl (Nat.le_of_ble_eq_true rfl) ⟨Nat.le_of_ble_eq_true rfl, Nat.le_of_ble_eq_true rfl⟩ ⟨Nat.zero_le _, Nat.zero_le _⟩ (by decide) hq0 rfl rfl eP_near_2 ?_
  refine v_istore_n X (pc := 5) (lv' := [(2, _), (0, _), (1, _)]) eP_near_5 rfl (Nat.le_of_ble_eq_true rfl) rfl ?_
  refine v_iconst X (pc := 6) (v := (0 : Int32)) eP_near_6 (by decide) ?_
  refine v_istore_n X (pc := 7) (lv' := [(3, _), (2, _), (0, _), (1, _)]) eP_near_7 rfl (Nat.le_of_ble_eq_true rfl) rfl ?_
  refine v_iconst X (pc := 8) (v := (0 : Int32)) eP_near_8 (by decide) ?_
  refine v_istore X (pc := 9) (lv' := [(4, _), (3, _), (2, _), (0, _), (1, _)]) eP_near_9 (Nat.le_of_ble_eq_true rfl) rfl ?_
  exact v_sub [3, 2, 1, 0] rfl (cP_near_11 X hr _ _ _ _ _ _ hq0 h)
set_option maxHeartbeats 4000000 in
set_option maxRecDepth 100000 in
theorem cP_utter_23 {p : Program} {l : Launch} {e : Env} {s : State} {m : MethodId} {args : Array Value} {below : List Frame} {meth : Method} {c : Code} {k : KK} {f : Nat} {o : Int32} {mem' : Mem} (X : CX p s m args meth c k prog_2_method_14_code 8 "WallShifts$Palace") (hr : meth.sig.returnType = (Option.some Jvm.ClassFile.FieldType.int)) : ∀ (n : Nat) (q0 : Nat) (x2 : Int32) (x3 : Int32) (x4 : Int32) (x5 : Int32) (mem : Mem), q0 < 3 → dP_utter_23 f n q0 x2 x3 x4 x5 mem = some (o, mem') → V p l e (rmM 2 53) s m args below meth c 0 0 (MQ below (RQc k (some (aI o)) mem') args s 0 0 (kA k)) k 8 mem 23 [(0, aR 1 q0), (2, aI x2), (3, aI x3), (4, aI x4), (5, aI x5)] [] := by
  intro n
  induction n with
  | zero =>
    intro q0 x2 x3 x4 x5 mem hq0 h
    exact nomatch (show (none : Option (Int32 × Mem)) = some _ from h)
  | succ n ih =>
    intro q0 x2 x3 x4 x5 mem hq0 h
    rw [dP_utter_23] at h
    refine v_iload X (pc := 23) 4 rfl eP_utter_23 ?_
    refine v_aload_n X (pc := 25) 0 rfl eP_utter_25 rfl ?_
    refine v_get X (pc := 26) 2 (a := aI (gI mem 1 q0 2)) (by decide) hq0 rfl rfl rfl in_Palace (by decide) qw_75 rfl eP_utter_26 ?_
    refine v_icmp_ge X (pc := 29) (tgt := 120) h eP_utter_29 (by decide) (fun h => ?_) (fun h => ?_)
    · refine v_aload_n X (pc := 32) 0 rfl eP_utter_32 rfl ?_
      refine v_get X (pc := 33) 3 (a := aR 3 q0) (by decide) hq0 rfl rfl rfl in_Palace (by decide) qw_77 rfl eP_utter_33 ?_
      refine v_iload X (pc := 36) 4 rfl eP_utter_36 ?_
      refine v_aaldW X (pc := 38) h hq0 eP_utter_38 (fun hb1 h => ?_)
      refine v_astore X (pc := 39) (lv' := [(6, _), (0, _), (2, _), (3, _), (4, _), (5, _)]) eP_utter_39 (Nat.le_of_ble_eq_true rfl) rfl ?_
      refine v_aload X (pc := 41) 0 rfl eP_utter_41 ?_
      refine v_iload_n X (pc := 43) 2 rfl eP_utter_43 rfl ?_
      obtain ⟨r2, m2, hc2, h⟩ := bd_some h
      refine v_callN X (pc := 44) [_, _] [] ok_N_P_58 (cW_becomes hb1 hc2) rfl (Nat.le_of_ble_eq_true rfl) ⟨Nat.le_of_ble_eq_true rfl, Nat.le_of_ble_eq_true rfl⟩ ⟨Nat.zero_le _, Nat.zero_le _⟩ eP_utter_44 ?_
      refine v_istore X (pc := 47) (lv' := [(7, _), (6, _), (0, _), (2, _), (3, _), (4, _), (5, _)]) eP_utter_47 (Nat.le_of_ble_eq_true rfl) rfl ?_
      refine v_iload_n X (pc := 49) 4 rfl eP_utter_49 rfl ?_
      refine v_iload X (pc := 50) 6 rfl eP_utter_50 ?_
      refine v_ishr X (pc := 52) eP_utter_52 ?_
      refine v_iconst X (pc := 53) (v := (1 : Int32)) eP_utter_53 (by decide) ?_
      refine v_iand X (pc := 54) eP_utter_54 ?_
      refine v_iconst X (pc := 55) (v := (1 : Int32)) eP_utter_55 (by decide) ?_
      refine v_icmp_ne X (pc := 56) (tgt := 114) h eP_utter_56 (by decide) (fun h => ?_) (fun h => ?_)
      · refine v_aload_n X (pc := 59) 2 rfl eP_utter_59 rfl ?_
        refine v_aload X (pc := 60) 1 rfl eP_utter_60 ?_
        obtain ⟨r3, m3, hc3, h⟩ := bd_some h
        refine v_callV X (pc := 62) [_] [] ok_V_P_62 (cP_isAwake hq0 hb1 hc3) rfl (Nat.le_of_ble_eq_true rfl) ⟨Nat.le_of_ble_eq_true rfl, Nat.le_of_ble_eq_true rfl⟩ ⟨Nat.zero_le _, Nat.zero_le _⟩ (by decide) hq0 rfl rfl eP_utter_62 ?_
        refine v_if_eq X (pc := 65) (tgt := 114) h eP_utter_65 (by decide) (fun h => ?_) (fun h => ?_)
        · refine v_iinc X (pc := 114) (v := (x5 + (1 : Int32))) (lv' := [(5, _), (7, _), (6, _), (0, _), (2, _), (3, _), (4, _)]) 6 rfl (by rfl) eP_utter_114 (Nat.le_of_ble_eq_true rfl) rfl ?_
          refine v_goto X (pc := 117) (tgt := 23) eP_utter_117 (by decide) ?_
          exact v_sub [3, 4, 5, 6, 0] rfl (ih _ _ _ _ _ _ hq0 h)
        · refine v_iload X (pc := 68) 0 rfl eP_utter_68 ?_
          refine v_if_lt X (pc := 70) (tgt := 114) h eP_utter_70 (by decide) (fun h => ?_) (fun h => ?_)
          · refine v_iinc X (pc := 114) (v := (x5 + (1 : Int32))) (lv' := [(5, _), (7, _), (6, _), (0, _), (2, _), (3, _), (4, _)]) 6 rfl (by rfl) eP_utter_114 (Nat.le_of_ble_eq_true rfl) rfl ?_
            refine v_goto X (pc := 117) (tgt := 23) eP_utter_117 (by decide) ?_
            exact v_sub [3, 4, 5, 6, 0] rfl (ih _ _ _ _ _ _ hq0 h)
          · refine v_aload X (pc := 73) 1 rfl eP_utter_73 ?_
            refine v_iconst X (pc := 75) (v := (4 : Int32)) eP_utter_75 (by decide) ?_
            refine v_dup2 X (pc := 76) rfl rfl eP_utter_76 ?_
            refine v_ialdK X (pc := 77) (n := 6) 4 (by decide) (by decide) (by decide) hb1 rfl eP_utter_77 ?_
            refine v_iconst X (pc := 78) (v := (1 : Int32)) eP_utter_78 (by decide) ?_
            refine v_iload X (pc := 79) 0 rfl eP_utter_79 ?_
            refine v_ishl X (pc := 81) eP_utter_81 ?_
            refine v_ior X (pc := 82) eP_utter_82 ?_
            refine v_iastK X (pc := 83) (n := 6) 4 (by decide) (by decide) (by decide) hb1 (fun _ => rfl) eP_utter_83 ?_
            refine v_aload X (pc := 84) 1 rfl eP_utter_84 ?_
            refine v_iconst X (pc := 86) (v := (5 : Int32)) eP_utter_86 (by decide) ?_
            refine v_bipush X (pc := 87) (v := (99 : Int32)) eP_utter_87 (by decide) ?_
            refine v_aload X (pc := 89) 1 rfl eP_utter_89 ?_
            refine v_iconst X (pc := 91) (v := (5 : Int32)) eP_utter_91 (by decide) ?_
            refine v_ialdK X (pc := 92) (n := 6) 5 (by decide) (by decide) (by decide) hb1 rfl eP_utter_92 ?_
            refine v_aload X (pc := 93) 1 rfl eP_utter_93 ?_
            refine v_iconst X (pc := 95) (v := (0 : Int32)) eP_utter_95 (by decide) ?_
            refine v_ialdK X (pc := 96) (n := 6) 0 (by decide) (by decide) (by decide) hb1 rfl eP_utter_96 ?_
            obtain ⟨r4, m4, hc4, h⟩ := bd_some h
            refine v_callN X (pc := 97) [_] [_, _, _, _] ok_N_P_66 (cW_tires  hc4) rfl (Nat.le_of_ble_eq_true rfl) ⟨Nat.le_of_ble_eq_true rfl, Nat.le_of_ble_eq_true rfl⟩ ⟨Nat.zero_le _, Nat.zero_le _⟩ eP_utter_97 ?_
            refine v_iadd X (pc := 100) eP_utter_100 ?_
            refine v_mmin X (pc := 101) okM_P_69 [_, _] (Nat.le_of_ble_eq_true rfl) (Nat.le_of_ble_eq_true rfl) ⟨Nat.zero_le _, Nat.zero_le _⟩ eP_utter_101 ?_
            refine v_iastK X (pc := 104) (n := 6) 5 (by decide) (by decide) (by decide) hb1 (fun _ => rfl) eP_utter_104 ?_
            refine v_iload X (pc := 105) 5 rfl eP_utter_105 ?_
            refine v_iconst X (pc := 107) (v := (1 : Int32)) eP_utter_107 (by decide) ?_
            refine v_iload X (pc := 108) 6 rfl eP_utter_108 ?_
            refine v_ishl X (pc := 110) eP_utter_110 ?_
            refine v_ior X (pc := 111) eP_utter_111 ?_
            refine v_istore X (pc := 112) (lv' := [(4, _), (7, _), (6, _), (0, _), (2, _), (3, _), (5, _)]) eP_utter_112 (Nat.le_of_ble_eq_true rfl) rfl ?_
            refine v_iinc X (pc := 114) (v := (x5 + (1 : Int32))) (lv' := [(5, _), (4, _), (7, _), (6, _), (0, _), (2, _), (3, _)]) 6 rfl (by rfl) eP_utter_114 (Nat.le_of_ble_eq_true rfl) rfl ?_
            refine v_goto X (pc := 117) (tgt := 23) eP_utter_117 (by decide) ?_
            exact v_sub [4, 5, 6, 1, 0] rfl (ih _ _ _ _ _ _ hq0 h)
      · refine v_iinc X (pc := 114) (v := (x5 + (1 : Int32))) (lv' := [(5, _), (7, _), (6, _), (0, _), (2, _), (3, _), (4, _)]) 6 rfl (by rfl) eP_utter_114 (Nat.le_of_ble_eq_true rfl) rfl ?_
        refine v_goto X (pc := 117) (tgt := 23) eP_utter_117 (by decide) ?_
        exact v_sub [3, 4, 5, 6, 0] rfl (ih _ _ _ _ _ _ hq0 h)
    · refine v_iload X (pc := 120) 3 rfl eP_utter_120 ?_
      exact v_iret X (pc := 122) h hr eP_utter_122
set_option maxHeartbeats 4000000 in
set_option maxRecDepth 100000 in
theorem cP_utter {f : Nat} {q0 : Nat} {a1 : Int32} {a2 : Int32} {mem : Mem} {o : Int32} {mem' : Mem} (hq0 : q0 < 3) (h : dP_utter f q0 a1 a2 mem = some (o, mem')) : RT yP_utter prog_2_method_14_code 8 (Option.some Jvm.ClassFile.FieldType.int) (rmM 2 53) [aR 1 q0, aI a1, aI a2] mem (some (aI o)) mem' := by
  refine RT.of (by decide +kernel) (Nat.le_of_ble_eq_true rfl) (fun p l e s m args below meth c k X hr => ?_)
  replace X : CX p s m args meth c k prog_2_method_14_code 8 "WallShifts$Palace" := X
  unfold dP_utter at h
  refine v_sub (lv' := [(0, _), (1, _), (2, _)]) [0, 1, 2] rfl ?_
  refine v_iload_n X (pc := 0) 1 rfl eP_utter_0 rfl ?_
  refine v_aload_n X (pc := 1) 0 rfl eP_utter_1 rfl ?_
  refine v_aload_n X (pc := 2) 0 rfl eP_utter_2 rfl ?_
  refine v_get X (pc := 3) 0 (a := aI (gI mem 1 q0 0)) (by decide) hq0 rfl rfl rfl in_Palace (by decide) qw_70 rfl eP_utter_3 ?_
  refine v_aload_n X (pc := 6) 0 rfl eP_utter_6 rfl ?_
  refine v_get X (pc := 7) 1 (a := aR 2 q0) (by decide) hq0 rfl rfl rfl in_Palace (by decide) qw_72 rfl eP_utter_7 ?_
  refine v_iconst X (pc := 10) (v := (0 : Int32)) eP_utter_10 (by decide) ?_
  refine v_ialdK X (pc := 11) (n := 4) 0 (by decide) (by decide) (by decide) hq0 rfl eP_utter_11 ?_
  obtain ⟨r1, m1, hc1, h⟩ := bd_some h
  refine v_callV X (pc := 12) [_, _] [_] ok_V_P_36 (cP_onDuty hq0 hc1) rfl (Nat.le_of_ble_eq_true rfl) ⟨Nat.le_of_ble_eq_true rfl, Nat.le_of_ble_eq_true rfl⟩ ⟨Nat.zero_le _, Nat.zero_le _⟩ (by decide) hq0 rfl rfl eP_utter_12 ?_
  refine v_iand X (pc := 15) eP_utter_15 ?_
  refine v_istore_n X (pc := 16) (lv' := [(3, _), (0, _), (1, _), (2, _)]) eP_utter_16 rfl (Nat.le_of_ble_eq_true rfl) rfl ?_
  refine v_iconst X (pc := 17) (v := (0 : Int32)) eP_utter_17 (by decide) ?_
  refine v_istore X (pc := 18) (lv' := [(4, _), (3, _), (0, _), (1, _), (2, _)]) eP_utter_18 (Nat.le_of_ble_eq_true rfl) rfl ?_
  refine v_iconst X (pc := 20) (v := (0 : Int32)) eP_utter_20 (by decide) ?_
  refine v_istore X (pc := 21) (lv' := [(5, _), (4, _), (3, _), (0, _), (1, _), (2, _)]) eP_utter_21 (Nat.le_of_ble_eq_true rfl) rfl ?_
  exact v_sub [3, 5, 2, 1, 0] rfl (cP_utter_23 X hr _ _ _ _ _ _ _ hq0 h)
set_option maxHeartbeats 4000000 in
set_option maxRecDepth 100000 in
theorem cW_say {f : Nat} {a1 : Int32} {a2 : Int32} {mem : Mem} {o : Int32} {mem' : Mem}  (h : dW_say f a1 a2 mem = some (o, mem')) : RT yW_say prog_1_method_9_code 3 (Option.some Jvm.ClassFile.FieldType.int) (rmM 3 80) [aR 0 0, aI a1, aI a2] mem (some (aI o)) mem' := by
  refine RT.of (by decide +kernel) (Nat.le_of_ble_eq_true rfl) (fun p l e s m args below meth c k X hr => ?_)
  replace X : CX p s m args meth c k prog_1_method_9_code 3 "WallShifts" := X
  unfold dW_say at h
  refine v_sub (lv' := [(0, _), (1, _), (2, _)]) [0, 1, 2] rfl ?_
  refine v_iload_n X (pc := 0) 1 rfl eW_say_0 rfl ?_
  obtain ⟨r1, m1, hc1, h⟩ := bd_some h
  refine v_callS X (pc := 1) [_] [] ok_S_W_63 (cW_isRoom  hc1) rfl (Nat.le_of_ble_eq_true rfl) ⟨Nat.le_of_ble_eq_true rfl, Nat.le_of_ble_eq_true rfl⟩ ⟨Nat.zero_le _, Nat.zero_le _⟩ eW_say_1 ?_
  refine v_if_eq X (pc := 4) (tgt := 14) h eW_say_4 (by decide) (fun h => ?_) (fun h => ?_)
  · refine v_aload_n X (pc := 14) 0 rfl eW_say_14 rfl ?_
    refine v_ldc X (pc := 15) qw_179 eW_say_15 ?_
    obtain ⟨r2, m2, hc2, h⟩ := bd_some h
    refine v_callV X (pc := 17) [_] [] ok_V_W_52 (cW_finding  hc2) rfl (Nat.le_of_ble_eq_true rfl) ⟨Nat.le_of_ble_eq_true rfl, Nat.le_of_ble_eq_true rfl⟩ ⟨Nat.zero_le _, Nat.zero_le _⟩ (by decide) (by decide) rfl rfl eW_say_17 ?_
    exact v_iret X (pc := 20) h hr eW_say_20
  · refine v_iload_n X (pc := 7) 2 rfl eW_say_7 rfl ?_
    obtain ⟨r3, m3, hc3, h⟩ := bd_some h
    refine v_callS X (pc := 8) [_] [] ok_S_W_111 (cW_isWord  hc3) rfl (Nat.le_of_ble_eq_true rfl) ⟨Nat.le_of_ble_eq_true rfl, Nat.le_of_ble_eq_true rfl⟩ ⟨Nat.zero_le _, Nat.zero_le _⟩ eW_say_8 ?_
    refine v_if_ne X (pc := 11) (tgt := 21) h eW_say_11 (by decide) (fun h => ?_) (fun h => ?_)
    · refine v_aload_n X (pc := 14) 0 rfl eW_say_14 rfl ?_
      refine v_ldc X (pc := 15) qw_179 eW_say_15 ?_
      obtain ⟨r4, m4, hc4, h⟩ := bd_some h
      refine v_callV X (pc := 17) [_] [] ok_V_W_52 (cW_finding  hc4) rfl (Nat.le_of_ble_eq_true rfl) ⟨Nat.le_of_ble_eq_true rfl, Nat.le_of_ble_eq_true rfl⟩ ⟨Nat.zero_le _, Nat.zero_le _⟩ (by decide) (by decide) rfl rfl eW_say_17 ?_
      exact v_iret X (pc := 20) h hr eW_say_20
    · refine v_aload_n X (pc := 21) 0 rfl eW_say_21 rfl ?_
      refine v_get X (pc := 22) 0 (a := aR 1 0) (by decide) (by decide) rfl rfl rfl in_WallShifts (by decide) qw_140 rfl eW_say_22 ?_
      refine v_aload_n X (pc := 25) 0 rfl eW_say_25 rfl ?_
      refine v_get X (pc := 26) 0 (a := aR 1 0) (by decide) (by decide) rfl rfl rfl in_WallShifts (by decide) qw_140 rfl eW_say_26 ?_
      refine v_iload_n X (pc := 29) 1 rfl eW_say_29 rfl ?_
      obtain ⟨r5, m5, hc5, h⟩ := bd_some h
      refine v_callV X (pc := 30) [_] [_] ok_V_W_119 (cP_near (by decide) hc5) rfl (Nat.le_of_ble_eq_true rfl) ⟨Nat.le_of_ble_eq_true rfl, Nat.le_of_ble_eq_true rfl⟩ ⟨Nat.zero_le _, Nat.zero_le _⟩ (by decide) (by decide) rfl rfl eW_say_30 ?_
      refine v_iload_n X (pc := 33) 2 rfl eW_say_33 rfl ?_
      obtain ⟨r6, m6, hc6, h⟩ := bd_some h
      refine v_callV X (pc := 34) [_, _] [] ok_V_W_122 (cP_utter (by decide) hc6) rfl (Nat.le_of_ble_eq_true rfl) ⟨Nat.le_of_ble_eq_true rfl, Nat.le_of_ble_eq_true rfl⟩ ⟨Nat.zero_le _, Nat.zero_le _⟩ (by decide) (by decide) rfl rfl eW_say_34 ?_
      exact v_iret X (pc := 37) h hr eW_say_37
set_option maxHeartbeats 4000000 in
set_option maxRecDepth 100000 in
theorem cP_goOn_31 {p : Program} {l : Launch} {e : Env} {s : State} {m : MethodId} {args : Array Value} {below : List Frame} {meth : Method} {c : Code} {k : KK} {f : Nat} {o : Unit} {mem' : Mem} (X : CX p s m args meth c k prog_2_method_16_code 3 "WallShifts$Palace") (hr : meth.sig.returnType = (Option.none : Option Jvm.ClassFile.FieldType)) : ∀ (n : Nat) (q0 : Nat) (x1 : Int32) (x2 : Int32) (mem : Mem), q0 < 3 → dP_goOn_31 f n q0 x1 x2 mem = some (o, mem') → V p l e (rmM 1 21) s m args below meth c 0 0 (MQ below (RQc k none mem') args s 0 0 (kA k)) k 3 mem 31 [(0, aR 1 q0), (1, aI x1), (2, aI x2)] [] := by
  intro n
  induction n with
  | zero =>
    intro q0 x1 x2 mem hq0 h
    exact nomatch (show (none : Option (Unit × Mem)) = some _ from h)
  | succ n ih =>
    intro q0 x1 x2 mem hq0 h
    rw [dP_goOn_31] at h
    refine v_iload_n X (pc := 31) 2 rfl eP_goOn_31 rfl ?_
    refine v_aload_n X (pc := 32) 0 rfl eP_goOn_32 rfl ?_
    refine v_get X (pc := 33) 2 (a := aI (gI mem 1 q0 2)) (by decide) hq0 rfl rfl rfl in_Palace (by decide) qw_75 rfl eP_goOn_33 ?_
    refine v_icmp_ge X (pc := 36) (tgt := 73) h eP_goOn_36 (by decide) (fun h => ?_) (fun h => ?_)
    · refine v_aload_n X (pc := 39) 0 rfl eP_goOn_39 rfl ?_
      refine v_get X (pc := 40) 3 (a := aR 3 q0) (by decide) hq0 rfl rfl rfl in_Palace (by decide) qw_77 rfl eP_goOn_40 ?_
      refine v_iload_n X (pc := 43) 2 rfl eP_goOn_43 rfl ?_
      refine v_aaldW X (pc := 44) h hq0 eP_goOn_44 (fun hb1 h => ?_)
      refine v_iconst X (pc := 45) (v := (3 : Int32)) eP_goOn_45 (by decide) ?_
      refine v_ialdK X (pc := 46) (n := 6) 3 (by decide) (by decide) (by decide) hb1 rfl eP_goOn_46 ?_
      refine v_aload_n X (pc := 47) 0 rfl eP_goOn_47 rfl ?_
      refine v_get X (pc := 48) 0 (a := aI (gI mem 1 q0 0)) (by decide) hq0 rfl rfl rfl in_Palace (by decide) qw_70 rfl eP_goOn_48 ?_
      refine v_iload_n X (pc := 51) 1 rfl eP_goOn_51 rfl ?_
      obtain ⟨r2, m2, hc2, h⟩ := bd_some h
      refine v_callN X (pc := 52) [_, _] [_] ok_N_P_40 (cW_quarterOf  hc2) rfl (Nat.le_of_ble_eq_true rfl) ⟨Nat.le_of_ble_eq_true rfl, Nat.le_of_ble_eq_true rfl⟩ ⟨Nat.zero_le _, Nat.zero_le _⟩ eP_goOn_52 ?_
      refine v_icmp_ne X (pc := 55) (tgt := 67) h eP_goOn_55 (by decide) (fun h => ?_) (fun h => ?_)
      · refine v_aload_n X (pc := 58) 0 rfl eP_goOn_58 rfl ?_
        refine v_get X (pc := 59) 3 (a := aR 3 q0) (by decide) hq0 rfl rfl rfl in_Palace (by decide) qw_77 rfl eP_goOn_59 ?_
        refine v_iload_n X (pc := 62) 2 rfl eP_goOn_62 rfl ?_
        refine v_aaldW X (pc := 63) h hq0 eP_goOn_63 (fun hb3 h => ?_)
        refine v_iconst X (pc := 64) (v := (5 : Int32)) eP_goOn_64 (by decide) ?_
        refine v_iconst X (pc := 65) (v := (0 : Int32)) eP_goOn_65 (by decide) ?_
        refine v_iastK X (pc := 66) (n := 6) 5 (by decide) (by decide) (by decide) hb3 (fun _ => rfl) eP_goOn_66 ?_
        refine v_iinc X (pc := 67) (v := (x2 + (1 : Int32))) (lv' := [(2, _), (0, _), (1, _)]) 2 rfl (by rfl) eP_goOn_67 (Nat.le_of_ble_eq_true rfl) rfl ?_
        refine v_goto X (pc := 70) (tgt := 31) eP_goOn_70 (by decide) ?_
        exact v_sub [1, 2, 0] rfl (ih _ _ _ _ hq0 h)
      · refine v_iinc X (pc := 67) (v := (x2 + (1 : Int32))) (lv' := [(2, _), (0, _), (1, _)]) 2 rfl (by rfl) eP_goOn_67 (Nat.le_of_ble_eq_true rfl) rfl ?_
        refine v_goto X (pc := 70) (tgt := 31) eP_goOn_70 (by decide) ?_
        exact v_sub [1, 2, 0] rfl (ih _ _ _ _ hq0 h)
    · exact v_vret X (pc := 73) h hr eP_goOn_73
set_option maxHeartbeats 4000000 in
set_option maxRecDepth 100000 in
theorem cP_goOn {f : Nat} {q0 : Nat} {mem : Mem} {o : Unit} {mem' : Mem} (hq0 : q0 < 3) (h : dP_goOn f q0 mem = some (o, mem')) : RT yP_goOn prog_2_method_16_code 3 (Option.none : Option Jvm.ClassFile.FieldType) (rmM 1 21) [aR 1 q0] mem none mem' := by
  refine RT.of (by decide +kernel) (Nat.le_of_ble_eq_true rfl) (fun p l e s m args below meth c k X hr => ?_)
  replace X : CX p s m args meth c k prog_2_method_16_code 3 "WallShifts$Palace" := X
  unfold dP_goOn at h
  refine v_sub (lv' := [(0, _)]) [0] rfl ?_
  refine v_aload_n X (pc := 0) 0 rfl eP_goOn_0 rfl ?_
  refine v_dup X (pc := 1) rfl eP_goOn_1 ?_
  refine v_get X (pc := 2) 0 (a := aI (gI mem 1 q0 0)) (by decide) hq0 rfl rfl rfl in_Palace (by decide) qw_70 rfl eP_goOn_2 ?_
  refine v_iconst X (pc := 5) (v := (1 : Int32)) eP_goOn_5 (by decide) ?_
  refine v_iadd X (pc := 6) eP_goOn_6 ?_
  refine v_put X (pc := 7) 0 (mem' := (sI mem 1 q0 0 ((gI mem 1 q0 0) + (1 : Int32)))) (by decide) hq0 rfl (pf_1_0 _ _ _ _ _) rowI_ne rfl in_Palace ty_Palace_ok nm_Palace (by decide) qw_70 rfl rfl rfl (Nat.le_of_ble_eq_true rfl) eP_goOn_7 ?_
  refine v_aload_n X (pc := 10) 0 rfl eP_goOn_10 rfl ?_
  refine v_get X (pc := 11) 1 (a := aR 2 q0) (by decide) hq0 rfl rfl rfl in_Palace (by decide) qw_72 rfl eP_goOn_11 ?_
  refine v_iconst X (pc := 14) (v := (0 : Int32)) eP_goOn_14 (by decide) ?_
  refine v_ialdK X (pc := 15) (n := 4) 0 (by decide) (by decide) (by decide) hq0 rfl eP_goOn_15 ?_
  refine v_istore_n X (pc := 16) (lv' := [(1, _), (0, _)]) eP_goOn_16 rfl (Nat.le_of_ble_eq_true rfl) rfl ?_
  refine v_aload_n X (pc := 17) 1 rfl eP_goOn_17 rfl ?_
  refine v_get X (pc := 18) 0 (a := aI (gI (sI mem 1 q0 0 ((gI mem 1 q0 0) + (1 : Int32))) 1 q0 0)) (by decide) hq0 rfl rfl rfl in_Palace (by decide) qw_70 rfl eP_goOn_18 ?_
  refine v_iload_n X (pc := 21) 0 rfl eP_goOn_21 rfl ?_
  obtain ⟨r1, m1, hc1, h⟩ := bd_some h
  refine v_callN X (pc := 22) [_, _] [] ok_N_P_43 (cW_restOf  hc1) rfl (Nat.le_of_ble_eq_true rfl) ⟨Nat.le_of_ble_eq_true rfl, Nat.le_of_ble_eq_true rfl⟩ ⟨Nat.zero_le _, Nat.zero_le _⟩ eP_goOn_22 ?_
  refine v_if_eq X (pc := 25) (tgt := 29) h eP_goOn_25 (by decide) (fun h => ?_) (fun h => ?_)
  · refine v_iconst X (pc := 29) (v := (0 : Int32)) eP_goOn_29 (by decide) ?_
    refine v_istore_n X (pc := 30) (lv' := [(2, _), (1, _), (0, _)]) eP_goOn_30 rfl (Nat.le_of_ble_eq_true rfl) rfl ?_
    exact v_sub [2, 1, 0] rfl (cP_goOn_31 X hr _ _ _ _ _ hq0 h)
  · exact v_vret X (pc := 28) h hr eP_goOn_28
set_option maxHeartbeats 4000000 in
set_option maxRecDepth 100000 in
theorem cW_pass_41 {p : Program} {l : Launch} {e : Env} {s : State} {m : MethodId} {args : Array Value} {below : List Frame} {meth : Method} {c : Code} {k : KK} {f : Nat} {o : Int32} {mem' : Mem} (X : CX p s m args meth c k prog_1_method_10_code 3 "WallShifts") (hr : meth.sig.returnType = (Option.some Jvm.ClassFile.FieldType.int)) : ∀ (n : Nat) (x1 : Int32) (x2 : Int32) (mem : Mem), dW_pass_41 f n x1 x2 mem = some (o, mem') → V p l e (rmM 2 44) s m args below meth c 0 0 (MQ below (RQc k (some (aI o)) mem') args s 0 0 (kA k)) k 3 mem 41 [(0, aR 0 0), (1, aI x1), (2, aI x2)] [] := by
  intro n
  induction n with
  | zero =>
    intro x1 x2 mem  h
    exact nomatch (show (none : Option (Int32 × Mem)) = some _ from h)
  | succ n ih =>
    intro x1 x2 mem  h
    rw [dW_pass_41] at h
    refine v_iload_n X (pc := 41) 2 rfl eW_pass_41 rfl ?_
    refine v_iload_n X (pc := 42) 1 rfl eW_pass_42 rfl ?_
    refine v_icmp_ge X (pc := 43) (tgt := 59) h eW_pass_43 (by decide) (fun h => ?_) (fun h => ?_)
    · refine v_aload_n X (pc := 46) 0 rfl eW_pass_46 rfl ?_
      refine v_get X (pc := 47) 0 (a := aR 1 0) (by decide) (by decide) rfl rfl rfl in_WallShifts (by decide) qw_140 rfl eW_pass_47 ?_
      obtain ⟨r1, m1, hc1, h⟩ := bd_some h
      refine v_callV X (pc := 50) [] [] ok_V_W_128 (cP_goOn (by decide) hc1) rfl (Nat.le_of_ble_eq_true rfl) ⟨Nat.le_of_ble_eq_true rfl, Nat.le_of_ble_eq_true rfl⟩ ⟨Nat.zero_le _, Nat.zero_le _⟩ (by decide) (by decide) rfl rfl eW_pass_50 ?_
      refine v_iinc X (pc := 53) (v := (x2 + (1 : Int32))) (lv' := [(2, _), (0, _), (1, _)]) 2 rfl (by rfl) eW_pass_53 (Nat.le_of_ble_eq_true rfl) rfl ?_
      refine v_goto X (pc := 56) (tgt := 41) eW_pass_56 (by decide) ?_
      exact v_sub [1, 2, 0] rfl (ih _ _ _  h)
    · refine v_aload_n X (pc := 59) 0 rfl eW_pass_59 rfl ?_
      refine v_get X (pc := 60) 0 (a := aR 1 0) (by decide) (by decide) rfl rfl rfl in_WallShifts (by decide) qw_140 rfl eW_pass_60 ?_
      refine v_get X (pc := 63) 0 (a := aI (gI mem 1 0 0)) (by decide) (by decide) rfl rfl rfl in_Palace (by decide) qw_71 rfl eW_pass_63 ?_
      exact v_iret X (pc := 66) h hr eW_pass_66
set_option maxHeartbeats 4000000 in
set_option maxRecDepth 100000 in
theorem cW_pass {f : Nat} {a1 : Int32} {mem : Mem} {o : Int32} {mem' : Mem}  (h : dW_pass f a1 mem = some (o, mem')) : RT yW_pass prog_1_method_10_code 3 (Option.some Jvm.ClassFile.FieldType.int) (rmM 2 44) [aR 0 0, aI a1] mem (some (aI o)) mem' := by
  refine RT.of (by decide +kernel) (Nat.le_of_ble_eq_true rfl) (fun p l e s m args below meth c k X hr => ?_)
  replace X : CX p s m args meth c k prog_1_method_10_code 3 "WallShifts" := X
  unfold dW_pass at h
  refine v_sub (lv' := [(0, _), (1, _)]) [0, 1] rfl ?_
  refine v_iload_n X (pc := 0) 1 rfl eW_pass_0 rfl ?_
  refine v_iconst X (pc := 1) (v := (1 : Int32)) eW_pass_1 (by decide) ?_
  refine v_sipush X (pc := 2) (v := (240 : Int32)) eW_pass_2 (by decide) ?_
  obtain ⟨r1, m1, hc1, h⟩ := bd_some h
  refine v_callS X (pc := 5) [_, _, _] [] ok_S_W_82 (cW_isIn  hc1) rfl (Nat.le_of_ble_eq_true rfl) ⟨Nat.le_of_ble_eq_true rfl, Nat.le_of_ble_eq_true rfl⟩ ⟨Nat.zero_le _, Nat.zero_le _⟩ eW_pass_5 ?_
  refine v_if_ne X (pc := 8) (tgt := 18) h eW_pass_8 (by decide) (fun h => ?_) (fun h => ?_)
  · refine v_aload_n X (pc := 11) 0 rfl eW_pass_11 rfl ?_
    refine v_ldc X (pc := 12) qw_179 eW_pass_12 ?_
    obtain ⟨r2, m2, hc2, h⟩ := bd_some h
    refine v_callV X (pc := 14) [_] [] ok_V_W_52 (cW_finding  hc2) rfl (Nat.le_of_ble_eq_true rfl) ⟨Nat.le_of_ble_eq_true rfl, Nat.le_of_ble_eq_true rfl⟩ ⟨Nat.zero_le _, Nat.zero_le _⟩ (by decide) (by decide) rfl rfl eW_pass_14 ?_
    exact v_iret X (pc := 17) h hr eW_pass_17
  · refine v_aload_n X (pc := 18) 0 rfl eW_pass_18 rfl ?_
    refine v_get X (pc := 19) 0 (a := aR 1 0) (by decide) (by decide) rfl rfl rfl in_WallShifts (by decide) qw_140 rfl eW_pass_19 ?_
    refine v_get X (pc := 22) 0 (a := aI (gI m1 1 0 0)) (by decide) (by decide) rfl rfl rfl in_Palace (by decide) qw_71 rfl eW_pass_22 ?_
    refine v_ldc X (pc := 25) qw_301 eW_pass_25 ?_
    refine v_iload_n X (pc := 27) 1 rfl eW_pass_27 rfl ?_
    refine v_isub X (pc := 28) eW_pass_28 ?_
    refine v_icmp_le X (pc := 29) (tgt := 39) h eW_pass_29 (by decide) (fun h => ?_) (fun h => ?_)
    · refine v_aload_n X (pc := 32) 0 rfl eW_pass_32 rfl ?_
      refine v_ldc X (pc := 33) qw_302 eW_pass_33 ?_
      obtain ⟨r3, m3, hc3, h⟩ := bd_some h
      refine v_callV X (pc := 35) [_] [] ok_V_W_52 (cW_finding  hc3) rfl (Nat.le_of_ble_eq_true rfl) ⟨Nat.le_of_ble_eq_true rfl, Nat.le_of_ble_eq_true rfl⟩ ⟨Nat.zero_le _, Nat.zero_le _⟩ (by decide) (by decide) rfl rfl eW_pass_35 ?_
      exact v_iret X (pc := 38) h hr eW_pass_38
    · refine v_iconst X (pc := 39) (v := (0 : Int32)) eW_pass_39 (by decide) ?_
      refine v_istore_n X (pc := 40) (lv' := [(2, _), (0, _), (1, _)]) eW_pass_40 rfl (Nat.le_of_ble_eq_true rfl) rfl ?_
      exact v_sub [1, 2, 0] rfl (cW_pass_41 X hr _ _ _ _  h)
set_option maxHeartbeats 4000000 in
set_option maxRecDepth 100000 in
theorem cW_isSetOfWords {f : Nat} {a0 : Int32} {mem : Mem} {o : Int32} {mem' : Mem}  (h : dW_isSetOfWords f a0 mem = some (o, mem')) : RT yW_isSetOfWords prog_1_method_50_code 1 (Option.some Jvm.ClassFile.FieldType.boolean) (rmM 1 22) [aI a0] mem (some (aI o)) mem' := by
  refine RT.of (by decide +kernel) (Nat.le_of_ble_eq_true rfl) (fun p l e s m args below meth c k X hr => ?_)
  replace X : CX p s m args meth c k prog_1_method_50_code 1 "WallShifts" := X
  unfold dW_isSetOfWords at h
  refine v_sub (lv' := [(0, _)]) [0] rfl ?_
  refine v_iload_n X (pc := 0) 0 rfl eW_isSetOfWords_0 rfl ?_
  refine v_iconst X (pc := 1) (v := (0 : Int32)) eW_isSetOfWords_1 (by decide) ?_
  refine v_ldcw X (pc := 2) qw_314 eW_isSetOfWords_2 ?_
  obtain ⟨r1, m1, hc1, h⟩ := bd_some h
  refine v_callS X (pc := 5) [_, _, _] [] ok_S_W_82 (cW_isIn  hc1) rfl (Nat.le_of_ble_eq_true rfl) ⟨Nat.le_of_ble_eq_true rfl, Nat.le_of_ble_eq_true rfl⟩ ⟨Nat.zero_le _, Nat.zero_le _⟩ eW_isSetOfWords_5 ?_
  obtain ⟨hz, h⟩ := zb_some h
  exact v_zret X (pc := 8) h hr (zb_n hz) eW_isSetOfWords_8
set_option maxHeartbeats 4000000 in
set_option maxRecDepth 100000 in
theorem cJInt_bitCount {f : Nat} {a0 : Int32} {mem : Mem} {o : Int32} {mem' : Mem}  (h : dJInt_bitCount f a0 mem = some (o, mem')) : RT yJInt_bitCount prog_7_method_49_code 1 (Option.some Jvm.ClassFile.FieldType.int) (rmM 0 0) [aI a0] mem (some (aI o)) mem' := by
  refine RT.of (by decide +kernel) (Nat.le_of_ble_eq_true rfl) (fun p l e s m args below meth c k X hr => ?_)
  replace X : CX p s m args meth c k prog_7_method_49_code 1 "java/lang/Integer" := X
  unfold dJInt_bitCount at h
  refine v_sub (lv' := [(0, _)]) [0] rfl ?_
  refine v_iload_n X (pc := 0) 0 rfl eJInt_bitCount_0 rfl ?_
  refine v_iload_n X (pc := 1) 0 rfl eJInt_bitCount_1 rfl ?_
  refine v_iconst X (pc := 2) (v := (1 : Int32)) eJInt_bitCount_2 (by decide) ?_
  refine v_iushr X (pc := 3) rfl eJInt_bitCount_3 ?_
  refine v_ldcw X (pc := 4) qw_318 eJInt_bitCount_4 ?_
  refine v_iand X (pc := 7) eJInt_bitCount_7 ?_
  refine v_isub X (pc := 8) eJInt_bitCount_8 ?_
  refine v_istore_n X (pc := 9) (lv' := [(0, _)]) eJInt_bitCount_9 rfl (Nat.le_of_ble_eq_true rfl) rfl ?_
  refine v_iload_n X (pc := 10) 0 rfl eJInt_bitCount_10 rfl ?_
  refine v_ldcw X (pc := 11) qw_319 eJInt_bitCount_11 ?_
  refine v_iand X (pc := 14) eJInt_bitCount_14 ?_
  refine v_iload_n X (pc := 15) 0 rfl eJInt_bitCount_15 rfl ?_
  refine v_iconst X (pc := 16) (v := (2 : Int32)) eJInt_bitCount_16 (by decide) ?_
  refine v_iushr X (pc := 17) rfl eJInt_bitCount_17 ?_
  refine v_ldcw X (pc := 18) qw_319 eJInt_bitCount_18 ?_
  refine v_iand X (pc := 21) eJInt_bitCount_21 ?_
  refine v_iadd X (pc := 22) eJInt_bitCount_22 ?_
  refine v_istore_n X (pc := 23) (lv' := [(0, _)]) eJInt_bitCount_23 rfl (Nat.le_of_ble_eq_true rfl) rfl ?_
  refine v_iload_n X (pc := 24) 0 rfl eJInt_bitCount_24 rfl ?_
  refine v_iload_n X (pc := 25) 0 rfl eJInt_bitCount_25 rfl ?_
  refine v_iconst X (pc := 26) (v := (4 : Int32)) eJInt_bitCount_26 (by decide) ?_
  refine v_iushr X (pc := 27) rfl eJInt_bitCount_27 ?_
  refine v_iadd X (pc := 28) eJInt_bitCount_28 ?_
  refine v_ldcw X (pc := 29) qw_320 eJInt_bitCount_29 ?_
  refine v_iand X (pc := 32) eJInt_bitCount_32 ?_
  refine v_istore_n X (pc := 33) (lv' := [(0, _)]) eJInt_bitCount_33 rfl (Nat.le_of_ble_eq_true rfl) rfl ?_
  refine v_iload_n X (pc := 34) 0 rfl eJInt_bitCount_34 rfl ?_
  refine v_iload_n X (pc := 35) 0 rfl eJInt_bitCount_35 rfl ?_
  refine v_bipush X (pc := 36) (v := (8 : Int32)) eJInt_bitCount_36 (by decide) ?_
  refine v_iushr X (pc := 38) rfl eJInt_bitCount_38 ?_
  refine v_iadd X (pc := 39) eJInt_bitCount_39 ?_
  refine v_istore_n X (pc := 40) (lv' := [(0, _)]) eJInt_bitCount_40 rfl (Nat.le_of_ble_eq_true rfl) rfl ?_
  refine v_iload_n X (pc := 41) 0 rfl eJInt_bitCount_41 rfl ?_
  refine v_iload_n X (pc := 42) 0 rfl eJInt_bitCount_42 rfl ?_
  refine v_bipush X (pc := 43) (v := (16 : Int32)) eJInt_bitCount_43 (by decide) ?_
  refine v_iushr X (pc := 45) rfl eJInt_bitCount_45 ?_
  refine v_iadd X (pc := 46) eJInt_bitCount_46 ?_
  refine v_istore_n X (pc := 47) (lv' := [(0, _)]) eJInt_bitCount_47 rfl (Nat.le_of_ble_eq_true rfl) rfl ?_
  refine v_iload_n X (pc := 48) 0 rfl eJInt_bitCount_48 rfl ?_
  refine v_bipush X (pc := 49) (v := (63 : Int32)) eJInt_bitCount_49 (by decide) ?_
  refine v_iand X (pc := 51) eJInt_bitCount_51 ?_
  exact v_iret X (pc := 52) h hr eJInt_bitCount_52
set_option maxHeartbeats 4000000 in
set_option maxRecDepth 100000 in
theorem cP_utterAll_17 {p : Program} {l : Launch} {e : Env} {s : State} {m : MethodId} {args : Array Value} {below : List Frame} {meth : Method} {c : Code} {k : KK} {f : Nat} {o : Int32} {mem' : Mem} (X : CX p s m args meth c k prog_2_method_15_code 7 "WallShifts$Palace") (hr : meth.sig.returnType = (Option.some Jvm.ClassFile.FieldType.int)) : ∀ (n : Nat) (q0 : Nat) (x2 : Int32) (x3 : Int32) (x4 : Int32) (x5 : Int32) (mem : Mem), q0 < 3 → dP_utterAll_17 f n q0 x2 x3 x4 x5 mem = some (o, mem') → V p l e (rmM 3 80) s m args below meth c 0 0 (MQ below (RQc k (some (aI o)) mem') args s 0 0 (kA k)) k 7 mem 17 [(0, aR 1 q0), (2, aI x2), (3, aI x3), (4, aI x4), (5, aI x5)] [] := by
  intro n
  induction n with
  | zero =>
    intro q0 x2 x3 x4 x5 mem hq0 h
    exact nomatch (show (none : Option (Int32 × Mem)) = some _ from h)
  | succ n ih =>
    intro q0 x2 x3 x4 x5 mem hq0 h
    rw [dP_utterAll_17] at h
    refine v_iload X (pc := 17) 4 rfl eP_utterAll_17 ?_
    refine v_bipush X (pc := 19) (v := (16 : Int32)) eP_utterAll_19 (by decide) ?_
    refine v_icmp_ge X (pc := 21) (tgt := 85) h eP_utterAll_21 (by decide) (fun h => ?_) (fun h => ?_)
    · refine v_iload_n X (pc := 24) 1 rfl eP_utterAll_24 rfl ?_
      refine v_iload X (pc := 25) 4 rfl eP_utterAll_25 ?_
      refine v_ishr X (pc := 27) eP_utterAll_27 ?_
      refine v_iconst X (pc := 28) (v := (1 : Int32)) eP_utterAll_28 (by decide) ?_
      refine v_iand X (pc := 29) eP_utterAll_29 ?_
      refine v_iconst X (pc := 30) (v := (1 : Int32)) eP_utterAll_30 (by decide) ?_
      refine v_icmp_ne X (pc := 31) (tgt := 79) h eP_utterAll_31 (by decide) (fun h => ?_) (fun h => ?_)
      · refine v_aload_n X (pc := 34) 0 rfl eP_utterAll_34 rfl ?_
        refine v_iload_n X (pc := 35) 2 rfl eP_utterAll_35 rfl ?_
        refine v_iload X (pc := 36) 4 rfl eP_utterAll_36 ?_
        obtain ⟨r1, m1, hc1, h⟩ := bd_some h
        refine v_callV X (pc := 38) [_, _] [] ok_V_P_77 (cP_utter hq0 hc1) rfl (Nat.le_of_ble_eq_true rfl) ⟨Nat.le_of_ble_eq_true rfl, Nat.le_of_ble_eq_true rfl⟩ ⟨Nat.zero_le _, Nat.zero_le _⟩ (by decide) hq0 rfl rfl eP_utterAll_38 ?_
        refine v_istore X (pc := 41) (lv' := [(6, _), (0, _), (2, _), (3, _), (4, _), (5, _)]) eP_utterAll_41 (Nat.le_of_ble_eq_true rfl) rfl ?_
        refine v_iload X (pc := 43) 4 rfl eP_utterAll_43 ?_
        refine v_iload X (pc := 45) 0 rfl eP_utterAll_45 ?_
        obtain ⟨r2, m2, hc2, h⟩ := bd_some h
        refine v_callS X (pc := 47) [_] [_] ok_S_P_80 (cJInt_bitCount  hc2) rfl (Nat.le_of_ble_eq_true rfl) ⟨Nat.le_of_ble_eq_true rfl, Nat.le_of_ble_eq_true rfl⟩ ⟨Nat.zero_le _, Nat.zero_le _⟩ eP_utterAll_47 ?_
        refine v_iadd X (pc := 50) eP_utterAll_50 ?_
        refine v_istore X (pc := 51) (lv' := [(4, _), (6, _), (0, _), (2, _), (3, _), (5, _)]) eP_utterAll_51 (Nat.le_of_ble_eq_true rfl) rfl ?_
        refine v_aload_n X (pc := 53) 2 rfl eP_utterAll_53 rfl ?_
        refine v_dup X (pc := 54) rfl eP_utterAll_54 ?_
        refine v_get X (pc := 55) 4 (a := aI (gI m2 1 q0 4)) (by decide) hq0 rfl rfl rfl in_Palace (by decide) qw_79 rfl eP_utterAll_55 ?_
        refine v_iload X (pc := 58) 1 rfl eP_utterAll_58 ?_
        refine v_if_ne X (pc := 60) (tgt := 70) h eP_utterAll_60 (by decide) (fun h => ?_) (fun h => ?_)
        · refine v_iconst X (pc := 63) (v := (1 : Int32)) eP_utterAll_63 (by decide) ?_
          refine v_iload X (pc := 64) 5 rfl eP_utterAll_64 ?_
          refine v_ishl X (pc := 66) eP_utterAll_66 ?_
          refine v_goto X (pc := 67) (tgt := 71) eP_utterAll_67 (by decide) ?_
          refine v_ior X (pc := 71) eP_utterAll_71 ?_
          refine v_put X (pc := 72) 4 (mem' := (sI m2 1 q0 4 ((gI m2 1 q0 4) ||| ((1 : Int32) <<< (x5 &&& 31))))) (by decide) hq0 rfl (pf_1_4 _ _ _ _ _) rowI_ne rfl in_Palace ty_Palace_ok nm_Palace (by decide) qw_79 rfl rfl rfl (Nat.le_of_ble_eq_true rfl) eP_utterAll_72 ?_
          refine v_aload_n X (pc := 75) 2 rfl eP_utterAll_75 rfl ?_
          obtain ⟨r3, m3, hc3, h⟩ := bd_some h
          refine v_callV X (pc := 76) [] [] ok_V_P_85 (cP_goOn hq0 hc3) rfl (Nat.le_of_ble_eq_true rfl) ⟨Nat.le_of_ble_eq_true rfl, Nat.le_of_ble_eq_true rfl⟩ ⟨Nat.zero_le _, Nat.zero_le _⟩ (by decide) hq0 rfl rfl eP_utterAll_76 ?_
          refine v_iinc X (pc := 79) (v := (x5 + (1 : Int32))) (lv' := [(5, _), (4, _), (6, _), (0, _), (2, _), (3, _)]) 5 rfl (by rfl) eP_utterAll_79 (Nat.le_of_ble_eq_true rfl) rfl ?_
          refine v_goto X (pc := 82) (tgt := 17) eP_utterAll_82 (by decide) ?_
          exact v_sub [3, 4, 5, 1, 0] rfl (ih _ _ _ _ _ _ hq0 h)
        · refine v_iconst X (pc := 70) (v := (0 : Int32)) eP_utterAll_70 (by decide) ?_
          refine v_ior X (pc := 71) eP_utterAll_71 ?_
          refine v_put X (pc := 72) 4 (mem' := (sI m2 1 q0 4 ((gI m2 1 q0 4) ||| (0 : Int32)))) (by decide) hq0 rfl (pf_1_4 _ _ _ _ _) rowI_ne rfl in_Palace ty_Palace_ok nm_Palace (by decide) qw_79 rfl rfl rfl (Nat.le_of_ble_eq_true rfl) eP_utterAll_72 ?_
          refine v_aload_n X (pc := 75) 2 rfl eP_utterAll_75 rfl ?_
          obtain ⟨r4, m4, hc4, h⟩ := bd_some h
          refine v_callV X (pc := 76) [] [] ok_V_P_85 (cP_goOn hq0 hc4) rfl (Nat.le_of_ble_eq_true rfl) ⟨Nat.le_of_ble_eq_true rfl, Nat.le_of_ble_eq_true rfl⟩ ⟨Nat.zero_le _, Nat.zero_le _⟩ (by decide) hq0 rfl rfl eP_utterAll_76 ?_
          refine v_iinc X (pc := 79) (v := (x5 + (1 : Int32))) (lv' := [(5, _), (4, _), (6, _), (0, _), (2, _), (3, _)]) 5 rfl (by rfl) eP_utterAll_79 (Nat.le_of_ble_eq_true rfl) rfl ?_
          refine v_goto X (pc := 82) (tgt := 17) eP_utterAll_82 (by decide) ?_
          exact v_sub [3, 4, 5, 1, 0] rfl (ih _ _ _ _ _ _ hq0 h)
      · refine v_iinc X (pc := 79) (v := (x5 + (1 : Int32))) (lv' := [(5, _), (0, _), (2, _), (3, _), (4, _)]) 4 rfl (by rfl) eP_utterAll_79 (Nat.le_of_ble_eq_true rfl) rfl ?_
        refine v_goto X (pc := 82) (tgt := 17) eP_utterAll_82 (by decide) ?_
        exact v_sub [1, 2, 3, 4, 0] rfl (ih _ _ _ _ _ _ hq0 h)
    · refine v_iload X (pc := 85) 3 rfl eP_utterAll_85 ?_
      exact v_iret X (pc := 87) h hr eP_utterAll_87
set_option maxHeartbeats 4000000 in
set_option maxRecDepth 100000 in
theorem cP_utterAll {f : Nat} {q0 : Nat} {a1 : Int32} {a2 : Int32} {mem : Mem} {o : Int32} {mem' : Mem} (hq0 : q0 < 3) (h : dP_utterAll f q0 a1 a2 mem = some (o, mem')) : RT yP_utterAll prog_2_method_15_code 7 (Option.some Jvm.ClassFile.FieldType.int) (rmM 3 80) [aR 1 q0, aI a1, aI a2] mem (some (aI o)) mem' := by
  refine RT.of (by decide +kernel) (Nat.le_of_ble_eq_true rfl) (fun p l e s m args below meth c k X hr => ?_)
  replace X : CX p s m args meth c k prog_2_method_15_code 7 "WallShifts$Palace" := X
  unfold dP_utterAll at h
  refine v_sub (lv' := [(0, _), (1, _), (2, _)]) [0, 1, 2] rfl ?_
  refine v_aload_n X (pc := 0) 0 rfl eP_utterAll_0 rfl ?_
  refine v_iload_n X (pc := 1) 1 rfl eP_utterAll_1 rfl ?_
  obtain ⟨r1, m1, hc1, h⟩ := bd_some h
  refine v_callV X (pc := 2) [_] [] ok_V_P_74 (cP_near hq0 hc1) rfl (Nat.le_of_ble_eq_true rfl) ⟨Nat.le_of_ble_eq_true rfl, Nat.le_of_ble_eq_true rfl⟩ ⟨Nat.zero_le _, Nat.zero_le _⟩ (by decide) hq0 rfl rfl eP_utterAll_2 ?_
  refine v_istore_n X (pc := 5) (lv' := [(3, _), (0, _), (1, _), (2, _)]) eP_utterAll_5 rfl (Nat.le_of_ble_eq_true rfl) rfl ?_
  refine v_iconst X (pc := 6) (v := (0 : Int32)) eP_utterAll_6 (by decide) ?_
  refine v_istore X (pc := 7) (lv' := [(4, _), (3, _), (0, _), (1, _), (2, _)]) eP_utterAll_7 (Nat.le_of_ble_eq_true rfl) rfl ?_
  refine v_aload_n X (pc := 9) 2 rfl eP_utterAll_9 rfl ?_
  refine v_iconst X (pc := 10) (v := (0 : Int32)) eP_utterAll_10 (by decide) ?_
  refine v_put X (pc := 11) 4 (mem' := (sI m1 1 q0 4 (0 : Int32))) (by decide) hq0 rfl (pf_1_4 _ _ _ _ _) rowI_ne rfl in_Palace ty_Palace_ok nm_Palace (by decide) qw_79 rfl rfl rfl (Nat.le_of_ble_eq_true rfl) eP_utterAll_11 ?_
  refine v_iconst X (pc := 14) (v := (0 : Int32)) eP_utterAll_14 (by decide) ?_
  refine v_istore X (pc := 15) (lv' := [(5, _), (4, _), (3, _), (0, _), (1, _), (2, _)]) eP_utterAll_15 (Nat.le_of_ble_eq_true rfl) rfl ?_
  exact v_sub [3, 5, 2, 1, 0] rfl (cP_utterAll_17 X hr _ _ _ _ _ _ _ hq0 h)
set_option maxHeartbeats 4000000 in
set_option maxRecDepth 100000 in
theorem cW_speak {f : Nat} {a1 : Int32} {a2 : Int32} {mem : Mem} {o : Int32} {mem' : Mem}  (h : dW_speak f a1 a2 mem = some (o, mem')) : RT yW_speak prog_1_method_11_code 3 (Option.some Jvm.ClassFile.FieldType.int) (rmM 4 106) [aR 0 0, aI a1, aI a2] mem (some (aI o)) mem' := by
  refine RT.of (by decide +kernel) (Nat.le_of_ble_eq_true rfl) (fun p l e s m args below meth c k X hr => ?_)
  replace X : CX p s m args meth c k prog_1_method_11_code 3 "WallShifts" := X
  unfold dW_speak at h
  refine v_sub (lv' := [(0, _), (1, _), (2, _)]) [0, 1, 2] rfl ?_
  refine v_iload_n X (pc := 0) 1 rfl eW_speak_0 rfl ?_
  obtain ⟨r1, m1, hc1, h⟩ := bd_some h
  refine v_callS X (pc := 1) [_] [] ok_S_W_63 (cW_isRoom  hc1) rfl (Nat.le_of_ble_eq_true rfl) ⟨Nat.le_of_ble_eq_true rfl, Nat.le_of_ble_eq_true rfl⟩ ⟨Nat.zero_le _, Nat.zero_le _⟩ eW_speak_1 ?_
  refine v_if_eq X (pc := 4) (tgt := 14) h eW_speak_4 (by decide) (fun h => ?_) (fun h => ?_)
  · refine v_aload_n X (pc := 14) 0 rfl eW_speak_14 rfl ?_
    refine v_ldc X (pc := 15) qw_179 eW_speak_15 ?_
    obtain ⟨r2, m2, hc2, h⟩ := bd_some h
    refine v_callV X (pc := 17) [_] [] ok_V_W_52 (cW_finding  hc2) rfl (Nat.le_of_ble_eq_true rfl) ⟨Nat.le_of_ble_eq_true rfl, Nat.le_of_ble_eq_true rfl⟩ ⟨Nat.zero_le _, Nat.zero_le _⟩ (by decide) (by decide) rfl rfl eW_speak_17 ?_
    exact v_iret X (pc := 20) h hr eW_speak_20
  · refine v_iload_n X (pc := 7) 2 rfl eW_speak_7 rfl ?_
    obtain ⟨r3, m3, hc3, h⟩ := bd_some h
    refine v_callS X (pc := 8) [_] [] ok_S_W_131 (cW_isSetOfWords  hc3) rfl (Nat.le_of_ble_eq_true rfl) ⟨Nat.le_of_ble_eq_true rfl, Nat.le_of_ble_eq_true rfl⟩ ⟨Nat.zero_le _, Nat.zero_le _⟩ eW_speak_8 ?_
    refine v_if_ne X (pc := 11) (tgt := 21) h eW_speak_11 (by decide) (fun h => ?_) (fun h => ?_)
    · refine v_aload_n X (pc := 14) 0 rfl eW_speak_14 rfl ?_
      refine v_ldc X (pc := 15) qw_179 eW_speak_15 ?_
      obtain ⟨r4, m4, hc4, h⟩ := bd_some h
      refine v_callV X (pc := 17) [_] [] ok_V_W_52 (cW_finding  hc4) rfl (Nat.le_of_ble_eq_true rfl) ⟨Nat.le_of_ble_eq_true rfl, Nat.le_of_ble_eq_true rfl⟩ ⟨Nat.zero_le _, Nat.zero_le _⟩ (by decide) (by decide) rfl rfl eW_speak_17 ?_
      exact v_iret X (pc := 20) h hr eW_speak_20
    · refine v_aload_n X (pc := 21) 0 rfl eW_speak_21 rfl ?_
      refine v_get X (pc := 22) 0 (a := aR 1 0) (by decide) (by decide) rfl rfl rfl in_WallShifts (by decide) qw_140 rfl eW_speak_22 ?_
      refine v_get X (pc := 25) 0 (a := aI (gI m3 1 0 0)) (by decide) (by decide) rfl rfl rfl in_Palace (by decide) qw_71 rfl eW_speak_25 ?_
      refine v_ldc X (pc := 28) qw_301 eW_speak_28 ?_
      refine v_iload_n X (pc := 30) 2 rfl eW_speak_30 rfl ?_
      obtain ⟨r5, m5, hc5, h⟩ := bd_some h
      refine v_callS X (pc := 31) [_] [_, _] ok_S_W_134 (cJInt_bitCount  hc5) rfl (Nat.le_of_ble_eq_true rfl) ⟨Nat.le_of_ble_eq_true rfl, Nat.le_of_ble_eq_true rfl⟩ ⟨Nat.zero_le _, Nat.zero_le _⟩ eW_speak_31 ?_
      refine v_isub X (pc := 34) eW_speak_34 ?_
      refine v_icmp_le X (pc := 35) (tgt := 45) h eW_speak_35 (by decide) (fun h => ?_) (fun h => ?_)
      · refine v_aload_n X (pc := 38) 0 rfl eW_speak_38 rfl ?_
        refine v_ldc X (pc := 39) qw_302 eW_speak_39 ?_
        obtain ⟨r6, m6, hc6, h⟩ := bd_some h
        refine v_callV X (pc := 41) [_] [] ok_V_W_52 (cW_finding  hc6) rfl (Nat.le_of_ble_eq_true rfl) ⟨Nat.le_of_ble_eq_true rfl, Nat.le_of_ble_eq_true rfl⟩ ⟨Nat.zero_le _, Nat.zero_le _⟩ (by decide) (by decide) rfl rfl eW_speak_41 ?_
        exact v_iret X (pc := 44) h hr eW_speak_44
      · refine v_aload_n X (pc := 45) 0 rfl eW_speak_45 rfl ?_
        refine v_get X (pc := 46) 0 (a := aR 1 0) (by decide) (by decide) rfl rfl rfl in_WallShifts (by decide) qw_140 rfl eW_speak_46 ?_
        refine v_iload_n X (pc := 49) 1 rfl eW_speak_49 rfl ?_
        refine v_iload_n X (pc := 50) 2 rfl eW_speak_50 rfl ?_
        obtain ⟨r7, m7, hc7, h⟩ := bd_some h
        refine v_callV X (pc := 51) [_, _] [] ok_V_W_139 (cP_utterAll (by decide) hc7) rfl (Nat.le_of_ble_eq_true rfl) ⟨Nat.le_of_ble_eq_true rfl, Nat.le_of_ble_eq_true rfl⟩ ⟨Nat.zero_le _, Nat.zero_le _⟩ (by decide) (by decide) rfl rfl eW_speak_51 ?_
        exact v_iret X (pc := 54) h hr eW_speak_54
set_option maxHeartbeats 4000000 in
set_option maxRecDepth 100000 in
theorem cW_reach {f : Nat} {a1 : Int32} {mem : Mem} {o : Int32} {mem' : Mem}  (h : dW_reach f a1 mem = some (o, mem')) : RT yW_reach prog_1_method_12_code 2 (Option.some Jvm.ClassFile.FieldType.int) (rmM 2 46) [aR 0 0, aI a1] mem (some (aI o)) mem' := by
  refine RT.of (by decide +kernel) (Nat.le_of_ble_eq_true rfl) (fun p l e s m args below meth c k X hr => ?_)
  replace X : CX p s m args meth c k prog_1_method_12_code 2 "WallShifts" := X
  unfold dW_reach at h
  refine v_sub (lv' := [(0, _), (1, _)]) [0, 1] rfl ?_
  refine v_iload_n X (pc := 0) 1 rfl eW_reach_0 rfl ?_
  obtain ⟨r1, m1, hc1, h⟩ := bd_some h
  refine v_callS X (pc := 1) [_] [] ok_S_W_63 (cW_isRoom  hc1) rfl (Nat.le_of_ble_eq_true rfl) ⟨Nat.le_of_ble_eq_true rfl, Nat.le_of_ble_eq_true rfl⟩ ⟨Nat.zero_le _, Nat.zero_le _⟩ eW_reach_1 ?_
  refine v_if_eq X (pc := 4) (tgt := 18) h eW_reach_4 (by decide) (fun h => ?_) (fun h => ?_)
  · refine v_aload_n X (pc := 18) 0 rfl eW_reach_18 rfl ?_
    refine v_ldc X (pc := 19) qw_179 eW_reach_19 ?_
    obtain ⟨r2, m2, hc2, h⟩ := bd_some h
    refine v_callV X (pc := 21) [_] [] ok_V_W_52 (cW_finding  hc2) rfl (Nat.le_of_ble_eq_true rfl) ⟨Nat.le_of_ble_eq_true rfl, Nat.le_of_ble_eq_true rfl⟩ ⟨Nat.zero_le _, Nat.zero_le _⟩ (by decide) (by decide) rfl rfl eW_reach_21 ?_
    exact v_iret X (pc := 24) h hr eW_reach_24
  · refine v_aload_n X (pc := 7) 0 rfl eW_reach_7 rfl ?_
    refine v_get X (pc := 8) 0 (a := aR 1 0) (by decide) (by decide) rfl rfl rfl in_WallShifts (by decide) qw_140 rfl eW_reach_8 ?_
    refine v_iload_n X (pc := 11) 1 rfl eW_reach_11 rfl ?_
    obtain ⟨r3, m3, hc3, h⟩ := bd_some h
    refine v_callV X (pc := 12) [_] [] ok_V_W_142 (cP_leaks (by decide) hc3) rfl (Nat.le_of_ble_eq_true rfl) ⟨Nat.le_of_ble_eq_true rfl, Nat.le_of_ble_eq_true rfl⟩ ⟨Nat.zero_le _, Nat.zero_le _⟩ (by decide) (by decide) rfl rfl eW_reach_12 ?_
    refine v_goto X (pc := 15) (tgt := 24) eW_reach_15 (by decide) ?_
    exact v_iret X (pc := 24) h hr eW_reach_24
set_option maxHeartbeats 4000000 in
set_option maxRecDepth 100000 in
theorem cW_duty {f : Nat} {a1 : Int32} {mem : Mem} {o : Int32} {mem' : Mem}  (h : dW_duty f a1 mem = some (o, mem')) : RT yW_duty prog_1_method_13_code 2 (Option.some Jvm.ClassFile.FieldType.int) (rmM 2 53) [aR 0 0, aI a1] mem (some (aI o)) mem' := by
  refine RT.of (by decide +kernel) (Nat.le_of_ble_eq_true rfl) (fun p l e s m args below meth c k X hr => ?_)
  replace X : CX p s m args meth c k prog_1_method_13_code 2 "WallShifts" := X
  unfold dW_duty at h
  refine v_sub (lv' := [(0, _), (1, _)]) [0, 1] rfl ?_
  refine v_iload_n X (pc := 0) 1 rfl eW_duty_0 rfl ?_
  refine v_iconst X (pc := 1) (v := (0 : Int32)) eW_duty_1 (by decide) ?_
  refine v_ldc X (pc := 2) qw_301 eW_duty_2 ?_
  obtain ⟨r1, m1, hc1, h⟩ := bd_some h
  refine v_callS X (pc := 4) [_, _, _] [] ok_S_W_82 (cW_isIn  hc1) rfl (Nat.le_of_ble_eq_true rfl) ⟨Nat.le_of_ble_eq_true rfl, Nat.le_of_ble_eq_true rfl⟩ ⟨Nat.zero_le _, Nat.zero_le _⟩ eW_duty_4 ?_
  refine v_if_ne X (pc := 7) (tgt := 17) h eW_duty_7 (by decide) (fun h => ?_) (fun h => ?_)
  · refine v_aload_n X (pc := 10) 0 rfl eW_duty_10 rfl ?_
    refine v_ldc X (pc := 11) qw_179 eW_duty_11 ?_
    obtain ⟨r2, m2, hc2, h⟩ := bd_some h
    refine v_callV X (pc := 13) [_] [] ok_V_W_52 (cW_finding  hc2) rfl (Nat.le_of_ble_eq_true rfl) ⟨Nat.le_of_ble_eq_true rfl, Nat.le_of_ble_eq_true rfl⟩ ⟨Nat.zero_le _, Nat.zero_le _⟩ (by decide) (by decide) rfl rfl eW_duty_13 ?_
    exact v_iret X (pc := 16) h hr eW_duty_16
  · refine v_aload_n X (pc := 17) 0 rfl eW_duty_17 rfl ?_
    refine v_get X (pc := 18) 0 (a := aR 1 0) (by decide) (by decide) rfl rfl rfl in_WallShifts (by decide) qw_140 rfl eW_duty_18 ?_
    refine v_iload_n X (pc := 21) 1 rfl eW_duty_21 rfl ?_
    refine v_aload_n X (pc := 22) 0 rfl eW_duty_22 rfl ?_
    refine v_get X (pc := 23) 0 (a := aR 1 0) (by decide) (by decide) rfl rfl rfl in_WallShifts (by decide) qw_140 rfl eW_duty_23 ?_
    refine v_get X (pc := 26) 1 (a := aR 2 0) (by decide) (by decide) rfl rfl rfl in_Palace (by decide) qw_73 rfl eW_duty_26 ?_
    refine v_iconst X (pc := 29) (v := (0 : Int32)) eW_duty_29 (by decide) ?_
    refine v_ialdK X (pc := 30) (n := 4) 0 (by decide) (by decide) (by decide) (by decide) rfl eW_duty_30 ?_
    obtain ⟨r3, m3, hc3, h⟩ := bd_some h
    refine v_callV X (pc := 31) [_, _] [] ok_V_W_145 (cP_onDuty (by decide) hc3) rfl (Nat.le_of_ble_eq_true rfl) ⟨Nat.le_of_ble_eq_true rfl, Nat.le_of_ble_eq_true rfl⟩ ⟨Nat.zero_le _, Nat.zero_le _⟩ (by decide) (by decide) rfl rfl eW_duty_31 ?_
    exact v_iret X (pc := 34) h hr eW_duty_34
set_option maxHeartbeats 4000000 in
set_option maxRecDepth 100000 in
theorem cP_wordsInFiles_4 {p : Program} {l : Launch} {e : Env} {s : State} {m : MethodId} {args : Array Value} {below : List Frame} {meth : Method} {c : Code} {k : KK} {f : Nat} {o : Int32} {mem' : Mem} (X : CX p s m args meth c k prog_2_method_17_code 3 "WallShifts$Palace") (hr : meth.sig.returnType = (Option.some Jvm.ClassFile.FieldType.int)) : ∀ (n : Nat) (q0 : Nat) (x1 : Int32) (x2 : Int32) (mem : Mem), q0 < 3 → dP_wordsInFiles_4 f n q0 x1 x2 mem = some (o, mem') → V p l e (rmM 0 0) s m args below meth c 0 0 (MQ below (RQc k (some (aI o)) mem') args s 0 0 (kA k)) k 3 mem 4 [(0, aR 1 q0), (1, aI x1), (2, aI x2)] [] := by
  intro n
  induction n with
  | zero =>
    intro q0 x1 x2 mem hq0 h
    exact nomatch (show (none : Option (Int32 × Mem)) = some _ from h)
  | succ n ih =>
    intro q0 x1 x2 mem hq0 h
    rw [dP_wordsInFiles_4] at h
    refine v_iload_n X (pc := 4) 2 rfl eP_wordsInFiles_4 rfl ?_
    refine v_aload_n X (pc := 5) 0 rfl eP_wordsInFiles_5 rfl ?_
    refine v_get X (pc := 6) 2 (a := aI (gI mem 1 q0 2)) (by decide) hq0 rfl rfl rfl in_Palace (by decide) qw_75 rfl eP_wordsInFiles_6 ?_
    refine v_icmp_ge X (pc := 9) (tgt := 29) h eP_wordsInFiles_9 (by decide) (fun h => ?_) (fun h => ?_)
    · refine v_iload_n X (pc := 12) 1 rfl eP_wordsInFiles_12 rfl ?_
      refine v_aload_n X (pc := 13) 0 rfl eP_wordsInFiles_13 rfl ?_
      refine v_get X (pc := 14) 3 (a := aR 3 q0) (by decide) hq0 rfl rfl rfl in_Palace (by decide) qw_77 rfl eP_wordsInFiles_14 ?_
      refine v_iload_n X (pc := 17) 2 rfl eP_wordsInFiles_17 rfl ?_
      refine v_aaldW X (pc := 18) h hq0 eP_wordsInFiles_18 (fun hb1 h => ?_)
      refine v_iconst X (pc := 19) (v := (4 : Int32)) eP_wordsInFiles_19 (by decide) ?_
      refine v_ialdK X (pc := 20) (n := 6) 4 (by decide) (by decide) (by decide) hb1 rfl eP_wordsInFiles_20 ?_
      refine v_ior X (pc := 21) eP_wordsInFiles_21 ?_
      refine v_istore_n X (pc := 22) (lv' := [(1, _), (0, _), (2, _)]) eP_wordsInFiles_22 rfl (Nat.le_of_ble_eq_true rfl) rfl ?_
      refine v_iinc X (pc := 23) (v := (x2 + (1 : Int32))) (lv' := [(2, _), (1, _), (0, _)]) 2 rfl (by rfl) eP_wordsInFiles_23 (Nat.le_of_ble_eq_true rfl) rfl ?_
      refine v_goto X (pc := 26) (tgt := 4) eP_wordsInFiles_26 (by decide) ?_
      exact v_sub [2, 1, 0] rfl (ih _ _ _ _ hq0 h)
    · refine v_iload_n X (pc := 29) 1 rfl eP_wordsInFiles_29 rfl ?_
      exact v_iret X (pc := 30) h hr eP_wordsInFiles_30
set_option maxHeartbeats 4000000 in
set_option maxRecDepth 100000 in
theorem cP_wordsInFiles {f : Nat} {q0 : Nat} {mem : Mem} {o : Int32} {mem' : Mem} (hq0 : q0 < 3) (h : dP_wordsInFiles f q0 mem = some (o, mem')) : RT yP_wordsInFiles prog_2_method_17_code 3 (Option.some Jvm.ClassFile.FieldType.int) (rmM 0 0) [aR 1 q0] mem (some (aI o)) mem' := by
  refine RT.of (by decide +kernel) (Nat.le_of_ble_eq_true rfl) (fun p l e s m args below meth c k X hr => ?_)
  replace X : CX p s m args meth c k prog_2_method_17_code 3 "WallShifts$Palace" := X
  unfold dP_wordsInFiles at h
  refine v_sub (lv' := [(0, _)]) [0] rfl ?_
  refine v_iconst X (pc := 0) (v := (0 : Int32)) eP_wordsInFiles_0 (by decide) ?_
  refine v_istore_n X (pc := 1) (lv' := [(1, _), (0, _)]) eP_wordsInFiles_1 rfl (Nat.le_of_ble_eq_true rfl) rfl ?_
  refine v_iconst X (pc := 2) (v := (0 : Int32)) eP_wordsInFiles_2 (by decide) ?_
  refine v_istore_n X (pc := 3) (lv' := [(2, _), (1, _), (0, _)]) eP_wordsInFiles_3 rfl (Nat.le_of_ble_eq_true rfl) rfl ?_
  exact v_sub [2, 1, 0] rfl (cP_wordsInFiles_4 X hr _ _ _ _ _ hq0 h)
set_option maxHeartbeats 4000000 in
set_option maxRecDepth 100000 in
theorem cP_tiredTogether_4 {p : Program} {l : Launch} {e : Env} {s : State} {m : MethodId} {args : Array Value} {below : List Frame} {meth : Method} {c : Code} {k : KK} {f : Nat} {o : Int32} {mem' : Mem} (X : CX p s m args meth c k prog_2_method_20_code 3 "WallShifts$Palace") (hr : meth.sig.returnType = (Option.some Jvm.ClassFile.FieldType.int)) : ∀ (n : Nat) (q0 : Nat) (x1 : Int32) (x2 : Int32) (mem : Mem), q0 < 3 → dP_tiredTogether_4 f n q0 x1 x2 mem = some (o, mem') → V p l e (rmM 0 0) s m args below meth c 0 0 (MQ below (RQc k (some (aI o)) mem') args s 0 0 (kA k)) k 3 mem 4 [(0, aR 1 q0), (1, aI x1), (2, aI x2)] [] := by
  intro n
  induction n with
  | zero =>
    intro q0 x1 x2 mem hq0 h
    exact nomatch (show (none : Option (Int32 × Mem)) = some _ from h)
  | succ n ih =>
    intro q0 x1 x2 mem hq0 h
    rw [dP_tiredTogether_4] at h
    refine v_iload_n X (pc := 4) 2 rfl eP_tiredTogether_4 rfl ?_
    refine v_aload_n X (pc := 5) 0 rfl eP_tiredTogether_5 rfl ?_
    refine v_get X (pc := 6) 2 (a := aI (gI mem 1 q0 2)) (by decide) hq0 rfl rfl rfl in_Palace (by decide) qw_75 rfl eP_tiredTogether_6 ?_
    refine v_icmp_ge X (pc := 9) (tgt := 29) h eP_tiredTogether_9 (by decide) (fun h => ?_) (fun h => ?_)
    · refine v_iload_n X (pc := 12) 1 rfl eP_tiredTogether_12 rfl ?_
      refine v_aload_n X (pc := 13) 0 rfl eP_tiredTogether_13 rfl ?_
      refine v_get X (pc := 14) 3 (a := aR 3 q0) (by decide) hq0 rfl rfl rfl in_Palace (by decide) qw_77 rfl eP_tiredTogether_14 ?_
      refine v_iload_n X (pc := 17) 2 rfl eP_tiredTogether_17 rfl ?_
      refine v_aaldW X (pc := 18) h hq0 eP_tiredTogether_18 (fun hb1 h => ?_)
      refine v_iconst X (pc := 19) (v := (5 : Int32)) eP_tiredTogether_19 (by decide) ?_
      refine v_ialdK X (pc := 20) (n := 6) 5 (by decide) (by decide) (by decide) hb1 rfl eP_tiredTogether_20 ?_
      refine v_iadd X (pc := 21) eP_tiredTogether_21 ?_
      refine v_istore_n X (pc := 22) (lv' := [(1, _), (0, _), (2, _)]) eP_tiredTogether_22 rfl (Nat.le_of_ble_eq_true rfl) rfl ?_
      refine v_iinc X (pc := 23) (v := (x2 + (1 : Int32))) (lv' := [(2, _), (1, _), (0, _)]) 2 rfl (by rfl) eP_tiredTogether_23 (Nat.le_of_ble_eq_true rfl) rfl ?_
      refine v_goto X (pc := 26) (tgt := 4) eP_tiredTogether_26 (by decide) ?_
      exact v_sub [2, 1, 0] rfl (ih _ _ _ _ hq0 h)
    · refine v_iload_n X (pc := 29) 1 rfl eP_tiredTogether_29 rfl ?_
      exact v_iret X (pc := 30) h hr eP_tiredTogether_30
set_option maxHeartbeats 4000000 in
set_option maxRecDepth 100000 in
theorem cP_tiredTogether {f : Nat} {q0 : Nat} {mem : Mem} {o : Int32} {mem' : Mem} (hq0 : q0 < 3) (h : dP_tiredTogether f q0 mem = some (o, mem')) : RT yP_tiredTogether prog_2_method_20_code 3 (Option.some Jvm.ClassFile.FieldType.int) (rmM 0 0) [aR 1 q0] mem (some (aI o)) mem' := by
  refine RT.of (by decide +kernel) (Nat.le_of_ble_eq_true rfl) (fun p l e s m args below meth c k X hr => ?_)
  replace X : CX p s m args meth c k prog_2_method_20_code 3 "WallShifts$Palace" := X
  unfold dP_tiredTogether at h
  refine v_sub (lv' := [(0, _)]) [0] rfl ?_
  refine v_iconst X (pc := 0) (v := (0 : Int32)) eP_tiredTogether_0 (by decide) ?_
  refine v_istore_n X (pc := 1) (lv' := [(1, _), (0, _)]) eP_tiredTogether_1 rfl (Nat.le_of_ble_eq_true rfl) rfl ?_
  refine v_iconst X (pc := 2) (v := (0 : Int32)) eP_tiredTogether_2 (by decide) ?_
  refine v_istore_n X (pc := 3) (lv' := [(2, _), (1, _), (0, _)]) eP_tiredTogether_3 rfl (Nat.le_of_ble_eq_true rfl) rfl ?_
  exact v_sub [2, 1, 0] rfl (cP_tiredTogether_4 X hr _ _ _ _ _ hq0 h)
set_option maxHeartbeats 4000000 in
set_option maxRecDepth 100000 in
theorem cW_now {f : Nat} {a1 : Int32} {mem : Mem} {o : Int32} {mem' : Mem}  (h : dW_now f a1 mem = some (o, mem')) : RT yW_now prog_1_method_14_code 2 (Option.some Jvm.ClassFile.FieldType.int) (rmM 2 44) [aR 0 0, aI a1] mem (some (aI o)) mem' := by
  refine RT.of (by decide +kernel) (Nat.le_of_ble_eq_true rfl) (fun p l e s m args below meth c k X hr => ?_)
  replace X : CX p s m args meth c k prog_1_method_14_code 2 "WallShifts" := X
  unfold dW_now at h
  refine v_sub (lv' := [(0, _), (1, _)]) [0, 1] rfl ?_
  refine v_iload_n X (pc := 0) 1 rfl eW_now_0 rfl ?_
  by_cases g0 : a1 = (0 : Int32)
  · have h := it_t h g0
    refine v_tsw X (pc := 1) (tgt := 44) (0 : Int32) g0 eW_now_1 (by decide) (by decide) rfl (by decide) ?_
    refine v_aload_n X (pc := 44) 0 rfl eW_now_44 rfl ?_
    refine v_get X (pc := 45) 0 (a := aR 1 0) (by decide) (by decide) rfl rfl rfl in_WallShifts (by decide) qw_140 rfl eW_now_45 ?_
    refine v_get X (pc := 48) 0 (a := aI (gI mem 1 0 0)) (by decide) (by decide) rfl rfl rfl in_Palace (by decide) qw_71 rfl eW_now_48 ?_
    exact v_iret X (pc := 51) h hr eW_now_51
  have h := it_f h g0
  by_cases g1 : a1 = (1 : Int32)
  · have h := it_t h g1
    refine v_tsw X (pc := 1) (tgt := 52) (1 : Int32) g1 eW_now_1 (by decide) (by decide) rfl (by decide) ?_
    refine v_aload_n X (pc := 52) 0 rfl eW_now_52 rfl ?_
    refine v_get X (pc := 53) 0 (a := aR 1 0) (by decide) (by decide) rfl rfl rfl in_WallShifts (by decide) qw_140 rfl eW_now_53 ?_
    refine v_get X (pc := 56) 1 (a := aR 2 0) (by decide) (by decide) rfl rfl rfl in_Palace (by decide) qw_73 rfl eW_now_56 ?_
    refine v_iconst X (pc := 59) (v := (0 : Int32)) eW_now_59 (by decide) ?_
    refine v_ialdK X (pc := 60) (n := 4) 0 (by decide) (by decide) (by decide) (by decide) rfl eW_now_60 ?_
    exact v_iret X (pc := 61) h hr eW_now_61
  have h := it_f h g1
  by_cases g2 : a1 = (2 : Int32)
  · have h := it_t h g2
    refine v_tsw X (pc := 1) (tgt := 62) (2 : Int32) g2 eW_now_1 (by decide) (by decide) rfl (by decide) ?_
    refine v_aload_n X (pc := 62) 0 rfl eW_now_62 rfl ?_
    refine v_get X (pc := 63) 0 (a := aR 1 0) (by decide) (by decide) rfl rfl rfl in_WallShifts (by decide) qw_140 rfl eW_now_63 ?_
    refine v_get X (pc := 66) 1 (a := aR 2 0) (by decide) (by decide) rfl rfl rfl in_Palace (by decide) qw_73 rfl eW_now_66 ?_
    refine v_iconst X (pc := 69) (v := (1 : Int32)) eW_now_69 (by decide) ?_
    refine v_ialdK X (pc := 70) (n := 4) 1 (by decide) (by decide) (by decide) (by decide) rfl eW_now_70 ?_
    exact v_iret X (pc := 71) h hr eW_now_71
  have h := it_f h g2
  by_cases g3 : a1 = (3 : Int32)
  · have h := it_t h g3
    refine v_tsw X (pc := 1) (tgt := 72) (3 : Int32) g3 eW_now_1 (by decide) (by decide) rfl (by decide) ?_
    refine v_aload_n X (pc := 72) 0 rfl eW_now_72 rfl ?_
    refine v_get X (pc := 73) 0 (a := aR 1 0) (by decide) (by decide) rfl rfl rfl in_WallShifts (by decide) qw_140 rfl eW_now_73 ?_
    refine v_get X (pc := 76) 1 (a := aR 2 0) (by decide) (by decide) rfl rfl rfl in_Palace (by decide) qw_73 rfl eW_now_76 ?_
    refine v_iconst X (pc := 79) (v := (2 : Int32)) eW_now_79 (by decide) ?_
    refine v_ialdK X (pc := 80) (n := 4) 2 (by decide) (by decide) (by decide) (by decide) rfl eW_now_80 ?_
    exact v_iret X (pc := 81) h hr eW_now_81
  have h := it_f h g3
  by_cases g4 : a1 = (4 : Int32)
  · have h := it_t h g4
    refine v_tsw X (pc := 1) (tgt := 82) (4 : Int32) g4 eW_now_1 (by decide) (by decide) rfl (by decide) ?_
    refine v_aload_n X (pc := 82) 0 rfl eW_now_82 rfl ?_
    refine v_get X (pc := 83) 0 (a := aR 1 0) (by decide) (by decide) rfl rfl rfl in_WallShifts (by decide) qw_140 rfl eW_now_83 ?_
    refine v_get X (pc := 86) 1 (a := aR 2 0) (by decide) (by decide) rfl rfl rfl in_Palace (by decide) qw_73 rfl eW_now_86 ?_
    refine v_iconst X (pc := 89) (v := (3 : Int32)) eW_now_89 (by decide) ?_
    refine v_ialdK X (pc := 90) (n := 4) 3 (by decide) (by decide) (by decide) (by decide) rfl eW_now_90 ?_
    exact v_iret X (pc := 91) h hr eW_now_91
  have h := it_f h g4
  by_cases g5 : a1 = (5 : Int32)
  · have h := it_t h g5
    refine v_tsw X (pc := 1) (tgt := 92) (5 : Int32) g5 eW_now_1 (by decide) (by decide) rfl (by decide) ?_
    refine v_aload_n X (pc := 92) 0 rfl eW_now_92 rfl ?_
    refine v_get X (pc := 93) 0 (a := aR 1 0) (by decide) (by decide) rfl rfl rfl in_WallShifts (by decide) qw_140 rfl eW_now_93 ?_
    obtain ⟨r1, m1, hc1, h⟩ := bd_some h
    refine v_callV X (pc := 96) [] [] ok_V_W_148 (cP_wordsInFiles (by decide) hc1) rfl (Nat.le_of_ble_eq_true rfl) ⟨Nat.le_of_ble_eq_true rfl, Nat.le_of_ble_eq_true rfl⟩ ⟨Nat.zero_le _, Nat.zero_le _⟩ (by decide) (by decide) rfl rfl eW_now_96 ?_
    exact v_iret X (pc := 99) h hr eW_now_99
  have h := it_f h g5
  by_cases g6 : a1 = (6 : Int32)
  · have h := it_t h g6
    refine v_tsw X (pc := 1) (tgt := 100) (6 : Int32) g6 eW_now_1 (by decide) (by decide) rfl (by decide) ?_
    refine v_aload_n X (pc := 100) 0 rfl eW_now_100 rfl ?_
    refine v_get X (pc := 101) 0 (a := aR 1 0) (by decide) (by decide) rfl rfl rfl in_WallShifts (by decide) qw_140 rfl eW_now_101 ?_
    obtain ⟨r2, m2, hc2, h⟩ := bd_some h
    refine v_callV X (pc := 104) [] [] ok_V_W_152 (cP_tiredTogether (by decide) hc2) rfl (Nat.le_of_ble_eq_true rfl) ⟨Nat.le_of_ble_eq_true rfl, Nat.le_of_ble_eq_true rfl⟩ ⟨Nat.zero_le _, Nat.zero_le _⟩ (by decide) (by decide) rfl rfl eW_now_104 ?_
    exact v_iret X (pc := 107) h hr eW_now_107
  have h := it_f h g6
  refine v_tswD X (pc := 1) (tgt := 108) (tsw_out_0_6 g0 g1 g2 g3 g4 g5 g6) eW_now_1 (by decide) ?_
  refine v_aload_n X (pc := 108) 0 rfl eW_now_108 rfl ?_
  refine v_ldc X (pc := 109) qw_179 eW_now_109 ?_
  obtain ⟨r3, m3, hc3, h⟩ := bd_some h
  refine v_callV X (pc := 111) [_] [] ok_V_W_52 (cW_finding  hc3) rfl (Nat.le_of_ble_eq_true rfl) ⟨Nat.le_of_ble_eq_true rfl, Nat.le_of_ble_eq_true rfl⟩ ⟨Nat.zero_le _, Nat.zero_le _⟩ (by decide) (by decide) rfl rfl eW_now_111 ?_
  exact v_iret X (pc := 114) h hr eW_now_114
set_option maxHeartbeats 4000000 in
set_option maxRecDepth 100000 in
theorem cP_filesWith_4 {p : Program} {l : Launch} {e : Env} {s : State} {m : MethodId} {args : Array Value} {below : List Frame} {meth : Method} {c : Code} {k : KK} {f : Nat} {o : Int32} {mem' : Mem} (X : CX p s m args meth c k prog_2_method_19_code 4 "WallShifts$Palace") (hr : meth.sig.returnType = (Option.some Jvm.ClassFile.FieldType.int)) : ∀ (n : Nat) (q0 : Nat) (x1 : Int32) (x2 : Int32) (x3 : Int32) (mem : Mem), q0 < 3 → dP_filesWith_4 f n q0 x1 x2 x3 mem = some (o, mem') → V p l e (rmM 0 0) s m args below meth c 0 0 (MQ below (RQc k (some (aI o)) mem') args s 0 0 (kA k)) k 4 mem 4 [(0, aR 1 q0), (1, aI x1), (2, aI x2), (3, aI x3)] [] := by
  intro n
  induction n with
  | zero =>
    intro q0 x1 x2 x3 mem hq0 h
    exact nomatch (show (none : Option (Int32 × Mem)) = some _ from h)
  | succ n ih =>
    intro q0 x1 x2 x3 mem hq0 h
    rw [dP_filesWith_4] at h
    refine v_iload_n X (pc := 4) 3 rfl eP_filesWith_4 rfl ?_
    refine v_aload_n X (pc := 5) 0 rfl eP_filesWith_5 rfl ?_
    refine v_get X (pc := 6) 2 (a := aI (gI mem 1 q0 2)) (by decide) hq0 rfl rfl rfl in_Palace (by decide) qw_75 rfl eP_filesWith_6 ?_
    refine v_icmp_ge X (pc := 9) (tgt := 33) h eP_filesWith_9 (by decide) (fun h => ?_) (fun h => ?_)
    · refine v_iload_n X (pc := 12) 2 rfl eP_filesWith_12 rfl ?_
      refine v_aload_n X (pc := 13) 0 rfl eP_filesWith_13 rfl ?_
      refine v_get X (pc := 14) 3 (a := aR 3 q0) (by decide) hq0 rfl rfl rfl in_Palace (by decide) qw_77 rfl eP_filesWith_14 ?_
      refine v_iload_n X (pc := 17) 3 rfl eP_filesWith_17 rfl ?_
      refine v_aaldW X (pc := 18) h hq0 eP_filesWith_18 (fun hb1 h => ?_)
      refine v_iconst X (pc := 19) (v := (4 : Int32)) eP_filesWith_19 (by decide) ?_
      refine v_ialdK X (pc := 20) (n := 6) 4 (by decide) (by decide) (by decide) hb1 rfl eP_filesWith_20 ?_
      refine v_iload_n X (pc := 21) 1 rfl eP_filesWith_21 rfl ?_
      refine v_ishr X (pc := 22) eP_filesWith_22 ?_
      refine v_iconst X (pc := 23) (v := (1 : Int32)) eP_filesWith_23 (by decide) ?_
      refine v_iand X (pc := 24) eP_filesWith_24 ?_
      refine v_iadd X (pc := 25) eP_filesWith_25 ?_
      refine v_istore_n X (pc := 26) (lv' := [(2, _), (0, _), (1, _), (3, _)]) eP_filesWith_26 rfl (Nat.le_of_ble_eq_true rfl) rfl ?_
      refine v_iinc X (pc := 27) (v := (x3 + (1 : Int32))) (lv' := [(3, _), (2, _), (0, _), (1, _)]) 3 rfl (by rfl) eP_filesWith_27 (Nat.le_of_ble_eq_true rfl) rfl ?_
      refine v_goto X (pc := 30) (tgt := 4) eP_filesWith_30 (by decide) ?_
      exact v_sub [2, 3, 1, 0] rfl (ih _ _ _ _ _ hq0 h)
    · refine v_iload_n X (pc := 33) 2 rfl eP_filesWith_33 rfl ?_
      exact v_iret X (pc := 34) h hr eP_filesWith_34
set_option maxHeartbeats 4000000 in
set_option maxRecDepth 100000 in
theorem cP_filesWith {f : Nat} {q0 : Nat} {a1 : Int32} {mem : Mem} {o : Int32} {mem' : Mem} (hq0 : q0 < 3) (h : dP_filesWith f q0 a1 mem = some (o, mem')) : RT yP_filesWith prog_2_method_19_code 4 (Option.some Jvm.ClassFile.FieldType.int) (rmM 0 0) [aR 1 q0, aI a1] mem (some (aI o)) mem' := by
  refine RT.of (by decide +kernel) (Nat.le_of_ble_eq_true rfl) (fun p l e s m args below meth c k X hr => ?_)
  replace X : CX p s m args meth c k prog_2_method_19_code 4 "WallShifts$Palace" := X
  unfold dP_filesWith at h
  refine v_sub (lv' := [(0, _), (1, _)]) [0, 1] rfl ?_
  refine v_iconst X (pc := 0) (v := (0 : Int32)) eP_filesWith_0 (by decide) ?_
  refine v_istore_n X (pc := 1) (lv' := [(2, _), (0, _), (1, _)]) eP_filesWith_1 rfl (Nat.le_of_ble_eq_true rfl) rfl ?_
  refine v_iconst X (pc := 2) (v := (0 : Int32)) eP_filesWith_2 (by decide) ?_
  refine v_istore_n X (pc := 3) (lv' := [(3, _), (2, _), (0, _), (1, _)]) eP_filesWith_3 rfl (Nat.le_of_ble_eq_true rfl) rfl ?_
  exact v_sub [2, 3, 1, 0] rfl (cP_filesWith_4 X hr _ _ _ _ _ _ hq0 h)
set_option maxHeartbeats 4000000 in
set_option maxRecDepth 100000 in
theorem cW_filed {f : Nat} {a1 : Int32} {mem : Mem} {o : Int32} {mem' : Mem}  (h : dW_filed f a1 mem = some (o, mem')) : RT yW_filed prog_1_method_15_code 2 (Option.some Jvm.ClassFile.FieldType.int) (rmM 2 44) [aR 0 0, aI a1] mem (some (aI o)) mem' := by
  refine RT.of (by decide +kernel) (Nat.le_of_ble_eq_true rfl) (fun p l e s m args below meth c k X hr => ?_)
  replace X : CX p s m args meth c k prog_1_method_15_code 2 "WallShifts" := X
  unfold dW_filed at h
  refine v_sub (lv' := [(0, _), (1, _)]) [0, 1] rfl ?_
  refine v_iload_n X (pc := 0) 1 rfl eW_filed_0 rfl ?_
  obtain ⟨r1, m1, hc1, h⟩ := bd_some h
  refine v_callS X (pc := 1) [_] [] ok_S_W_111 (cW_isWord  hc1) rfl (Nat.le_of_ble_eq_true rfl) ⟨Nat.le_of_ble_eq_true rfl, Nat.le_of_ble_eq_true rfl⟩ ⟨Nat.zero_le _, Nat.zero_le _⟩ eW_filed_1 ?_
  refine v_if_eq X (pc := 4) (tgt := 18) h eW_filed_4 (by decide) (fun h => ?_) (fun h => ?_)
  · refine v_aload_n X (pc := 18) 0 rfl eW_filed_18 rfl ?_
    refine v_ldc X (pc := 19) qw_179 eW_filed_19 ?_
    obtain ⟨r2, m2, hc2, h⟩ := bd_some h
    refine v_callV X (pc := 21) [_] [] ok_V_W_52 (cW_finding  hc2) rfl (Nat.le_of_ble_eq_true rfl) ⟨Nat.le_of_ble_eq_true rfl, Nat.le_of_ble_eq_true rfl⟩ ⟨Nat.zero_le _, Nat.zero_le _⟩ (by decide) (by decide) rfl rfl eW_filed_21 ?_
    exact v_iret X (pc := 24) h hr eW_filed_24
  · refine v_aload_n X (pc := 7) 0 rfl eW_filed_7 rfl ?_
    refine v_get X (pc := 8) 0 (a := aR 1 0) (by decide) (by decide) rfl rfl rfl in_WallShifts (by decide) qw_140 rfl eW_filed_8 ?_
    refine v_iload_n X (pc := 11) 1 rfl eW_filed_11 rfl ?_
    obtain ⟨r3, m3, hc3, h⟩ := bd_some h
    refine v_callV X (pc := 12) [_] [] ok_V_W_155 (cP_filesWith (by decide) hc3) rfl (Nat.le_of_ble_eq_true rfl) ⟨Nat.le_of_ble_eq_true rfl, Nat.le_of_ble_eq_true rfl⟩ ⟨Nat.zero_le _, Nat.zero_le _⟩ (by decide) (by decide) rfl rfl eW_filed_12 ?_
    refine v_goto X (pc := 15) (tgt := 24) eW_filed_15 (by decide) ?_
    exact v_iret X (pc := 24) h hr eW_filed_24
set_option maxHeartbeats 4000000 in
set_option maxRecDepth 100000 in
theorem cW_foresee_2 {p : Program} {l : Launch} {e : Env} {s : State} {m : MethodId} {args : Array Value} {below : List Frame} {meth : Method} {c : Code} {k : KK} {f : Nat} {o : Unit} {mem' : Mem} (X : CX p s m args meth c k prog_1_method_41_code 3 "WallShifts") (hr : meth.sig.returnType = (Option.none : Option Jvm.ClassFile.FieldType)) : ∀ (n : Nat) (x1 : Int32) (x2 : Int32) (mem : Mem), dW_foresee_2 f n x1 x2 mem = some (o, mem') → V p l e (rmM 2 53) s m args below meth c 0 0 (MQ below (RQc k none mem') args s 0 0 (kA k)) k 3 mem 2 [(0, aR 0 0), (1, aI x1), (2, aI x2)] [] := by
  intro n
  induction n with
  | zero =>
    intro x1 x2 mem  h
    exact nomatch (show (none : Option (Unit × Mem)) = some _ from h)
  | succ n ih =>
    intro x1 x2 mem  h
    rw [dW_foresee_2] at h
    refine v_iload_n X (pc := 2) 2 rfl eW_foresee_2 rfl ?_
    refine v_iload_n X (pc := 3) 1 rfl eW_foresee_3 rfl ?_
    refine v_icmp_ge X (pc := 4) (tgt := 53) h eW_foresee_4 (by decide) (fun h => ?_) (fun h => ?_)
    · refine v_iload_n X (pc := 7) 2 rfl eW_foresee_7 rfl ?_
      refine v_aload_n X (pc := 8) 0 rfl eW_foresee_8 rfl ?_
      refine v_get X (pc := 9) 7 (a := aR 11 0) (by decide) (by decide) rfl rfl rfl in_WallShifts (by decide) qw_147 rfl eW_foresee_9 ?_
      refine v_alenI X (pc := 12) (v := (270 : Int32)) rfl (by decide) (by decide) rfl eW_foresee_12 ?_
      refine v_icmp_ge X (pc := 13) (tgt := 53) h eW_foresee_13 (by decide) (fun h => ?_) (fun h => ?_)
      · refine v_aload_n X (pc := 16) 0 rfl eW_foresee_16 rfl ?_
        refine v_get X (pc := 17) 7 (a := aR 11 0) (by decide) (by decide) rfl rfl rfl in_WallShifts (by decide) qw_147 rfl eW_foresee_17 ?_
        refine v_iload_n X (pc := 20) 2 rfl eW_foresee_20 rfl ?_
        refine v_aload_n X (pc := 21) 0 rfl eW_foresee_21 rfl ?_
        refine v_get X (pc := 22) 0 (a := aR 1 0) (by decide) (by decide) rfl rfl rfl in_WallShifts (by decide) qw_140 rfl eW_foresee_22 ?_
        refine v_aload_n X (pc := 25) 0 rfl eW_foresee_25 rfl ?_
        refine v_get X (pc := 26) 0 (a := aR 1 0) (by decide) (by decide) rfl rfl rfl in_WallShifts (by decide) qw_140 rfl eW_foresee_26 ?_
        refine v_get X (pc := 29) 0 (a := aI (gI mem 1 0 0)) (by decide) (by decide) rfl rfl rfl in_Palace (by decide) qw_71 rfl eW_foresee_29 ?_
        refine v_iload_n X (pc := 32) 2 rfl eW_foresee_32 rfl ?_
        refine v_iadd X (pc := 33) eW_foresee_33 ?_
        refine v_aload_n X (pc := 34) 0 rfl eW_foresee_34 rfl ?_
        refine v_get X (pc := 35) 0 (a := aR 1 0) (by decide) (by decide) rfl rfl rfl in_WallShifts (by decide) qw_140 rfl eW_foresee_35 ?_
        refine v_get X (pc := 38) 1 (a := aR 2 0) (by decide) (by decide) rfl rfl rfl in_Palace (by decide) qw_73 rfl eW_foresee_38 ?_
        refine v_iconst X (pc := 41) (v := (0 : Int32)) eW_foresee_41 (by decide) ?_
        refine v_ialdK X (pc := 42) (n := 4) 0 (by decide) (by decide) (by decide) (by decide) rfl eW_foresee_42 ?_
        obtain ⟨r1, m1, hc1, h⟩ := bd_some h
        refine v_callV X (pc := 43) [_, _] [_, _] ok_V_W_145 (cP_onDuty (by decide) hc1) rfl (Nat.le_of_ble_eq_true rfl) ⟨Nat.le_of_ble_eq_true rfl, Nat.le_of_ble_eq_true rfl⟩ ⟨Nat.zero_le _, Nat.zero_le _⟩ (by decide) (by decide) rfl rfl eW_foresee_43 ?_
        refine v_iast X (pc := 46) h (by decide) (by decide) (fun _ => rfl) eW_foresee_46 (fun h => ?_)
        refine v_iinc X (pc := 47) (v := (x2 + (1 : Int32))) (lv' := [(2, _), (0, _), (1, _)]) 2 rfl (by rfl) eW_foresee_47 (Nat.le_of_ble_eq_true rfl) rfl ?_
        refine v_goto X (pc := 50) (tgt := 2) eW_foresee_50 (by decide) ?_
        exact v_sub [1, 2, 0] rfl (ih _ _ _  h)
      · exact v_vret X (pc := 53) h hr eW_foresee_53
    · exact v_vret X (pc := 53) h hr eW_foresee_53
set_option maxHeartbeats 4000000 in
set_option maxRecDepth 100000 in
theorem cW_foresee {f : Nat} {a1 : Int32} {mem : Mem} {o : Unit} {mem' : Mem}  (h : dW_foresee f a1 mem = some (o, mem')) : RT yW_foresee prog_1_method_41_code 3 (Option.none : Option Jvm.ClassFile.FieldType) (rmM 2 53) [aR 0 0, aI a1] mem none mem' := by
  refine RT.of (by decide +kernel) (Nat.le_of_ble_eq_true rfl) (fun p l e s m args below meth c k X hr => ?_)
  replace X : CX p s m args meth c k prog_1_method_41_code 3 "WallShifts" := X
  unfold dW_foresee at h
  refine v_sub (lv' := [(0, _), (1, _)]) [0, 1] rfl ?_
  refine v_iconst X (pc := 0) (v := (0 : Int32)) eW_foresee_0 (by decide) ?_
  refine v_istore_n X (pc := 1) (lv' := [(2, _), (0, _), (1, _)]) eW_foresee_1 rfl (Nat.le_of_ble_eq_true rfl) rfl ?_
  exact v_sub [1, 2, 0] rfl (cW_foresee_2 X hr _ _ _ _  h)
set_option maxHeartbeats 4000000 in
set_option maxRecDepth 100000 in
theorem cW_firstSilence_55 {p : Program} {l : Launch} {e : Env} {s : State} {m : MethodId} {args : Array Value} {below : List Frame} {meth : Method} {c : Code} {k : KK} {f : Nat} {o : Int32} {mem' : Mem} (X : CX p s m args meth c k prog_1_method_44_code 6 "WallShifts") (hr : meth.sig.returnType = (Option.some Jvm.ClassFile.FieldType.int)) {k15 : Int32 → Int32 → Int32 → Int32 → Mem → Option (Int32 × Mem)} (hk15 : ∀ (x2 : Int32) (x3 : Int32) (x4 : Int32) (x5 : Int32) (mem : Mem), k15 x2 x3 x4 x5 mem = some (o, mem') → V p l e (rmM 3 70) s m args below meth c 0 0 (MQ below (RQc k (some (aI o)) mem') args s 0 0 (kA k)) k 6 mem 15 [(0, aR 0 0), (2, aI x2), (3, aI x3), (4, aI x4), (5, aI x5)] []) : ∀ (x2 : Int32) (x3 : Int32) (x5 : Int32) (s0 : Int32) (mem : Mem), dW_firstSilence_55 f k15 x2 x3 x5 s0 mem = some (o, mem') → V p l e (rmM 3 70) s m args below meth c 0 0 (MQ below (RQc k (some (aI o)) mem') args s 0 0 (kA k)) k 6 mem 55 [(0, aR 0 0), (2, aI x2), (3, aI x3), (5, aI x5)] [aI s0] := by
  intro x2 x3 x5 s0 mem  h
  unfold dW_firstSilence_55 at h
  refine v_istore X (pc := 55) (lv' := [(4, _), (0, _), (2, _), (3, _), (5, _)]) eW_firstSilence_55 (Nat.le_of_ble_eq_true rfl) rfl ?_
  refine v_iload X (pc := 57) 0 rfl eW_firstSilence_57 ?_
  refine v_iload_n X (pc := 59) 2 rfl eW_firstSilence_59 rfl ?_
  refine v_icmp_lt X (pc := 60) (tgt := 70) h eW_firstSilence_60 (by decide) (fun h => ?_) (fun h => ?_)
  · refine v_iinc X (pc := 70) (v := (x5 + (1 : Int32))) (lv' := [(5, _), (4, _), (0, _), (2, _), (3, _)]) 4 rfl (by rfl) eW_firstSilence_70 (Nat.le_of_ble_eq_true rfl) rfl ?_
    refine v_goto X (pc := 73) (tgt := 15) eW_firstSilence_73 (by decide) ?_
    exact v_sub [2, 3, 4, 1, 0] rfl (hk15 _ _ _ _ _  h)
  · refine v_iload X (pc := 63) 4 rfl eW_firstSilence_63 ?_
    refine v_iload_n X (pc := 65) 2 rfl eW_firstSilence_65 rfl ?_
    refine v_isub X (pc := 66) eW_firstSilence_66 ?_
    refine v_iconst X (pc := 67) (v := (1 : Int32)) eW_firstSilence_67 (by decide) ?_
    refine v_iadd X (pc := 68) eW_firstSilence_68 ?_
    exact v_iret X (pc := 69) h hr eW_firstSilence_69
set_option maxHeartbeats 4000000 in
set_option maxRecDepth 100000 in
theorem cW_firstSilence_15 {p : Program} {l : Launch} {e : Env} {s : State} {m : MethodId} {args : Array Value} {below : List Frame} {meth : Method} {c : Code} {k : KK} {f : Nat} {o : Int32} {mem' : Mem} (X : CX p s m args meth c k prog_1_method_44_code 6 "WallShifts") (hr : meth.sig.returnType = (Option.some Jvm.ClassFile.FieldType.int)) : ∀ (n : Nat) (x2 : Int32) (x3 : Int32) (x4 : Int32) (x5 : Int32) (mem : Mem), dW_firstSilence_15 f n x2 x3 x4 x5 mem = some (o, mem') → V p l e (rmM 3 70) s m args below meth c 0 0 (MQ below (RQc k (some (aI o)) mem') args s 0 0 (kA k)) k 6 mem 15 [(0, aR 0 0), (2, aI x2), (3, aI x3), (4, aI x4), (5, aI x5)] [] := by
  intro n
  induction n with
  | zero =>
    intro x2 x3 x4 x5 mem  h
    exact nomatch (show (none : Option (Int32 × Mem)) = some _ from h)
  | succ n ih =>
    intro x2 x3 x4 x5 mem  h
    rw [dW_firstSilence_15] at h
    refine v_iload X (pc := 15) 4 rfl eW_firstSilence_15 ?_
    refine v_sipush X (pc := 17) (v := (240 : Int32)) eW_firstSilence_17 (by decide) ?_
    refine v_iload_n X (pc := 20) 1 rfl eW_firstSilence_20 rfl ?_
    refine v_iadd X (pc := 21) eW_firstSilence_21 ?_
    refine v_icmp_ge X (pc := 22) (tgt := 76) h eW_firstSilence_22 (by decide) (fun h => ?_) (fun h => ?_)
    · refine v_iload X (pc := 25) 4 rfl eW_firstSilence_25 ?_
      refine v_aload_n X (pc := 27) 0 rfl eW_firstSilence_27 rfl ?_
      refine v_get X (pc := 28) 7 (a := aR 11 0) (by decide) (by decide) rfl rfl rfl in_WallShifts (by decide) qw_147 rfl eW_firstSilence_28 ?_
      refine v_alenI X (pc := 31) (v := (270 : Int32)) rfl (by decide) (by decide) rfl eW_firstSilence_31 ?_
      refine v_icmp_ge X (pc := 32) (tgt := 76) h eW_firstSilence_32 (by decide) (fun h => ?_) (fun h => ?_)
      · refine v_aload_n X (pc := 35) 0 rfl eW_firstSilence_35 rfl ?_
        refine v_get X (pc := 36) 7 (a := aR 11 0) (by decide) (by decide) rfl rfl rfl in_WallShifts (by decide) qw_147 rfl eW_firstSilence_36 ?_
        refine v_iload X (pc := 39) 4 rfl eW_firstSilence_39 ?_
        refine v_iald X (pc := 41) h (by decide) (by decide) rfl eW_firstSilence_41 (fun h => ?_)
        refine v_iload_n X (pc := 42) 2 rfl eW_firstSilence_42 rfl ?_
        refine v_iand X (pc := 43) eW_firstSilence_43 ?_
        refine v_if_ne X (pc := 44) (tgt := 54) h eW_firstSilence_44 (by decide) (fun h => ?_) (fun h => ?_)
        · refine v_iload X (pc := 47) 3 rfl eW_firstSilence_47 ?_
          refine v_iconst X (pc := 49) (v := (1 : Int32)) eW_firstSilence_49 (by decide) ?_
          refine v_iadd X (pc := 50) eW_firstSilence_50 ?_
          refine v_goto X (pc := 51) (tgt := 55) eW_firstSilence_51 (by decide) ?_
          exact v_sub [0, 1, 2, 4] rfl (cW_firstSilence_55 X hr ih _ _ _ _ _  h)
        · refine v_iconst X (pc := 54) (v := (0 : Int32)) eW_firstSilence_54 (by decide) ?_
          exact v_sub [0, 1, 2, 4] rfl (cW_firstSilence_55 X hr ih _ _ _ _ _  h)
      · refine v_iconst X (pc := 76) (v := (-1 : Int32)) eW_firstSilence_76 (by decide) ?_
        exact v_iret X (pc := 77) h hr eW_firstSilence_77
    · refine v_iconst X (pc := 76) (v := (-1 : Int32)) eW_firstSilence_76 (by decide) ?_
      exact v_iret X (pc := 77) h hr eW_firstSilence_77
set_option maxHeartbeats 4000000 in
set_option maxRecDepth 100000 in
theorem cW_firstSilence {f : Nat} {a1 : Int32} {a2 : Int32} {mem : Mem} {o : Int32} {mem' : Mem}  (h : dW_firstSilence f a1 a2 mem = some (o, mem')) : RT yW_firstSilence prog_1_method_44_code 6 (Option.some Jvm.ClassFile.FieldType.int) (rmM 3 70) [aR 0 0, aI a1, aI a2] mem (some (aI o)) mem' := by
  refine RT.of (by decide +kernel) (Nat.le_of_ble_eq_true rfl) (fun p l e s m args below meth c k X hr => ?_)
  replace X : CX p s m args meth c k prog_1_method_44_code 6 "WallShifts" := X
  unfold dW_firstSilence at h
  refine v_sub (lv' := [(0, _), (1, _), (2, _)]) [0, 1, 2] rfl ?_
  refine v_aload_n X (pc := 0) 0 rfl eW_firstSilence_0 rfl ?_
  refine v_get X (pc := 1) 0 (a := aR 1 0) (by decide) (by decide) rfl rfl rfl in_WallShifts (by decide) qw_140 rfl eW_firstSilence_1 ?_
  refine v_iload_n X (pc := 4) 1 rfl eW_firstSilence_4 rfl ?_
  obtain ⟨r1, m1, hc1, h⟩ := bd_some h
  refine v_callV X (pc := 5) [_] [] ok_V_W_119 (cP_near (by decide) hc1) rfl (Nat.le_of_ble_eq_true rfl) ⟨Nat.le_of_ble_eq_true rfl, Nat.le_of_ble_eq_true rfl⟩ ⟨Nat.zero_le _, Nat.zero_le _⟩ (by decide) (by decide) rfl rfl eW_firstSilence_5 ?_
  refine v_istore_n X (pc := 8) (lv' := [(3, _), (0, _), (1, _), (2, _)]) eW_firstSilence_8 rfl (Nat.le_of_ble_eq_true rfl) rfl ?_
  refine v_iconst X (pc := 9) (v := (0 : Int32)) eW_firstSilence_9 (by decide) ?_
  refine v_istore X (pc := 10) (lv' := [(4, _), (3, _), (0, _), (1, _), (2, _)]) eW_firstSilence_10 (Nat.le_of_ble_eq_true rfl) rfl ?_
  refine v_iconst X (pc := 12) (v := (0 : Int32)) eW_firstSilence_12 (by decide) ?_
  refine v_istore X (pc := 13) (lv' := [(5, _), (4, _), (3, _), (0, _), (1, _), (2, _)]) eW_firstSilence_13 (Nat.le_of_ble_eq_true rfl) rfl ?_
  exact v_sub [3, 5, 2, 1, 0] rfl (cW_firstSilence_15 X hr _ _ _ _ _ _  h)
set_option maxHeartbeats 4000000 in
set_option maxRecDepth 100000 in
theorem cW_safe {f : Nat} {a1 : Int32} {a2 : Int32} {mem : Mem} {o : Int32} {mem' : Mem}  (h : dW_safe f a1 a2 mem = some (o, mem')) : RT yW_safe prog_1_method_16_code 4 (Option.some Jvm.ClassFile.FieldType.int) (rmM 4 95) [aR 0 0, aI a1, aI a2] mem (some (aI o)) mem' := by
  refine RT.of (by decide +kernel) (Nat.le_of_ble_eq_true rfl) (fun p l e s m args below meth c k X hr => ?_)
  replace X : CX p s m args meth c k prog_1_method_16_code 4 "WallShifts" := X
  unfold dW_safe at h
  refine v_sub (lv' := [(0, _), (1, _), (2, _)]) [0, 1, 2] rfl ?_
  refine v_iload_n X (pc := 0) 1 rfl eW_safe_0 rfl ?_
  obtain ⟨r1, m1, hc1, h⟩ := bd_some h
  refine v_callS X (pc := 1) [_] [] ok_S_W_63 (cW_isRoom  hc1) rfl (Nat.le_of_ble_eq_true rfl) ⟨Nat.le_of_ble_eq_true rfl, Nat.le_of_ble_eq_true rfl⟩ ⟨Nat.zero_le _, Nat.zero_le _⟩ eW_safe_1 ?_
  refine v_if_eq X (pc := 4) (tgt := 17) h eW_safe_4 (by decide) (fun h => ?_) (fun h => ?_)
  · refine v_aload_n X (pc := 17) 0 rfl eW_safe_17 rfl ?_
    refine v_ldc X (pc := 18) qw_179 eW_safe_18 ?_
    obtain ⟨r2, m2, hc2, h⟩ := bd_some h
    refine v_callV X (pc := 20) [_] [] ok_V_W_52 (cW_finding  hc2) rfl (Nat.le_of_ble_eq_true rfl) ⟨Nat.le_of_ble_eq_true rfl, Nat.le_of_ble_eq_true rfl⟩ ⟨Nat.zero_le _, Nat.zero_le _⟩ (by decide) (by decide) rfl rfl eW_safe_20 ?_
    exact v_iret X (pc := 23) h hr eW_safe_23
  · refine v_iload_n X (pc := 7) 2 rfl eW_safe_7 rfl ?_
    refine v_iconst X (pc := 8) (v := (1 : Int32)) eW_safe_8 (by decide) ?_
    refine v_bipush X (pc := 9) (v := (30 : Int32)) eW_safe_9 (by decide) ?_
    obtain ⟨r3, m3, hc3, h⟩ := bd_some h
    refine v_callS X (pc := 11) [_, _, _] [] ok_S_W_82 (cW_isIn  hc3) rfl (Nat.le_of_ble_eq_true rfl) ⟨Nat.le_of_ble_eq_true rfl, Nat.le_of_ble_eq_true rfl⟩ ⟨Nat.zero_le _, Nat.zero_le _⟩ eW_safe_11 ?_
    refine v_if_ne X (pc := 14) (tgt := 24) h eW_safe_14 (by decide) (fun h => ?_) (fun h => ?_)
    · refine v_aload_n X (pc := 17) 0 rfl eW_safe_17 rfl ?_
      refine v_ldc X (pc := 18) qw_179 eW_safe_18 ?_
      obtain ⟨r4, m4, hc4, h⟩ := bd_some h
      refine v_callV X (pc := 20) [_] [] ok_V_W_52 (cW_finding  hc4) rfl (Nat.le_of_ble_eq_true rfl) ⟨Nat.le_of_ble_eq_true rfl, Nat.le_of_ble_eq_true rfl⟩ ⟨Nat.zero_le _, Nat.zero_le _⟩ (by decide) (by decide) rfl rfl eW_safe_20 ?_
      exact v_iret X (pc := 23) h hr eW_safe_23
    · refine v_aload_n X (pc := 24) 0 rfl eW_safe_24 rfl ?_
      refine v_sipush X (pc := 25) (v := (240 : Int32)) eW_safe_25 (by decide) ?_
      refine v_iload_n X (pc := 28) 2 rfl eW_safe_28 rfl ?_
      refine v_iadd X (pc := 29) eW_safe_29 ?_
      obtain ⟨r5, m5, hc5, h⟩ := bd_some h
      refine v_callV X (pc := 30) [_] [] ok_V_W_158 (cW_foresee  hc5) rfl (Nat.le_of_ble_eq_true rfl) ⟨Nat.le_of_ble_eq_true rfl, Nat.le_of_ble_eq_true rfl⟩ ⟨Nat.zero_le _, Nat.zero_le _⟩ (by decide) (by decide) rfl rfl eW_safe_30 ?_
      refine v_aload_n X (pc := 33) 0 rfl eW_safe_33 rfl ?_
      refine v_iload_n X (pc := 34) 1 rfl eW_safe_34 rfl ?_
      refine v_iload_n X (pc := 35) 2 rfl eW_safe_35 rfl ?_
      obtain ⟨r6, m6, hc6, h⟩ := bd_some h
      refine v_callV X (pc := 36) [_, _] [] ok_V_W_162 (cW_firstSilence  hc6) rfl (Nat.le_of_ble_eq_true rfl) ⟨Nat.le_of_ble_eq_true rfl, Nat.le_of_ble_eq_true rfl⟩ ⟨Nat.zero_le _, Nat.zero_le _⟩ (by decide) (by decide) rfl rfl eW_safe_36 ?_
      refine v_istore_n X (pc := 39) (lv' := [(3, _), (0, _), (1, _), (2, _)]) eW_safe_39 rfl (Nat.le_of_ble_eq_true rfl) rfl ?_
      refine v_iload_n X (pc := 40) 0 rfl eW_safe_40 rfl ?_
      refine v_if_ge X (pc := 41) (tgt := 53) h eW_safe_41 (by decide) (fun h => ?_) (fun h => ?_)
      · refine v_aload_n X (pc := 44) 1 rfl eW_safe_44 rfl ?_
        refine v_ldc X (pc := 45) qw_270 eW_safe_45 ?_
        obtain ⟨r7, m7, hc7, h⟩ := bd_some h
        refine v_callV X (pc := 47) [_] [] ok_V_W_52 (cW_finding  hc7) rfl (Nat.le_of_ble_eq_true rfl) ⟨Nat.le_of_ble_eq_true rfl, Nat.le_of_ble_eq_true rfl⟩ ⟨Nat.zero_le _, Nat.zero_le _⟩ (by decide) (by decide) rfl rfl eW_safe_47 ?_
        refine v_goto X (pc := 50) (tgt := 54) eW_safe_50 (by decide) ?_
        exact v_iret X (pc := 54) h hr eW_safe_54
      · refine v_iload_n X (pc := 53) 0 rfl eW_safe_53 rfl ?_
        exact v_iret X (pc := 54) h hr eW_safe_54
set_option maxHeartbeats 4000000 in
set_option maxRecDepth 100000 in
theorem cW_where_35 {p : Program} {l : Launch} {e : Env} {s : State} {m : MethodId} {args : Array Value} {below : List Frame} {meth : Method} {c : Code} {k : KK} {f : Nat} {o : Int32} {mem' : Mem} (X : CX p s m args meth c k prog_1_method_17_code 6 "WallShifts") (hr : meth.sig.returnType = (Option.some Jvm.ClassFile.FieldType.int)) : ∀ (n : Nat) (x1 : Int32) (x2 : Int32) (x3 : Int32) (x4 : Int32) (mem : Mem), dW_where_35 f n x1 x2 x3 x4 mem = some (o, mem') → V p l e (rmM 4 95) s m args below meth c 0 0 (MQ below (RQc k (some (aI o)) mem') args s 0 0 (kA k)) k 6 mem 35 [(0, aR 0 0), (1, aI x1), (2, aI x2), (3, aI x3), (4, aI x4)] [] := by
  intro n
  induction n with
  | zero =>
    intro x1 x2 x3 x4 mem  h
    exact nomatch (show (none : Option (Int32 × Mem)) = some _ from h)
  | succ n ih =>
    intro x1 x2 x3 x4 mem  h
    rw [dW_where_35] at h
    refine v_iload X (pc := 35) 4 rfl eW_where_35 ?_
    refine v_bipush X (pc := 37) (v := (10 : Int32)) eW_where_37 (by decide) ?_
    refine v_icmp_ge X (pc := 39) (tgt := 74) h eW_where_39 (by decide) (fun h => ?_) (fun h => ?_)
    · refine v_aload_n X (pc := 42) 0 rfl eW_where_42 rfl ?_
      refine v_iload X (pc := 43) 4 rfl eW_where_43 ?_
      refine v_iload_n X (pc := 45) 1 rfl eW_where_45 rfl ?_
      obtain ⟨r1, m1, hc1, h⟩ := bd_some h
      refine v_callV X (pc := 46) [_, _] [] ok_V_W_162 (cW_firstSilence  hc1) rfl (Nat.le_of_ble_eq_true rfl) ⟨Nat.le_of_ble_eq_true rfl, Nat.le_of_ble_eq_true rfl⟩ ⟨Nat.zero_le _, Nat.zero_le _⟩ (by decide) (by decide) rfl rfl eW_where_46 ?_
      refine v_istore X (pc := 49) (lv' := [(5, _), (0, _), (1, _), (2, _), (3, _), (4, _)]) eW_where_49 (Nat.le_of_ble_eq_true rfl) rfl ?_
      refine v_iload X (pc := 51) 0 rfl eW_where_51 ?_
      refine v_if_lt X (pc := 53) (tgt := 68) h eW_where_53 (by decide) (fun h => ?_) (fun h => ?_)
      · refine v_iinc X (pc := 68) (v := (x4 + (1 : Int32))) (lv' := [(4, _), (5, _), (0, _), (1, _), (2, _), (3, _)]) 5 rfl (by rfl) eW_where_68 (Nat.le_of_ble_eq_true rfl) rfl ?_
        refine v_goto X (pc := 71) (tgt := 35) eW_where_71 (by decide) ?_
        exact v_sub [2, 3, 4, 5, 0] rfl (ih _ _ _ _ _  h)
      · refine v_iload X (pc := 56) 0 rfl eW_where_56 ?_
        refine v_iload_n X (pc := 58) 3 rfl eW_where_58 rfl ?_
        refine v_icmp_ge X (pc := 59) (tgt := 68) h eW_where_59 (by decide) (fun h => ?_) (fun h => ?_)
        · refine v_iload X (pc := 62) 0 rfl eW_where_62 ?_
          refine v_istore_n X (pc := 64) (lv' := [(2, _), (5, _), (0, _), (1, _), (3, _), (4, _)]) eW_where_64 rfl (Nat.le_of_ble_eq_true rfl) rfl ?_
          refine v_iload X (pc := 65) 5 rfl eW_where_65 ?_
          refine v_istore_n X (pc := 67) (lv' := [(3, _), (2, _), (5, _), (0, _), (1, _), (4, _)]) eW_where_67 rfl (Nat.le_of_ble_eq_true rfl) rfl ?_
          refine v_iinc X (pc := 68) (v := (x4 + (1 : Int32))) (lv' := [(4, _), (3, _), (2, _), (5, _), (0, _), (1, _)]) 5 rfl (by rfl) eW_where_68 (Nat.le_of_ble_eq_true rfl) rfl ?_
          refine v_goto X (pc := 71) (tgt := 35) eW_where_71 (by decide) ?_
          exact v_sub [4, 5, 2, 1, 0] rfl (ih _ _ _ _ _  h)
        · refine v_iinc X (pc := 68) (v := (x4 + (1 : Int32))) (lv' := [(4, _), (5, _), (0, _), (1, _), (2, _), (3, _)]) 5 rfl (by rfl) eW_where_68 (Nat.le_of_ble_eq_true rfl) rfl ?_
          refine v_goto X (pc := 71) (tgt := 35) eW_where_71 (by decide) ?_
          exact v_sub [2, 3, 4, 5, 0] rfl (ih _ _ _ _ _  h)
    · refine v_iload_n X (pc := 74) 3 rfl eW_where_74 rfl ?_
      refine v_if_ge X (pc := 75) (tgt := 87) h eW_where_75 (by decide) (fun h => ?_) (fun h => ?_)
      · refine v_aload_n X (pc := 78) 0 rfl eW_where_78 rfl ?_
        refine v_ldc X (pc := 79) qw_270 eW_where_79 ?_
        obtain ⟨r2, m2, hc2, h⟩ := bd_some h
        refine v_callV X (pc := 81) [_] [] ok_V_W_52 (cW_finding  hc2) rfl (Nat.le_of_ble_eq_true rfl) ⟨Nat.le_of_ble_eq_true rfl, Nat.le_of_ble_eq_true rfl⟩ ⟨Nat.zero_le _, Nat.zero_le _⟩ (by decide) (by decide) rfl rfl eW_where_81 ?_
        refine v_goto X (pc := 84) (tgt := 88) eW_where_84 (by decide) ?_
        exact v_iret X (pc := 88) h hr eW_where_88
      · refine v_iload_n X (pc := 87) 3 rfl eW_where_87 rfl ?_
        exact v_iret X (pc := 88) h hr eW_where_88
set_option maxHeartbeats 4000000 in
set_option maxRecDepth 100000 in
theorem cW_where {f : Nat} {a1 : Int32} {mem : Mem} {o : Int32} {mem' : Mem}  (h : dW_where f a1 mem = some (o, mem')) : RT yW_where prog_1_method_17_code 6 (Option.some Jvm.ClassFile.FieldType.int) (rmM 4 95) [aR 0 0, aI a1] mem (some (aI o)) mem' := by
  refine RT.of (by decide +kernel) (Nat.le_of_ble_eq_true rfl) (fun p l e s m args below meth c k X hr => ?_)
  replace X : CX p s m args meth c k prog_1_method_17_code 6 "WallShifts" := X
  unfold dW_where at h
  refine v_sub (lv' := [(0, _), (1, _)]) [0, 1] rfl ?_
  refine v_iload_n X (pc := 0) 1 rfl eW_where_0 rfl ?_
  refine v_iconst X (pc := 1) (v := (1 : Int32)) eW_where_1 (by decide) ?_
  refine v_bipush X (pc := 2) (v := (30 : Int32)) eW_where_2 (by decide) ?_
  obtain ⟨r1, m1, hc1, h⟩ := bd_some h
  refine v_callS X (pc := 4) [_, _, _] [] ok_S_W_82 (cW_isIn  hc1) rfl (Nat.le_of_ble_eq_true rfl) ⟨Nat.le_of_ble_eq_true rfl, Nat.le_of_ble_eq_true rfl⟩ ⟨Nat.zero_le _, Nat.zero_le _⟩ eW_where_4 ?_
  refine v_if_ne X (pc := 7) (tgt := 17) h eW_where_7 (by decide) (fun h => ?_) (fun h => ?_)
  · refine v_aload_n X (pc := 10) 0 rfl eW_where_10 rfl ?_
    refine v_ldc X (pc := 11) qw_179 eW_where_11 ?_
    obtain ⟨r2, m2, hc2, h⟩ := bd_some h
    refine v_callV X (pc := 13) [_] [] ok_V_W_52 (cW_finding  hc2) rfl (Nat.le_of_ble_eq_true rfl) ⟨Nat.le_of_ble_eq_true rfl, Nat.le_of_ble_eq_true rfl⟩ ⟨Nat.zero_le _, Nat.zero_le _⟩ (by decide) (by decide) rfl rfl eW_where_13 ?_
    exact v_iret X (pc := 16) h hr eW_where_16
  · refine v_aload_n X (pc := 17) 0 rfl eW_where_17 rfl ?_
    refine v_sipush X (pc := 18) (v := (240 : Int32)) eW_where_18 (by decide) ?_
    refine v_iload_n X (pc := 21) 1 rfl eW_where_21 rfl ?_
    refine v_iadd X (pc := 22) eW_where_22 ?_
    obtain ⟨r3, m3, hc3, h⟩ := bd_some h
    refine v_callV X (pc := 23) [_] [] ok_V_W_158 (cW_foresee  hc3) rfl (Nat.le_of_ble_eq_true rfl) ⟨Nat.le_of_ble_eq_true rfl, Nat.le_of_ble_eq_true rfl⟩ ⟨Nat.zero_le _, Nat.zero_le _⟩ (by decide) (by decide) rfl rfl eW_where_23 ?_
    refine v_sipush X (pc := 26) (v := (241 : Int32)) eW_where_26 (by decide) ?_
    refine v_istore_n X (pc := 29) (lv' := [(2, _), (0, _), (1, _)]) eW_where_29 rfl (Nat.le_of_ble_eq_true rfl) rfl ?_
    refine v_iconst X (pc := 30) (v := (-1 : Int32)) eW_where_30 (by decide) ?_
    refine v_istore_n X (pc := 31) (lv' := [(3, _), (2, _), (0, _), (1, _)]) eW_where_31 rfl (Nat.le_of_ble_eq_true rfl) rfl ?_
    refine v_iconst X (pc := 32) (v := (0 : Int32)) eW_where_32 (by decide) ?_
    refine v_istore X (pc := 33) (lv' := [(4, _), (3, _), (2, _), (0, _), (1, _)]) eW_where_33 (Nat.le_of_ble_eq_true rfl) rfl ?_
    exact v_sub [3, 4, 2, 1, 0] rfl (cW_where_35 X hr _ _ _ _ _ _  h)
set_option maxHeartbeats 4000000 in
set_option maxRecDepth 100000 in
theorem cP_silentMinutes_6 {p : Program} {l : Launch} {e : Env} {s : State} {m : MethodId} {args : Array Value} {below : List Frame} {meth : Method} {c : Code} {k : KK} {f : Nat} {o : Int32} {mem' : Mem} (X : CX p s m args meth c k prog_2_method_10_code 6 "WallShifts$Palace") (hr : meth.sig.returnType = (Option.some Jvm.ClassFile.FieldType.int)) : ∀ (n : Nat) (q0 : Nat) (x1 : Int32) (x2 : Int32) (x3 : Int32) (x4 : Int32) (x5 : Int32) (mem : Mem), q0 < 3 → dP_silentMinutes_6 f n q0 x1 x2 x3 x4 x5 mem = some (o, mem') → V p l e (rmM 2 53) s m args below meth c 0 0 (MQ below (RQc k (some (aI o)) mem') args s 0 0 (kA k)) k 6 mem 6 [(0, aR 1 q0), (1, aI x1), (2, aI x2), (3, aI x3), (4, aI x4), (5, aI x5)] [] := by
  intro n
  induction n with
  | zero =>
    intro q0 x1 x2 x3 x4 x5 mem hq0 h
    exact nomatch (show (none : Option (Int32 × Mem)) = some _ from h)
  | succ n ih =>
    intro q0 x1 x2 x3 x4 x5 mem hq0 h
    rw [dP_silentMinutes_6] at h
    refine v_iload X (pc := 6) 5 rfl eP_silentMinutes_6 ?_
    refine v_iload_n X (pc := 8) 2 rfl eP_silentMinutes_8 rfl ?_
    refine v_icmp_ge X (pc := 9) (tgt := 45) h eP_silentMinutes_9 (by decide) (fun h => ?_) (fun h => ?_)
    · refine v_iload X (pc := 12) 4 rfl eP_silentMinutes_12 ?_
      refine v_aload_n X (pc := 14) 0 rfl eP_silentMinutes_14 rfl ?_
      refine v_aload_n X (pc := 15) 0 rfl eP_silentMinutes_15 rfl ?_
      refine v_get X (pc := 16) 0 (a := aI (gI mem 1 q0 0)) (by decide) hq0 rfl rfl rfl in_Palace (by decide) qw_70 rfl eP_silentMinutes_16 ?_
      refine v_iload X (pc := 19) 5 rfl eP_silentMinutes_19 ?_
      refine v_iadd X (pc := 21) eP_silentMinutes_21 ?_
      refine v_iload_n X (pc := 22) 3 rfl eP_silentMinutes_22 rfl ?_
      obtain ⟨r1, m1, hc1, h⟩ := bd_some h
      refine v_callV X (pc := 23) [_, _] [_] ok_V_P_36 (cP_onDuty hq0 hc1) rfl (Nat.le_of_ble_eq_true rfl) ⟨Nat.le_of_ble_eq_true rfl, Nat.le_of_ble_eq_true rfl⟩ ⟨Nat.zero_le _, Nat.zero_le _⟩ (by decide) hq0 rfl rfl eP_silentMinutes_23 ?_
      refine v_iload_n X (pc := 26) 1 rfl eP_silentMinutes_26 rfl ?_
      refine v_iand X (pc := 27) eP_silentMinutes_27 ?_
      refine v_if_ne X (pc := 28) (tgt := 35) h eP_silentMinutes_28 (by decide) (fun h => ?_) (fun h => ?_)
      · refine v_iconst X (pc := 31) (v := (1 : Int32)) eP_silentMinutes_31 (by decide) ?_
        refine v_goto X (pc := 32) (tgt := 36) eP_silentMinutes_32 (by decide) ?_
        refine v_iadd X (pc := 36) eP_silentMinutes_36 ?_
        refine v_istore X (pc := 37) (lv' := [(4, _), (0, _), (1, _), (2, _), (3, _), (5, _)]) eP_silentMinutes_37 (Nat.le_of_ble_eq_true rfl) rfl ?_
        refine v_iinc X (pc := 39) (v := (x5 + (1 : Int32))) (lv' := [(5, _), (4, _), (0, _), (1, _), (2, _), (3, _)]) 5 rfl (by rfl) eP_silentMinutes_39 (Nat.le_of_ble_eq_true rfl) rfl ?_
        refine v_goto X (pc := 42) (tgt := 6) eP_silentMinutes_42 (by decide) ?_
        exact v_sub [2, 3, 4, 5, 1, 0] rfl (ih _ _ _ _ _ _ _ hq0 h)
      · refine v_iconst X (pc := 35) (v := (0 : Int32)) eP_silentMinutes_35 (by decide) ?_
        refine v_iadd X (pc := 36) eP_silentMinutes_36 ?_
        refine v_istore X (pc := 37) (lv' := [(4, _), (0, _), (1, _), (2, _), (3, _), (5, _)]) eP_silentMinutes_37 (Nat.le_of_ble_eq_true rfl) rfl ?_
        refine v_iinc X (pc := 39) (v := (x5 + (1 : Int32))) (lv' := [(5, _), (4, _), (0, _), (1, _), (2, _), (3, _)]) 5 rfl (by rfl) eP_silentMinutes_39 (Nat.le_of_ble_eq_true rfl) rfl ?_
        refine v_goto X (pc := 42) (tgt := 6) eP_silentMinutes_42 (by decide) ?_
        exact v_sub [2, 3, 4, 5, 1, 0] rfl (ih _ _ _ _ _ _ _ hq0 h)
    · refine v_iload X (pc := 45) 4 rfl eP_silentMinutes_45 ?_
      exact v_iret X (pc := 47) h hr eP_silentMinutes_47
set_option maxHeartbeats 4000000 in
set_option maxRecDepth 100000 in
theorem cP_silentMinutes {f : Nat} {q0 : Nat} {a1 : Int32} {a2 : Int32} {a3 : Int32} {mem : Mem} {o : Int32} {mem' : Mem} (hq0 : q0 < 3) (h : dP_silentMinutes f q0 a1 a2 a3 mem = some (o, mem')) : RT yP_silentMinutes prog_2_method_10_code 6 (Option.some Jvm.ClassFile.FieldType.int) (rmM 2 53) [aR 1 q0, aI a1, aI a2, aI a3] mem (some (aI o)) mem' := by
  refine RT.of (by decide +kernel) (Nat.le_of_ble_eq_true rfl) (fun p l e s m args below meth c k X hr => ?_)
  replace X : CX p s m args meth c k prog_2_method_10_code 6 "WallShifts$Palace" := X
  unfold dP_silentMinutes at h
  refine v_sub (lv' := [(0, _), (1, _), (2, _), (3, _)]) [0, 1, 2, 3] rfl ?_
  refine v_iconst X (pc := 0) (v := (0 : Int32)) eP_silentMinutes_0 (by decide) ?_
  refine v_istore X (pc := 1) (lv' := [(4, _), (0, _), (1, _), (2, _), (3, _)]) eP_silentMinutes_1 (Nat.le_of_ble_eq_true rfl) rfl ?_
  refine v_iconst X (pc := 3) (v := (0 : Int32)) eP_silentMinutes_3 (by decide) ?_
  refine v_istore X (pc := 4) (lv' := [(5, _), (4, _), (0, _), (1, _), (2, _), (3, _)]) eP_silentMinutes_4 (Nat.le_of_ble_eq_true rfl) rfl ?_
  exact v_sub [2, 3, 4, 5, 1, 0] rfl (cP_silentMinutes_6 X hr _ _ _ _ _ _ _ _ hq0 h)
set_option maxHeartbeats 4000000 in
set_option maxRecDepth 100000 in
theorem cW_quiet {f : Nat} {a1 : Int32} {a2 : Int32} {mem : Mem} {o : Int32} {mem' : Mem}  (h : dW_quiet f a1 a2 mem = some (o, mem')) : RT yW_quiet prog_1_method_18_code 3 (Option.some Jvm.ClassFile.FieldType.int) (rmM 3 78) [aR 0 0, aI a1, aI a2] mem (some (aI o)) mem' := by
  refine RT.of (by decide +kernel) (Nat.le_of_ble_eq_true rfl) (fun p l e s m args below meth c k X hr => ?_)
  replace X : CX p s m args meth c k prog_1_method_18_code 3 "WallShifts" := X
  unfold dW_quiet at h
  refine v_sub (lv' := [(0, _), (1, _), (2, _)]) [0, 1, 2] rfl ?_
  refine v_iload_n X (pc := 0) 1 rfl eW_quiet_0 rfl ?_
  obtain ⟨r1, m1, hc1, h⟩ := bd_some h
  refine v_callS X (pc := 1) [_] [] ok_S_W_63 (cW_isRoom  hc1) rfl (Nat.le_of_ble_eq_true rfl) ⟨Nat.le_of_ble_eq_true rfl, Nat.le_of_ble_eq_true rfl⟩ ⟨Nat.zero_le _, Nat.zero_le _⟩ eW_quiet_1 ?_
  refine v_if_eq X (pc := 4) (tgt := 18) h eW_quiet_4 (by decide) (fun h => ?_) (fun h => ?_)
  · refine v_aload_n X (pc := 18) 0 rfl eW_quiet_18 rfl ?_
    refine v_ldc X (pc := 19) qw_179 eW_quiet_19 ?_
    obtain ⟨r2, m2, hc2, h⟩ := bd_some h
    refine v_callV X (pc := 21) [_] [] ok_V_W_52 (cW_finding  hc2) rfl (Nat.le_of_ble_eq_true rfl) ⟨Nat.le_of_ble_eq_true rfl, Nat.le_of_ble_eq_true rfl⟩ ⟨Nat.zero_le _, Nat.zero_le _⟩ (by decide) (by decide) rfl rfl eW_quiet_21 ?_
    exact v_iret X (pc := 24) h hr eW_quiet_24
  · refine v_iload_n X (pc := 7) 2 rfl eW_quiet_7 rfl ?_
    refine v_iconst X (pc := 8) (v := (1 : Int32)) eW_quiet_8 (by decide) ?_
    refine v_sipush X (pc := 9) (v := (240 : Int32)) eW_quiet_9 (by decide) ?_
    obtain ⟨r3, m3, hc3, h⟩ := bd_some h
    refine v_callS X (pc := 12) [_, _, _] [] ok_S_W_82 (cW_isIn  hc3) rfl (Nat.le_of_ble_eq_true rfl) ⟨Nat.le_of_ble_eq_true rfl, Nat.le_of_ble_eq_true rfl⟩ ⟨Nat.zero_le _, Nat.zero_le _⟩ eW_quiet_12 ?_
    refine v_if_ne X (pc := 15) (tgt := 25) h eW_quiet_15 (by decide) (fun h => ?_) (fun h => ?_)
    · refine v_aload_n X (pc := 18) 0 rfl eW_quiet_18 rfl ?_
      refine v_ldc X (pc := 19) qw_179 eW_quiet_19 ?_
      obtain ⟨r4, m4, hc4, h⟩ := bd_some h
      refine v_callV X (pc := 21) [_] [] ok_V_W_52 (cW_finding  hc4) rfl (Nat.le_of_ble_eq_true rfl) ⟨Nat.le_of_ble_eq_true rfl, Nat.le_of_ble_eq_true rfl⟩ ⟨Nat.zero_le _, Nat.zero_le _⟩ (by decide) (by decide) rfl rfl eW_quiet_21 ?_
      exact v_iret X (pc := 24) h hr eW_quiet_24
    · refine v_aload_n X (pc := 25) 0 rfl eW_quiet_25 rfl ?_
      refine v_get X (pc := 26) 0 (a := aR 1 0) (by decide) (by decide) rfl rfl rfl in_WallShifts (by decide) qw_140 rfl eW_quiet_26 ?_
      refine v_aload_n X (pc := 29) 0 rfl eW_quiet_29 rfl ?_
      refine v_get X (pc := 30) 0 (a := aR 1 0) (by decide) (by decide) rfl rfl rfl in_WallShifts (by decide) qw_140 rfl eW_quiet_30 ?_
      refine v_iload_n X (pc := 33) 1 rfl eW_quiet_33 rfl ?_
      obtain ⟨r5, m5, hc5, h⟩ := bd_some h
      refine v_callV X (pc := 34) [_] [_] ok_V_W_119 (cP_near (by decide) hc5) rfl (Nat.le_of_ble_eq_true rfl) ⟨Nat.le_of_ble_eq_true rfl, Nat.le_of_ble_eq_true rfl⟩ ⟨Nat.zero_le _, Nat.zero_le _⟩ (by decide) (by decide) rfl rfl eW_quiet_34 ?_
      refine v_iload_n X (pc := 37) 2 rfl eW_quiet_37 rfl ?_
      refine v_aload_n X (pc := 38) 0 rfl eW_quiet_38 rfl ?_
      refine v_get X (pc := 39) 0 (a := aR 1 0) (by decide) (by decide) rfl rfl rfl in_WallShifts (by decide) qw_140 rfl eW_quiet_39 ?_
      refine v_get X (pc := 42) 1 (a := aR 2 0) (by decide) (by decide) rfl rfl rfl in_Palace (by decide) qw_73 rfl eW_quiet_42 ?_
      refine v_iconst X (pc := 45) (v := (0 : Int32)) eW_quiet_45 (by decide) ?_
      refine v_ialdK X (pc := 46) (n := 4) 0 (by decide) (by decide) (by decide) (by decide) rfl eW_quiet_46 ?_
      obtain ⟨r6, m6, hc6, h⟩ := bd_some h
      refine v_callV X (pc := 47) [_, _, _] [] ok_V_W_165 (cP_silentMinutes (by decide) hc6) rfl (Nat.le_of_ble_eq_true rfl) ⟨Nat.le_of_ble_eq_true rfl, Nat.le_of_ble_eq_true rfl⟩ ⟨Nat.zero_le _, Nat.zero_le _⟩ (by decide) (by decide) rfl rfl eW_quiet_47 ?_
      exact v_iret X (pc := 50) h hr eW_quiet_50
set_option maxHeartbeats 4000000 in
set_option maxRecDepth 100000 in
theorem cW_minutesAlone_6 {p : Program} {l : Launch} {e : Env} {s : State} {m : MethodId} {args : Array Value} {below : List Frame} {meth : Method} {c : Code} {k : KK} {f : Nat} {o : Int32} {mem' : Mem} (X : CX p s m args meth c k prog_1_method_42_code 6 "WallShifts") (hr : meth.sig.returnType = (Option.some Jvm.ClassFile.FieldType.int)) : ∀ (n : Nat) (x1 : Int32) (x2 : Int32) (x3 : Int32) (x4 : Int32) (x5 : Int32) (mem : Mem), dW_minutesAlone_6 f n x1 x2 x3 x4 x5 mem = some (o, mem') → V p l e (rmM 0 0) s m args below meth c 0 0 (MQ below (RQc k (some (aI o)) mem') args s 0 0 (kA k)) k 6 mem 6 [(0, aR 0 0), (1, aI x1), (2, aI x2), (3, aI x3), (4, aI x4), (5, aI x5)] [] := by
  intro n
  induction n with
  | zero =>
    intro x1 x2 x3 x4 x5 mem  h
    exact nomatch (show (none : Option (Int32 × Mem)) = some _ from h)
  | succ n ih =>
    intro x1 x2 x3 x4 x5 mem  h
    rw [dW_minutesAlone_6] at h
    refine v_iload X (pc := 6) 5 rfl eW_minutesAlone_6 ?_
    refine v_iload_n X (pc := 8) 3 rfl eW_minutesAlone_8 rfl ?_
    refine v_icmp_ge X (pc := 9) (tgt := 51) h eW_minutesAlone_9 (by decide) (fun h => ?_) (fun h => ?_)
    · refine v_iload X (pc := 12) 5 rfl eW_minutesAlone_12 ?_
      refine v_aload_n X (pc := 14) 0 rfl eW_minutesAlone_14 rfl ?_
      refine v_get X (pc := 15) 7 (a := aR 11 0) (by decide) (by decide) rfl rfl rfl in_WallShifts (by decide) qw_147 rfl eW_minutesAlone_15 ?_
      refine v_alenI X (pc := 18) (v := (270 : Int32)) rfl (by decide) (by decide) rfl eW_minutesAlone_18 ?_
      refine v_icmp_ge X (pc := 19) (tgt := 51) h eW_minutesAlone_19 (by decide) (fun h => ?_) (fun h => ?_)
      · refine v_iload X (pc := 22) 4 rfl eW_minutesAlone_22 ?_
        refine v_aload_n X (pc := 24) 0 rfl eW_minutesAlone_24 rfl ?_
        refine v_get X (pc := 25) 7 (a := aR 11 0) (by decide) (by decide) rfl rfl rfl in_WallShifts (by decide) qw_147 rfl eW_minutesAlone_25 ?_
        refine v_iload X (pc := 28) 5 rfl eW_minutesAlone_28 ?_
        refine v_iald X (pc := 30) h (by decide) (by decide) rfl eW_minutesAlone_30 (fun h => ?_)
        refine v_iload_n X (pc := 31) 2 rfl eW_minutesAlone_31 rfl ?_
        refine v_iand X (pc := 32) eW_minutesAlone_32 ?_
        refine v_iload_n X (pc := 33) 1 rfl eW_minutesAlone_33 rfl ?_
        refine v_icmp_ne X (pc := 34) (tgt := 41) h eW_minutesAlone_34 (by decide) (fun h => ?_) (fun h => ?_)
        · refine v_iconst X (pc := 37) (v := (1 : Int32)) eW_minutesAlone_37 (by decide) ?_
          refine v_goto X (pc := 38) (tgt := 42) eW_minutesAlone_38 (by decide) ?_
          refine v_iadd X (pc := 42) eW_minutesAlone_42 ?_
          refine v_istore X (pc := 43) (lv' := [(4, _), (0, _), (1, _), (2, _), (3, _), (5, _)]) eW_minutesAlone_43 (Nat.le_of_ble_eq_true rfl) rfl ?_
          refine v_iinc X (pc := 45) (v := (x5 + (1 : Int32))) (lv' := [(5, _), (4, _), (0, _), (1, _), (2, _), (3, _)]) 5 rfl (by rfl) eW_minutesAlone_45 (Nat.le_of_ble_eq_true rfl) rfl ?_
          refine v_goto X (pc := 48) (tgt := 6) eW_minutesAlone_48 (by decide) ?_
          exact v_sub [2, 3, 4, 5, 1, 0] rfl (ih _ _ _ _ _ _  h)
        · refine v_iconst X (pc := 41) (v := (0 : Int32)) eW_minutesAlone_41 (by decide) ?_
          refine v_iadd X (pc := 42) eW_minutesAlone_42 ?_
          refine v_istore X (pc := 43) (lv' := [(4, _), (0, _), (1, _), (2, _), (3, _), (5, _)]) eW_minutesAlone_43 (Nat.le_of_ble_eq_true rfl) rfl ?_
          refine v_iinc X (pc := 45) (v := (x5 + (1 : Int32))) (lv' := [(5, _), (4, _), (0, _), (1, _), (2, _), (3, _)]) 5 rfl (by rfl) eW_minutesAlone_45 (Nat.le_of_ble_eq_true rfl) rfl ?_
          refine v_goto X (pc := 48) (tgt := 6) eW_minutesAlone_48 (by decide) ?_
          exact v_sub [2, 3, 4, 5, 1, 0] rfl (ih _ _ _ _ _ _  h)
      · refine v_iload X (pc := 51) 4 rfl eW_minutesAlone_51 ?_
        exact v_iret X (pc := 53) h hr eW_minutesAlone_53
    · refine v_iload X (pc := 51) 4 rfl eW_minutesAlone_51 ?_
      exact v_iret X (pc := 53) h hr eW_minutesAlone_53
set_option maxHeartbeats 4000000 in
set_option maxRecDepth 100000 in
theorem cW_minutesAlone {f : Nat} {a1 : Int32} {a2 : Int32} {a3 : Int32} {mem : Mem} {o : Int32} {mem' : Mem}  (h : dW_minutesAlone f a1 a2 a3 mem = some (o, mem')) : RT yW_minutesAlone prog_1_method_42_code 6 (Option.some Jvm.ClassFile.FieldType.int) (rmM 0 0) [aR 0 0, aI a1, aI a2, aI a3] mem (some (aI o)) mem' := by
  refine RT.of (by decide +kernel) (Nat.le_of_ble_eq_true rfl) (fun p l e s m args below meth c k X hr => ?_)
  replace X : CX p s m args meth c k prog_1_method_42_code 6 "WallShifts" := X
  unfold dW_minutesAlone at h
  refine v_sub (lv' := [(0, _), (1, _), (2, _), (3, _)]) [0, 1, 2, 3] rfl ?_
  refine v_iconst X (pc := 0) (v := (0 : Int32)) eW_minutesAlone_0 (by decide) ?_
  refine v_istore X (pc := 1) (lv' := [(4, _), (0, _), (1, _), (2, _), (3, _)]) eW_minutesAlone_1 (Nat.le_of_ble_eq_true rfl) rfl ?_
  refine v_iconst X (pc := 3) (v := (0 : Int32)) eW_minutesAlone_3 (by decide) ?_
  refine v_istore X (pc := 4) (lv' := [(5, _), (4, _), (0, _), (1, _), (2, _), (3, _)]) eW_minutesAlone_4 (Nat.le_of_ble_eq_true rfl) rfl ?_
  exact v_sub [2, 3, 4, 5, 1, 0] rfl (cW_minutesAlone_6 X hr _ _ _ _ _ _ _  h)
set_option maxHeartbeats 4000000 in
set_option maxRecDepth 100000 in
theorem cW_worst_48 {p : Program} {l : Launch} {e : Env} {s : State} {m : MethodId} {args : Array Value} {below : List Frame} {meth : Method} {c : Code} {k : KK} {f : Nat} {o : Int32} {mem' : Mem} (X : CX p s m args meth c k prog_1_method_19_code 8 "WallShifts") (hr : meth.sig.returnType = (Option.some Jvm.ClassFile.FieldType.int)) : ∀ (n : Nat) (x2 : Int32) (x3 : Int32) (x4 : Int32) (x5 : Int32) (x6 : Int32) (mem : Mem), dW_worst_48 f n x2 x3 x4 x5 x6 mem = some (o, mem') → V p l e (rmM 3 75) s m args below meth c 0 0 (MQ below (RQc k (some (aI o)) mem') args s 0 0 (kA k)) k 8 mem 48 [(0, aR 0 0), (2, aI x2), (3, aI x3), (4, aI x4), (5, aI x5), (6, aI x6)] [] := by
  intro n
  induction n with
  | zero =>
    intro x2 x3 x4 x5 x6 mem  h
    exact nomatch (show (none : Option (Int32 × Mem)) = some _ from h)
  | succ n ih =>
    intro x2 x3 x4 x5 x6 mem  h
    rw [dW_worst_48] at h
    refine v_iload X (pc := 48) 5 rfl eW_worst_48 ?_
    refine v_aload_n X (pc := 50) 0 rfl eW_worst_50 rfl ?_
    refine v_get X (pc := 51) 0 (a := aR 1 0) (by decide) (by decide) rfl rfl rfl in_WallShifts (by decide) qw_140 rfl eW_worst_51 ?_
    refine v_get X (pc := 54) 2 (a := aI (gI mem 1 0 2)) (by decide) (by decide) rfl rfl rfl in_Palace (by decide) qw_76 rfl eW_worst_54 ?_
    refine v_icmp_ge X (pc := 57) (tgt := 93) h eW_worst_57 (by decide) (fun h => ?_) (fun h => ?_)
    · refine v_aload_n X (pc := 60) 0 rfl eW_worst_60 rfl ?_
      refine v_iconst X (pc := 61) (v := (1 : Int32)) eW_worst_61 (by decide) ?_
      refine v_iload X (pc := 62) 5 rfl eW_worst_62 ?_
      refine v_ishl X (pc := 64) eW_worst_64 ?_
      refine v_iload_n X (pc := 65) 2 rfl eW_worst_65 rfl ?_
      refine v_iload_n X (pc := 66) 1 rfl eW_worst_66 rfl ?_
      obtain ⟨r1, m1, hc1, h⟩ := bd_some h
      refine v_callV X (pc := 67) [_, _, _] [] ok_V_W_171 (cW_minutesAlone  hc1) rfl (Nat.le_of_ble_eq_true rfl) ⟨Nat.le_of_ble_eq_true rfl, Nat.le_of_ble_eq_true rfl⟩ ⟨Nat.zero_le _, Nat.zero_le _⟩ (by decide) (by decide) rfl rfl eW_worst_67 ?_
      refine v_istore X (pc := 70) (lv' := [(7, _), (0, _), (2, _), (3, _), (4, _), (5, _), (6, _)]) eW_worst_70 (Nat.le_of_ble_eq_true rfl) rfl ?_
      refine v_iload X (pc := 72) 0 rfl eW_worst_72 ?_
      refine v_iload X (pc := 74) 4 rfl eW_worst_74 ?_
      refine v_icmp_le X (pc := 76) (tgt := 87) h eW_worst_76 (by decide) (fun h => ?_) (fun h => ?_)
      · refine v_iload X (pc := 79) 0 rfl eW_worst_79 ?_
        refine v_istore X (pc := 81) (lv' := [(4, _), (7, _), (0, _), (2, _), (3, _), (5, _), (6, _)]) eW_worst_81 (Nat.le_of_ble_eq_true rfl) rfl ?_
        refine v_iload X (pc := 83) 6 rfl eW_worst_83 ?_
        refine v_istore X (pc := 85) (lv' := [(5, _), (4, _), (7, _), (0, _), (2, _), (3, _), (6, _)]) eW_worst_85 (Nat.le_of_ble_eq_true rfl) rfl ?_
        refine v_iinc X (pc := 87) (v := (x6 + (1 : Int32))) (lv' := [(6, _), (5, _), (4, _), (7, _), (0, _), (2, _), (3, _)]) 6 rfl (by rfl) eW_worst_87 (Nat.le_of_ble_eq_true rfl) rfl ?_
        refine v_goto X (pc := 90) (tgt := 48) eW_worst_90 (by decide) ?_
        exact v_sub [4, 5, 6, 2, 1, 0] rfl (ih _ _ _ _ _ _  h)
      · refine v_iinc X (pc := 87) (v := (x6 + (1 : Int32))) (lv' := [(6, _), (7, _), (0, _), (2, _), (3, _), (4, _), (5, _)]) 6 rfl (by rfl) eW_worst_87 (Nat.le_of_ble_eq_true rfl) rfl ?_
        refine v_goto X (pc := 90) (tgt := 48) eW_worst_90 (by decide) ?_
        exact v_sub [2, 3, 4, 5, 6, 0] rfl (ih _ _ _ _ _ _  h)
    · refine v_iload X (pc := 93) 4 rfl eW_worst_93 ?_
      refine v_if_ge X (pc := 95) (tgt := 107) h eW_worst_95 (by decide) (fun h => ?_) (fun h => ?_)
      · refine v_aload_n X (pc := 98) 0 rfl eW_worst_98 rfl ?_
        refine v_ldc X (pc := 99) qw_270 eW_worst_99 ?_
        obtain ⟨r2, m2, hc2, h⟩ := bd_some h
        refine v_callV X (pc := 101) [_] [] ok_V_W_52 (cW_finding  hc2) rfl (Nat.le_of_ble_eq_true rfl) ⟨Nat.le_of_ble_eq_true rfl, Nat.le_of_ble_eq_true rfl⟩ ⟨Nat.zero_le _, Nat.zero_le _⟩ (by decide) (by decide) rfl rfl eW_worst_101 ?_
        refine v_goto X (pc := 104) (tgt := 109) eW_worst_104 (by decide) ?_
        exact v_iret X (pc := 109) h hr eW_worst_109
      · refine v_iload X (pc := 107) 4 rfl eW_worst_107 ?_
        exact v_iret X (pc := 109) h hr eW_worst_109
set_option maxHeartbeats 4000000 in
set_option maxRecDepth 100000 in
theorem cW_worst {f : Nat} {a1 : Int32} {a2 : Int32} {mem : Mem} {o : Int32} {mem' : Mem}  (h : dW_worst f a1 a2 mem = some (o, mem')) : RT yW_worst prog_1_method_19_code 8 (Option.some Jvm.ClassFile.FieldType.int) (rmM 3 75) [aR 0 0, aI a1, aI a2] mem (some (aI o)) mem' := by
  refine RT.of (by decide +kernel) (Nat.le_of_ble_eq_true rfl) (fun p l e s m args below meth c k X hr => ?_)
  replace X : CX p s m args meth c k prog_1_method_19_code 8 "WallShifts" := X
  unfold dW_worst at h
  refine v_sub (lv' := [(0, _), (1, _), (2, _)]) [0, 1, 2] rfl ?_
  refine v_iload_n X (pc := 0) 1 rfl eW_worst_0 rfl ?_
  obtain ⟨r1, m1, hc1, h⟩ := bd_some h
  refine v_callS X (pc := 1) [_] [] ok_S_W_63 (cW_isRoom  hc1) rfl (Nat.le_of_ble_eq_true rfl) ⟨Nat.le_of_ble_eq_true rfl, Nat.le_of_ble_eq_true rfl⟩ ⟨Nat.zero_le _, Nat.zero_le _⟩ eW_worst_1 ?_
  refine v_if_eq X (pc := 4) (tgt := 18) h eW_worst_4 (by decide) (fun h => ?_) (fun h => ?_)
  · refine v_aload_n X (pc := 18) 0 rfl eW_worst_18 rfl ?_
    refine v_ldc X (pc := 19) qw_179 eW_worst_19 ?_
    obtain ⟨r2, m2, hc2, h⟩ := bd_some h
    refine v_callV X (pc := 21) [_] [] ok_V_W_52 (cW_finding  hc2) rfl (Nat.le_of_ble_eq_true rfl) ⟨Nat.le_of_ble_eq_true rfl, Nat.le_of_ble_eq_true rfl⟩ ⟨Nat.zero_le _, Nat.zero_le _⟩ (by decide) (by decide) rfl rfl eW_worst_21 ?_
    exact v_iret X (pc := 24) h hr eW_worst_24
  · refine v_iload_n X (pc := 7) 2 rfl eW_worst_7 rfl ?_
    refine v_iconst X (pc := 8) (v := (1 : Int32)) eW_worst_8 (by decide) ?_
    refine v_sipush X (pc := 9) (v := (240 : Int32)) eW_worst_9 (by decide) ?_
    obtain ⟨r3, m3, hc3, h⟩ := bd_some h
    refine v_callS X (pc := 12) [_, _, _] [] ok_S_W_82 (cW_isIn  hc3) rfl (Nat.le_of_ble_eq_true rfl) ⟨Nat.le_of_ble_eq_true rfl, Nat.le_of_ble_eq_true rfl⟩ ⟨Nat.zero_le _, Nat.zero_le _⟩ eW_worst_12 ?_
    refine v_if_ne X (pc := 15) (tgt := 25) h eW_worst_15 (by decide) (fun h => ?_) (fun h => ?_)
    · refine v_aload_n X (pc := 18) 0 rfl eW_worst_18 rfl ?_
      refine v_ldc X (pc := 19) qw_179 eW_worst_19 ?_
      obtain ⟨r4, m4, hc4, h⟩ := bd_some h
      refine v_callV X (pc := 21) [_] [] ok_V_W_52 (cW_finding  hc4) rfl (Nat.le_of_ble_eq_true rfl) ⟨Nat.le_of_ble_eq_true rfl, Nat.le_of_ble_eq_true rfl⟩ ⟨Nat.zero_le _, Nat.zero_le _⟩ (by decide) (by decide) rfl rfl eW_worst_21 ?_
      exact v_iret X (pc := 24) h hr eW_worst_24
    · refine v_aload_n X (pc := 25) 0 rfl eW_worst_25 rfl ?_
      refine v_iload_n X (pc := 26) 2 rfl eW_worst_26 rfl ?_
      obtain ⟨r5, m5, hc5, h⟩ := bd_some h
      refine v_callV X (pc := 27) [_] [] ok_V_W_158 (cW_foresee  hc5) rfl (Nat.le_of_ble_eq_true rfl) ⟨Nat.le_of_ble_eq_true rfl, Nat.le_of_ble_eq_true rfl⟩ ⟨Nat.zero_le _, Nat.zero_le _⟩ (by decide) (by decide) rfl rfl eW_worst_27 ?_
      refine v_aload_n X (pc := 30) 0 rfl eW_worst_30 rfl ?_
      refine v_get X (pc := 31) 0 (a := aR 1 0) (by decide) (by decide) rfl rfl rfl in_WallShifts (by decide) qw_140 rfl eW_worst_31 ?_
      refine v_iload_n X (pc := 34) 1 rfl eW_worst_34 rfl ?_
      obtain ⟨r6, m6, hc6, h⟩ := bd_some h
      refine v_callV X (pc := 35) [_] [] ok_V_W_119 (cP_near (by decide) hc6) rfl (Nat.le_of_ble_eq_true rfl) ⟨Nat.le_of_ble_eq_true rfl, Nat.le_of_ble_eq_true rfl⟩ ⟨Nat.zero_le _, Nat.zero_le _⟩ (by decide) (by decide) rfl rfl eW_worst_35 ?_
      refine v_istore_n X (pc := 38) (lv' := [(3, _), (0, _), (1, _), (2, _)]) eW_worst_38 rfl (Nat.le_of_ble_eq_true rfl) rfl ?_
      refine v_iconst X (pc := 39) (v := (0 : Int32)) eW_worst_39 (by decide) ?_
      refine v_istore X (pc := 40) (lv' := [(4, _), (3, _), (0, _), (1, _), (2, _)]) eW_worst_40 (Nat.le_of_ble_eq_true rfl) rfl ?_
      refine v_iconst X (pc := 42) (v := (-1 : Int32)) eW_worst_42 (by decide) ?_
      refine v_istore X (pc := 43) (lv' := [(5, _), (4, _), (3, _), (0, _), (1, _), (2, _)]) eW_worst_43 (Nat.le_of_ble_eq_true rfl) rfl ?_
      refine v_iconst X (pc := 45) (v := (0 : Int32)) eW_worst_45 (by decide) ?_
      refine v_istore X (pc := 46) (lv' := [(6, _), (5, _), (4, _), (3, _), (0, _), (1, _), (2, _)]) eW_worst_46 (Nat.le_of_ble_eq_true rfl) rfl ?_
      exact v_sub [4, 6, 3, 2, 1, 0] rfl (cW_worst_48 X hr _ _ _ _ _ _ _  h)
set_option maxHeartbeats 4000000 in
set_option maxRecDepth 100000 in
theorem cW_hearsAlways_2 {p : Program} {l : Launch} {e : Env} {s : State} {m : MethodId} {args : Array Value} {below : List Frame} {meth : Method} {c : Code} {k : KK} {f : Nat} {o : Int32} {mem' : Mem} (X : CX p s m args meth c k prog_1_method_43_code 4 "WallShifts") (hr : meth.sig.returnType = (Option.some Jvm.ClassFile.FieldType.boolean)) : ∀ (n : Nat) (x1 : Int32) (x2 : Int32) (x3 : Int32) (mem : Mem), dW_hearsAlways_2 f n x1 x2 x3 mem = some (o, mem') → V p l e (rmM 0 0) s m args below meth c 0 0 (MQ below (RQc k (some (aI o)) mem') args s 0 0 (kA k)) k 4 mem 2 [(0, aR 0 0), (1, aI x1), (2, aI x2), (3, aI x3)] [] := by
  intro n
  induction n with
  | zero =>
    intro x1 x2 x3 mem  h
    exact nomatch (show (none : Option (Int32 × Mem)) = some _ from h)
  | succ n ih =>
    intro x1 x2 x3 mem  h
    rw [dW_hearsAlways_2] at h
    refine v_iload_n X (pc := 2) 3 rfl eW_hearsAlways_2 rfl ?_
    refine v_iload_n X (pc := 3) 2 rfl eW_hearsAlways_3 rfl ?_
    refine v_icmp_ge X (pc := 4) (tgt := 35) h eW_hearsAlways_4 (by decide) (fun h => ?_) (fun h => ?_)
    · refine v_iload_n X (pc := 7) 3 rfl eW_hearsAlways_7 rfl ?_
      refine v_aload_n X (pc := 8) 0 rfl eW_hearsAlways_8 rfl ?_
      refine v_get X (pc := 9) 7 (a := aR 11 0) (by decide) (by decide) rfl rfl rfl in_WallShifts (by decide) qw_147 rfl eW_hearsAlways_9 ?_
      refine v_alenI X (pc := 12) (v := (270 : Int32)) rfl (by decide) (by decide) rfl eW_hearsAlways_12 ?_
      refine v_icmp_ge X (pc := 13) (tgt := 35) h eW_hearsAlways_13 (by decide) (fun h => ?_) (fun h => ?_)
      · refine v_aload_n X (pc := 16) 0 rfl eW_hearsAlways_16 rfl ?_
        refine v_get X (pc := 17) 7 (a := aR 11 0) (by decide) (by decide) rfl rfl rfl in_WallShifts (by decide) qw_147 rfl eW_hearsAlways_17 ?_
        refine v_iload_n X (pc := 20) 3 rfl eW_hearsAlways_20 rfl ?_
        refine v_iald X (pc := 21) h (by decide) (by decide) rfl eW_hearsAlways_21 (fun h => ?_)
        refine v_iload_n X (pc := 22) 1 rfl eW_hearsAlways_22 rfl ?_
        refine v_iand X (pc := 23) eW_hearsAlways_23 ?_
        refine v_if_ne X (pc := 24) (tgt := 29) h eW_hearsAlways_24 (by decide) (fun h => ?_) (fun h => ?_)
        · refine v_iconst X (pc := 27) (v := (0 : Int32)) eW_hearsAlways_27 (by decide) ?_
          exact v_zret X (pc := 28) h hr rfl eW_hearsAlways_28
        · refine v_iinc X (pc := 29) (v := (x3 + (1 : Int32))) (lv' := [(3, _), (0, _), (1, _), (2, _)]) 3 rfl (by rfl) eW_hearsAlways_29 (Nat.le_of_ble_eq_true rfl) rfl ?_
          refine v_goto X (pc := 32) (tgt := 2) eW_hearsAlways_32 (by decide) ?_
          exact v_sub [1, 2, 3, 0] rfl (ih _ _ _ _  h)
      · refine v_iconst X (pc := 35) (v := (1 : Int32)) eW_hearsAlways_35 (by decide) ?_
        exact v_zret X (pc := 36) h hr rfl eW_hearsAlways_36
    · refine v_iconst X (pc := 35) (v := (1 : Int32)) eW_hearsAlways_35 (by decide) ?_
      exact v_zret X (pc := 36) h hr rfl eW_hearsAlways_36
set_option maxHeartbeats 4000000 in
set_option maxRecDepth 100000 in
theorem cW_hearsAlways {f : Nat} {a1 : Int32} {a2 : Int32} {mem : Mem} {o : Int32} {mem' : Mem}  (h : dW_hearsAlways f a1 a2 mem = some (o, mem')) : RT yW_hearsAlways prog_1_method_43_code 4 (Option.some Jvm.ClassFile.FieldType.boolean) (rmM 0 0) [aR 0 0, aI a1, aI a2] mem (some (aI o)) mem' := by
  refine RT.of (by decide +kernel) (Nat.le_of_ble_eq_true rfl) (fun p l e s m args below meth c k X hr => ?_)
  replace X : CX p s m args meth c k prog_1_method_43_code 4 "WallShifts" := X
  unfold dW_hearsAlways at h
  refine v_sub (lv' := [(0, _), (1, _), (2, _)]) [0, 1, 2] rfl ?_
  refine v_iconst X (pc := 0) (v := (0 : Int32)) eW_hearsAlways_0 (by decide) ?_
  refine v_istore_n X (pc := 1) (lv' := [(3, _), (0, _), (1, _), (2, _)]) eW_hearsAlways_1 rfl (Nat.le_of_ble_eq_true rfl) rfl ?_
  exact v_sub [1, 2, 3, 0] rfl (cW_hearsAlways_2 X hr _ _ _ _ _  h)
set_option maxHeartbeats 4000000 in
set_option maxRecDepth 100000 in
theorem cW_cover_80 {p : Program} {l : Launch} {e : Env} {s : State} {m : MethodId} {args : Array Value} {below : List Frame} {meth : Method} {c : Code} {k : KK} {f : Nat} {o : Int32} {mem' : Mem} (X : CX p s m args meth c k prog_1_method_20_code 7 "WallShifts") (hr : meth.sig.returnType = (Option.some Jvm.ClassFile.FieldType.int)) {k60 : Int32 → Int32 → Int32 → Int32 → Mem → Option (Int32 × Mem)} (hk60 : ∀ (x2 : Int32) (x3 : Int32) (x4 : Int32) (x5 : Int32) (mem : Mem), k60 x2 x3 x4 x5 mem = some (o, mem') → V p l e (rmM 3 75) s m args below meth c 0 0 (MQ below (RQc k (some (aI o)) mem') args s 0 0 (kA k)) k 7 mem 60 [(0, aR 0 0), (2, aI x2), (3, aI x3), (4, aI x4), (5, aI x5)] []) : ∀ (x2 : Int32) (x3 : Int32) (x4 : Int32) (x5 : Int32) (s0 : Int32) (mem : Mem), dW_cover_80 f k60 x2 x3 x4 x5 s0 mem = some (o, mem') → V p l e (rmM 3 75) s m args below meth c 0 0 (MQ below (RQc k (some (aI o)) mem') args s 0 0 (kA k)) k 7 mem 80 [(0, aR 0 0), (2, aI x2), (3, aI x3), (4, aI x4), (5, aI x5)] [aI s0] := by
  intro x2 x3 x4 x5 s0 mem  h
  unfold dW_cover_80 at h
  refine v_istore X (pc := 80) (lv' := [(6, _), (0, _), (2, _), (3, _), (4, _), (5, _)]) eW_cover_80 (Nat.le_of_ble_eq_true rfl) rfl ?_
  refine v_iload X (pc := 82) 0 rfl eW_cover_82 ?_
  refine v_if_eq X (pc := 84) (tgt := 114) h eW_cover_84 (by decide) (fun h => ?_) (fun h => ?_)
  · refine v_iinc X (pc := 114) (v := (x5 + (1 : Int32))) (lv' := [(5, _), (6, _), (0, _), (2, _), (3, _), (4, _)]) 5 rfl (by rfl) eW_cover_114 (Nat.le_of_ble_eq_true rfl) rfl ?_
    refine v_goto X (pc := 117) (tgt := 60) eW_cover_117 (by decide) ?_
    exact v_sub [2, 3, 4, 5, 0] rfl (hk60 _ _ _ _ _  h)
  · refine v_iload X (pc := 87) 5 rfl eW_cover_87 ?_
    obtain ⟨r1, m1, hc1, h⟩ := bd_some h
    refine v_callS X (pc := 89) [_] [] ok_S_W_134 (cJInt_bitCount  hc1) rfl (Nat.le_of_ble_eq_true rfl) ⟨Nat.le_of_ble_eq_true rfl, Nat.le_of_ble_eq_true rfl⟩ ⟨Nat.zero_le _, Nat.zero_le _⟩ eW_cover_89 ?_
    refine v_iload X (pc := 92) 4 rfl eW_cover_92 ?_
    obtain ⟨r2, m2, hc2, h⟩ := bd_some h
    refine v_callS X (pc := 94) [_] [_] ok_S_W_134 (cJInt_bitCount  hc2) rfl (Nat.le_of_ble_eq_true rfl) ⟨Nat.le_of_ble_eq_true rfl, Nat.le_of_ble_eq_true rfl⟩ ⟨Nat.zero_le _, Nat.zero_le _⟩ eW_cover_94 ?_
    refine v_icmp_ge X (pc := 97) (tgt := 114) h eW_cover_97 (by decide) (fun h => ?_) (fun h => ?_)
    · refine v_aload_n X (pc := 100) 1 rfl eW_cover_100 rfl ?_
      refine v_iload X (pc := 101) 5 rfl eW_cover_101 ?_
      refine v_iload_n X (pc := 103) 2 rfl eW_cover_103 rfl ?_
      obtain ⟨r3, m3, hc3, h⟩ := bd_some h
      refine v_callV X (pc := 104) [_, _] [] ok_V_W_174 (cW_hearsAlways  hc3) rfl (Nat.le_of_ble_eq_true rfl) ⟨Nat.le_of_ble_eq_true rfl, Nat.le_of_ble_eq_true rfl⟩ ⟨Nat.zero_le _, Nat.zero_le _⟩ (by decide) (by decide) rfl rfl eW_cover_104 ?_
      refine v_if_eq X (pc := 107) (tgt := 114) h eW_cover_107 (by decide) (fun h => ?_) (fun h => ?_)
      · refine v_iinc X (pc := 114) (v := (x5 + (1 : Int32))) (lv' := [(5, _), (6, _), (0, _), (2, _), (3, _), (4, _)]) 5 rfl (by rfl) eW_cover_114 (Nat.le_of_ble_eq_true rfl) rfl ?_
        refine v_goto X (pc := 117) (tgt := 60) eW_cover_117 (by decide) ?_
        exact v_sub [2, 3, 4, 5, 0] rfl (hk60 _ _ _ _ _  h)
      · refine v_iload X (pc := 110) 5 rfl eW_cover_110 ?_
        refine v_istore X (pc := 112) (lv' := [(4, _), (6, _), (0, _), (2, _), (3, _), (5, _)]) eW_cover_112 (Nat.le_of_ble_eq_true rfl) rfl ?_
        refine v_iinc X (pc := 114) (v := (x5 + (1 : Int32))) (lv' := [(5, _), (4, _), (6, _), (0, _), (2, _), (3, _)]) 5 rfl (by rfl) eW_cover_114 (Nat.le_of_ble_eq_true rfl) rfl ?_
        refine v_goto X (pc := 117) (tgt := 60) eW_cover_117 (by decide) ?_
        exact v_sub [3, 4, 5, 1, 0] rfl (hk60 _ _ _ _ _  h)
    · refine v_iinc X (pc := 114) (v := (x5 + (1 : Int32))) (lv' := [(5, _), (6, _), (0, _), (2, _), (3, _), (4, _)]) 5 rfl (by rfl) eW_cover_114 (Nat.le_of_ble_eq_true rfl) rfl ?_
      refine v_goto X (pc := 117) (tgt := 60) eW_cover_117 (by decide) ?_
      exact v_sub [2, 3, 4, 5, 0] rfl (hk60 _ _ _ _ _  h)
