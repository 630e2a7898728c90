/-! GENERATED: the walks. -/
set_option maxHeartbeats 4000000 in
set_option maxRecDepth 100000 in
theorem cW_isIn {f : Nat} {a0 : Int32} {a1 : Int32} {a2 : Int32} {mem : Mem} {o : Int32} {mem' : Mem}  (h : dW_isIn f a0 a1 a2 mem = some (o, mem')) : RT yW_isIn prog_1_method_46_code 3 (Option.some Jvm.ClassFile.FieldType.boolean) (rmM 0 0) [aI a0, aI a1, aI a2] mem (some (aI o)) mem' := by
  refine RT.of (by decide +kernel) (Nat.le_of_ble_eq_true rfl) (fun p l e s m args below meth c k X hr => ?_)
  replace X : CX p s m args meth c k prog_1_method_46_code 3 "WallShifts" := X
  unfold dW_isIn at h
  refine v_sub (lv' := [(0, _), (1, _), (2, _)]) [0, 1, 2] rfl ?_
  refine v_iload_n X (pc := 0) 0 rfl eW_isIn_0 rfl ?_
  refine v_iload_n X (pc := 1) 1 rfl eW_isIn_1 rfl ?_
  refine v_icmp_lt X (pc := 2) (tgt := 14) h eW_isIn_2 (by decide) (fun h => ?_) (fun h => ?_)
  · refine v_iconst X (pc := 14) (v := (0 : Int32)) eW_isIn_14 (by decide) ?_
    exact v_zret X (pc := 15) h hr rfl eW_isIn_15
  · refine v_iload_n X (pc := 5) 0 rfl eW_isIn_5 rfl ?_
    refine v_iload_n X (pc := 6) 2 rfl eW_isIn_6 rfl ?_
    refine v_icmp_gt X (pc := 7) (tgt := 14) h eW_isIn_7 (by decide) (fun h => ?_) (fun h => ?_)
    · refine v_iconst X (pc := 14) (v := (0 : Int32)) eW_isIn_14 (by decide) ?_
      exact v_zret X (pc := 15) h hr rfl eW_isIn_15
    · refine v_iconst X (pc := 10) (v := (1 : Int32)) eW_isIn_10 (by decide) ?_
      refine v_goto X (pc := 11) (tgt := 15) eW_isIn_11 (by decide) ?_
      exact v_zret X (pc := 15) h hr rfl eW_isIn_15
set_option maxHeartbeats 4000000 in
set_option maxRecDepth 100000 in
theorem cW_mayBeRota {f : Nat} {a0 : Int32} {a1 : Int32} {mem : Mem} {o : Int32} {mem' : Mem}  (h : dW_mayBeRota f a0 a1 mem = some (o, mem')) : RT yW_mayBeRota prog_1_method_52_code 2 (Option.some Jvm.ClassFile.FieldType.boolean) (rmM 1 22) [aI a0, aI a1] mem (some (aI o)) mem' := by
  refine RT.of (by decide +kernel) (Nat.le_of_ble_eq_true rfl) (fun p l e s m args below meth c k X hr => ?_)
  replace X : CX p s m args meth c k prog_1_method_52_code 2 "WallShifts" := X
  unfold dW_mayBeRota at h
  refine v_sub (lv' := [(0, _), (1, _)]) [0, 1] rfl ?_
  refine v_iload_n X (pc := 0) 0 rfl eW_mayBeRota_0 rfl ?_
  refine v_iconst X (pc := 1) (v := (0 : Int32)) eW_mayBeRota_1 (by decide) ?_
  refine v_iconst X (pc := 2) (v := (3 : Int32)) eW_mayBeRota_2 (by decide) ?_
  obtain ⟨r1, m1, hc1, h⟩ := bd_some h
  refine v_callS X (pc := 3) [_, _, _] [] ok_S_W_82 (cW_isIn  hc1) rfl (Nat.le_of_ble_eq_true rfl) ⟨Nat.le_of_ble_eq_true rfl, Nat.le_of_ble_eq_true rfl⟩ ⟨Nat.zero_le _, Nat.zero_le _⟩ eW_mayBeRota_3 ?_
  refine v_if_eq X (pc := 6) (tgt := 30) h eW_mayBeRota_6 (by decide) (fun h => ?_) (fun h => ?_)
  · refine v_iconst X (pc := 30) (v := (0 : Int32)) eW_mayBeRota_30 (by decide) ?_
    exact v_zret X (pc := 31) h hr rfl eW_mayBeRota_31
  · refine v_iload_n X (pc := 9) 1 rfl eW_mayBeRota_9 rfl ?_
    refine v_gets X (pc := 10) 1 (by decide) qw_131 eW_mayBeRota_10 ?_
    refine v_iload_n X (pc := 13) 0 rfl eW_mayBeRota_13 rfl ?_
    refine v_stld X (pc := 14) h (by decide) eW_mayBeRota_14 (fun h => ?_)
    refine v_gets X (pc := 15) 2 (by decide) qw_133 eW_mayBeRota_15 ?_
    refine v_iload_n X (pc := 18) 0 rfl eW_mayBeRota_18 rfl ?_
    refine v_stld X (pc := 19) h (by decide) eW_mayBeRota_19 (fun h => ?_)
    obtain ⟨r2, m2, hc2, h⟩ := bd_some h
    refine v_callS X (pc := 20) [_, _, _] [] ok_S_W_82 (cW_isIn  hc2) rfl (Nat.le_of_ble_eq_true rfl) ⟨Nat.le_of_ble_eq_true rfl, Nat.le_of_ble_eq_true rfl⟩ ⟨Nat.zero_le _, Nat.zero_le _⟩ eW_mayBeRota_20 ?_
    refine v_if_eq X (pc := 23) (tgt := 30) h eW_mayBeRota_23 (by decide) (fun h => ?_) (fun h => ?_)
    · refine v_iconst X (pc := 30) (v := (0 : Int32)) eW_mayBeRota_30 (by decide) ?_
      exact v_zret X (pc := 31) h hr rfl eW_mayBeRota_31
    · refine v_iconst X (pc := 26) (v := (1 : Int32)) eW_mayBeRota_26 (by decide) ?_
      refine v_goto X (pc := 27) (tgt := 31) eW_mayBeRota_27 (by decide) ?_
      exact v_zret X (pc := 31) h hr rfl eW_mayBeRota_31
set_option maxHeartbeats 4000000 in
set_option maxRecDepth 100000 in
theorem cW_finding {f : Nat} {a1 : Int32} {mem : Mem} {o : Int32} {mem' : Mem}  (h : dW_finding f a1 mem = some (o, mem')) : RT yW_finding prog_1_method_39_code 3 (Option.some Jvm.ClassFile.FieldType.int) (rmM 1 22) [aR 0 0, aI a1] mem (some (aI o)) mem' := by
  refine RT.of (by decide +kernel) (Nat.le_of_ble_eq_true rfl) (fun p l e s m args below meth c k X hr => ?_)
  replace X : CX p s m args meth c k prog_1_method_39_code 3 "WallShifts" := X
  unfold dW_finding at h
  refine v_sub (lv' := [(0, _), (1, _)]) [0, 1] rfl ?_
  refine v_ldc X (pc := 0) qw_135 eW_finding_0 ?_
  refine v_iload_n X (pc := 2) 1 rfl eW_finding_2 rfl ?_
  refine v_isub X (pc := 3) eW_finding_3 ?_
  refine v_istore_n X (pc := 4) (lv' := [(2, _), (0, _), (1, _)]) eW_finding_4 rfl (Nat.le_of_ble_eq_true rfl) rfl ?_
  refine v_iload_n X (pc := 5) 0 rfl eW_finding_5 rfl ?_
  refine v_iconst X (pc := 6) (v := (0 : Int32)) eW_finding_6 (by decide) ?_
  refine v_bipush X (pc := 7) (v := (6 : Int32)) eW_finding_7 (by decide) ?_
  obtain ⟨r1, m1, hc1, h⟩ := bd_some h
  refine v_callS X (pc := 9) [_, _, _] [] ok_S_W_82 (cW_isIn  hc1) rfl (Nat.le_of_ble_eq_true rfl) ⟨Nat.le_of_ble_eq_true rfl, Nat.le_of_ble_eq_true rfl⟩ ⟨Nat.zero_le _, Nat.zero_le _⟩ eW_finding_9 ?_
  refine v_if_eq X (pc := 12) (tgt := 25) h eW_finding_12 (by decide) (fun h => ?_) (fun h => ?_)
  · refine v_iload_n X (pc := 25) 2 rfl eW_finding_25 rfl ?_
    exact v_iret X (pc := 26) h hr eW_finding_26
  · refine v_aload_n X (pc := 15) 1 rfl eW_finding_15 rfl ?_
    refine v_get X (pc := 16) 6 (a := aR 10 0) (by decide) (by decide) rfl rfl rfl in_WallShifts (by decide) qw_102 rfl eW_finding_16 ?_
    refine v_iload_n X (pc := 19) 0 rfl eW_finding_19 rfl ?_
    refine v_dup2 X (pc := 20) rfl rfl eW_finding_20 ?_
    refine v_iald X (pc := 21) h (by decide) (by decide) rfl eW_finding_21 (fun h => ?_)
    refine v_iconst X (pc := 22) (v := (1 : Int32)) eW_finding_22 (by decide) ?_
    refine v_iadd X (pc := 23) eW_finding_23 ?_
    refine v_iast X (pc := 24) h (by decide) (by decide) (fun _ => rfl) eW_finding_24 (fun h => ?_)
    refine v_iload_n X (pc := 25) 2 rfl eW_finding_25 rfl ?_
    exact v_iret X (pc := 26) h hr eW_finding_26
set_option maxHeartbeats 4000000 in
set_option maxRecDepth 100000 in
theorem cW_rota {f : Nat} {a1 : Int32} {a2 : Int32} {mem : Mem} {o : Int32} {mem' : Mem}  (h : dW_rota f a1 a2 mem = some (o, mem')) : RT yW_rota prog_1_method_2_code 4 (Option.some Jvm.ClassFile.FieldType.int) (rmM 2 44) [aR 0 0, aI a1, aI a2] mem (some (aI o)) mem' := by
  refine RT.of (by decide +kernel) (Nat.le_of_ble_eq_true rfl) (fun p l e s m args below meth c k X hr => ?_)
  replace X : CX p s m args meth c k prog_1_method_2_code 4 "WallShifts" := X
  unfold dW_rota at h
  refine v_sub (lv' := [(0, _), (1, _), (2, _)]) [0, 1, 2] rfl ?_
  refine v_iload_n X (pc := 0) 1 rfl eW_rota_0 rfl ?_
  refine v_iload_n X (pc := 1) 2 rfl eW_rota_1 rfl ?_
  obtain ⟨r1, m1, hc1, h⟩ := bd_some h
  refine v_callS X (pc := 2) [_, _] [] ok_S_W_47 (cW_mayBeRota  hc1) rfl (Nat.le_of_ble_eq_true rfl) ⟨Nat.le_of_ble_eq_true rfl, Nat.le_of_ble_eq_true rfl⟩ ⟨Nat.zero_le _, Nat.zero_le _⟩ eW_rota_2 ?_
  refine v_if_ne X (pc := 5) (tgt := 15) h eW_rota_5 (by decide) (fun h => ?_) (fun h => ?_)
  · refine v_aload_n X (pc := 8) 0 rfl eW_rota_8 rfl ?_
    refine v_ldc X (pc := 9) qw_135 eW_rota_9 ?_
    obtain ⟨r2, m2, hc2, h⟩ := bd_some h
    refine v_callV X (pc := 11) [_] [] ok_V_W_52 (cW_finding  hc2) rfl (Nat.le_of_ble_eq_true rfl) ⟨Nat.le_of_ble_eq_true rfl, Nat.le_of_ble_eq_true rfl⟩ ⟨Nat.zero_le _, Nat.zero_le _⟩ (by decide) (by decide) rfl rfl eW_rota_11 ?_
    exact v_iret X (pc := 14) h hr eW_rota_14
  · refine v_aload_n X (pc := 15) 0 rfl eW_rota_15 rfl ?_
    refine v_get X (pc := 16) 0 (a := aR 1 0) (by decide) (by decide) rfl rfl rfl in_WallShifts (by decide) qw_96 rfl eW_rota_16 ?_
    refine v_get X (pc := 19) 1 (a := aR 2 0) (by decide) (by decide) rfl rfl rfl in_Palace (by decide) qw_33 rfl eW_rota_19 ?_
    refine v_iload_n X (pc := 22) 1 rfl eW_rota_22 rfl ?_
    refine v_iald X (pc := 23) h (by decide) (by decide) rfl eW_rota_23 (fun h => ?_)
    refine v_istore_n X (pc := 24) (lv' := [(3, _), (0, _), (1, _), (2, _)]) eW_rota_24 rfl (Nat.le_of_ble_eq_true rfl) rfl ?_
    refine v_aload_n X (pc := 25) 1 rfl eW_rota_25 rfl ?_
    refine v_get X (pc := 26) 0 (a := aR 1 0) (by decide) (by decide) rfl rfl rfl in_WallShifts (by decide) qw_96 rfl eW_rota_26 ?_
    refine v_get X (pc := 29) 1 (a := aR 2 0) (by decide) (by decide) rfl rfl rfl in_Palace (by decide) qw_33 rfl eW_rota_29 ?_
    refine v_iload_n X (pc := 32) 2 rfl eW_rota_32 rfl ?_
    refine v_iload_n X (pc := 33) 3 rfl eW_rota_33 rfl ?_
    refine v_iast X (pc := 34) h (by decide) (by decide) (fun _ => rfl) eW_rota_34 (fun h => ?_)
    refine v_iload_n X (pc := 35) 0 rfl eW_rota_35 rfl ?_
    exact v_iret X (pc := 36) h hr eW_rota_36
set_option maxHeartbeats 4000000 in
set_option maxRecDepth 100000 in
theorem cW_isWall {f : Nat} {a1 : Int32} {mem : Mem} {o : Int32} {mem' : Mem}  (h : dW_isWall f a1 mem = some (o, mem')) : RT yW_isWall prog_1_method_40_code 2 (Option.some Jvm.ClassFile.FieldType.boolean) (rmM 1 22) [aR 0 0, aI a1] mem (some (aI o)) mem' := by
  refine RT.of (by decide +kernel) (Nat.le_of_ble_eq_true rfl) (fun p l e s m args below meth c k X hr => ?_)
  replace X : CX p s m args meth c k prog_1_method_40_code 2 "WallShifts" := X
  unfold dW_isWall at h
  refine v_sub (lv' := [(0, _), (1, _)]) [0, 1] rfl ?_
  refine v_iload_n X (pc := 0) 1 rfl eW_isWall_0 rfl ?_
  refine v_iconst X (pc := 1) (v := (0 : Int32)) eW_isWall_1 (by decide) ?_
  refine v_aload_n X (pc := 2) 0 rfl eW_isWall_2 rfl ?_
  refine v_get X (pc := 3) 0 (a := aR 1 0) (by decide) (by decide) rfl rfl rfl in_WallShifts (by decide) qw_96 rfl eW_isWall_3 ?_
  refine v_get X (pc := 6) 2 (a := aI (gI mem 1 0 2)) (by decide) (by decide) rfl rfl rfl in_Palace (by decide) qw_35 rfl eW_isWall_6 ?_
  refine v_iconst X (pc := 9) (v := (1 : Int32)) eW_isWall_9 (by decide) ?_
  refine v_isub X (pc := 10) eW_isWall_10 ?_
  obtain ⟨r1, m1, hc1, h⟩ := bd_some h
  refine v_callS X (pc := 11) [_, _, _] [] ok_S_W_82 (cW_isIn  hc1) rfl (Nat.le_of_ble_eq_true rfl) ⟨Nat.le_of_ble_eq_true rfl, Nat.le_of_ble_eq_true rfl⟩ ⟨Nat.zero_le _, Nat.zero_le _⟩ eW_isWall_11 ?_
  obtain ⟨hz, h⟩ := zb_some h
  exact v_zret X (pc := 14) h hr (zb_n hz) eW_isWall_14
set_option maxHeartbeats 4000000 in
set_option maxRecDepth 100000 in
theorem cP_replace {f : Nat} {q0 : Nat} {a1 : Int32} {a2 : Int32} {a3 : Int32} {mem : Mem} {o : Int32} {mem' : Mem} (hq0 : q0 < 3) (h : dP_replace f q0 a1 a2 a3 mem = some (o, mem')) : RT yP_replace prog_2_method_5_code 5 (Option.some Jvm.ClassFile.FieldType.int) (rmM 0 0) [aR 1 q0, aI a1, aI a2, aI a3] mem (some (aI o)) mem' := by
  refine RT.of (by decide +kernel) (Nat.le_of_ble_eq_true rfl) (fun p l e s m args below meth c k X hr => ?_)
  replace X : CX p s m args meth c k prog_2_method_5_code 5 "WallShifts$Palace" := X
  unfold dP_replace at h
  refine v_sub (lv' := [(0, _), (1, _), (2, _), (3, _)]) [0, 1, 2, 3] rfl ?_
  refine v_aload_n X (pc := 0) 0 rfl eP_replace_0 rfl ?_
  refine v_get X (pc := 1) 3 (a := aR 3 q0) (by decide) hq0 rfl rfl rfl in_Palace (by decide) qw_36 rfl eP_replace_1 ?_
  refine v_iload_n X (pc := 4) 1 rfl eP_replace_4 rfl ?_
  refine v_aaldW X (pc := 5) h hq0 eP_replace_5 (fun hb1 h => ?_)
  refine v_iload_n X (pc := 6) 2 rfl eP_replace_6 rfl ?_
  refine v_iald X (pc := 7) h (by decide) hb1 rfl eP_replace_7 (fun h => ?_)
  refine v_istore X (pc := 8) (lv' := [(4, _), (0, _), (1, _), (2, _), (3, _)]) eP_replace_8 (Nat.le_of_ble_eq_true rfl) rfl ?_
  refine v_aload_n X (pc := 10) 1 rfl eP_replace_10 rfl ?_
  refine v_get X (pc := 11) 3 (a := aR 3 q0) (by decide) hq0 rfl rfl rfl in_Palace (by decide) qw_36 rfl eP_replace_11 ?_
  refine v_iload_n X (pc := 14) 2 rfl eP_replace_14 rfl ?_
  refine v_aaldW X (pc := 15) h hq0 eP_replace_15 (fun hb2 h => ?_)
  refine v_iload_n X (pc := 16) 3 rfl eP_replace_16 rfl ?_
  refine v_iload_n X (pc := 17) 4 rfl eP_replace_17 rfl ?_
  refine v_iast X (pc := 18) h (by decide) hb2 (fun _ => rfl) eP_replace_18 (fun h => ?_)
  refine v_iload X (pc := 19) 0 rfl eP_replace_19 ?_
  exact v_iret X (pc := 21) h hr eP_replace_21
set_option maxHeartbeats 4000000 in
set_option maxRecDepth 100000 in
theorem cW_set {f : Nat} {a1 : Int32} {a2 : Int32} {a3 : Int32} {mem : Mem} {o : Int32} {mem' : Mem}  (h : dW_set f a1 a2 a3 mem = some (o, mem')) : RT yW_set prog_1_method_5_code 4 (Option.some Jvm.ClassFile.FieldType.int) (rmM 2 44) [aR 0 0, aI a1, aI a2, aI a3] mem (some (aI o)) mem' := by
  refine RT.of (by decide +kernel) (Nat.le_of_ble_eq_true rfl) (fun p l e s m args below meth c k X hr => ?_)
  replace X : CX p s m args meth c k prog_1_method_5_code 4 "WallShifts" := X
  unfold dW_set at h
  refine v_sub (lv' := [(0, _), (1, _), (2, _), (3, _)]) [0, 1, 2, 3] rfl ?_
  refine v_aload_n X (pc := 0) 0 rfl eW_set_0 rfl ?_
  refine v_iload_n X (pc := 1) 1 rfl eW_set_1 rfl ?_
  obtain ⟨r1, m1, hc1, h⟩ := bd_some h
  refine v_callV X (pc := 2) [_] [] ok_V_W_75 (cW_isWall  hc1) rfl (Nat.le_of_ble_eq_true rfl) ⟨Nat.le_of_ble_eq_true rfl, Nat.le_of_ble_eq_true rfl⟩ ⟨Nat.zero_le _, Nat.zero_le _⟩ (by decide) (by decide) rfl rfl eW_set_2 ?_
  refine v_if_eq X (pc := 5) (tgt := 30) h eW_set_5 (by decide) (fun h => ?_) (fun h => ?_)
  · refine v_aload_n X (pc := 30) 0 rfl eW_set_30 rfl ?_
    refine v_ldc X (pc := 31) qw_135 eW_set_31 ?_
    obtain ⟨r2, m2, hc2, h⟩ := bd_some h
    refine v_callV X (pc := 33) [_] [] ok_V_W_52 (cW_finding  hc2) rfl (Nat.le_of_ble_eq_true rfl) ⟨Nat.le_of_ble_eq_true rfl, Nat.le_of_ble_eq_true rfl⟩ ⟨Nat.zero_le _, Nat.zero_le _⟩ (by decide) (by decide) rfl rfl eW_set_33 ?_
    exact v_iret X (pc := 36) h hr eW_set_36
  · refine v_iload_n X (pc := 8) 2 rfl eW_set_8 rfl ?_
    refine v_iconst X (pc := 9) (v := (1 : Int32)) eW_set_9 (by decide) ?_
    refine v_iconst X (pc := 10) (v := (5 : Int32)) eW_set_10 (by decide) ?_
    obtain ⟨r3, m3, hc3, h⟩ := bd_some h
    refine v_callS X (pc := 11) [_, _, _] [] ok_S_W_82 (cW_isIn  hc3) rfl (Nat.le_of_ble_eq_true rfl) ⟨Nat.le_of_ble_eq_true rfl, Nat.le_of_ble_eq_true rfl⟩ ⟨Nat.zero_le _, Nat.zero_le _⟩ eW_set_11 ?_
    refine v_if_eq X (pc := 14) (tgt := 30) h eW_set_14 (by decide) (fun h => ?_) (fun h => ?_)
    · refine v_aload_n X (pc := 30) 0 rfl eW_set_30 rfl ?_
      refine v_ldc X (pc := 31) qw_135 eW_set_31 ?_
      obtain ⟨r4, m4, hc4, h⟩ := bd_some h
      refine v_callV X (pc := 33) [_] [] ok_V_W_52 (cW_finding  hc4) rfl (Nat.le_of_ble_eq_true rfl) ⟨Nat.le_of_ble_eq_true rfl, Nat.le_of_ble_eq_true rfl⟩ ⟨Nat.zero_le _, Nat.zero_le _⟩ (by decide) (by decide) rfl rfl eW_set_33 ?_
      exact v_iret X (pc := 36) h hr eW_set_36
    · refine v_iload_n X (pc := 17) 3 rfl eW_set_17 rfl ?_
      refine v_iconst X (pc := 18) (v := (0 : Int32)) eW_set_18 (by decide) ?_
      refine v_gets X (pc := 19) 0 (by decide) qw_148 eW_set_19 ?_
      refine v_iload_n X (pc := 22) 2 rfl eW_set_22 rfl ?_
      refine v_stld X (pc := 23) h (by decide) eW_set_23 (fun h => ?_)
      obtain ⟨r5, m5, hc5, h⟩ := bd_some h
      refine v_callS X (pc := 24) [_, _, _] [] ok_S_W_82 (cW_isIn  hc5) rfl (Nat.le_of_ble_eq_true rfl) ⟨Nat.le_of_ble_eq_true rfl, Nat.le_of_ble_eq_true rfl⟩ ⟨Nat.zero_le _, Nat.zero_le _⟩ eW_set_24 ?_
      refine v_if_ne X (pc := 27) (tgt := 37) h eW_set_27 (by decide) (fun h => ?_) (fun h => ?_)
      · refine v_aload_n X (pc := 30) 0 rfl eW_set_30 rfl ?_
        refine v_ldc X (pc := 31) qw_135 eW_set_31 ?_
        obtain ⟨r6, m6, hc6, h⟩ := bd_some h
        refine v_callV X (pc := 33) [_] [] ok_V_W_52 (cW_finding  hc6) rfl (Nat.le_of_ble_eq_true rfl) ⟨Nat.le_of_ble_eq_true rfl, Nat.le_of_ble_eq_true rfl⟩ ⟨Nat.zero_le _, Nat.zero_le _⟩ (by decide) (by decide) rfl rfl eW_set_33 ?_
        exact v_iret X (pc := 36) h hr eW_set_36
      · refine v_aload_n X (pc := 37) 0 rfl eW_set_37 rfl ?_
        refine v_get X (pc := 38) 0 (a := aR 1 0) (by decide) (by decide) rfl rfl rfl in_WallShifts (by decide) qw_96 rfl eW_set_38 ?_
        refine v_iload_n X (pc := 41) 1 rfl eW_set_41 rfl ?_
        refine v_iload_n X (pc := 42) 2 rfl eW_set_42 rfl ?_
        refine v_iload_n X (pc := 43) 3 rfl eW_set_43 rfl ?_
        obtain ⟨r7, m7, hc7, h⟩ := bd_some h
        refine v_callV X (pc := 44) [_, _, _] [] ok_V_W_103 (cP_replace (by decide) hc7) rfl (Nat.le_of_ble_eq_true rfl) ⟨Nat.le_of_ble_eq_true rfl, Nat.le_of_ble_eq_true rfl⟩ ⟨Nat.zero_le _, Nat.zero_le _⟩ (by decide) (by decide) rfl rfl eW_set_44 ?_
        exact v_iret X (pc := 47) h hr eW_set_47
set_option maxHeartbeats 4000000 in
set_option maxRecDepth 100000 in
theorem cW_isRoom {f : Nat} {a0 : Int32} {mem : Mem} {o : Int32} {mem' : Mem}  (h : dW_isRoom f a0 mem = some (o, mem')) : RT yW_isRoom prog_1_method_48_code 1 (Option.some Jvm.ClassFile.FieldType.boolean) (rmM 1 22) [aI a0] mem (some (aI o)) mem' := by
  refine RT.of (by decide +kernel) (Nat.le_of_ble_eq_true rfl) (fun p l e s m args below meth c k X hr => ?_)
  replace X : CX p s m args meth c k prog_1_method_48_code 1 "WallShifts" := X
  unfold dW_isRoom at h
  refine v_sub (lv' := [(0, _)]) [0] rfl ?_
  refine v_iload_n X (pc := 0) 0 rfl eW_isRoom_0 rfl ?_
  refine v_iconst X (pc := 1) (v := (0 : Int32)) eW_isRoom_1 (by decide) ?_
  refine v_bipush X (pc := 2) (v := (9 : Int32)) eW_isRoom_2 (by decide) ?_
  obtain ⟨r1, m1, hc1, h⟩ := bd_some h
  refine v_callS X (pc := 4) [_, _, _] [] ok_S_W_82 (cW_isIn  hc1) rfl (Nat.le_of_ble_eq_true rfl) ⟨Nat.le_of_ble_eq_true rfl, Nat.le_of_ble_eq_true rfl⟩ ⟨Nat.zero_le _, Nat.zero_le _⟩ eW_isRoom_4 ?_
  obtain ⟨hz, h⟩ := zb_some h
  exact v_zret X (pc := 7) h hr (zb_n hz) eW_isRoom_7
set_option maxHeartbeats 4000000 in
set_option maxRecDepth 100000 in
theorem cW_isWord {f : Nat} {a0 : Int32} {mem : Mem} {o : Int32} {mem' : Mem}  (h : dW_isWord f a0 mem = some (o, mem')) : RT yW_isWord prog_1_method_49_code 1 (Option.some Jvm.ClassFile.FieldType.boolean) (rmM 1 22) [aI a0] mem (some (aI o)) mem' := by
  refine RT.of (by decide +kernel) (Nat.le_of_ble_eq_true rfl) (fun p l e s m args below meth c k X hr => ?_)
  replace X : CX p s m args meth c k prog_1_method_49_code 1 "WallShifts" := X
  unfold dW_isWord at h
  refine v_sub (lv' := [(0, _)]) [0] rfl ?_
  refine v_iload_n X (pc := 0) 0 rfl eW_isWord_0 rfl ?_
  refine v_iconst X (pc := 1) (v := (0 : Int32)) eW_isWord_1 (by decide) ?_
  refine v_bipush X (pc := 2) (v := (15 : Int32)) eW_isWord_2 (by decide) ?_
  obtain ⟨r1, m1, hc1, h⟩ := bd_some h
  refine v_callS X (pc := 4) [_, _, _] [] ok_S_W_82 (cW_isIn  hc1) rfl (Nat.le_of_ble_eq_true rfl) ⟨Nat.le_of_ble_eq_true rfl, Nat.le_of_ble_eq_true rfl⟩ ⟨Nat.zero_le _, Nat.zero_le _⟩ eW_isWord_4 ?_
  obtain ⟨hz, h⟩ := zb_some h
  exact v_zret X (pc := 7) h hr (zb_n hz) eW_isWord_7
set_option maxHeartbeats 4000000 in
set_option maxRecDepth 100000 in
theorem cP_roomsOf {f : Nat} {q0 : Nat} {q1 : Nat} {mem : Mem} {o : Int32} {mem' : Mem} (hq0 : q0 < 3) (hq1 : q1 < 30) (h : dP_roomsOf f q0 q1 mem = some (o, mem')) : RT yP_roomsOf prog_2_method_13_code 2 (Option.some Jvm.ClassFile.FieldType.int) (rmM 0 0) [aR 1 q0, aR 4 q1] mem (some (aI o)) mem' := by
  refine RT.of (by decide +kernel) (Nat.le_of_ble_eq_true rfl) (fun p l e s m args below meth c k X hr => ?_)
  replace X : CX p s m args meth c k prog_2_method_13_code 2 "WallShifts$Palace" := X
  unfold dP_roomsOf at h
  refine v_sub (lv' := [(0, _), (1, _)]) [0, 1] rfl ?_
  refine v_iconst X (pc := 0) (v := (1 : Int32)) eP_roomsOf_0 (by decide) ?_
  refine v_aload_n X (pc := 1) 1 rfl eP_roomsOf_1 rfl ?_
  refine v_iconst X (pc := 2) (v := (1 : Int32)) eP_roomsOf_2 (by decide) ?_
  refine v_ialdK X (pc := 3) (n := 6) 1 (by decide) (by decide) (by decide) hq1 rfl eP_roomsOf_3 ?_
  refine v_ishl X (pc := 4) eP_roomsOf_4 ?_
  refine v_iconst X (pc := 5) (v := (1 : Int32)) eP_roomsOf_5 (by decide) ?_
  refine v_aload_n X (pc := 6) 1 rfl eP_roomsOf_6 rfl ?_
  refine v_iconst X (pc := 7) (v := (2 : Int32)) eP_roomsOf_7 (by decide) ?_
  refine v_ialdK X (pc := 8) (n := 6) 2 (by decide) (by decide) (by decide) hq1 rfl eP_roomsOf_8 ?_
  refine v_ishl X (pc := 9) eP_roomsOf_9 ?_
  refine v_ior X (pc := 10) eP_roomsOf_10 ?_
  exact v_iret X (pc := 11) h hr eP_roomsOf_11
set_option maxHeartbeats 4000000 in
set_option maxRecDepth 100000 in
theorem cP_leaks_15 {p : Program} {l : Launch} {e : Env} {s : State} {m : MethodId} {args : Array Value} {below : List Frame} {meth : Method} {c : Code} {k : KK} {f : Nat} {o : Int32} {mem' : Mem} (X : CX p s m args meth c k prog_2_method_11_code 6 "WallShifts$Palace") (hr : meth.sig.returnType = (Option.some Jvm.ClassFile.FieldType.int)) {k6 : Nat → Int32 → Int32 → Mem → Option (Int32 × Mem)} (hk6 : ∀ (q0 : Nat) (x2 : Int32) (x3 : Int32) (mem : Mem), q0 < 3 → k6 q0 x2 x3 mem = some (o, mem') → V p l e (rmM 1 21) s m args below meth c 0 0 (MQ below (RQc k (some (aI o)) mem') args s 0 0 (kA k)) k 6 mem 6 [(0, aR 1 q0), (2, aI x2), (3, aI x3)] []) : ∀ (n : Nat) (q0 : Nat) (x2 : Int32) (x3 : Int32) (x4 : Int32) (mem : Mem), q0 < 3 → dP_leaks_15 f k6 n q0 x2 x3 x4 mem = some (o, mem') → V p l e (rmM 1 21) s m args below meth c 0 0 (MQ below (RQc k (some (aI o)) mem') args s 0 0 (kA k)) k 6 mem 15 [(0, aR 1 q0), (2, aI x2), (3, aI x3), (4, aI x4)] [] := by
  intro n
  induction n with
  | zero =>
    intro q0 x2 x3 x4 mem hq0 h
    exact nomatch (show (none : Option (Int32 × Mem)) = some _ from h)
  | succ n ih =>
    intro q0 x2 x3 x4 mem hq0 h
    rw [dP_leaks_15] at h
    refine v_iload X (pc := 15) 3 rfl eP_leaks_15 ?_
    refine v_aload_n X (pc := 17) 0 rfl eP_leaks_17 rfl ?_
    refine v_get X (pc := 18) 2 (a := aI (gI mem 1 q0 2)) (by decide) hq0 rfl rfl rfl in_Palace (by decide) qw_34 rfl eP_leaks_18 ?_
    refine v_icmp_ge X (pc := 21) (tgt := 68) h eP_leaks_21 (by decide) (fun h => ?_) (fun h => ?_)
    · refine v_aload_n X (pc := 24) 0 rfl eP_leaks_24 rfl ?_
      refine v_aload_n X (pc := 25) 0 rfl eP_leaks_25 rfl ?_
      refine v_get X (pc := 26) 3 (a := aR 3 q0) (by decide) hq0 rfl rfl rfl in_Palace (by decide) qw_36 rfl eP_leaks_26 ?_
      refine v_iload X (pc := 29) 3 rfl eP_leaks_29 ?_
      refine v_aaldW X (pc := 31) h hq0 eP_leaks_31 (fun hb1 h => ?_)
      obtain ⟨r2, m2, hc2, h⟩ := bd_some h
      refine v_callV X (pc := 32) [_] [] ok_V_P_50 (cP_roomsOf hq0 hb1 hc2) rfl (Nat.le_of_ble_eq_true rfl) ⟨Nat.le_of_ble_eq_true rfl, Nat.le_of_ble_eq_true rfl⟩ ⟨Nat.zero_le _, Nat.zero_le _⟩ (by decide) hq0 rfl rfl eP_leaks_32 ?_
      refine v_istore X (pc := 35) (lv' := [(5, _), (0, _), (2, _), (3, _), (4, _)]) eP_leaks_35 (Nat.le_of_ble_eq_true rfl) rfl ?_
      refine v_aload_n X (pc := 37) 1 rfl eP_leaks_37 rfl ?_
      refine v_get X (pc := 38) 3 (a := aR 3 q0) (by decide) hq0 rfl rfl rfl in_Palace (by decide) qw_36 rfl eP_leaks_38 ?_
      refine v_iload X (pc := 41) 4 rfl eP_leaks_41 ?_
      refine v_aaldW X (pc := 43) h hq0 eP_leaks_43 (fun hb3 h => ?_)
      refine v_iconst X (pc := 44) (v := (0 : Int32)) eP_leaks_44 (by decide) ?_
      refine v_ialdK X (pc := 45) (n := 6) 0 (by decide) (by decide) (by decide) hb3 rfl eP_leaks_45 ?_
      refine v_iconst X (pc := 46) (v := (3 : Int32)) eP_leaks_46 (by decide) ?_
      refine v_icmp_ne X (pc := 47) (tgt := 62) h eP_leaks_47 (by decide) (fun h => ?_) (fun h => ?_)
      · refine v_iload X (pc := 50) 0 rfl eP_leaks_50 ?_
        refine v_iload_n X (pc := 52) 2 rfl eP_leaks_52 rfl ?_
        refine v_iand X (pc := 53) eP_leaks_53 ?_
        refine v_if_eq X (pc := 54) (tgt := 62) h eP_leaks_54 (by decide) (fun h => ?_) (fun h => ?_)
        · refine v_iinc X (pc := 62) (v := (x4 + (1 : Int32))) (lv' := [(4, _), (5, _), (0, _), (2, _), (3, _)]) 4 rfl (by rfl) eP_leaks_62 (Nat.le_of_ble_eq_true rfl) rfl ?_
          refine v_goto X (pc := 65) (tgt := 15) eP_leaks_65 (by decide) ?_
          exact v_sub [2, 3, 4, 0] rfl (ih _ _ _ _ _ hq0 h)
        · refine v_iload_n X (pc := 57) 2 rfl eP_leaks_57 rfl ?_
          refine v_iload X (pc := 58) 0 rfl eP_leaks_58 ?_
          refine v_ior X (pc := 60) eP_leaks_60 ?_
          refine v_istore_n X (pc := 61) (lv' := [(2, _), (5, _), (0, _), (3, _), (4, _)]) eP_leaks_61 rfl (Nat.le_of_ble_eq_true rfl) rfl ?_
          refine v_iinc X (pc := 62) (v := (x4 + (1 : Int32))) (lv' := [(4, _), (2, _), (5, _), (0, _), (3, _)]) 4 rfl (by rfl) eP_leaks_62 (Nat.le_of_ble_eq_true rfl) rfl ?_
          refine v_goto X (pc := 65) (tgt := 15) eP_leaks_65 (by decide) ?_
          exact v_sub [3, 1, 4, 0] rfl (ih _ _ _ _ _ hq0 h)
      · refine v_iinc X (pc := 62) (v := (x4 + (1 : Int32))) (lv' := [(4, _), (5, _), (0, _), (2, _), (3, _)]) 4 rfl (by rfl) eP_leaks_62 (Nat.le_of_ble_eq_true rfl) rfl ?_
        refine v_goto X (pc := 65) (tgt := 15) eP_leaks_65 (by decide) ?_
        exact v_sub [2, 3, 4, 0] rfl (ih _ _ _ _ _ hq0 h)
    · refine v_iinc X (pc := 68) (v := (x3 + (1 : Int32))) (lv' := [(3, _), (0, _), (2, _), (4, _)]) 2 rfl (by rfl) eP_leaks_68 (Nat.le_of_ble_eq_true rfl) rfl ?_
      refine v_goto X (pc := 71) (tgt := 6) eP_leaks_71 (by decide) ?_
      exact v_sub [1, 2, 0] rfl (hk6 _ _ _ _ hq0 h)
set_option maxHeartbeats 4000000 in
set_option maxRecDepth 100000 in
theorem cP_leaks_6 {p : Program} {l : Launch} {e : Env} {s : State} {m : MethodId} {args : Array Value} {below : List Frame} {meth : Method} {c : Code} {k : KK} {f : Nat} {o : Int32} {mem' : Mem} (X : CX p s m args meth c k prog_2_method_11_code 6 "WallShifts$Palace") (hr : meth.sig.returnType = (Option.some Jvm.ClassFile.FieldType.int)) : ∀ (n : Nat) (q0 : Nat) (x2 : Int32) (x3 : Int32) (mem : Mem), q0 < 3 → dP_leaks_6 f n q0 x2 x3 mem = some (o, mem') → V p l e (rmM 1 21) s m args below meth c 0 0 (MQ below (RQc k (some (aI o)) mem') args s 0 0 (kA k)) k 6 mem 6 [(0, aR 1 q0), (2, aI x2), (3, aI x3)] [] := by
  intro n
  induction n with
  | zero =>
    intro q0 x2 x3 mem hq0 h
    exact nomatch (show (none : Option (Int32 × Mem)) = some _ from h)
  | succ n ih =>
    intro q0 x2 x3 mem hq0 h
    rw [dP_leaks_6] at h
    refine v_iload_n X (pc := 6) 2 rfl eP_leaks_6 rfl ?_
    refine v_bipush X (pc := 7) (v := (10 : Int32)) eP_leaks_7 (by decide) ?_
    refine v_icmp_ge X (pc := 9) (tgt := 74) h eP_leaks_9 (by decide) (fun h => ?_) (fun h => ?_)
    · refine v_iconst X (pc := 12) (v := (0 : Int32)) eP_leaks_12 (by decide) ?_
      refine v_istore X (pc := 13) (lv' := [(4, _), (0, _), (2, _), (3, _)]) eP_leaks_13 (Nat.le_of_ble_eq_true rfl) rfl ?_
      exact v_sub [1, 2, 3, 0] rfl (cP_leaks_15 X hr ih _ _ _ _ _ _ hq0 h)
    · refine v_iload_n X (pc := 74) 1 rfl eP_leaks_74 rfl ?_
      exact v_iret X (pc := 75) h hr eP_leaks_75
set_option maxHeartbeats 4000000 in
set_option maxRecDepth 100000 in
theorem cP_leaks {f : Nat} {q0 : Nat} {a1 : Int32} {mem : Mem} {o : Int32} {mem' : Mem} (hq0 : q0 < 3) (h : dP_leaks f q0 a1 mem = some (o, mem')) : RT yP_leaks prog_2_method_11_code 6 (Option.some Jvm.ClassFile.FieldType.int) (rmM 1 21) [aR 1 q0, aI a1] mem (some (aI o)) mem' := by
  refine RT.of (by decide +kernel) (Nat.le_of_ble_eq_true rfl) (fun p l e s m args below meth c k X hr => ?_)
  replace X : CX p s m args meth c k prog_2_method_11_code 6 "WallShifts$Palace" := X
  unfold dP_leaks at h
  refine v_sub (lv' := [(0, _), (1, _)]) [0, 1] rfl ?_
  refine v_iconst X (pc := 0) (v := (1 : Int32)) eP_leaks_0 (by decide) ?_
  refine v_iload_n X (pc := 1) 1 rfl eP_leaks_1 rfl ?_
  refine v_ishl X (pc := 2) eP_leaks_2 ?_
  refine v_istore_n X (pc := 3) (lv' := [(2, _), (0, _), (1, _)]) eP_leaks_3 rfl (Nat.le_of_ble_eq_true rfl) rfl ?_
  refine v_iconst X (pc := 4) (v := (0 : Int32)) eP_leaks_4 (by decide) ?_
  refine v_istore_n X (pc := 5) (lv' := [(3, _), (2, _), (0, _), (1, _)]) eP_leaks_5 rfl (Nat.le_of_ble_eq_true rfl) rfl ?_
  exact v_sub [2, 1, 0] rfl (cP_leaks_6 X hr _ _ _ _ _ hq0 h)
set_option maxHeartbeats 4000000 in
set_option maxRecDepth 100000 in
theorem cP_near_11 {p : Program} {l : Launch} {e : Env} {s : State} {m : MethodId} {args : Array Value} {below : List Frame} {meth : Method} {c : Code} {k : KK} {f : Nat} {o : Int32} {mem' : Mem} (X : CX p s m args meth c k prog_2_method_12_code 5 "WallShifts$Palace") (hr : meth.sig.returnType = (Option.some Jvm.ClassFile.FieldType.int)) : ∀ (n : Nat) (q0 : Nat) (x2 : Int32) (x3 : Int32) (x4 : Int32) (mem : Mem), q0 < 3 → dP_near_11 f n q0 x2 x3 x4 mem = some (o, mem') → V p l e (rmM 2 46) s m args below meth c 0 0 (MQ below (RQc k (some (aI o)) mem') args s 0 0 (kA k)) k 5 mem 11 [(0, aR 1 q0), (2, aI x2), (3, aI x3), (4, aI x4)] [] := by
  intro n
  induction n with
  | zero =>
    intro q0 x2 x3 x4 mem hq0 h
    exact nomatch (show (none : Option (Int32 × Mem)) = some _ from h)
  | succ n ih =>
    intro q0 x2 x3 x4 mem hq0 h
    rw [dP_near_11] at h
    refine v_iload X (pc := 11) 3 rfl eP_near_11 ?_
    refine v_aload_n X (pc := 13) 0 rfl eP_near_13 rfl ?_
    refine v_get X (pc := 14) 2 (a := aI (gI mem 1 q0 2)) (by decide) hq0 rfl rfl rfl in_Palace (by decide) qw_34 rfl eP_near_14 ?_
    refine v_icmp_ge X (pc := 17) (tgt := 49) h eP_near_17 (by decide) (fun h => ?_) (fun h => ?_)
    · refine v_aload_n X (pc := 20) 0 rfl eP_near_20 rfl ?_
      refine v_aload_n X (pc := 21) 0 rfl eP_near_21 rfl ?_
      refine v_get X (pc := 22) 3 (a := aR 3 q0) (by decide) hq0 rfl rfl rfl in_Palace (by decide) qw_36 rfl eP_near_22 ?_
      refine v_iload X (pc := 25) 3 rfl eP_near_25 ?_
      refine v_aaldW X (pc := 27) h hq0 eP_near_27 (fun hb1 h => ?_)
      obtain ⟨r2, m2, hc2, h⟩ := bd_some h
      refine v_callV X (pc := 28) [_] [] ok_V_P_50 (cP_roomsOf hq0 hb1 hc2) rfl (Nat.le_of_ble_eq_true rfl) ⟨Nat.le_of_ble_eq_true rfl, Nat.le_of_ble_eq_true rfl⟩ ⟨Nat.zero_le _, Nat.zero_le _⟩ (by decide) hq0 rfl rfl eP_near_28 ?_
      refine v_iload_n X (pc := 31) 1 rfl eP_near_31 rfl ?_
      refine v_iand X (pc := 32) eP_near_32 ?_
      refine v_if_eq X (pc := 33) (tgt := 43) h eP_near_33 (by decide) (fun h => ?_) (fun h => ?_)
      · refine v_iinc X (pc := 43) (v := (x4 + (1 : Int32))) (lv' := [(4, _), (0, _), (2, _), (3, _)]) 3 rfl (by rfl) eP_near_43 (Nat.le_of_ble_eq_true rfl) rfl ?_
        refine v_goto X (pc := 46) (tgt := 11) eP_near_46 (by decide) ?_
        exact v_sub [1, 2, 3, 0] rfl (ih _ _ _ _ _ hq0 h)
      · refine v_iload_n X (pc := 36) 2 rfl eP_near_36 rfl ?_
        refine v_iconst X (pc := 37) (v := (1 : Int32)) eP_near_37 (by decide) ?_
        refine v_iload X (pc := 38) 3 rfl eP_near_38 ?_
        refine v_ishl X (pc := 40) eP_near_40 ?_
        refine v_ior X (pc := 41) eP_near_41 ?_
        refine v_istore_n X (pc := 42) (lv' := [(3, _), (0, _), (2, _), (4, _)]) eP_near_42 rfl (Nat.le_of_ble_eq_true rfl) rfl ?_
        refine v_iinc X (pc := 43) (v := (x4 + (1 : Int32))) (lv' := [(4, _), (3, _), (0, _), (2, _)]) 3 rfl (by rfl) eP_near_43 (Nat.le_of_ble_eq_true rfl) rfl ?_
        refine v_goto X (pc := 46) (tgt := 11) eP_near_46 (by decide) ?_
        exact v_sub [2, 3, 1, 0] rfl (ih _ _ _ _ _ hq0 h)
    · refine v_iload_n X (pc := 49) 2 rfl eP_near_49 rfl ?_
      exact v_iret X (pc := 50) h hr eP_near_50
set_option maxHeartbeats 4000000 in
set_option maxRecDepth 100000 in
theorem cP_near {f : Nat} {q0 : Nat} {a1 : Int32} {mem : Mem} {o : Int32} {mem' : Mem} (hq0 : q0 < 3) (h : dP_near f q0 a1 mem = some (o, mem')) : RT yP_near prog_2_method_12_code 5 (Option.some Jvm.ClassFile.FieldType.int) (rmM 2 46) [aR 1 q0, aI a1] mem (some (aI o)) mem' := by
  refine RT.of (by decide +kernel) (Nat.le_of_ble_eq_true rfl) (fun p l e s m args below meth c k X hr => ?_)
  replace X : CX p s m args meth c k prog_2_method_12_code 5 "WallShifts$Palace" := X
  unfold dP_near at h
  refine v_sub (lv' := [(0, _), (1, _)]) [0, 1] rfl ?_
  refine v_aload_n X (pc := 0) 0 rfl eP_near_0 rfl ?_
  refine v_iload_n X (pc := 1) 1 rfl eP_near_1 rfl ?_
  obtain ⟨r1, m1, hc1, h⟩ := bd_some h
  refine v_callV X (pc := 2) [_] [] ok_V_P_54 (cP_leaks hq0 hc1) rfl (Nat.le_of_ble_eq_true rfl) ⟨Nat.le_of_ble_eq_true rfl, Nat.le_of_ble_eq_true rfl⟩ ⟨Nat.zero_le _, Nat.zero_le _⟩ (by decide) hq0 rfl rfl eP_near_2 ?_
  refine v_istore_n X (pc := 5) (lv' := [(2, _), (0, _), (1, _)]) eP_near_5 rfl (Nat.le_of_ble_eq_true rfl) rfl ?_
  refine v_iconst X (pc := 6) (v := (0 : Int32)) eP_near_6 (by decide) ?_
  refine v_istore_n X (pc := 7) (lv' := [(3, _), (2, _), (0, _), (1, _)]) eP_near_7 rfl (Nat.le_of_ble_eq_true rfl) rfl ?_
  refine v_iconst X (pc := 8) (v := (0 : Int32)) eP_near_8 (by decide) ?_
  refine v_istore X (pc := 9) (lv' := [(4, _), (3, _), (2, _), (0, _), (1, _)]) eP_near_9 (Nat.le_of_ble_eq_true rfl) rfl ?_
  exact v_sub [3, 2, 1, 0] rfl (cP_near_11 X hr _ _ _ _ _ _ hq0 h)
set_option maxHeartbeats 4000000 in
set_option maxRecDepth 100000 in
theorem cW_quarterOf {f : Nat} {a0 : Int32} {a1 : Int32} {mem : Mem} {o : Int32} {mem' : Mem}  (h : dW_quarterOf f a0 a1 mem = some (o, mem')) : RT yW_quarterOf prog_1_method_54_code 2 (Option.some Jvm.ClassFile.FieldType.int) (rmM 0 0) [aI a0, aI a1] mem (some (aI o)) mem' := by
  refine RT.of (by decide +kernel) (Nat.le_of_ble_eq_true rfl) (fun p l e s m args below meth c k X hr => ?_)
  replace X : CX p s m args meth c k prog_1_method_54_code 2 "WallShifts" := X
  unfold dW_quarterOf at h
  refine v_sub (lv' := [(0, _), (1, _)]) [0, 1] rfl ?_
  refine v_iload_n X (pc := 0) 1 rfl eW_quarterOf_0 rfl ?_
  refine v_iconst X (pc := 1) (v := (1 : Int32)) eW_quarterOf_1 (by decide) ?_
  refine v_icmp_ge X (pc := 2) (tgt := 9) h eW_quarterOf_2 (by decide) (fun h => ?_) (fun h => ?_)
  · refine v_iconst X (pc := 5) (v := (0 : Int32)) eW_quarterOf_5 (by decide) ?_
    refine v_goto X (pc := 6) (tgt := 14) eW_quarterOf_6 (by decide) ?_
    exact v_iret X (pc := 14) h hr eW_quarterOf_14
  · refine v_iload_n X (pc := 9) 0 rfl eW_quarterOf_9 rfl ?_
    refine v_iload_n X (pc := 10) 1 rfl eW_quarterOf_10 rfl ?_
    refine v_idiv X (pc := 11) h eW_quarterOf_11 (fun h => ?_)
    refine v_iconst X (pc := 12) (v := (4 : Int32)) eW_quarterOf_12 (by decide) ?_
    refine v_irem X (pc := 13) h eW_quarterOf_13 (fun h => ?_)
    exact v_iret X (pc := 14) h hr eW_quarterOf_14
set_option maxHeartbeats 4000000 in
set_option maxRecDepth 100000 in
theorem cW_restOf {f : Nat} {a0 : Int32} {a1 : Int32} {mem : Mem} {o : Int32} {mem' : Mem}  (h : dW_restOf f a0 a1 mem = some (o, mem')) : RT yW_restOf prog_1_method_55_code 2 (Option.some Jvm.ClassFile.FieldType.int) (rmM 0 0) [aI a0, aI a1] mem (some (aI o)) mem' := by
  refine RT.of (by decide +kernel) (Nat.le_of_ble_eq_true rfl) (fun p l e s m args below meth c k X hr => ?_)
  replace X : CX p s m args meth c k prog_1_method_55_code 2 "WallShifts" := X
  unfold dW_restOf at h
  refine v_sub (lv' := [(0, _), (1, _)]) [0, 1] rfl ?_
  refine v_iload_n X (pc := 0) 1 rfl eW_restOf_0 rfl ?_
  refine v_iconst X (pc := 1) (v := (1 : Int32)) eW_restOf_1 (by decide) ?_
  refine v_icmp_ge X (pc := 2) (tgt := 9) h eW_restOf_2 (by decide) (fun h => ?_) (fun h => ?_)
  · refine v_iconst X (pc := 5) (v := (0 : Int32)) eW_restOf_5 (by decide) ?_
    refine v_goto X (pc := 6) (tgt := 12) eW_restOf_6 (by decide) ?_
    exact v_iret X (pc := 12) h hr eW_restOf_12
  · refine v_iload_n X (pc := 9) 0 rfl eW_restOf_9 rfl ?_
    refine v_iload_n X (pc := 10) 1 rfl eW_restOf_10 rfl ?_
    refine v_irem X (pc := 11) h eW_restOf_11 (fun h => ?_)
    exact v_iret X (pc := 12) h hr eW_restOf_12
set_option maxHeartbeats 4000000 in
set_option maxRecDepth 100000 in
theorem cP_listens_50 {p : Program} {l : Launch} {e : Env} {s : State} {m : MethodId} {args : Array Value} {below : List Frame} {meth : Method} {c : Code} {k : KK} {f : Nat} {o : Int32} {mem' : Mem} (X : CX p s m args meth c k prog_2_method_7_code 8 "WallShifts$Palace") (hr : meth.sig.returnType = (Option.some Jvm.ClassFile.FieldType.boolean)) : ∀ (x1 : Int32) (x2 : Int32) (x3 : Int32) (x4 : Int32) (x5 : Int32) (x6 : Int32) (s0 : Int32) (mem : Mem), dP_listens_50 f x1 x2 x3 x4 x5 x6 s0 mem = some (o, mem') → V p l e (rmM 0 0) s m args below meth c 0 0 (MQ below (RQc k (some (aI o)) mem') args s 0 0 (kA k)) k 8 mem 50 [(1, aI x1), (2, aI x2), (3, aI x3), (4, aI x4), (5, aI x5), (6, aI x6)] [aI s0] := by
  intro x1 x2 x3 x4 x5 x6 s0 mem  h
  unfold dP_listens_50 at h
  refine v_istore X (pc := 50) (lv' := [(7, _), (1, _), (2, _), (3, _), (4, _), (5, _), (6, _)]) eP_listens_50 (Nat.le_of_ble_eq_true rfl) rfl ?_
  refine v_iload_n X (pc := 52) 1 rfl eP_listens_52 rfl ?_
  by_cases g1 : x1 = (1 : Int32)
  · have h := it_t h g1
    refine v_tsw X (pc := 53) (tgt := 88) (1 : Int32) g1 eP_listens_53 (by decide) (by decide) rfl (by decide) ?_
    refine v_iload X (pc := 88) 6 rfl eP_listens_88 ?_
    refine v_if_eq X (pc := 90) (tgt := 102) h eP_listens_90 (by decide) (fun h => ?_) (fun h => ?_)
    · refine v_iconst X (pc := 102) (v := (0 : Int32)) eP_listens_102 (by decide) ?_
      exact v_zret X (pc := 103) h hr rfl eP_listens_103
    · refine v_iload X (pc := 93) 0 rfl eP_listens_93 ?_
      refine v_if_ne X (pc := 95) (tgt := 102) h eP_listens_95 (by decide) (fun h => ?_) (fun h => ?_)
      · refine v_iconst X (pc := 98) (v := (1 : Int32)) eP_listens_98 (by decide) ?_
        refine v_goto X (pc := 99) (tgt := 103) eP_listens_99 (by decide) ?_
        exact v_zret X (pc := 103) h hr rfl eP_listens_103
      · refine v_iconst X (pc := 102) (v := (0 : Int32)) eP_listens_102 (by decide) ?_
        exact v_zret X (pc := 103) h hr rfl eP_listens_103
  have h := it_f h g1
  by_cases g2 : x1 = (2 : Int32)
  · have h := it_t h g2
    refine v_tsw X (pc := 53) (tgt := 150) (2 : Int32) g2 eP_listens_53 (by decide) (by decide) rfl (by decide) ?_
    refine v_iload X (pc := 150) 6 rfl eP_listens_150 ?_
    obtain ⟨hz, h⟩ := zb_some h
    exact v_zret X (pc := 152) h hr (zb_n hz) eP_listens_152
  have h := it_f h g2
  by_cases g3 : x1 = (3 : Int32)
  · have h := it_t h g3
    refine v_tsw X (pc := 53) (tgt := 150) (3 : Int32) g3 eP_listens_53 (by decide) (by decide) rfl (by decide) ?_
    refine v_iload X (pc := 150) 6 rfl eP_listens_150 ?_
    obtain ⟨hz, h⟩ := zb_some h
    exact v_zret X (pc := 152) h hr (zb_n hz) eP_listens_152
  have h := it_f h g3
  by_cases g4 : x1 = (4 : Int32)
  · have h := it_t h g4
    refine v_tsw X (pc := 53) (tgt := 104) (4 : Int32) g4 eP_listens_53 (by decide) (by decide) rfl (by decide) ?_
    refine v_iload X (pc := 104) 0 rfl eP_listens_104 ?_
    refine v_if_eq X (pc := 106) (tgt := 122) h eP_listens_106 (by decide) (fun h => ?_) (fun h => ?_)
    · refine v_iload X (pc := 122) 6 rfl eP_listens_122 ?_
      obtain ⟨hz, h⟩ := zb_some h
      exact v_zret X (pc := 124) h hr (zb_n hz) eP_listens_124
    · refine v_iload X (pc := 109) 4 rfl eP_listens_109 ?_
      refine v_if_ne X (pc := 111) (tgt := 118) h eP_listens_111 (by decide) (fun h => ?_) (fun h => ?_)
      · refine v_iconst X (pc := 114) (v := (1 : Int32)) eP_listens_114 (by decide) ?_
        refine v_goto X (pc := 115) (tgt := 124) eP_listens_115 (by decide) ?_
        exact v_zret X (pc := 124) h hr rfl eP_listens_124
      · refine v_iconst X (pc := 118) (v := (0 : Int32)) eP_listens_118 (by decide) ?_
        refine v_goto X (pc := 119) (tgt := 124) eP_listens_119 (by decide) ?_
        exact v_zret X (pc := 124) h hr rfl eP_listens_124
  have h := it_f h g4
  by_cases g5 : x1 = (5 : Int32)
  · have h := it_t h g5
    refine v_tsw X (pc := 53) (tgt := 125) (5 : Int32) g5 eP_listens_53 (by decide) (by decide) rfl (by decide) ?_
    refine v_iload X (pc := 125) 6 rfl eP_listens_125 ?_
    refine v_if_ne X (pc := 127) (tgt := 144) h eP_listens_127 (by decide) (fun h => ?_) (fun h => ?_)
    · refine v_iload_n X (pc := 130) 3 rfl eP_listens_130 rfl ?_
      refine v_iload_n X (pc := 131) 2 rfl eP_listens_131 rfl ?_
      refine v_iconst X (pc := 132) (v := (1 : Int32)) eP_listens_132 (by decide) ?_
      refine v_iadd X (pc := 133) eP_listens_133 ?_
      refine v_iconst X (pc := 134) (v := (4 : Int32)) eP_listens_134 (by decide) ?_
      refine v_irem X (pc := 135) h eP_listens_135 (fun h => ?_)
      refine v_icmp_ne X (pc := 136) (tgt := 148) h eP_listens_136 (by decide) (fun h => ?_) (fun h => ?_)
      · refine v_iload X (pc := 139) 5 rfl eP_listens_139 ?_
        refine v_if_eq X (pc := 141) (tgt := 148) h eP_listens_141 (by decide) (fun h => ?_) (fun h => ?_)
        · refine v_iconst X (pc := 148) (v := (0 : Int32)) eP_listens_148 (by decide) ?_
          exact v_zret X (pc := 149) h hr rfl eP_listens_149
        · refine v_iconst X (pc := 144) (v := (1 : Int32)) eP_listens_144 (by decide) ?_
          refine v_goto X (pc := 145) (tgt := 149) eP_listens_145 (by decide) ?_
          exact v_zret X (pc := 149) h hr rfl eP_listens_149
      · refine v_iconst X (pc := 148) (v := (0 : Int32)) eP_listens_148 (by decide) ?_
        exact v_zret X (pc := 149) h hr rfl eP_listens_149
    · refine v_iconst X (pc := 144) (v := (1 : Int32)) eP_listens_144 (by decide) ?_
      refine v_goto X (pc := 145) (tgt := 149) eP_listens_145 (by decide) ?_
      exact v_zret X (pc := 149) h hr rfl eP_listens_149
  have h := it_f h g5
  refine v_tswD X (pc := 53) (tgt := 150) (tsw_out_1_5 g1 g2 g3 g4 g5) eP_listens_53 (by decide) ?_
  refine v_iload X (pc := 150) 6 rfl eP_listens_150 ?_
  obtain ⟨hz, h⟩ := zb_some h
  exact v_zret X (pc := 152) h hr (zb_n hz) eP_listens_152
set_option maxHeartbeats 4000000 in
set_option maxRecDepth 100000 in
theorem cP_listens_33 {p : Program} {l : Launch} {e : Env} {s : State} {m : MethodId} {args : Array Value} {below : List Frame} {meth : Method} {c : Code} {k : KK} {f : Nat} {o : Int32} {mem' : Mem} (X : CX p s m args meth c k prog_2_method_7_code 8 "WallShifts$Palace") (hr : meth.sig.returnType = (Option.some Jvm.ClassFile.FieldType.boolean)) : ∀ (q0 : Nat) (x1 : Int32) (x2 : Int32) (x3 : Int32) (x4 : Int32) (x5 : Int32) (s0 : Int32) (mem : Mem), q0 < 3 → dP_listens_33 f q0 x1 x2 x3 x4 x5 s0 mem = some (o, mem') → V p l e (rmM 0 0) s m args below meth c 0 0 (MQ below (RQc k (some (aI o)) mem') args s 0 0 (kA k)) k 8 mem 33 [(0, aR 1 q0), (1, aI x1), (2, aI x2), (3, aI x3), (4, aI x4), (5, aI x5)] [aI s0] := by
  intro q0 x1 x2 x3 x4 x5 s0 mem hq0 h
  unfold dP_listens_33 at h
  refine v_istore X (pc := 33) (lv' := [(6, _), (0, _), (1, _), (2, _), (3, _), (4, _), (5, _)]) eP_listens_33 (Nat.le_of_ble_eq_true rfl) rfl ?_
  refine v_aload_n X (pc := 35) 1 rfl eP_listens_35 rfl ?_
  refine v_get X (pc := 36) 1 (a := aR 2 q0) (by decide) hq0 rfl rfl rfl in_Palace (by decide) qw_32 rfl eP_listens_36 ?_
  refine v_iconst X (pc := 39) (v := (2 : Int32)) eP_listens_39 (by decide) ?_
  refine v_ialdK X (pc := 40) (n := 4) 2 (by decide) (by decide) (by decide) hq0 rfl eP_listens_40 ?_
  refine v_iconst X (pc := 41) (v := (3 : Int32)) eP_listens_41 (by decide) ?_
  refine v_icmp_ne X (pc := 42) (tgt := 49) h eP_listens_42 (by decide) (fun h => ?_) (fun h => ?_)
  · refine v_iconst X (pc := 45) (v := (1 : Int32)) eP_listens_45 (by decide) ?_
    refine v_goto X (pc := 46) (tgt := 50) eP_listens_46 (by decide) ?_
    exact v_sub [2, 3, 4, 5, 6, 0] rfl (cP_listens_50 X hr _ _ _ _ _ _ _ _  h)
  · refine v_iconst X (pc := 49) (v := (0 : Int32)) eP_listens_49 (by decide) ?_
    exact v_sub [2, 3, 4, 5, 6, 0] rfl (cP_listens_50 X hr _ _ _ _ _ _ _ _  h)
set_option maxHeartbeats 4000000 in
set_option maxRecDepth 100000 in
theorem cP_listens_16 {p : Program} {l : Launch} {e : Env} {s : State} {m : MethodId} {args : Array Value} {below : List Frame} {meth : Method} {c : Code} {k : KK} {f : Nat} {o : Int32} {mem' : Mem} (X : CX p s m args meth c k prog_2_method_7_code 8 "WallShifts$Palace") (hr : meth.sig.returnType = (Option.some Jvm.ClassFile.FieldType.boolean)) : ∀ (q0 : Nat) (x1 : Int32) (x2 : Int32) (x3 : Int32) (x4 : Int32) (s0 : Int32) (mem : Mem), q0 < 3 → dP_listens_16 f q0 x1 x2 x3 x4 s0 mem = some (o, mem') → V p l e (rmM 0 0) s m args below meth c 0 0 (MQ below (RQc k (some (aI o)) mem') args s 0 0 (kA k)) k 8 mem 16 [(0, aR 1 q0), (1, aI x1), (2, aI x2), (3, aI x3), (4, aI x4)] [aI s0] := by
  intro q0 x1 x2 x3 x4 s0 mem hq0 h
  unfold dP_listens_16 at h
  refine v_istore X (pc := 16) (lv' := [(5, _), (0, _), (1, _), (2, _), (3, _), (4, _)]) eP_listens_16 (Nat.le_of_ble_eq_true rfl) rfl ?_
  refine v_iload_n X (pc := 18) 4 rfl eP_listens_18 rfl ?_
  refine v_iload_n X (pc := 19) 3 rfl eP_listens_19 rfl ?_
  refine v_icmp_ne X (pc := 20) (tgt := 32) h eP_listens_20 (by decide) (fun h => ?_) (fun h => ?_)
  · refine v_iload X (pc := 23) 0 rfl eP_listens_23 ?_
    refine v_if_eq X (pc := 25) (tgt := 32) h eP_listens_25 (by decide) (fun h => ?_) (fun h => ?_)
    · refine v_iconst X (pc := 32) (v := (0 : Int32)) eP_listens_32 (by decide) ?_
      exact v_sub [1, 2, 3, 4, 5, 0] rfl (cP_listens_33 X hr _ _ _ _ _ _ _ _ hq0 h)
    · refine v_iconst X (pc := 28) (v := (1 : Int32)) eP_listens_28 (by decide) ?_
      refine v_goto X (pc := 29) (tgt := 33) eP_listens_29 (by decide) ?_
      exact v_sub [1, 2, 3, 4, 5, 0] rfl (cP_listens_33 X hr _ _ _ _ _ _ _ _ hq0 h)
  · refine v_iconst X (pc := 32) (v := (0 : Int32)) eP_listens_32 (by decide) ?_
    exact v_sub [1, 2, 3, 4, 5, 0] rfl (cP_listens_33 X hr _ _ _ _ _ _ _ _ hq0 h)
set_option maxHeartbeats 4000000 in
set_option maxRecDepth 100000 in
theorem cP_listens {f : Nat} {q0 : Nat} {a1 : Int32} {a2 : Int32} {a3 : Int32} {a4 : Int32} {mem : Mem} {o : Int32} {mem' : Mem} (hq0 : q0 < 3) (h : dP_listens f q0 a1 a2 a3 a4 mem = some (o, mem')) : RT yP_listens prog_2_method_7_code 8 (Option.some Jvm.ClassFile.FieldType.boolean) (rmM 0 0) [aR 1 q0, aI a1, aI a2, aI a3, aI a4] mem (some (aI o)) mem' := by
  refine RT.of (by decide +kernel) (Nat.le_of_ble_eq_true rfl) (fun p l e s m args below meth c k X hr => ?_)
  replace X : CX p s m args meth c k prog_2_method_7_code 8 "WallShifts$Palace" := X
  unfold dP_listens at h
  refine v_sub (lv' := [(0, _), (1, _), (2, _), (3, _), (4, _)]) [0, 1, 2, 3, 4] rfl ?_
  refine v_iload X (pc := 0) 4 rfl eP_listens_0 ?_
  refine v_aload_n X (pc := 2) 0 rfl eP_listens_2 rfl ?_
  refine v_get X (pc := 3) 1 (a := aR 2 q0) (by decide) hq0 rfl rfl rfl in_Palace (by decide) qw_32 rfl eP_listens_3 ?_
  refine v_iconst X (pc := 6) (v := (1 : Int32)) eP_listens_6 (by decide) ?_
  refine v_ialdK X (pc := 7) (n := 4) 1 (by decide) (by decide) (by decide) hq0 rfl eP_listens_7 ?_
  refine v_icmp_lt X (pc := 8) (tgt := 15) h eP_listens_8 (by decide) (fun h => ?_) (fun h => ?_)
  · refine v_iconst X (pc := 15) (v := (0 : Int32)) eP_listens_15 (by decide) ?_
    exact v_sub [0, 1, 2, 3, 4] rfl (cP_listens_16 X hr _ _ _ _ _ _ _ hq0 h)
  · refine v_iconst X (pc := 11) (v := (1 : Int32)) eP_listens_11 (by decide) ?_
    refine v_goto X (pc := 12) (tgt := 16) eP_listens_12 (by decide) ?_
    exact v_sub [0, 1, 2, 3, 4] rfl (cP_listens_16 X hr _ _ _ _ _ _ _ hq0 h)
set_option maxHeartbeats 4000000 in
set_option maxRecDepth 100000 in
theorem cP_onDuty_19 {p : Program} {l : Launch} {e : Env} {s : State} {m : MethodId} {args : Array Value} {below : List Frame} {meth : Method} {c : Code} {k : KK} {f : Nat} {o : Int32} {mem' : Mem} (X : CX p s m args meth c k prog_2_method_9_code 7 "WallShifts$Palace") (hr : meth.sig.returnType = (Option.some Jvm.ClassFile.FieldType.int)) : ∀ (n : Nat) (q0 : Nat) (x3 : Int32) (x4 : Int32) (x5 : Int32) (x6 : Int32) (mem : Mem), q0 < 3 → dP_onDuty_19 f n q0 x3 x4 x5 x6 mem = some (o, mem') → V p l e (rmM 1 27) s m args below meth c 0 0 (MQ below (RQc k (some (aI o)) mem') args s 0 0 (kA k)) k 7 mem 19 [(0, aR 1 q0), (3, aI x3), (4, aI x4), (5, aI x5), (6, aI x6)] [] := by
  intro n
  induction n with
  | zero =>
    intro q0 x3 x4 x5 x6 mem hq0 h
    exact nomatch (show (none : Option (Int32 × Mem)) = some _ from h)
  | succ n ih =>
    intro q0 x3 x4 x5 x6 mem hq0 h
    rw [dP_onDuty_19] at h
    refine v_iload X (pc := 19) 4 rfl eP_onDuty_19 ?_
    refine v_aload_n X (pc := 21) 0 rfl eP_onDuty_21 rfl ?_
    refine v_get X (pc := 22) 2 (a := aI (gI mem 1 q0 2)) (by decide) hq0 rfl rfl rfl in_Palace (by decide) qw_34 rfl eP_onDuty_22 ?_
    refine v_icmp_ge X (pc := 25) (tgt := 71) h eP_onDuty_25 (by decide) (fun h => ?_) (fun h => ?_)
    · refine v_aload_n X (pc := 28) 0 rfl eP_onDuty_28 rfl ?_
      refine v_aload_n X (pc := 29) 0 rfl eP_onDuty_29 rfl ?_
      refine v_get X (pc := 30) 3 (a := aR 3 q0) (by decide) hq0 rfl rfl rfl in_Palace (by decide) qw_36 rfl eP_onDuty_30 ?_
      refine v_iload X (pc := 33) 4 rfl eP_onDuty_33 ?_
      refine v_aaldW X (pc := 35) h hq0 eP_onDuty_35 (fun hb1 h => ?_)
      refine v_iconst X (pc := 36) (v := (0 : Int32)) eP_onDuty_36 (by decide) ?_
      refine v_ialdK X (pc := 37) (n := 6) 0 (by decide) (by decide) (by decide) hb1 rfl eP_onDuty_37 ?_
      refine v_aload_n X (pc := 38) 0 rfl eP_onDuty_38 rfl ?_
      refine v_get X (pc := 39) 3 (a := aR 3 q0) (by decide) hq0 rfl rfl rfl in_Palace (by decide) qw_36 rfl eP_onDuty_39 ?_
      refine v_iload X (pc := 42) 4 rfl eP_onDuty_42 ?_
      refine v_aaldW X (pc := 44) h hq0 eP_onDuty_44 (fun hb2 h => ?_)
      refine v_iconst X (pc := 45) (v := (3 : Int32)) eP_onDuty_45 (by decide) ?_
      refine v_ialdK X (pc := 46) (n := 6) 3 (by decide) (by decide) (by decide) hb2 rfl eP_onDuty_46 ?_
      refine v_iload_n X (pc := 47) 1 rfl eP_onDuty_47 rfl ?_
      refine v_iload X (pc := 48) 2 rfl eP_onDuty_48 ?_
      obtain ⟨r3, m3, hc3, h⟩ := bd_some h
      refine v_callV X (pc := 50) [_, _, _, _] [] ok_V_P_46 (cP_listens hq0 hc3) rfl (Nat.le_of_ble_eq_true rfl) ⟨Nat.le_of_ble_eq_true rfl, Nat.le_of_ble_eq_true rfl⟩ ⟨Nat.zero_le _, Nat.zero_le _⟩ (by decide) hq0 rfl rfl eP_onDuty_50 ?_
      refine v_if_eq X (pc := 53) (tgt := 65) h eP_onDuty_53 (by decide) (fun h => ?_) (fun h => ?_)
      · refine v_iinc X (pc := 65) (v := (x6 + (1 : Int32))) (lv' := [(6, _), (0, _), (3, _), (4, _), (5, _)]) 4 rfl (by rfl) eP_onDuty_65 (Nat.le_of_ble_eq_true rfl) rfl ?_
        refine v_goto X (pc := 68) (tgt := 19) eP_onDuty_68 (by decide) ?_
        exact v_sub [1, 2, 3, 4, 0] rfl (ih _ _ _ _ _ _ hq0 h)
      · refine v_iload X (pc := 56) 3 rfl eP_onDuty_56 ?_
        refine v_iconst X (pc := 58) (v := (1 : Int32)) eP_onDuty_58 (by decide) ?_
        refine v_iload X (pc := 59) 4 rfl eP_onDuty_59 ?_
        refine v_ishl X (pc := 61) eP_onDuty_61 ?_
        refine v_ior X (pc := 62) eP_onDuty_62 ?_
        refine v_istore X (pc := 63) (lv' := [(5, _), (0, _), (3, _), (4, _), (6, _)]) eP_onDuty_63 (Nat.le_of_ble_eq_true rfl) rfl ?_
        refine v_iinc X (pc := 65) (v := (x6 + (1 : Int32))) (lv' := [(6, _), (5, _), (0, _), (3, _), (4, _)]) 4 rfl (by rfl) eP_onDuty_65 (Nat.le_of_ble_eq_true rfl) rfl ?_
        refine v_goto X (pc := 68) (tgt := 19) eP_onDuty_68 (by decide) ?_
        exact v_sub [2, 3, 4, 1, 0] rfl (ih _ _ _ _ _ _ hq0 h)
    · refine v_iload X (pc := 71) 3 rfl eP_onDuty_71 ?_
      exact v_iret X (pc := 73) h hr eP_onDuty_73
set_option maxHeartbeats 4000000 in
set_option maxRecDepth 100000 in
theorem cP_onDuty {f : Nat} {q0 : Nat} {a1 : Int32} {a2 : Int32} {mem : Mem} {o : Int32} {mem' : Mem} (hq0 : q0 < 3) (h : dP_onDuty f q0 a1 a2 mem = some (o, mem')) : RT yP_onDuty prog_2_method_9_code 7 (Option.some Jvm.ClassFile.FieldType.int) (rmM 1 27) [aR 1 q0, aI a1, aI a2] mem (some (aI o)) mem' := by
  refine RT.of (by decide +kernel) (Nat.le_of_ble_eq_true rfl) (fun p l e s m args below meth c k X hr => ?_)
  replace X : CX p s m args meth c k prog_2_method_9_code 7 "WallShifts$Palace" := X
  unfold dP_onDuty at h
  refine v_sub (lv' := [(0, _), (1, _), (2, _)]) [0, 1, 2] rfl ?_
  refine v_iload_n X (pc := 0) 1 rfl eP_onDuty_0 rfl ?_
  refine v_iload_n X (pc := 1) 2 rfl eP_onDuty_1 rfl ?_
  obtain ⟨r1, m1, hc1, h⟩ := bd_some h
  refine v_callN X (pc := 2) [_, _] [] ok_N_P_40 (cW_quarterOf  hc1) rfl (Nat.le_of_ble_eq_true rfl) ⟨Nat.le_of_ble_eq_true rfl, Nat.le_of_ble_eq_true rfl⟩ ⟨Nat.zero_le _, Nat.zero_le _⟩ eP_onDuty_2 ?_
  refine v_istore_n X (pc := 5) (lv' := [(3, _), (0, _), (1, _), (2, _)]) eP_onDuty_5 rfl (Nat.le_of_ble_eq_true rfl) rfl ?_
  refine v_iload_n X (pc := 6) 2 rfl eP_onDuty_6 rfl ?_
  refine v_iload_n X (pc := 7) 3 rfl eP_onDuty_7 rfl ?_
  obtain ⟨r2, m2, hc2, h⟩ := bd_some h
  refine v_callN X (pc := 8) [_, _] [] ok_N_P_43 (cW_restOf  hc2) rfl (Nat.le_of_ble_eq_true rfl) ⟨Nat.le_of_ble_eq_true rfl, Nat.le_of_ble_eq_true rfl⟩ ⟨Nat.zero_le _, Nat.zero_le _⟩ eP_onDuty_8 ?_
  refine v_istore X (pc := 11) (lv' := [(4, _), (3, _), (0, _), (1, _), (2, _)]) eP_onDuty_11 (Nat.le_of_ble_eq_true rfl) rfl ?_
  refine v_iconst X (pc := 13) (v := (0 : Int32)) eP_onDuty_13 (by decide) ?_
  refine v_istore X (pc := 14) (lv' := [(5, _), (4, _), (3, _), (0, _), (1, _), (2, _)]) eP_onDuty_14 (Nat.le_of_ble_eq_true rfl) rfl ?_
  refine v_iconst X (pc := 16) (v := (0 : Int32)) eP_onDuty_16 (by decide) ?_
  refine v_istore X (pc := 17) (lv' := [(6, _), (5, _), (4, _), (3, _), (0, _), (1, _), (2, _)]) eP_onDuty_17 (Nat.le_of_ble_eq_true rfl) rfl ?_
  exact v_sub [4, 3, 2, 1, 0] rfl (cP_onDuty_19 X hr _ _ _ _ _ _ _ hq0 h)
set_option maxHeartbeats 4000000 in
set_option maxRecDepth 100000 in
theorem cW_becomes {f : Nat} {q0 : Nat} {a1 : Int32} {mem : Mem} {o : Int32} {mem' : Mem} (hq0 : q0 < 30) (h : dW_becomes f q0 a1 mem = some (o, mem')) : RT yW_becomes prog_1_method_57_code 2 (Option.some Jvm.ClassFile.FieldType.int) (rmM 0 0) [aR 4 q0, aI a1] mem (some (aI o)) mem' := by
  refine RT.of (by decide +kernel) (Nat.le_of_ble_eq_true rfl) (fun p l e s m args below meth c k X hr => ?_)
  replace X : CX p s m args meth c k prog_1_method_57_code 2 "WallShifts" := X
  unfold dW_becomes at h
  refine v_sub (lv' := [(0, _), (1, _)]) [0, 1] rfl ?_
  refine v_aload_n X (pc := 0) 0 rfl eW_becomes_0 rfl ?_
  refine v_iconst X (pc := 1) (v := (0 : Int32)) eW_becomes_1 (by decide) ?_
  refine v_ialdK X (pc := 2) (n := 6) 0 (by decide) (by decide) (by decide) hq0 rfl eW_becomes_2 ?_
  by_cases g2 : (gI mem 4 q0 0) = (2 : Int32)
  · have h := it_t h g2
    refine v_tsw X (pc := 3) (tgt := 32) (2 : Int32) g2 eW_becomes_3 (by decide) (by decide) rfl (by decide) ?_
    refine v_iload_n X (pc := 32) 1 rfl eW_becomes_32 rfl ?_
    refine v_iconst X (pc := 33) (v := (1 : Int32)) eW_becomes_33 (by decide) ?_
    refine v_ixor X (pc := 34) eW_becomes_34 ?_
    exact v_iret X (pc := 35) h hr eW_becomes_35
  have h := it_f h g2
  by_cases g3 : (gI mem 4 q0 0) = (3 : Int32)
  · have h := it_t h g3
    refine v_tsw X (pc := 3) (tgt := 61) (3 : Int32) g3 eW_becomes_3 (by decide) (by decide) rfl (by decide) ?_
    refine v_iload_n X (pc := 61) 1 rfl eW_becomes_61 rfl ?_
    exact v_iret X (pc := 62) h hr eW_becomes_62
  have h := it_f h g3
  by_cases g4 : (gI mem 4 q0 0) = (4 : Int32)
  · have h := it_t h g4
    refine v_tsw X (pc := 3) (tgt := 36) (4 : Int32) g4 eW_becomes_3 (by decide) (by decide) rfl (by decide) ?_
    refine v_iload_n X (pc := 36) 1 rfl eW_becomes_36 rfl ?_
    refine v_iconst X (pc := 37) (v := (4 : Int32)) eW_becomes_37 (by decide) ?_
    refine v_icmp_ge X (pc := 38) (tgt := 45) h eW_becomes_38 (by decide) (fun h => ?_) (fun h => ?_)
    · refine v_iconst X (pc := 41) (v := (-1 : Int32)) eW_becomes_41 (by decide) ?_
      refine v_goto X (pc := 42) (tgt := 46) eW_becomes_42 (by decide) ?_
      exact v_iret X (pc := 46) h hr eW_becomes_46
    · refine v_iload_n X (pc := 45) 1 rfl eW_becomes_45 rfl ?_
      exact v_iret X (pc := 46) h hr eW_becomes_46
  have h := it_f h g4
  by_cases g5 : (gI mem 4 q0 0) = (5 : Int32)
  · have h := it_t h g5
    refine v_tsw X (pc := 3) (tgt := 47) (5 : Int32) g5 eW_becomes_3 (by decide) (by decide) rfl (by decide) ?_
    refine v_aload_n X (pc := 47) 0 rfl eW_becomes_47 rfl ?_
    refine v_iconst X (pc := 48) (v := (5 : Int32)) eW_becomes_48 (by decide) ?_
    refine v_ialdK X (pc := 49) (n := 6) 5 (by decide) (by decide) (by decide) hq0 rfl eW_becomes_49 ?_
    refine v_if_ne X (pc := 50) (tgt := 57) h eW_becomes_50 (by decide) (fun h => ?_) (fun h => ?_)
    · refine v_iload_n X (pc := 53) 1 rfl eW_becomes_53 rfl ?_
      refine v_goto X (pc := 54) (tgt := 60) eW_becomes_54 (by decide) ?_
      exact v_iret X (pc := 60) h hr eW_becomes_60
    · refine v_iload_n X (pc := 57) 1 rfl eW_becomes_57 rfl ?_
      refine v_iconst X (pc := 58) (v := (1 : Int32)) eW_becomes_58 (by decide) ?_
      refine v_ixor X (pc := 59) eW_becomes_59 ?_
      exact v_iret X (pc := 60) h hr eW_becomes_60
  have h := it_f h g5
  refine v_tswD X (pc := 3) (tgt := 61) (tsw_out_2_5 g2 g3 g4 g5) eW_becomes_3 (by decide) ?_
  refine v_iload_n X (pc := 61) 1 rfl eW_becomes_61 rfl ?_
  exact v_iret X (pc := 62) h hr eW_becomes_62
set_option maxHeartbeats 4000000 in
set_option maxRecDepth 100000 in
theorem cP_isAwake {f : Nat} {q0 : Nat} {q1 : Nat} {mem : Mem} {o : Int32} {mem' : Mem} (hq0 : q0 < 3) (hq1 : q1 < 30) (h : dP_isAwake f q0 q1 mem = some (o, mem')) : RT yP_isAwake prog_2_method_6_code 2 (Option.some Jvm.ClassFile.FieldType.boolean) (rmM 0 0) [aR 1 q0, aR 4 q1] mem (some (aI o)) mem' := by
  refine RT.of (by decide +kernel) (Nat.le_of_ble_eq_true rfl) (fun p l e s m args below meth c k X hr => ?_)
  replace X : CX p s m args meth c k prog_2_method_6_code 2 "WallShifts$Palace" := X
  unfold dP_isAwake at h
  refine v_sub (lv' := [(0, _), (1, _)]) [0, 1] rfl ?_
  refine v_aload_n X (pc := 0) 1 rfl eP_isAwake_0 rfl ?_
  refine v_iconst X (pc := 1) (v := (5 : Int32)) eP_isAwake_1 (by decide) ?_
  refine v_ialdK X (pc := 2) (n := 6) 5 (by decide) (by decide) (by decide) hq1 rfl eP_isAwake_2 ?_
  refine v_aload_n X (pc := 3) 0 rfl eP_isAwake_3 rfl ?_
  refine v_get X (pc := 4) 1 (a := aR 2 q0) (by decide) hq0 rfl rfl rfl in_Palace (by decide) qw_32 rfl eP_isAwake_4 ?_
  refine v_iconst X (pc := 7) (v := (3 : Int32)) eP_isAwake_7 (by decide) ?_
  refine v_ialdK X (pc := 8) (n := 4) 3 (by decide) (by decide) (by decide) hq0 rfl eP_isAwake_8 ?_
  refine v_icmp_ge X (pc := 9) (tgt := 16) h eP_isAwake_9 (by decide) (fun h => ?_) (fun h => ?_)
  · refine v_iconst X (pc := 12) (v := (1 : Int32)) eP_isAwake_12 (by decide) ?_
    refine v_goto X (pc := 13) (tgt := 17) eP_isAwake_13 (by decide) ?_
    exact v_zret X (pc := 17) h hr rfl eP_isAwake_17
  · refine v_iconst X (pc := 16) (v := (0 : Int32)) eP_isAwake_16 (by decide) ?_
    exact v_zret X (pc := 17) h hr rfl eP_isAwake_17
set_option maxHeartbeats 4000000 in
set_option maxRecDepth 100000 in
theorem cW_tires {f : Nat} {a0 : Int32} {mem : Mem} {o : Int32} {mem' : Mem}  (h : dW_tires f a0 mem = some (o, mem')) : RT yW_tires prog_1_method_56_code 1 (Option.some Jvm.ClassFile.FieldType.int) (rmM 0 0) [aI a0] mem (some (aI o)) mem' := by
  refine RT.of (by decide +kernel) (Nat.le_of_ble_eq_true rfl) (fun p l e s m args below meth c k X hr => ?_)
  replace X : CX p s m args meth c k prog_1_method_56_code 1 "WallShifts" := X
  unfold dW_tires at h
  refine v_sub (lv' := [(0, _)]) [0] rfl ?_
  refine v_iload_n X (pc := 0) 0 rfl eW_tires_0 rfl ?_
  by_cases g3 : a0 = (3 : Int32)
  · have h := it_t h g3
    refine v_tsw X (pc := 1) (tgt := 28) (3 : Int32) g3 eW_tires_1 (by decide) (by decide) rfl (by decide) ?_
    refine v_iconst X (pc := 28) (v := (2 : Int32)) eW_tires_28 (by decide) ?_
    exact v_iret X (pc := 29) h hr eW_tires_29
  have h := it_f h g3
  by_cases g4 : a0 = (4 : Int32)
  · have h := it_t h g4
    refine v_tsw X (pc := 1) (tgt := 30) (4 : Int32) g4 eW_tires_1 (by decide) (by decide) rfl (by decide) ?_
    refine v_iconst X (pc := 30) (v := (0 : Int32)) eW_tires_30 (by decide) ?_
    exact v_iret X (pc := 31) h hr eW_tires_31
  have h := it_f h g4
  by_cases g5 : a0 = (5 : Int32)
  · have h := it_t h g5
    refine v_tsw X (pc := 1) (tgt := 28) (5 : Int32) g5 eW_tires_1 (by decide) (by decide) rfl (by decide) ?_
    refine v_iconst X (pc := 28) (v := (2 : Int32)) eW_tires_28 (by decide) ?_
    exact v_iret X (pc := 29) h hr eW_tires_29
  have h := it_f h g5
  refine v_tswD X (pc := 1) (tgt := 32) (tsw_out_3_5 g3 g4 g5) eW_tires_1 (by decide) ?_
  refine v_iconst X (pc := 32) (v := (1 : Int32)) eW_tires_32 (by decide) ?_
  exact v_iret X (pc := 33) h hr eW_tires_33
set_option maxHeartbeats 4000000 in
set_option maxRecDepth 100000 in
theorem cP_utter_23 {p : Program} {l : Launch} {e : Env} {s : State} {m : MethodId} {args : Array Value} {below : List Frame} {meth : Method} {c : Code} {k : KK} {f : Nat} {o : Int32} {mem' : Mem} (X : CX p s m args meth c k prog_2_method_14_code 8 "WallShifts$Palace") (hr : meth.sig.returnType = (Option.some Jvm.ClassFile.FieldType.int)) : ∀ (n : Nat) (q0 : Nat) (x2 : Int32) (x3 : Int32) (x4 : Int32) (x5 : Int32) (mem : Mem), q0 < 3 → dP_utter_23 f n q0 x2 x3 x4 x5 mem = some (o, mem') → V p l e (rmM 2 53) s m args below meth c 0 0 (MQ below (RQc k (some (aI o)) mem') args s 0 0 (kA k)) k 8 mem 23 [(0, aR 1 q0), (2, aI x2), (3, aI x3), (4, aI x4), (5, aI x5)] [] := by
  intro n
  induction n with
  | zero =>
    intro q0 x2 x3 x4 x5 mem hq0 h
    exact nomatch (show (none : Option (Int32 × Mem)) = some _ from h)
  | succ n ih =>
    intro q0 x2 x3 x4 x5 mem hq0 h
    rw [dP_utter_23] at h
    refine v_iload X (pc := 23) 4 rfl eP_utter_23 ?_
    refine v_aload_n X (pc := 25) 0 rfl eP_utter_25 rfl ?_
    refine v_get X (pc := 26) 2 (a := aI (gI mem 1 q0 2)) (by decide) hq0 rfl rfl rfl in_Palace (by decide) qw_34 rfl eP_utter_26 ?_
    refine v_icmp_ge X (pc := 29) (tgt := 120) h eP_utter_29 (by decide) (fun h => ?_) (fun h => ?_)
    · refine v_aload_n X (pc := 32) 0 rfl eP_utter_32 rfl ?_
      refine v_get X (pc := 33) 3 (a := aR 3 q0) (by decide) hq0 rfl rfl rfl in_Palace (by decide) qw_36 rfl eP_utter_33 ?_
      refine v_iload X (pc := 36) 4 rfl eP_utter_36 ?_
      refine v_aaldW X (pc := 38) h hq0 eP_utter_38 (fun hb1 h => ?_)
      refine v_astore X (pc := 39) (lv' := [(6, _), (0, _), (2, _), (3, _), (4, _), (5, _)]) eP_utter_39 (Nat.le_of_ble_eq_true rfl) rfl ?_
      refine v_aload X (pc := 41) 0 rfl eP_utter_41 ?_
      refine v_iload_n X (pc := 43) 2 rfl eP_utter_43 rfl ?_
      obtain ⟨r2, m2, hc2, h⟩ := bd_some h
      refine v_callN X (pc := 44) [_, _] [] ok_N_P_58 (cW_becomes hb1 hc2) rfl (Nat.le_of_ble_eq_true rfl) ⟨Nat.le_of_ble_eq_true rfl, Nat.le_of_ble_eq_true rfl⟩ ⟨Nat.zero_le _, Nat.zero_le _⟩ eP_utter_44 ?_
      refine v_istore X (pc := 47) (lv' := [(7, _), (6, _), (0, _), (2, _), (3, _), (4, _), (5, _)]) eP_utter_47 (Nat.le_of_ble_eq_true rfl) rfl ?_
      refine v_iload_n X (pc := 49) 4 rfl eP_utter_49 rfl ?_
      refine v_iload X (pc := 50) 6 rfl eP_utter_50 ?_
      refine v_ishr X (pc := 52) eP_utter_52 ?_
      refine v_iconst X (pc := 53) (v := (1 : Int32)) eP_utter_53 (by decide) ?_
      refine v_iand X (pc := 54) eP_utter_54 ?_
      refine v_iconst X (pc := 55) (v := (1 : Int32)) eP_utter_55 (by decide) ?_
      refine v_icmp_ne X (pc := 56) (tgt := 114) h eP_utter_56 (by decide) (fun h => ?_) (fun h => ?_)
      · refine v_aload_n X (pc := 59) 2 rfl eP_utter_59 rfl ?_
        refine v_aload X (pc := 60) 1 rfl eP_utter_60 ?_
        obtain ⟨r3, m3, hc3, h⟩ := bd_some h
        refine v_callV X (pc := 62) [_] [] ok_V_P_62 (cP_isAwake hq0 hb1 hc3) rfl (Nat.le_of_ble_eq_true rfl) ⟨Nat.le_of_ble_eq_true rfl, Nat.le_of_ble_eq_true rfl⟩ ⟨Nat.zero_le _, Nat.zero_le _⟩ (by decide) hq0 rfl rfl eP_utter_62 ?_
        refine v_if_eq X (pc := 65) (tgt := 114) h eP_utter_65 (by decide) (fun h => ?_) (fun h => ?_)
        · refine v_iinc X (pc := 114) (v := (x5 + (1 : Int32))) (lv' := [(5, _), (7, _), (6, _), (0, _), (2, _), (3, _), (4, _)]) 6 rfl (by rfl) eP_utter_114 (Nat.le_of_ble_eq_true rfl) rfl ?_
          refine v_goto X (pc := 117) (tgt := 23) eP_utter_117 (by decide) ?_
          exact v_sub [3, 4, 5, 6, 0] rfl (ih _ _ _ _ _ _ hq0 h)
        · refine v_iload X (pc := 68) 0 rfl eP_utter_68 ?_
          refine v_if_lt X (pc := 70) (tgt := 114) h eP_utter_70 (by decide) (fun h => ?_) (fun h => ?_)
          · refine v_iinc X (pc := 114) (v := (x5 + (1 : Int32))) (lv' := [(5, _), (7, _), (6, _), (0, _), (2, _), (3, _), (4, _)]) 6 rfl (by rfl) eP_utter_114 (Nat.le_of_ble_eq_true rfl) rfl ?_
            refine v_goto X (pc := 117) (tgt := 23) eP_utter_117 (by decide) ?_
            exact v_sub [3, 4, 5, 6, 0] rfl (ih _ _ _ _ _ _ hq0 h)
          · refine v_aload X (pc := 73) 1 rfl eP_utter_73 ?_
            refine v_iconst X (pc := 75) (v := (4 : Int32)) eP_utter_75 (by decide) ?_
            refine v_dup2 X (pc := 76) rfl rfl eP_utter_76 ?_
            refine v_ialdK X (pc := 77) (n := 6) 4 (by decide) (by decide) (by decide) hb1 rfl eP_utter_77 ?_
            refine v_iconst X (pc := 78) (v := (1 : Int32)) eP_utter_78 (by decide) ?_
            refine v_iload X (pc := 79) 0 rfl eP_utter_79 ?_
            refine v_ishl X (pc := 81) eP_utter_81 ?_
            refine v_ior X (pc := 82) eP_utter_82 ?_
            refine v_iastK X (pc := 83) (n := 6) 4 (by decide) (by decide) (by decide) hb1 (fun _ => rfl) eP_utter_83 ?_
            refine v_aload X (pc := 84) 1 rfl eP_utter_84 ?_
            refine v_iconst X (pc := 86) (v := (5 : Int32)) eP_utter_86 (by decide) ?_
            refine v_bipush X (pc := 87) (v := (99 : Int32)) eP_utter_87 (by decide) ?_
            refine v_aload X (pc := 89) 1 rfl eP_utter_89 ?_
            refine v_iconst X (pc := 91) (v := (5 : Int32)) eP_utter_91 (by decide) ?_
            refine v_ialdK X (pc := 92) (n := 6) 5 (by decide) (by decide) (by decide) hb1 rfl eP_utter_92 ?_
            refine v_aload X (pc := 93) 1 rfl eP_utter_93 ?_
            refine v_iconst X (pc := 95) (v := (0 : Int32)) eP_utter_95 (by decide) ?_
            refine v_ialdK X (pc := 96) (n := 6) 0 (by decide) (by decide) (by decide) hb1 rfl eP_utter_96 ?_
            obtain ⟨r4, m4, hc4, h⟩ := bd_some h
            refine v_callN X (pc := 97) [_] [_, _, _, _] ok_N_P_66 (cW_tires  hc4) rfl (Nat.le_of_ble_eq_true rfl) ⟨Nat.le_of_ble_eq_true rfl, Nat.le_of_ble_eq_true rfl⟩ ⟨Nat.zero_le _, Nat.zero_le _⟩ eP_utter_97 ?_
            refine v_iadd X (pc := 100) eP_utter_100 ?_
            refine v_mmin X (pc := 101) okM_P_69 [_, _] (Nat.le_of_ble_eq_true rfl) (Nat.le_of_ble_eq_true rfl) ⟨Nat.zero_le _, Nat.zero_le _⟩ eP_utter_101 ?_
            refine v_iastK X (pc := 104) (n := 6) 5 (by decide) (by decide) (by decide) hb1 (fun _ => rfl) eP_utter_104 ?_
            refine v_iload X (pc := 105) 5 rfl eP_utter_105 ?_
            refine v_iconst X (pc := 107) (v := (1 : Int32)) eP_utter_107 (by decide) ?_
            refine v_iload X (pc := 108) 6 rfl eP_utter_108 ?_
            refine v_ishl X (pc := 110) eP_utter_110 ?_
            refine v_ior X (pc := 111) eP_utter_111 ?_
            refine v_istore X (pc := 112) (lv' := [(4, _), (7, _), (6, _), (0, _), (2, _), (3, _), (5, _)]) eP_utter_112 (Nat.le_of_ble_eq_true rfl) rfl ?_
            refine v_iinc X (pc := 114) (v := (x5 + (1 : Int32))) (lv' := [(5, _), (4, _), (7, _), (6, _), (0, _), (2, _), (3, _)]) 6 rfl (by rfl) eP_utter_114 (Nat.le_of_ble_eq_true rfl) rfl ?_
            refine v_goto X (pc := 117) (tgt := 23) eP_utter_117 (by decide) ?_
            exact v_sub [4, 5, 6, 1, 0] rfl (ih _ _ _ _ _ _ hq0 h)
      · refine v_iinc X (pc := 114) (v := (x5 + (1 : Int32))) (lv' := [(5, _), (7, _), (6, _), (0, _), (2, _), (3, _), (4, _)]) 6 rfl (by rfl) eP_utter_114 (Nat.le_of_ble_eq_true rfl) rfl ?_
        refine v_goto X (pc := 117) (tgt := 23) eP_utter_117 (by decide) ?_
        exact v_sub [3, 4, 5, 6, 0] rfl (ih _ _ _ _ _ _ hq0 h)
    · refine v_iload X (pc := 120) 3 rfl eP_utter_120 ?_
      exact v_iret X (pc := 122) h hr eP_utter_122
