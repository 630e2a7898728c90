/-! GENERATED: the walks. -/
set_option maxHeartbeats 4000000 in
set_option maxRecDepth 100000 in
theorem cM_in {f : Nat} {a0 : Int32} {a1 : Int32} {a2 : Int32} {mem : Mem} {o : Int32} {mem' : Mem}  (h : dM_in f a0 a1 a2 mem = some (o, mem')) : RT yM_in prog_6_method_2_code 3 (Option.some Jvm.ClassFile.FieldType.boolean) (rmM 0 0) [aI a0, aI a1, aI a2] mem (some (aI o)) mem' := by
  refine RT.of (by decide +kernel) (Nat.le_of_ble_eq_true rfl) (fun p l e s m args below meth c k X hr => ?_)
  replace X : CX p s m args meth c k prog_6_method_2_code 3 "WallShiftsModel" := X
  unfold dM_in at h
  refine v_sub (lv' := [(0, _), (1, _), (2, _)]) [0, 1, 2] rfl ?_
  refine v_iload_n X (pc := 0) 0 rfl eM_in_0 rfl ?_
  refine v_iload_n X (pc := 1) 1 rfl eM_in_1 rfl ?_
  refine v_icmp_lt X (pc := 2) (tgt := 14) h eM_in_2 (by decide) (fun h => ?_) (fun h => ?_)
  · refine v_iconst X (pc := 14) (v := (0 : Int32)) eM_in_14 (by decide) ?_
    exact v_zret X (pc := 15) h hr rfl eM_in_15
  · refine v_iload_n X (pc := 5) 0 rfl eM_in_5 rfl ?_
    refine v_iload_n X (pc := 6) 2 rfl eM_in_6 rfl ?_
    refine v_icmp_gt X (pc := 7) (tgt := 14) h eM_in_7 (by decide) (fun h => ?_) (fun h => ?_)
    · refine v_iconst X (pc := 14) (v := (0 : Int32)) eM_in_14 (by decide) ?_
      exact v_zret X (pc := 15) h hr rfl eM_in_15
    · refine v_iconst X (pc := 10) (v := (1 : Int32)) eM_in_10 (by decide) ?_
      refine v_goto X (pc := 11) (tgt := 15) eM_in_11 (by decide) ?_
      exact v_zret X (pc := 15) h hr rfl eM_in_15
set_option maxHeartbeats 4000000 in
set_option maxRecDepth 100000 in
theorem cM_finds {f : Nat} {a1 : Int32} {mem : Mem} {o : Int32} {mem' : Mem}  (h : dM_finds f a1 mem = some (o, mem')) : RT yM_finds prog_6_method_3_code 2 (Option.some Jvm.ClassFile.FieldType.int) (rmM 0 0) [aR 12 0, aI a1] mem (some (aI o)) mem' := by
  refine RT.of (by decide +kernel) (Nat.le_of_ble_eq_true rfl) (fun p l e s m args below meth c k X hr => ?_)
  replace X : CX p s m args meth c k prog_6_method_3_code 2 "WallShiftsModel" := X
  unfold dM_finds at h
  refine v_sub (lv' := [(0, _), (1, _)]) [0, 1] rfl ?_
  refine v_aload_n X (pc := 0) 0 rfl eM_finds_0 rfl ?_
  refine v_get X (pc := 1) 1 (a := aR 14 0) (by decide) (by decide) rfl rfl rfl in_Model (by decide) qw_649 rfl eM_finds_1 ?_
  refine v_ldc X (pc := 4) qw_717 eM_finds_4 ?_
  refine v_iload_n X (pc := 6) 1 rfl eM_finds_6 rfl ?_
  refine v_isub X (pc := 7) eM_finds_7 ?_
  refine v_dup2 X (pc := 8) rfl rfl eM_finds_8 ?_
  refine v_iald X (pc := 9) h (by decide) (by decide) rfl eM_finds_9 (fun h => ?_)
  refine v_iconst X (pc := 10) (v := (1 : Int32)) eM_finds_10 (by decide) ?_
  refine v_iadd X (pc := 11) eM_finds_11 ?_
  refine v_iast X (pc := 12) h (by decide) (by decide) (fun _ => rfl) eM_finds_12 (fun h => ?_)
  refine v_iload_n X (pc := 13) 1 rfl eM_finds_13 rfl ?_
  exact v_iret X (pc := 14) h hr eM_finds_14
set_option maxHeartbeats 4000000 in
set_option maxRecDepth 100000 in
theorem cM_becomes {f : Nat} {a1 : Int32} {a2 : Int32} {mem : Mem} {o : Int32} {mem' : Mem}  (h : dM_becomes f a1 a2 mem = some (o, mem')) : RT yM_becomes prog_6_method_7_code 4 (Option.some Jvm.ClassFile.FieldType.int) (rmM 0 0) [aR 12 0, aI a1, aI a2] mem (some (aI o)) mem' := by
  refine RT.of (by decide +kernel) (Nat.le_of_ble_eq_true rfl) (fun p l e s m args below meth c k X hr => ?_)
  replace X : CX p s m args meth c k prog_6_method_7_code 4 "WallShiftsModel" := X
  unfold dM_becomes at h
  refine v_sub (lv' := [(0, _), (1, _), (2, _)]) [0, 1, 2] rfl ?_
  refine v_aload_n X (pc := 0) 0 rfl eM_becomes_0 rfl ?_
  refine v_get X (pc := 1) 0 (a := aR 13 0) (by decide) (by decide) rfl rfl rfl in_Model (by decide) qw_648 rfl eM_becomes_1 ?_
  refine v_iload_n X (pc := 4) 1 rfl eM_becomes_4 rfl ?_
  refine v_iald X (pc := 5) h (by decide) (by decide) rfl eM_becomes_5 (fun h => ?_)
  refine v_istore_n X (pc := 6) (lv' := [(3, _), (0, _), (1, _), (2, _)]) eM_becomes_6 rfl (Nat.le_of_ble_eq_true rfl) rfl ?_
  refine v_aload_n X (pc := 7) 1 rfl eM_becomes_7 rfl ?_
  refine v_get X (pc := 8) 0 (a := aR 13 0) (by decide) (by decide) rfl rfl rfl in_Model (by decide) qw_648 rfl eM_becomes_8 ?_
  refine v_iload_n X (pc := 11) 2 rfl eM_becomes_11 rfl ?_
  refine v_iload_n X (pc := 12) 3 rfl eM_becomes_12 rfl ?_
  refine v_iast X (pc := 13) h (by decide) (by decide) (fun _ => rfl) eM_becomes_13 (fun h => ?_)
  refine v_iload_n X (pc := 14) 0 rfl eM_becomes_14 rfl ?_
  exact v_iret X (pc := 15) h hr eM_becomes_15
set_option maxHeartbeats 4000000 in
set_option maxRecDepth 100000 in
theorem cM_rota_63 {p : Program} {l : Launch} {e : Env} {s : State} {m : MethodId} {args : Array Value} {below : List Frame} {meth : Method} {c : Code} {k : KK} {f : Nat} {o : Int32} {mem' : Mem} (X : CX p s m args meth c k prog_6_method_20_code 4 "WallShiftsModel") (hr : meth.sig.returnType = (Option.some Jvm.ClassFile.FieldType.int)) : ∀ (x1 : Int32) (x2 : Int32) (s0 : Int32) (mem : Mem), dM_rota_63 f x1 x2 s0 mem = some (o, mem') → V p l e (rmM 1 23) s m args below meth c 0 0 (MQ below (RQc k (some (aI o)) mem') args s 0 0 (kA k)) k 4 mem 63 [(0, aR 12 0), (1, aI x1), (2, aI x2)] [aI s0] := by
  intro x1 x2 s0 mem  h
  unfold dM_rota_63 at h
  refine v_istore_n X (pc := 63) (lv' := [(3, _), (0, _), (1, _), (2, _)]) eM_rota_63 rfl (Nat.le_of_ble_eq_true rfl) rfl ?_
  refine v_iload_n X (pc := 64) 0 rfl eM_rota_64 rfl ?_
  refine v_if_eq X (pc := 65) (tgt := 79) h eM_rota_65 (by decide) (fun h => ?_) (fun h => ?_)
  · refine v_aload_n X (pc := 79) 1 rfl eM_rota_79 rfl ?_
    refine v_ldc X (pc := 80) qw_717 eM_rota_80 ?_
    obtain ⟨r1, m1, hc1, h⟩ := bd_some h
    refine v_callV X (pc := 82) [_] [] ok_V_M_57 (cM_finds  hc1) rfl (Nat.le_of_ble_eq_true rfl) ⟨Nat.le_of_ble_eq_true rfl, Nat.le_of_ble_eq_true rfl⟩ ⟨Nat.zero_le _, Nat.zero_le _⟩ (by decide) (by decide) rfl rfl eM_rota_82 ?_
    exact v_iret X (pc := 85) h hr eM_rota_85
  · refine v_aload_n X (pc := 68) 1 rfl eM_rota_68 rfl ?_
    refine v_iconst X (pc := 69) (v := (1 : Int32)) eM_rota_69 (by decide) ?_
    refine v_iload_n X (pc := 70) 2 rfl eM_rota_70 rfl ?_
    refine v_iadd X (pc := 71) eM_rota_71 ?_
    refine v_iload_n X (pc := 72) 3 rfl eM_rota_72 rfl ?_
    obtain ⟨r2, m2, hc2, h⟩ := bd_some h
    refine v_callV X (pc := 73) [_, _] [] ok_V_M_54 (cM_becomes  hc2) rfl (Nat.le_of_ble_eq_true rfl) ⟨Nat.le_of_ble_eq_true rfl, Nat.le_of_ble_eq_true rfl⟩ ⟨Nat.zero_le _, Nat.zero_le _⟩ (by decide) (by decide) rfl rfl eM_rota_73 ?_
    refine v_goto X (pc := 76) (tgt := 85) eM_rota_76 (by decide) ?_
    exact v_iret X (pc := 85) h hr eM_rota_85
set_option maxHeartbeats 4000000 in
set_option maxRecDepth 100000 in
theorem cM_rota {f : Nat} {a1 : Int32} {a2 : Int32} {mem : Mem} {o : Int32} {mem' : Mem}  (h : dM_rota f a1 a2 mem = some (o, mem')) : RT yM_rota prog_6_method_20_code 4 (Option.some Jvm.ClassFile.FieldType.int) (rmM 1 23) [aR 12 0, aI a1, aI a2] mem (some (aI o)) mem' := by
  refine RT.of (by decide +kernel) (Nat.le_of_ble_eq_true rfl) (fun p l e s m args below meth c k X hr => ?_)
  replace X : CX p s m args meth c k prog_6_method_20_code 4 "WallShiftsModel" := X
  unfold dM_rota at h
  refine v_sub (lv' := [(0, _), (1, _), (2, _)]) [0, 1, 2] rfl ?_
  refine v_iload_n X (pc := 0) 1 rfl eM_rota_0 rfl ?_
  refine v_if_ne X (pc := 1) (tgt := 14) h eM_rota_1 (by decide) (fun h => ?_) (fun h => ?_)
  · refine v_iload_n X (pc := 4) 2 rfl eM_rota_4 rfl ?_
    refine v_iconst X (pc := 5) (v := (1 : Int32)) eM_rota_5 (by decide) ?_
    refine v_bipush X (pc := 6) (v := (60 : Int32)) eM_rota_6 (by decide) ?_
    obtain ⟨r1, m1, hc1, h⟩ := bd_some h
    refine v_callS X (pc := 8) [_, _, _] [] ok_S_M_42 (cM_in  hc1) rfl (Nat.le_of_ble_eq_true rfl) ⟨Nat.le_of_ble_eq_true rfl, Nat.le_of_ble_eq_true rfl⟩ ⟨Nat.zero_le _, Nat.zero_le _⟩ eM_rota_8 ?_
    refine v_goto X (pc := 11) (tgt := 63) eM_rota_11 (by decide) ?_
    exact v_sub [0, 1, 2] rfl (cM_rota_63 X hr _ _ _ _  h)
  · refine v_iload_n X (pc := 14) 1 rfl eM_rota_14 rfl ?_
    refine v_iconst X (pc := 15) (v := (1 : Int32)) eM_rota_15 (by decide) ?_
    refine v_icmp_ne X (pc := 16) (tgt := 29) h eM_rota_16 (by decide) (fun h => ?_) (fun h => ?_)
    · refine v_iload_n X (pc := 19) 2 rfl eM_rota_19 rfl ?_
      refine v_iconst X (pc := 20) (v := (0 : Int32)) eM_rota_20 (by decide) ?_
      refine v_bipush X (pc := 21) (v := (60 : Int32)) eM_rota_21 (by decide) ?_
      obtain ⟨r2, m2, hc2, h⟩ := bd_some h
      refine v_callS X (pc := 23) [_, _, _] [] ok_S_M_42 (cM_in  hc2) rfl (Nat.le_of_ble_eq_true rfl) ⟨Nat.le_of_ble_eq_true rfl, Nat.le_of_ble_eq_true rfl⟩ ⟨Nat.zero_le _, Nat.zero_le _⟩ eM_rota_23 ?_
      refine v_goto X (pc := 26) (tgt := 63) eM_rota_26 (by decide) ?_
      exact v_sub [0, 1, 2] rfl (cM_rota_63 X hr _ _ _ _  h)
    · refine v_iload_n X (pc := 29) 1 rfl eM_rota_29 rfl ?_
      refine v_iconst X (pc := 30) (v := (2 : Int32)) eM_rota_30 (by decide) ?_
      refine v_icmp_ne X (pc := 31) (tgt := 43) h eM_rota_31 (by decide) (fun h => ?_) (fun h => ?_)
      · refine v_iload_n X (pc := 34) 2 rfl eM_rota_34 rfl ?_
        refine v_iconst X (pc := 35) (v := (0 : Int32)) eM_rota_35 (by decide) ?_
        refine v_iconst X (pc := 36) (v := (3 : Int32)) eM_rota_36 (by decide) ?_
        obtain ⟨r3, m3, hc3, h⟩ := bd_some h
        refine v_callS X (pc := 37) [_, _, _] [] ok_S_M_42 (cM_in  hc3) rfl (Nat.le_of_ble_eq_true rfl) ⟨Nat.le_of_ble_eq_true rfl, Nat.le_of_ble_eq_true rfl⟩ ⟨Nat.zero_le _, Nat.zero_le _⟩ eM_rota_37 ?_
        refine v_goto X (pc := 40) (tgt := 63) eM_rota_40 (by decide) ?_
        exact v_sub [0, 1, 2] rfl (cM_rota_63 X hr _ _ _ _  h)
      · refine v_iload_n X (pc := 43) 1 rfl eM_rota_43 rfl ?_
        refine v_iconst X (pc := 44) (v := (3 : Int32)) eM_rota_44 (by decide) ?_
        refine v_icmp_ne X (pc := 45) (tgt := 62) h eM_rota_45 (by decide) (fun h => ?_) (fun h => ?_)
        · refine v_iload_n X (pc := 48) 2 rfl eM_rota_48 rfl ?_
          refine v_iconst X (pc := 49) (v := (1 : Int32)) eM_rota_49 (by decide) ?_
          refine v_bipush X (pc := 50) (v := (20 : Int32)) eM_rota_50 (by decide) ?_
          obtain ⟨r4, m4, hc4, h⟩ := bd_some h
          refine v_callS X (pc := 52) [_, _, _] [] ok_S_M_42 (cM_in  hc4) rfl (Nat.le_of_ble_eq_true rfl) ⟨Nat.le_of_ble_eq_true rfl, Nat.le_of_ble_eq_true rfl⟩ ⟨Nat.zero_le _, Nat.zero_le _⟩ eM_rota_52 ?_
          refine v_if_eq X (pc := 55) (tgt := 62) h eM_rota_55 (by decide) (fun h => ?_) (fun h => ?_)
          · refine v_iconst X (pc := 62) (v := (0 : Int32)) eM_rota_62 (by decide) ?_
            exact v_sub [0, 1, 2] rfl (cM_rota_63 X hr _ _ _ _  h)
          · refine v_iconst X (pc := 58) (v := (1 : Int32)) eM_rota_58 (by decide) ?_
            refine v_goto X (pc := 59) (tgt := 63) eM_rota_59 (by decide) ?_
            exact v_sub [0, 1, 2] rfl (cM_rota_63 X hr _ _ _ _  h)
        · refine v_iconst X (pc := 62) (v := (0 : Int32)) eM_rota_62 (by decide) ?_
          exact v_sub [0, 1, 2] rfl (cM_rota_63 X hr _ _ _ _  h)
set_option maxHeartbeats 4000000 in
set_option maxRecDepth 100000 in
theorem cM_isKind {f : Nat} {a0 : Int32} {mem : Mem} {o : Int32} {mem' : Mem}  (h : dM_isKind f a0 mem = some (o, mem')) : RT yM_isKind prog_6_method_11_code 1 (Option.some Jvm.ClassFile.FieldType.boolean) (rmM 1 22) [aI a0] mem (some (aI o)) mem' := by
  refine RT.of (by decide +kernel) (Nat.le_of_ble_eq_true rfl) (fun p l e s m args below meth c k X hr => ?_)
  replace X : CX p s m args meth c k prog_6_method_11_code 1 "WallShiftsModel" := X
  unfold dM_isKind at h
  refine v_sub (lv' := [(0, _)]) [0] rfl ?_
  refine v_iload_n X (pc := 0) 0 rfl eM_isKind_0 rfl ?_
  refine v_iconst X (pc := 1) (v := (0 : Int32)) eM_isKind_1 (by decide) ?_
  refine v_iconst X (pc := 2) (v := (5 : Int32)) eM_isKind_2 (by decide) ?_
  obtain ⟨r1, m1, hc1, h⟩ := bd_some h
  refine v_callS X (pc := 3) [_, _, _] [] ok_S_M_42 (cM_in  hc1) rfl (Nat.le_of_ble_eq_true rfl) ⟨Nat.le_of_ble_eq_true rfl, Nat.le_of_ble_eq_true rfl⟩ ⟨Nat.zero_le _, Nat.zero_le _⟩ eM_isKind_3 ?_
  obtain ⟨hz, h⟩ := zb_some h
  exact v_zret X (pc := 6) h hr (zb_n hz) eM_isKind_6
set_option maxHeartbeats 4000000 in
set_option maxRecDepth 100000 in
theorem cM_isRoom {f : Nat} {a0 : Int32} {mem : Mem} {o : Int32} {mem' : Mem}  (h : dM_isRoom f a0 mem = some (o, mem')) : RT yM_isRoom prog_6_method_9_code 1 (Option.some Jvm.ClassFile.FieldType.boolean) (rmM 1 22) [aI a0] mem (some (aI o)) mem' := by
  refine RT.of (by decide +kernel) (Nat.le_of_ble_eq_true rfl) (fun p l e s m args below meth c k X hr => ?_)
  replace X : CX p s m args meth c k prog_6_method_9_code 1 "WallShiftsModel" := X
  unfold dM_isRoom at h
  refine v_sub (lv' := [(0, _)]) [0] rfl ?_
  refine v_iload_n X (pc := 0) 0 rfl eM_isRoom_0 rfl ?_
  refine v_iconst X (pc := 1) (v := (0 : Int32)) eM_isRoom_1 (by decide) ?_
  refine v_bipush X (pc := 2) (v := (9 : Int32)) eM_isRoom_2 (by decide) ?_
  obtain ⟨r1, m1, hc1, h⟩ := bd_some h
  refine v_callS X (pc := 4) [_, _, _] [] ok_S_M_42 (cM_in  hc1) rfl (Nat.le_of_ble_eq_true rfl) ⟨Nat.le_of_ble_eq_true rfl, Nat.le_of_ble_eq_true rfl⟩ ⟨Nat.zero_le _, Nat.zero_le _⟩ eM_isRoom_4 ?_
  obtain ⟨hz, h⟩ := zb_some h
  exact v_zret X (pc := 7) h hr (zb_n hz) eM_isRoom_7
set_option maxHeartbeats 4000000 in
set_option maxRecDepth 100000 in
theorem cM_puts {f : Nat} {a1 : Int32} {a2 : Int32} {a3 : Int32} {mem : Mem} {o : Unit} {mem' : Mem}  (h : dM_puts f a1 a2 a3 mem = some (o, mem')) : RT yM_puts prog_6_method_6_code 4 (Option.none : Option Jvm.ClassFile.FieldType) (rmM 0 0) [aR 12 0, aI a1, aI a2, aI a3] mem none mem' := by
  refine RT.of (by decide +kernel) (Nat.le_of_ble_eq_true rfl) (fun p l e s m args below meth c k X hr => ?_)
  replace X : CX p s m args meth c k prog_6_method_6_code 4 "WallShiftsModel" := X
  unfold dM_puts at h
  refine v_sub (lv' := [(0, _), (1, _), (2, _), (3, _)]) [0, 1, 2, 3] rfl ?_
  refine v_aload_n X (pc := 0) 0 rfl eM_puts_0 rfl ?_
  refine v_get X (pc := 1) 0 (a := aR 13 0) (by decide) (by decide) rfl rfl rfl in_Model (by decide) qw_648 rfl eM_puts_1 ?_
  refine v_bipush X (pc := 4) (v := (6 : Int32)) eM_puts_4 (by decide) ?_
  refine v_bipush X (pc := 6) (v := (6 : Int32)) eM_puts_6 (by decide) ?_
  refine v_iload_n X (pc := 8) 1 rfl eM_puts_8 rfl ?_
  refine v_imul X (pc := 9) eM_puts_9 ?_
  refine v_iadd X (pc := 10) eM_puts_10 ?_
  refine v_iload_n X (pc := 11) 2 rfl eM_puts_11 rfl ?_
  refine v_iadd X (pc := 12) eM_puts_12 ?_
  refine v_iload_n X (pc := 13) 3 rfl eM_puts_13 rfl ?_
  refine v_iast X (pc := 14) h (by decide) (by decide) (fun _ => rfl) eM_puts_14 (fun h => ?_)
  exact v_vret X (pc := 15) h hr eM_puts_15
set_option maxHeartbeats 4000000 in
set_option maxRecDepth 100000 in
theorem cM_addWall {f : Nat} {a1 : Int32} {a2 : Int32} {a3 : Int32} {a4 : Int32} {mem : Mem} {o : Unit} {mem' : Mem}  (h : dM_addWall f a1 a2 a3 a4 mem = some (o, mem')) : RT yM_addWall prog_6_method_21_code 6 (Option.none : Option Jvm.ClassFile.FieldType) (rmM 1 23) [aR 12 0, aI a1, aI a2, aI a3, aI a4] mem none mem' := by
  refine RT.of (by decide +kernel) (Nat.le_of_ble_eq_true rfl) (fun p l e s m args below meth c k X hr => ?_)
  replace X : CX p s m args meth c k prog_6_method_21_code 6 "WallShiftsModel" := X
  unfold dM_addWall at h
  refine v_sub (lv' := [(0, _), (1, _), (2, _), (3, _), (4, _)]) [0, 1, 2, 3, 4] rfl ?_
  refine v_aload_n X (pc := 0) 0 rfl eM_addWall_0 rfl ?_
  refine v_get X (pc := 1) 0 (a := aR 13 0) (by decide) (by decide) rfl rfl rfl in_Model (by decide) qw_648 rfl eM_addWall_1 ?_
  refine v_iconst X (pc := 4) (v := (5 : Int32)) eM_addWall_4 (by decide) ?_
  refine v_ialdK X (pc := 5) (n := 66) 5 (by decide) (by decide) (by decide) (by decide) rfl eM_addWall_5 ?_
  refine v_istore X (pc := 6) (lv' := [(5, _), (0, _), (1, _), (2, _), (3, _), (4, _)]) eM_addWall_6 (Nat.le_of_ble_eq_true rfl) rfl ?_
  refine v_aload_n X (pc := 8) 1 rfl eM_addWall_8 rfl ?_
  refine v_iload X (pc := 9) 0 rfl eM_addWall_9 ?_
  refine v_iconst X (pc := 11) (v := (0 : Int32)) eM_addWall_11 (by decide) ?_
  refine v_iload_n X (pc := 12) 2 rfl eM_addWall_12 rfl ?_
  obtain ⟨r1, m1, hc1, h⟩ := bd_some h
  refine v_callV X (pc := 13) [_, _, _] [] ok_V_M_61 (cM_puts  hc1) rfl (Nat.le_of_ble_eq_true rfl) ⟨Nat.le_of_ble_eq_true rfl, Nat.le_of_ble_eq_true rfl⟩ ⟨Nat.zero_le _, Nat.zero_le _⟩ (by decide) (by decide) rfl rfl eM_addWall_13 ?_
  refine v_aload_n X (pc := 16) 1 rfl eM_addWall_16 rfl ?_
  refine v_iload X (pc := 17) 0 rfl eM_addWall_17 ?_
  refine v_iconst X (pc := 19) (v := (1 : Int32)) eM_addWall_19 (by decide) ?_
  refine v_iload_n X (pc := 20) 3 rfl eM_addWall_20 rfl ?_
  obtain ⟨r2, m2, hc2, h⟩ := bd_some h
  refine v_callV X (pc := 21) [_, _, _] [] ok_V_M_61 (cM_puts  hc2) rfl (Nat.le_of_ble_eq_true rfl) ⟨Nat.le_of_ble_eq_true rfl, Nat.le_of_ble_eq_true rfl⟩ ⟨Nat.zero_le _, Nat.zero_le _⟩ (by decide) (by decide) rfl rfl eM_addWall_21 ?_
  refine v_aload_n X (pc := 24) 1 rfl eM_addWall_24 rfl ?_
  refine v_iload X (pc := 25) 0 rfl eM_addWall_25 ?_
  refine v_iconst X (pc := 27) (v := (2 : Int32)) eM_addWall_27 (by decide) ?_
  refine v_iload_n X (pc := 28) 4 rfl eM_addWall_28 rfl ?_
  obtain ⟨r3, m3, hc3, h⟩ := bd_some h
  refine v_callV X (pc := 29) [_, _, _] [] ok_V_M_61 (cM_puts  hc3) rfl (Nat.le_of_ble_eq_true rfl) ⟨Nat.le_of_ble_eq_true rfl, Nat.le_of_ble_eq_true rfl⟩ ⟨Nat.zero_le _, Nat.zero_le _⟩ (by decide) (by decide) rfl rfl eM_addWall_29 ?_
  refine v_aload_n X (pc := 32) 1 rfl eM_addWall_32 rfl ?_
  refine v_iload X (pc := 33) 0 rfl eM_addWall_33 ?_
  refine v_iconst X (pc := 35) (v := (3 : Int32)) eM_addWall_35 (by decide) ?_
  refine v_iload X (pc := 36) 5 rfl eM_addWall_36 ?_
  obtain ⟨r4, m4, hc4, h⟩ := bd_some h
  refine v_callV X (pc := 38) [_, _, _] [] ok_V_M_61 (cM_puts  hc4) rfl (Nat.le_of_ble_eq_true rfl) ⟨Nat.le_of_ble_eq_true rfl, Nat.le_of_ble_eq_true rfl⟩ ⟨Nat.zero_le _, Nat.zero_le _⟩ (by decide) (by decide) rfl rfl eM_addWall_38 ?_
  refine v_aload_n X (pc := 41) 1 rfl eM_addWall_41 rfl ?_
  refine v_iload X (pc := 42) 0 rfl eM_addWall_42 ?_
  refine v_iconst X (pc := 44) (v := (4 : Int32)) eM_addWall_44 (by decide) ?_
  refine v_iconst X (pc := 45) (v := (0 : Int32)) eM_addWall_45 (by decide) ?_
  obtain ⟨r5, m5, hc5, h⟩ := bd_some h
  refine v_callV X (pc := 46) [_, _, _] [] ok_V_M_61 (cM_puts  hc5) rfl (Nat.le_of_ble_eq_true rfl) ⟨Nat.le_of_ble_eq_true rfl, Nat.le_of_ble_eq_true rfl⟩ ⟨Nat.zero_le _, Nat.zero_le _⟩ (by decide) (by decide) rfl rfl eM_addWall_46 ?_
  refine v_aload_n X (pc := 49) 1 rfl eM_addWall_49 rfl ?_
  refine v_iload X (pc := 50) 0 rfl eM_addWall_50 ?_
  refine v_iconst X (pc := 52) (v := (5 : Int32)) eM_addWall_52 (by decide) ?_
  refine v_iconst X (pc := 53) (v := (0 : Int32)) eM_addWall_53 (by decide) ?_
  obtain ⟨r6, m6, hc6, h⟩ := bd_some h
  refine v_callV X (pc := 54) [_, _, _] [] ok_V_M_61 (cM_puts  hc6) rfl (Nat.le_of_ble_eq_true rfl) ⟨Nat.le_of_ble_eq_true rfl, Nat.le_of_ble_eq_true rfl⟩ ⟨Nat.zero_le _, Nat.zero_le _⟩ (by decide) (by decide) rfl rfl eM_addWall_54 ?_
  refine v_aload_n X (pc := 57) 1 rfl eM_addWall_57 rfl ?_
  refine v_get X (pc := 58) 0 (a := aR 13 0) (by decide) (by decide) rfl rfl rfl in_Model (by decide) qw_648 rfl eM_addWall_58 ?_
  refine v_iconst X (pc := 61) (v := (5 : Int32)) eM_addWall_61 (by decide) ?_
  refine v_dup2 X (pc := 62) rfl rfl eM_addWall_62 ?_
  refine v_ialdK X (pc := 63) (n := 66) 5 (by decide) (by decide) (by decide) (by decide) rfl eM_addWall_63 ?_
  refine v_iconst X (pc := 64) (v := (1 : Int32)) eM_addWall_64 (by decide) ?_
  refine v_iadd X (pc := 65) eM_addWall_65 ?_
  refine v_iastK X (pc := 66) (n := 66) 5 (by decide) (by decide) (by decide) (by decide) (fun _ => rfl) eM_addWall_66 ?_
  exact v_vret X (pc := 67) h hr eM_addWall_67
set_option maxHeartbeats 4000000 in
set_option maxRecDepth 100000 in
theorem cM_wall {f : Nat} {a1 : Int32} {a2 : Int32} {a3 : Int32} {mem : Mem} {o : Int32} {mem' : Mem}  (h : dM_wall f a1 a2 a3 mem = some (o, mem')) : RT yM_wall prog_6_method_22_code 4 (Option.some Jvm.ClassFile.FieldType.int) (rmM 2 48) [aR 12 0, aI a1, aI a2, aI a3] mem (some (aI o)) mem' := by
  refine RT.of (by decide +kernel) (Nat.le_of_ble_eq_true rfl) (fun p l e s m args below meth c k X hr => ?_)
  replace X : CX p s m args meth c k prog_6_method_22_code 4 "WallShiftsModel" := X
  unfold dM_wall at h
  refine v_sub (lv' := [(0, _), (1, _), (2, _), (3, _)]) [0, 1, 2, 3] rfl ?_
  refine v_iload_n X (pc := 0) 1 rfl eM_wall_0 rfl ?_
  obtain ⟨r1, m1, hc1, h⟩ := bd_some h
  refine v_callS X (pc := 1) [_] [] ok_S_M_65 (cM_isKind  hc1) rfl (Nat.le_of_ble_eq_true rfl) ⟨Nat.le_of_ble_eq_true rfl, Nat.le_of_ble_eq_true rfl⟩ ⟨Nat.zero_le _, Nat.zero_le _⟩ eM_wall_1 ?_
  refine v_if_eq X (pc := 4) (tgt := 21) h eM_wall_4 (by decide) (fun h => ?_) (fun h => ?_)
  · refine v_aload_n X (pc := 21) 0 rfl eM_wall_21 rfl ?_
    refine v_ldc X (pc := 22) qw_717 eM_wall_22 ?_
    obtain ⟨r2, m2, hc2, h⟩ := bd_some h
    refine v_callV X (pc := 24) [_] [] ok_V_M_57 (cM_finds  hc2) rfl (Nat.le_of_ble_eq_true rfl) ⟨Nat.le_of_ble_eq_true rfl, Nat.le_of_ble_eq_true rfl⟩ ⟨Nat.zero_le _, Nat.zero_le _⟩ (by decide) (by decide) rfl rfl eM_wall_24 ?_
    exact v_iret X (pc := 27) h hr eM_wall_27
  · refine v_iload_n X (pc := 7) 2 rfl eM_wall_7 rfl ?_
    obtain ⟨r3, m3, hc3, h⟩ := bd_some h
    refine v_callS X (pc := 8) [_] [] ok_S_M_69 (cM_isRoom  hc3) rfl (Nat.le_of_ble_eq_true rfl) ⟨Nat.le_of_ble_eq_true rfl, Nat.le_of_ble_eq_true rfl⟩ ⟨Nat.zero_le _, Nat.zero_le _⟩ eM_wall_8 ?_
    refine v_if_eq X (pc := 11) (tgt := 21) h eM_wall_11 (by decide) (fun h => ?_) (fun h => ?_)
    · refine v_aload_n X (pc := 21) 0 rfl eM_wall_21 rfl ?_
      refine v_ldc X (pc := 22) qw_717 eM_wall_22 ?_
      obtain ⟨r4, m4, hc4, h⟩ := bd_some h
      refine v_callV X (pc := 24) [_] [] ok_V_M_57 (cM_finds  hc4) rfl (Nat.le_of_ble_eq_true rfl) ⟨Nat.le_of_ble_eq_true rfl, Nat.le_of_ble_eq_true rfl⟩ ⟨Nat.zero_le _, Nat.zero_le _⟩ (by decide) (by decide) rfl rfl eM_wall_24 ?_
      exact v_iret X (pc := 27) h hr eM_wall_27
    · refine v_iload_n X (pc := 14) 3 rfl eM_wall_14 rfl ?_
      obtain ⟨r5, m5, hc5, h⟩ := bd_some h
      refine v_callS X (pc := 15) [_] [] ok_S_M_69 (cM_isRoom  hc5) rfl (Nat.le_of_ble_eq_true rfl) ⟨Nat.le_of_ble_eq_true rfl, Nat.le_of_ble_eq_true rfl⟩ ⟨Nat.zero_le _, Nat.zero_le _⟩ eM_wall_15 ?_
      refine v_if_ne X (pc := 18) (tgt := 28) h eM_wall_18 (by decide) (fun h => ?_) (fun h => ?_)
      · refine v_aload_n X (pc := 21) 0 rfl eM_wall_21 rfl ?_
        refine v_ldc X (pc := 22) qw_717 eM_wall_22 ?_
        obtain ⟨r6, m6, hc6, h⟩ := bd_some h
        refine v_callV X (pc := 24) [_] [] ok_V_M_57 (cM_finds  hc6) rfl (Nat.le_of_ble_eq_true rfl) ⟨Nat.le_of_ble_eq_true rfl, Nat.le_of_ble_eq_true rfl⟩ ⟨Nat.zero_le _, Nat.zero_le _⟩ (by decide) (by decide) rfl rfl eM_wall_24 ?_
        exact v_iret X (pc := 27) h hr eM_wall_27
      · refine v_aload_n X (pc := 28) 0 rfl eM_wall_28 rfl ?_
        refine v_get X (pc := 29) 0 (a := aR 13 0) (by decide) (by decide) rfl rfl rfl in_Model (by decide) qw_648 rfl eM_wall_29 ?_
        refine v_iconst X (pc := 32) (v := (5 : Int32)) eM_wall_32 (by decide) ?_
        refine v_ialdK X (pc := 33) (n := 66) 5 (by decide) (by decide) (by decide) (by decide) rfl eM_wall_33 ?_
        refine v_bipush X (pc := 34) (v := (10 : Int32)) eM_wall_34 (by decide) ?_
        refine v_icmp_ne X (pc := 36) (tgt := 46) h eM_wall_36 (by decide) (fun h => ?_) (fun h => ?_)
        · refine v_aload_n X (pc := 39) 0 rfl eM_wall_39 rfl ?_
          refine v_ldc X (pc := 40) qw_732 eM_wall_40 ?_
          obtain ⟨r7, m7, hc7, h⟩ := bd_some h
          refine v_callV X (pc := 42) [_] [] ok_V_M_57 (cM_finds  hc7) rfl (Nat.le_of_ble_eq_true rfl) ⟨Nat.le_of_ble_eq_true rfl, Nat.le_of_ble_eq_true rfl⟩ ⟨Nat.zero_le _, Nat.zero_le _⟩ (by decide) (by decide) rfl rfl eM_wall_42 ?_
          exact v_iret X (pc := 45) h hr eM_wall_45
        · refine v_aload_n X (pc := 46) 0 rfl eM_wall_46 rfl ?_
          refine v_iload_n X (pc := 47) 1 rfl eM_wall_47 rfl ?_
          refine v_iload_n X (pc := 48) 2 rfl eM_wall_48 rfl ?_
          refine v_iload_n X (pc := 49) 3 rfl eM_wall_49 rfl ?_
          refine v_iconst X (pc := 50) (v := (0 : Int32)) eM_wall_50 (by decide) ?_
          obtain ⟨r8, m8, hc8, h⟩ := bd_some h
          refine v_callV X (pc := 51) [_, _, _, _] [] ok_V_M_73 (cM_addWall  hc8) rfl (Nat.le_of_ble_eq_true rfl) ⟨Nat.le_of_ble_eq_true rfl, Nat.le_of_ble_eq_true rfl⟩ ⟨Nat.zero_le _, Nat.zero_le _⟩ (by decide) (by decide) rfl rfl eM_wall_51 ?_
          refine v_aload_n X (pc := 54) 0 rfl eM_wall_54 rfl ?_
          refine v_get X (pc := 55) 0 (a := aR 13 0) (by decide) (by decide) rfl rfl rfl in_Model (by decide) qw_648 rfl eM_wall_55 ?_
          refine v_iconst X (pc := 58) (v := (5 : Int32)) eM_wall_58 (by decide) ?_
          refine v_ialdK X (pc := 59) (n := 66) 5 (by decide) (by decide) (by decide) (by decide) rfl eM_wall_59 ?_
          refine v_iconst X (pc := 60) (v := (1 : Int32)) eM_wall_60 (by decide) ?_
          refine v_isub X (pc := 61) eM_wall_61 ?_
          exact v_iret X (pc := 62) h hr eM_wall_62
set_option maxHeartbeats 4000000 in
set_option maxRecDepth 100000 in
theorem cM_isOne {f : Nat} {a1 : Int32} {mem : Mem} {o : Int32} {mem' : Mem}  (h : dM_isOne f a1 mem = some (o, mem')) : RT yM_isOne prog_6_method_8_code 2 (Option.some Jvm.ClassFile.FieldType.boolean) (rmM 1 22) [aR 12 0, aI a1] mem (some (aI o)) mem' := by
  refine RT.of (by decide +kernel) (Nat.le_of_ble_eq_true rfl) (fun p l e s m args below meth c k X hr => ?_)
  replace X : CX p s m args meth c k prog_6_method_8_code 2 "WallShiftsModel" := X
  unfold dM_isOne at h
  refine v_sub (lv' := [(0, _), (1, _)]) [0, 1] rfl ?_
  refine v_iload_n X (pc := 0) 1 rfl eM_isOne_0 rfl ?_
  refine v_iconst X (pc := 1) (v := (0 : Int32)) eM_isOne_1 (by decide) ?_
  refine v_aload_n X (pc := 2) 0 rfl eM_isOne_2 rfl ?_
  refine v_get X (pc := 3) 0 (a := aR 13 0) (by decide) (by decide) rfl rfl rfl in_Model (by decide) qw_648 rfl eM_isOne_3 ?_
  refine v_iconst X (pc := 6) (v := (5 : Int32)) eM_isOne_6 (by decide) ?_
  refine v_ialdK X (pc := 7) (n := 66) 5 (by decide) (by decide) (by decide) (by decide) rfl eM_isOne_7 ?_
  refine v_iconst X (pc := 8) (v := (1 : Int32)) eM_isOne_8 (by decide) ?_
  refine v_isub X (pc := 9) eM_isOne_9 ?_
  obtain ⟨r1, m1, hc1, h⟩ := bd_some h
  refine v_callS X (pc := 10) [_, _, _] [] ok_S_M_42 (cM_in  hc1) rfl (Nat.le_of_ble_eq_true rfl) ⟨Nat.le_of_ble_eq_true rfl, Nat.le_of_ble_eq_true rfl⟩ ⟨Nat.zero_le _, Nat.zero_le _⟩ eM_isOne_10 ?_
  obtain ⟨hz, h⟩ := zb_some h
  exact v_zret X (pc := 13) h hr (zb_n hz) eM_isOne_13
set_option maxHeartbeats 4000000 in
set_option maxRecDepth 100000 in
theorem cM_its {f : Nat} {a1 : Int32} {a2 : Int32} {mem : Mem} {o : Int32} {mem' : Mem}  (h : dM_its f a1 a2 mem = some (o, mem')) : RT yM_its prog_6_method_5_code 3 (Option.some Jvm.ClassFile.FieldType.int) (rmM 0 0) [aR 12 0, aI a1, aI a2] mem (some (aI o)) mem' := by
  refine RT.of (by decide +kernel) (Nat.le_of_ble_eq_true rfl) (fun p l e s m args below meth c k X hr => ?_)
  replace X : CX p s m args meth c k prog_6_method_5_code 3 "WallShiftsModel" := X
  unfold dM_its at h
  refine v_sub (lv' := [(0, _), (1, _), (2, _)]) [0, 1, 2] rfl ?_
  refine v_aload_n X (pc := 0) 0 rfl eM_its_0 rfl ?_
  refine v_get X (pc := 1) 0 (a := aR 13 0) (by decide) (by decide) rfl rfl rfl in_Model (by decide) qw_648 rfl eM_its_1 ?_
  refine v_bipush X (pc := 4) (v := (6 : Int32)) eM_its_4 (by decide) ?_
  refine v_bipush X (pc := 6) (v := (6 : Int32)) eM_its_6 (by decide) ?_
  refine v_iload_n X (pc := 8) 1 rfl eM_its_8 rfl ?_
  refine v_imul X (pc := 9) eM_its_9 ?_
  refine v_iadd X (pc := 10) eM_its_10 ?_
  refine v_iload_n X (pc := 11) 2 rfl eM_its_11 rfl ?_
  refine v_iadd X (pc := 12) eM_its_12 ?_
  refine v_iald X (pc := 13) h (by decide) (by decide) rfl eM_its_13 (fun h => ?_)
  exact v_iret X (pc := 14) h hr eM_its_14
set_option maxHeartbeats 4000000 in
set_option maxRecDepth 100000 in
theorem cM_isOnDuty_47 {p : Program} {l : Launch} {e : Env} {s : State} {m : MethodId} {args : Array Value} {below : List Frame} {meth : Method} {c : Code} {k : KK} {f : Nat} {o : Int32} {mem' : Mem} (X : CX p s m args meth c k prog_6_method_14_code 6 "WallShiftsModel") (hr : meth.sig.returnType = (Option.some Jvm.ClassFile.FieldType.boolean)) : ∀ (x1 : Int32) (x3 : Int32) (x4 : Int32) (s0 : Int32) (mem : Mem), dM_isOnDuty_47 f x1 x3 x4 s0 mem = some (o, mem') → V p l e (rmM 1 22) s m args below meth c 0 0 (MQ below (RQc k (some (aI o)) mem') args s 0 0 (kA k)) k 6 mem 47 [(0, aR 12 0), (1, aI x1), (3, aI x3), (4, aI x4)] [aI s0] := by
  intro x1 x3 x4 s0 mem  h
  unfold dM_isOnDuty_47 at h
  refine v_istore X (pc := 47) (lv' := [(5, _), (0, _), (1, _), (3, _), (4, _)]) eM_isOnDuty_47 (Nat.le_of_ble_eq_true rfl) rfl ?_
  refine v_aload_n X (pc := 49) 1 rfl eM_isOnDuty_49 rfl ?_
  refine v_iload_n X (pc := 50) 2 rfl eM_isOnDuty_50 rfl ?_
  refine v_iconst X (pc := 51) (v := (0 : Int32)) eM_isOnDuty_51 (by decide) ?_
  obtain ⟨r1, m1, hc1, h⟩ := bd_some h
  refine v_callV X (pc := 52) [_, _] [] ok_V_M_46 (cM_its  hc1) rfl (Nat.le_of_ble_eq_true rfl) ⟨Nat.le_of_ble_eq_true rfl, Nat.le_of_ble_eq_true rfl⟩ ⟨Nat.zero_le _, Nat.zero_le _⟩ (by decide) (by decide) rfl rfl eM_isOnDuty_52 ?_
  by_cases g1 : r1 = (1 : Int32)
  · have h := it_t h g1
    refine v_tsw X (pc := 55) (tgt := 88) (1 : Int32) g1 eM_isOnDuty_55 (by decide) (by decide) rfl (by decide) ?_
    refine v_iload X (pc := 88) 0 rfl eM_isOnDuty_88 ?_
    refine v_if_eq X (pc := 90) (tgt := 107) h eM_isOnDuty_90 (by decide) (fun h => ?_) (fun h => ?_)
    · refine v_iconst X (pc := 107) (v := (0 : Int32)) eM_isOnDuty_107 (by decide) ?_
      exact v_zret X (pc := 108) h hr rfl eM_isOnDuty_108
    · refine v_aload_n X (pc := 93) 1 rfl eM_isOnDuty_93 rfl ?_
      refine v_get X (pc := 94) 0 (a := aR 13 0) (by decide) (by decide) rfl rfl rfl in_Model (by decide) qw_648 rfl eM_isOnDuty_94 ?_
      refine v_iconst X (pc := 97) (v := (3 : Int32)) eM_isOnDuty_97 (by decide) ?_
      refine v_ialdK X (pc := 98) (n := 66) 3 (by decide) (by decide) (by decide) (by decide) rfl eM_isOnDuty_98 ?_
      refine v_iconst X (pc := 99) (v := (3 : Int32)) eM_isOnDuty_99 (by decide) ?_
      refine v_icmp_eq X (pc := 100) (tgt := 107) h eM_isOnDuty_100 (by decide) (fun h => ?_) (fun h => ?_)
      · refine v_iconst X (pc := 107) (v := (0 : Int32)) eM_isOnDuty_107 (by decide) ?_
        exact v_zret X (pc := 108) h hr rfl eM_isOnDuty_108
      · refine v_iconst X (pc := 103) (v := (1 : Int32)) eM_isOnDuty_103 (by decide) ?_
        refine v_goto X (pc := 104) (tgt := 108) eM_isOnDuty_104 (by decide) ?_
        exact v_zret X (pc := 108) h hr rfl eM_isOnDuty_108
  have h := it_f h g1
  by_cases g2 : r1 = (2 : Int32)
  · have h := it_t h g2
    refine v_tsw X (pc := 55) (tgt := 171) (2 : Int32) g2 eM_isOnDuty_55 (by decide) (by decide) rfl (by decide) ?_
    refine v_iload X (pc := 171) 0 rfl eM_isOnDuty_171 ?_
    obtain ⟨hz, h⟩ := zb_some h
    exact v_zret X (pc := 173) h hr (zb_n hz) eM_isOnDuty_173
  have h := it_f h g2
  by_cases g3 : r1 = (3 : Int32)
  · have h := it_t h g3
    refine v_tsw X (pc := 55) (tgt := 171) (3 : Int32) g3 eM_isOnDuty_55 (by decide) (by decide) rfl (by decide) ?_
    refine v_iload X (pc := 171) 0 rfl eM_isOnDuty_171 ?_
    obtain ⟨hz, h⟩ := zb_some h
    exact v_zret X (pc := 173) h hr (zb_n hz) eM_isOnDuty_173
  have h := it_f h g3
  by_cases g4 : r1 = (4 : Int32)
  · have h := it_t h g4
    refine v_tsw X (pc := 55) (tgt := 109) (4 : Int32) g4 eM_isOnDuty_55 (by decide) (by decide) rfl (by decide) ?_
    refine v_aload_n X (pc := 109) 1 rfl eM_isOnDuty_109 rfl ?_
    refine v_get X (pc := 110) 0 (a := aR 13 0) (by decide) (by decide) rfl rfl rfl in_Model (by decide) qw_648 rfl eM_isOnDuty_110 ?_
    refine v_iconst X (pc := 113) (v := (3 : Int32)) eM_isOnDuty_113 (by decide) ?_
    refine v_ialdK X (pc := 114) (n := 66) 3 (by decide) (by decide) (by decide) (by decide) rfl eM_isOnDuty_114 ?_
    refine v_iconst X (pc := 115) (v := (3 : Int32)) eM_isOnDuty_115 (by decide) ?_
    refine v_icmp_ne X (pc := 116) (tgt := 132) h eM_isOnDuty_116 (by decide) (fun h => ?_) (fun h => ?_)
    · refine v_iload X (pc := 119) 4 rfl eM_isOnDuty_119 ?_
      refine v_if_ne X (pc := 121) (tgt := 128) h eM_isOnDuty_121 (by decide) (fun h => ?_) (fun h => ?_)
      · refine v_iconst X (pc := 124) (v := (1 : Int32)) eM_isOnDuty_124 (by decide) ?_
        refine v_goto X (pc := 125) (tgt := 134) eM_isOnDuty_125 (by decide) ?_
        exact v_zret X (pc := 134) h hr rfl eM_isOnDuty_134
      · refine v_iconst X (pc := 128) (v := (0 : Int32)) eM_isOnDuty_128 (by decide) ?_
        refine v_goto X (pc := 129) (tgt := 134) eM_isOnDuty_129 (by decide) ?_
        exact v_zret X (pc := 134) h hr rfl eM_isOnDuty_134
    · refine v_iload X (pc := 132) 0 rfl eM_isOnDuty_132 ?_
      obtain ⟨hz, h⟩ := zb_some h
      exact v_zret X (pc := 134) h hr (zb_n hz) eM_isOnDuty_134
  have h := it_f h g4
  by_cases g5 : r1 = (5 : Int32)
  · have h := it_t h g5
    refine v_tsw X (pc := 55) (tgt := 135) (5 : Int32) g5 eM_isOnDuty_55 (by decide) (by decide) rfl (by decide) ?_
    refine v_iload X (pc := 135) 0 rfl eM_isOnDuty_135 ?_
    refine v_if_ne X (pc := 137) (tgt := 165) h eM_isOnDuty_137 (by decide) (fun h => ?_) (fun h => ?_)
    · refine v_iload_n X (pc := 140) 3 rfl eM_isOnDuty_140 rfl ?_
      refine v_aload_n X (pc := 141) 1 rfl eM_isOnDuty_141 rfl ?_
      refine v_iload_n X (pc := 142) 2 rfl eM_isOnDuty_142 rfl ?_
      refine v_iconst X (pc := 143) (v := (3 : Int32)) eM_isOnDuty_143 (by decide) ?_
      obtain ⟨r2, m2, hc2, h⟩ := bd_some h
      refine v_callV X (pc := 144) [_, _] [_] ok_V_M_46 (cM_its  hc2) rfl (Nat.le_of_ble_eq_true rfl) ⟨Nat.le_of_ble_eq_true rfl, Nat.le_of_ble_eq_true rfl⟩ ⟨Nat.zero_le _, Nat.zero_le _⟩ (by decide) (by decide) rfl rfl eM_isOnDuty_144 ?_
      refine v_iconst X (pc := 147) (v := (1 : Int32)) eM_isOnDuty_147 (by decide) ?_
      refine v_iadd X (pc := 148) eM_isOnDuty_148 ?_
      refine v_iconst X (pc := 149) (v := (4 : Int32)) eM_isOnDuty_149 (by decide) ?_
      refine v_irem X (pc := 150) h eM_isOnDuty_150 (fun h => ?_)
      refine v_icmp_ne X (pc := 151) (tgt := 169) h eM_isOnDuty_151 (by decide) (fun h => ?_) (fun h => ?_)
      · refine v_iload X (pc := 154) 4 rfl eM_isOnDuty_154 ?_
        refine v_aload_n X (pc := 156) 1 rfl eM_isOnDuty_156 rfl ?_
        refine v_get X (pc := 157) 0 (a := aR 13 0) (by decide) (by decide) rfl rfl rfl in_Model (by decide) qw_648 rfl eM_isOnDuty_157 ?_
        refine v_iconst X (pc := 160) (v := (2 : Int32)) eM_isOnDuty_160 (by decide) ?_
        refine v_ialdK X (pc := 161) (n := 66) 2 (by decide) (by decide) (by decide) (by decide) rfl eM_isOnDuty_161 ?_
        refine v_icmp_lt X (pc := 162) (tgt := 169) h eM_isOnDuty_162 (by decide) (fun h => ?_) (fun h => ?_)
        · refine v_iconst X (pc := 169) (v := (0 : Int32)) eM_isOnDuty_169 (by decide) ?_
          exact v_zret X (pc := 170) h hr rfl eM_isOnDuty_170
        · refine v_iconst X (pc := 165) (v := (1 : Int32)) eM_isOnDuty_165 (by decide) ?_
          refine v_goto X (pc := 166) (tgt := 170) eM_isOnDuty_166 (by decide) ?_
          exact v_zret X (pc := 170) h hr rfl eM_isOnDuty_170
      · refine v_iconst X (pc := 169) (v := (0 : Int32)) eM_isOnDuty_169 (by decide) ?_
        exact v_zret X (pc := 170) h hr rfl eM_isOnDuty_170
    · refine v_iconst X (pc := 165) (v := (1 : Int32)) eM_isOnDuty_165 (by decide) ?_
      refine v_goto X (pc := 166) (tgt := 170) eM_isOnDuty_166 (by decide) ?_
      exact v_zret X (pc := 170) h hr rfl eM_isOnDuty_170
  have h := it_f h g5
  refine v_tswD X (pc := 55) (tgt := 171) (tsw_out_1_5 g1 g2 g3 g4 g5) eM_isOnDuty_55 (by decide) ?_
  refine v_iload X (pc := 171) 0 rfl eM_isOnDuty_171 ?_
  obtain ⟨hz, h⟩ := zb_some h
  exact v_zret X (pc := 173) h hr (zb_n hz) eM_isOnDuty_173
set_option maxHeartbeats 4000000 in
set_option maxRecDepth 100000 in
theorem cM_isOnDuty {f : Nat} {a1 : Int32} {a2 : Int32} {mem : Mem} {o : Int32} {mem' : Mem}  (h : dM_isOnDuty f a1 a2 mem = some (o, mem')) : RT yM_isOnDuty prog_6_method_14_code 6 (Option.some Jvm.ClassFile.FieldType.boolean) (rmM 1 22) [aR 12 0, aI a1, aI a2] mem (some (aI o)) mem' := by
  refine RT.of (by decide +kernel) (Nat.le_of_ble_eq_true rfl) (fun p l e s m args below meth c k X hr => ?_)
  replace X : CX p s m args meth c k prog_6_method_14_code 6 "WallShiftsModel" := X
  unfold dM_isOnDuty at h
  refine v_sub (lv' := [(0, _), (1, _), (2, _)]) [0, 1, 2] rfl ?_
  refine v_iload_n X (pc := 0) 2 rfl eM_isOnDuty_0 rfl ?_
  refine v_aload_n X (pc := 1) 0 rfl eM_isOnDuty_1 rfl ?_
  refine v_get X (pc := 2) 0 (a := aR 13 0) (by decide) (by decide) rfl rfl rfl in_Model (by decide) qw_648 rfl eM_isOnDuty_2 ?_
  refine v_iconst X (pc := 5) (v := (1 : Int32)) eM_isOnDuty_5 (by decide) ?_
  refine v_ialdK X (pc := 6) (n := 66) 1 (by decide) (by decide) (by decide) (by decide) rfl eM_isOnDuty_6 ?_
  refine v_idiv X (pc := 7) h eM_isOnDuty_7 (fun h => ?_)
  refine v_iconst X (pc := 8) (v := (4 : Int32)) eM_isOnDuty_8 (by decide) ?_
  refine v_irem X (pc := 9) h eM_isOnDuty_9 (fun h => ?_)
  refine v_istore_n X (pc := 10) (lv' := [(3, _), (0, _), (1, _), (2, _)]) eM_isOnDuty_10 rfl (Nat.le_of_ble_eq_true rfl) rfl ?_
  refine v_iload_n X (pc := 11) 3 rfl eM_isOnDuty_11 rfl ?_
  refine v_aload_n X (pc := 12) 1 rfl eM_isOnDuty_12 rfl ?_
  refine v_get X (pc := 13) 0 (a := aR 13 0) (by decide) (by decide) rfl rfl rfl in_Model (by decide) qw_648 rfl eM_isOnDuty_13 ?_
  refine v_iconst X (pc := 16) (v := (1 : Int32)) eM_isOnDuty_16 (by decide) ?_
  refine v_ialdK X (pc := 17) (n := 66) 1 (by decide) (by decide) (by decide) (by decide) rfl eM_isOnDuty_17 ?_
  refine v_irem X (pc := 18) h eM_isOnDuty_18 (fun h => ?_)
  refine v_istore X (pc := 19) (lv' := [(4, _), (3, _), (0, _), (1, _), (2, _)]) eM_isOnDuty_19 (Nat.le_of_ble_eq_true rfl) rfl ?_
  refine v_iload_n X (pc := 21) 1 rfl eM_isOnDuty_21 rfl ?_
  refine v_aload_n X (pc := 22) 2 rfl eM_isOnDuty_22 rfl ?_
  refine v_iload_n X (pc := 23) 3 rfl eM_isOnDuty_23 rfl ?_
  refine v_iconst X (pc := 24) (v := (3 : Int32)) eM_isOnDuty_24 (by decide) ?_
  obtain ⟨r1, m1, hc1, h⟩ := bd_some h
  refine v_callV X (pc := 25) [_, _] [_] ok_V_M_46 (cM_its  hc1) rfl (Nat.le_of_ble_eq_true rfl) ⟨Nat.le_of_ble_eq_true rfl, Nat.le_of_ble_eq_true rfl⟩ ⟨Nat.zero_le _, Nat.zero_le _⟩ (by decide) (by decide) rfl rfl eM_isOnDuty_25 ?_
  refine v_icmp_ne X (pc := 28) (tgt := 46) h eM_isOnDuty_28 (by decide) (fun h => ?_) (fun h => ?_)
  · refine v_iload X (pc := 31) 0 rfl eM_isOnDuty_31 ?_
    refine v_aload_n X (pc := 33) 2 rfl eM_isOnDuty_33 rfl ?_
    refine v_get X (pc := 34) 0 (a := aR 13 0) (by decide) (by decide) rfl rfl rfl in_Model (by decide) qw_648 rfl eM_isOnDuty_34 ?_
    refine v_iconst X (pc := 37) (v := (2 : Int32)) eM_isOnDuty_37 (by decide) ?_
    refine v_ialdK X (pc := 38) (n := 66) 2 (by decide) (by decide) (by decide) (by decide) rfl eM_isOnDuty_38 ?_
    refine v_icmp_lt X (pc := 39) (tgt := 46) h eM_isOnDuty_39 (by decide) (fun h => ?_) (fun h => ?_)
    · refine v_iconst X (pc := 46) (v := (0 : Int32)) eM_isOnDuty_46 (by decide) ?_
      exact v_sub [2, 3, 1, 0] rfl (cM_isOnDuty_47 X hr _ _ _ _ _  h)
    · refine v_iconst X (pc := 42) (v := (1 : Int32)) eM_isOnDuty_42 (by decide) ?_
      refine v_goto X (pc := 43) (tgt := 47) eM_isOnDuty_43 (by decide) ?_
      exact v_sub [2, 3, 1, 0] rfl (cM_isOnDuty_47 X hr _ _ _ _ _  h)
  · refine v_iconst X (pc := 46) (v := (0 : Int32)) eM_isOnDuty_46 (by decide) ?_
    exact v_sub [2, 3, 1, 0] rfl (cM_isOnDuty_47 X hr _ _ _ _ _  h)
set_option maxHeartbeats 4000000 in
set_option maxRecDepth 100000 in
theorem cM_isAwake {f : Nat} {a1 : Int32} {mem : Mem} {o : Int32} {mem' : Mem}  (h : dM_isAwake f a1 mem = some (o, mem')) : RT yM_isAwake prog_6_method_17_code 2 (Option.some Jvm.ClassFile.FieldType.boolean) (rmM 1 22) [aR 12 0, aI a1] mem (some (aI o)) mem' := by
  refine RT.of (by decide +kernel) (Nat.le_of_ble_eq_true rfl) (fun p l e s m args below meth c k X hr => ?_)
  replace X : CX p s m args meth c k prog_6_method_17_code 2 "WallShiftsModel" := X
  unfold dM_isAwake at h
  refine v_sub (lv' := [(0, _), (1, _)]) [0, 1] rfl ?_
  refine v_aload_n X (pc := 0) 0 rfl eM_isAwake_0 rfl ?_
  refine v_iload_n X (pc := 1) 1 rfl eM_isAwake_1 rfl ?_
  refine v_iconst X (pc := 2) (v := (5 : Int32)) eM_isAwake_2 (by decide) ?_
  obtain ⟨r1, m1, hc1, h⟩ := bd_some h
  refine v_callV X (pc := 3) [_, _] [] ok_V_M_46 (cM_its  hc1) rfl (Nat.le_of_ble_eq_true rfl) ⟨Nat.le_of_ble_eq_true rfl, Nat.le_of_ble_eq_true rfl⟩ ⟨Nat.zero_le _, Nat.zero_le _⟩ (by decide) (by decide) rfl rfl eM_isAwake_3 ?_
  refine v_aload_n X (pc := 6) 0 rfl eM_isAwake_6 rfl ?_
  refine v_get X (pc := 7) 0 (a := aR 13 0) (by decide) (by decide) rfl rfl rfl in_Model (by decide) qw_648 rfl eM_isAwake_7 ?_
  refine v_iconst X (pc := 10) (v := (4 : Int32)) eM_isAwake_10 (by decide) ?_
  refine v_ialdK X (pc := 11) (n := 66) 4 (by decide) (by decide) (by decide) (by decide) rfl eM_isAwake_11 ?_
  refine v_icmp_ge X (pc := 12) (tgt := 19) h eM_isAwake_12 (by decide) (fun h => ?_) (fun h => ?_)
  · refine v_iconst X (pc := 15) (v := (1 : Int32)) eM_isAwake_15 (by decide) ?_
    refine v_goto X (pc := 16) (tgt := 20) eM_isAwake_16 (by decide) ?_
    exact v_zret X (pc := 20) h hr rfl eM_isAwake_20
  · refine v_iconst X (pc := 19) (v := (0 : Int32)) eM_isAwake_19 (by decide) ?_
    exact v_zret X (pc := 20) h hr rfl eM_isAwake_20
set_option maxHeartbeats 4000000 in
set_option maxRecDepth 100000 in
theorem cM_tires {f : Nat} {a1 : Int32} {mem : Mem} {o : Int32} {mem' : Mem}  (h : dM_tires f a1 mem = some (o, mem')) : RT yM_tires prog_6_method_16_code 3 (Option.some Jvm.ClassFile.FieldType.int) (rmM 1 22) [aR 12 0, aI a1] mem (some (aI o)) mem' := by
  refine RT.of (by decide +kernel) (Nat.le_of_ble_eq_true rfl) (fun p l e s m args below meth c k X hr => ?_)
  replace X : CX p s m args meth c k prog_6_method_16_code 3 "WallShiftsModel" := X
  unfold dM_tires at h
  refine v_sub (lv' := [(0, _), (1, _)]) [0, 1] rfl ?_
  refine v_aload_n X (pc := 0) 0 rfl eM_tires_0 rfl ?_
  refine v_iload_n X (pc := 1) 1 rfl eM_tires_1 rfl ?_
  refine v_iconst X (pc := 2) (v := (0 : Int32)) eM_tires_2 (by decide) ?_
  obtain ⟨r1, m1, hc1, h⟩ := bd_some h
  refine v_callV X (pc := 3) [_, _] [] ok_V_M_46 (cM_its  hc1) rfl (Nat.le_of_ble_eq_true rfl) ⟨Nat.le_of_ble_eq_true rfl, Nat.le_of_ble_eq_true rfl⟩ ⟨Nat.zero_le _, Nat.zero_le _⟩ (by decide) (by decide) rfl rfl eM_tires_3 ?_
  refine v_istore_n X (pc := 6) (lv' := [(2, _), (0, _), (1, _)]) eM_tires_6 rfl (Nat.le_of_ble_eq_true rfl) rfl ?_
  refine v_iload_n X (pc := 7) 0 rfl eM_tires_7 rfl ?_
  refine v_iconst X (pc := 8) (v := (4 : Int32)) eM_tires_8 (by decide) ?_
  refine v_icmp_ne X (pc := 9) (tgt := 16) h eM_tires_9 (by decide) (fun h => ?_) (fun h => ?_)
  · refine v_iconst X (pc := 12) (v := (0 : Int32)) eM_tires_12 (by decide) ?_
    refine v_goto X (pc := 13) (tgt := 31) eM_tires_13 (by decide) ?_
    exact v_iret X (pc := 31) h hr eM_tires_31
  · refine v_iload_n X (pc := 16) 0 rfl eM_tires_16 rfl ?_
    refine v_iconst X (pc := 17) (v := (3 : Int32)) eM_tires_17 (by decide) ?_
    refine v_icmp_eq X (pc := 18) (tgt := 26) h eM_tires_18 (by decide) (fun h => ?_) (fun h => ?_)
    · refine v_iconst X (pc := 26) (v := (2 : Int32)) eM_tires_26 (by decide) ?_
      refine v_goto X (pc := 27) (tgt := 31) eM_tires_27 (by decide) ?_
      exact v_iret X (pc := 31) h hr eM_tires_31
    · refine v_iload_n X (pc := 21) 0 rfl eM_tires_21 rfl ?_
      refine v_iconst X (pc := 22) (v := (5 : Int32)) eM_tires_22 (by decide) ?_
      refine v_icmp_ne X (pc := 23) (tgt := 30) h eM_tires_23 (by decide) (fun h => ?_) (fun h => ?_)
      · refine v_iconst X (pc := 26) (v := (2 : Int32)) eM_tires_26 (by decide) ?_
        refine v_goto X (pc := 27) (tgt := 31) eM_tires_27 (by decide) ?_
        exact v_iret X (pc := 31) h hr eM_tires_31
      · refine v_iconst X (pc := 30) (v := (1 : Int32)) eM_tires_30 (by decide) ?_
        exact v_iret X (pc := 31) h hr eM_tires_31
set_option maxHeartbeats 4000000 in
set_option maxRecDepth 100000 in
theorem cM_of {f : Nat} {a1 : Int32} {a2 : Int32} {mem : Mem} {o : Int32} {mem' : Mem}  (h : dM_of f a1 a2 mem = some (o, mem')) : RT yM_of prog_6_method_23_code 3 (Option.some Jvm.ClassFile.FieldType.int) (rmM 2 47) [aR 12 0, aI a1, aI a2] mem (some (aI o)) mem' := by
  refine RT.of (by decide +kernel) (Nat.le_of_ble_eq_true rfl) (fun p l e s m args below meth c k X hr => ?_)
  replace X : CX p s m args meth c k prog_6_method_23_code 3 "WallShiftsModel" := X
  unfold dM_of at h
  refine v_sub (lv' := [(0, _), (1, _), (2, _)]) [0, 1, 2] rfl ?_
  refine v_aload_n X (pc := 0) 0 rfl eM_of_0 rfl ?_
  refine v_iload_n X (pc := 1) 1 rfl eM_of_1 rfl ?_
  obtain ⟨r1, m1, hc1, h⟩ := bd_some h
  refine v_callV X (pc := 2) [_] [] ok_V_M_77 (cM_isOne  hc1) rfl (Nat.le_of_ble_eq_true rfl) ⟨Nat.le_of_ble_eq_true rfl, Nat.le_of_ble_eq_true rfl⟩ ⟨Nat.zero_le _, Nat.zero_le _⟩ (by decide) (by decide) rfl rfl eM_of_2 ?_
  refine v_if_eq X (pc := 5) (tgt := 18) h eM_of_5 (by decide) (fun h => ?_) (fun h => ?_)
  · refine v_aload_n X (pc := 18) 0 rfl eM_of_18 rfl ?_
    refine v_ldc X (pc := 19) qw_717 eM_of_19 ?_
    obtain ⟨r2, m2, hc2, h⟩ := bd_some h
    refine v_callV X (pc := 21) [_] [] ok_V_M_57 (cM_finds  hc2) rfl (Nat.le_of_ble_eq_true rfl) ⟨Nat.le_of_ble_eq_true rfl, Nat.le_of_ble_eq_true rfl⟩ ⟨Nat.zero_le _, Nat.zero_le _⟩ (by decide) (by decide) rfl rfl eM_of_21 ?_
    exact v_iret X (pc := 24) h hr eM_of_24
  · refine v_iload_n X (pc := 8) 2 rfl eM_of_8 rfl ?_
    refine v_iconst X (pc := 9) (v := (0 : Int32)) eM_of_9 (by decide) ?_
    refine v_bipush X (pc := 10) (v := (8 : Int32)) eM_of_10 (by decide) ?_
    obtain ⟨r3, m3, hc3, h⟩ := bd_some h
    refine v_callS X (pc := 12) [_, _, _] [] ok_S_M_42 (cM_in  hc3) rfl (Nat.le_of_ble_eq_true rfl) ⟨Nat.le_of_ble_eq_true rfl, Nat.le_of_ble_eq_true rfl⟩ ⟨Nat.zero_le _, Nat.zero_le _⟩ eM_of_12 ?_
    refine v_if_ne X (pc := 15) (tgt := 25) h eM_of_15 (by decide) (fun h => ?_) (fun h => ?_)
    · refine v_aload_n X (pc := 18) 0 rfl eM_of_18 rfl ?_
      refine v_ldc X (pc := 19) qw_717 eM_of_19 ?_
      obtain ⟨r4, m4, hc4, h⟩ := bd_some h
      refine v_callV X (pc := 21) [_] [] ok_V_M_57 (cM_finds  hc4) rfl (Nat.le_of_ble_eq_true rfl) ⟨Nat.le_of_ble_eq_true rfl, Nat.le_of_ble_eq_true rfl⟩ ⟨Nat.zero_le _, Nat.zero_le _⟩ (by decide) (by decide) rfl rfl eM_of_21 ?_
      exact v_iret X (pc := 24) h hr eM_of_24
    · refine v_iload_n X (pc := 25) 2 rfl eM_of_25 rfl ?_
      by_cases g6 : a2 = (6 : Int32)
      · have h := it_t h g6
        refine v_tsw X (pc := 26) (tgt := 52) (6 : Int32) g6 eM_of_26 (by decide) (by decide) rfl (by decide) ?_
        refine v_aload_n X (pc := 52) 0 rfl eM_of_52 rfl ?_
        refine v_iload_n X (pc := 53) 1 rfl eM_of_53 rfl ?_
        refine v_aload_n X (pc := 54) 0 rfl eM_of_54 rfl ?_
        refine v_get X (pc := 55) 0 (a := aR 13 0) (by decide) (by decide) rfl rfl rfl in_Model (by decide) qw_648 rfl eM_of_55 ?_
        refine v_iconst X (pc := 58) (v := (0 : Int32)) eM_of_58 (by decide) ?_
        refine v_ialdK X (pc := 59) (n := 66) 0 (by decide) (by decide) (by decide) (by decide) rfl eM_of_59 ?_
        obtain ⟨r5, m5, hc5, h⟩ := bd_some h
        refine v_callV X (pc := 60) [_, _] [] ok_V_M_80 (cM_isOnDuty  hc5) rfl (Nat.le_of_ble_eq_true rfl) ⟨Nat.le_of_ble_eq_true rfl, Nat.le_of_ble_eq_true rfl⟩ ⟨Nat.zero_le _, Nat.zero_le _⟩ (by decide) (by decide) rfl rfl eM_of_60 ?_
        refine v_if_eq X (pc := 63) (tgt := 70) h eM_of_63 (by decide) (fun h => ?_) (fun h => ?_)
        · refine v_iconst X (pc := 70) (v := (0 : Int32)) eM_of_70 (by decide) ?_
          exact v_iret X (pc := 71) h hr eM_of_71
        · refine v_iconst X (pc := 66) (v := (1 : Int32)) eM_of_66 (by decide) ?_
          refine v_goto X (pc := 67) (tgt := 71) eM_of_67 (by decide) ?_
          exact v_iret X (pc := 71) h hr eM_of_71
      have h := it_f h g6
      by_cases g7 : a2 = (7 : Int32)
      · have h := it_t h g7
        refine v_tsw X (pc := 26) (tgt := 72) (7 : Int32) g7 eM_of_26 (by decide) (by decide) rfl (by decide) ?_
        refine v_aload_n X (pc := 72) 0 rfl eM_of_72 rfl ?_
        refine v_iload_n X (pc := 73) 1 rfl eM_of_73 rfl ?_
        obtain ⟨r6, m6, hc6, h⟩ := bd_some h
        refine v_callV X (pc := 74) [_] [] ok_V_M_83 (cM_isAwake  hc6) rfl (Nat.le_of_ble_eq_true rfl) ⟨Nat.le_of_ble_eq_true rfl, Nat.le_of_ble_eq_true rfl⟩ ⟨Nat.zero_le _, Nat.zero_le _⟩ (by decide) (by decide) rfl rfl eM_of_74 ?_
        refine v_if_eq X (pc := 77) (tgt := 84) h eM_of_77 (by decide) (fun h => ?_) (fun h => ?_)
        · refine v_iconst X (pc := 84) (v := (0 : Int32)) eM_of_84 (by decide) ?_
          exact v_iret X (pc := 85) h hr eM_of_85
        · refine v_iconst X (pc := 80) (v := (1 : Int32)) eM_of_80 (by decide) ?_
          refine v_goto X (pc := 81) (tgt := 85) eM_of_81 (by decide) ?_
          exact v_iret X (pc := 85) h hr eM_of_85
      have h := it_f h g7
      by_cases g8 : a2 = (8 : Int32)
      · have h := it_t h g8
        refine v_tsw X (pc := 26) (tgt := 86) (8 : Int32) g8 eM_of_26 (by decide) (by decide) rfl (by decide) ?_
        refine v_aload_n X (pc := 86) 0 rfl eM_of_86 rfl ?_
        refine v_iload_n X (pc := 87) 1 rfl eM_of_87 rfl ?_
        obtain ⟨r7, m7, hc7, h⟩ := bd_some h
        refine v_callV X (pc := 88) [_] [] ok_V_M_86 (cM_tires  hc7) rfl (Nat.le_of_ble_eq_true rfl) ⟨Nat.le_of_ble_eq_true rfl, Nat.le_of_ble_eq_true rfl⟩ ⟨Nat.zero_le _, Nat.zero_le _⟩ (by decide) (by decide) rfl rfl eM_of_88 ?_
        exact v_iret X (pc := 91) h hr eM_of_91
      have h := it_f h g8
      refine v_tswD X (pc := 26) (tgt := 92) (tsw_out_6_8 g6 g7 g8) eM_of_26 (by decide) ?_
      refine v_aload_n X (pc := 92) 0 rfl eM_of_92 rfl ?_
      refine v_iload_n X (pc := 93) 1 rfl eM_of_93 rfl ?_
      refine v_iload_n X (pc := 94) 2 rfl eM_of_94 rfl ?_
      obtain ⟨r8, m8, hc8, h⟩ := bd_some h
      refine v_callV X (pc := 95) [_, _] [] ok_V_M_46 (cM_its  hc8) rfl (Nat.le_of_ble_eq_true rfl) ⟨Nat.le_of_ble_eq_true rfl, Nat.le_of_ble_eq_true rfl⟩ ⟨Nat.zero_le _, Nat.zero_le _⟩ (by decide) (by decide) rfl rfl eM_of_95 ?_
      exact v_iret X (pc := 98) h hr eM_of_98
set_option maxHeartbeats 4000000 in
set_option maxRecDepth 100000 in
theorem cM_set_66 {p : Program} {l : Launch} {e : Env} {s : State} {m : MethodId} {args : Array Value} {below : List Frame} {meth : Method} {c : Code} {k : KK} {f : Nat} {o : Int32} {mem' : Mem} (X : CX p s m args meth c k prog_6_method_24_code 5 "WallShiftsModel") (hr : meth.sig.returnType = (Option.some Jvm.ClassFile.FieldType.int)) : ∀ (x1 : Int32) (x2 : Int32) (x3 : Int32) (s0 : Int32) (mem : Mem), dM_set_66 f x1 x2 x3 s0 mem = some (o, mem') → V p l e (rmM 2 43) s m args below meth c 0 0 (MQ below (RQc k (some (aI o)) mem') args s 0 0 (kA k)) k 5 mem 66 [(0, aR 12 0), (1, aI x1), (2, aI x2), (3, aI x3)] [aI s0] := by
  intro x1 x2 x3 s0 mem  h
  unfold dM_set_66 at h
  refine v_istore X (pc := 66) (lv' := [(4, _), (0, _), (1, _), (2, _), (3, _)]) eM_set_66 (Nat.le_of_ble_eq_true rfl) rfl ?_
  refine v_aload_n X (pc := 68) 1 rfl eM_set_68 rfl ?_
  refine v_iload_n X (pc := 69) 2 rfl eM_set_69 rfl ?_
  obtain ⟨r1, m1, hc1, h⟩ := bd_some h
  refine v_callV X (pc := 70) [_] [] ok_V_M_77 (cM_isOne  hc1) rfl (Nat.le_of_ble_eq_true rfl) ⟨Nat.le_of_ble_eq_true rfl, Nat.le_of_ble_eq_true rfl⟩ ⟨Nat.zero_le _, Nat.zero_le _⟩ (by decide) (by decide) rfl rfl eM_set_70 ?_
  refine v_if_eq X (pc := 73) (tgt := 98) h eM_set_73 (by decide) (fun h => ?_) (fun h => ?_)
  · refine v_aload_n X (pc := 98) 1 rfl eM_set_98 rfl ?_
    refine v_ldc X (pc := 99) qw_717 eM_set_99 ?_
    obtain ⟨r2, m2, hc2, h⟩ := bd_some h
    refine v_callV X (pc := 101) [_] [] ok_V_M_57 (cM_finds  hc2) rfl (Nat.le_of_ble_eq_true rfl) ⟨Nat.le_of_ble_eq_true rfl, Nat.le_of_ble_eq_true rfl⟩ ⟨Nat.zero_le _, Nat.zero_le _⟩ (by decide) (by decide) rfl rfl eM_set_101 ?_
    exact v_iret X (pc := 104) h hr eM_set_104
  · refine v_iload X (pc := 76) 0 rfl eM_set_76 ?_
    refine v_if_eq X (pc := 78) (tgt := 98) h eM_set_78 (by decide) (fun h => ?_) (fun h => ?_)
    · refine v_aload_n X (pc := 98) 1 rfl eM_set_98 rfl ?_
      refine v_ldc X (pc := 99) qw_717 eM_set_99 ?_
      obtain ⟨r3, m3, hc3, h⟩ := bd_some h
      refine v_callV X (pc := 101) [_] [] ok_V_M_57 (cM_finds  hc3) rfl (Nat.le_of_ble_eq_true rfl) ⟨Nat.le_of_ble_eq_true rfl, Nat.le_of_ble_eq_true rfl⟩ ⟨Nat.zero_le _, Nat.zero_le _⟩ (by decide) (by decide) rfl rfl eM_set_101 ?_
      exact v_iret X (pc := 104) h hr eM_set_104
    · refine v_aload_n X (pc := 81) 1 rfl eM_set_81 rfl ?_
      refine v_bipush X (pc := 82) (v := (6 : Int32)) eM_set_82 (by decide) ?_
      refine v_bipush X (pc := 84) (v := (6 : Int32)) eM_set_84 (by decide) ?_
      refine v_iload_n X (pc := 86) 2 rfl eM_set_86 rfl ?_
      refine v_imul X (pc := 87) eM_set_87 ?_
      refine v_iadd X (pc := 88) eM_set_88 ?_
      refine v_iload_n X (pc := 89) 3 rfl eM_set_89 rfl ?_
      refine v_iadd X (pc := 90) eM_set_90 ?_
      refine v_iload_n X (pc := 91) 4 rfl eM_set_91 rfl ?_
      obtain ⟨r4, m4, hc4, h⟩ := bd_some h
      refine v_callV X (pc := 92) [_, _] [] ok_V_M_54 (cM_becomes  hc4) rfl (Nat.le_of_ble_eq_true rfl) ⟨Nat.le_of_ble_eq_true rfl, Nat.le_of_ble_eq_true rfl⟩ ⟨Nat.zero_le _, Nat.zero_le _⟩ (by decide) (by decide) rfl rfl eM_set_92 ?_
      refine v_goto X (pc := 95) (tgt := 104) eM_set_95 (by decide) ?_
      exact v_iret X (pc := 104) h hr eM_set_104
set_option maxHeartbeats 4000000 in
set_option maxRecDepth 100000 in
theorem cM_set {f : Nat} {a1 : Int32} {a2 : Int32} {a3 : Int32} {mem : Mem} {o : Int32} {mem' : Mem}  (h : dM_set f a1 a2 a3 mem = some (o, mem')) : RT yM_set prog_6_method_24_code 5 (Option.some Jvm.ClassFile.FieldType.int) (rmM 2 43) [aR 12 0, aI a1, aI a2, aI a3] mem (some (aI o)) mem' := by
  refine RT.of (by decide +kernel) (Nat.le_of_ble_eq_true rfl) (fun p l e s m args below meth c k X hr => ?_)
  replace X : CX p s m args meth c k prog_6_method_24_code 5 "WallShiftsModel" := X
  unfold dM_set at h
  refine v_sub (lv' := [(0, _), (1, _), (2, _), (3, _)]) [0, 1, 2, 3] rfl ?_
  refine v_iload_n X (pc := 0) 2 rfl eM_set_0 rfl ?_
  refine v_iconst X (pc := 1) (v := (1 : Int32)) eM_set_1 (by decide) ?_
  refine v_icmp_eq X (pc := 2) (tgt := 10) h eM_set_2 (by decide) (fun h => ?_) (fun h => ?_)
  · refine v_iload_n X (pc := 10) 3 rfl eM_set_10 rfl ?_
    obtain ⟨r1, m1, hc1, h⟩ := bd_some h
    refine v_callS X (pc := 11) [_] [] ok_S_M_69 (cM_isRoom  hc1) rfl (Nat.le_of_ble_eq_true rfl) ⟨Nat.le_of_ble_eq_true rfl, Nat.le_of_ble_eq_true rfl⟩ ⟨Nat.zero_le _, Nat.zero_le _⟩ eM_set_11 ?_
    refine v_goto X (pc := 14) (tgt := 66) eM_set_14 (by decide) ?_
    exact v_sub [0, 1, 2, 3] rfl (cM_set_66 X hr _ _ _ _ _  h)
  · refine v_iload_n X (pc := 5) 2 rfl eM_set_5 rfl ?_
    refine v_iconst X (pc := 6) (v := (2 : Int32)) eM_set_6 (by decide) ?_
    refine v_icmp_ne X (pc := 7) (tgt := 17) h eM_set_7 (by decide) (fun h => ?_) (fun h => ?_)
    · refine v_iload_n X (pc := 10) 3 rfl eM_set_10 rfl ?_
      obtain ⟨r2, m2, hc2, h⟩ := bd_some h
      refine v_callS X (pc := 11) [_] [] ok_S_M_69 (cM_isRoom  hc2) rfl (Nat.le_of_ble_eq_true rfl) ⟨Nat.le_of_ble_eq_true rfl, Nat.le_of_ble_eq_true rfl⟩ ⟨Nat.zero_le _, Nat.zero_le _⟩ eM_set_11 ?_
      refine v_goto X (pc := 14) (tgt := 66) eM_set_14 (by decide) ?_
      exact v_sub [0, 1, 2, 3] rfl (cM_set_66 X hr _ _ _ _ _  h)
    · refine v_iload_n X (pc := 17) 2 rfl eM_set_17 rfl ?_
      refine v_iconst X (pc := 18) (v := (3 : Int32)) eM_set_18 (by decide) ?_
      refine v_icmp_ne X (pc := 19) (tgt := 31) h eM_set_19 (by decide) (fun h => ?_) (fun h => ?_)
      · refine v_iload_n X (pc := 22) 3 rfl eM_set_22 rfl ?_
        refine v_iconst X (pc := 23) (v := (0 : Int32)) eM_set_23 (by decide) ?_
        refine v_iconst X (pc := 24) (v := (3 : Int32)) eM_set_24 (by decide) ?_
        obtain ⟨r3, m3, hc3, h⟩ := bd_some h
        refine v_callS X (pc := 25) [_, _, _] [] ok_S_M_42 (cM_in  hc3) rfl (Nat.le_of_ble_eq_true rfl) ⟨Nat.le_of_ble_eq_true rfl, Nat.le_of_ble_eq_true rfl⟩ ⟨Nat.zero_le _, Nat.zero_le _⟩ eM_set_25 ?_
        refine v_goto X (pc := 28) (tgt := 66) eM_set_28 (by decide) ?_
        exact v_sub [0, 1, 2, 3] rfl (cM_set_66 X hr _ _ _ _ _  h)
      · refine v_iload_n X (pc := 31) 2 rfl eM_set_31 rfl ?_
        refine v_iconst X (pc := 32) (v := (4 : Int32)) eM_set_32 (by decide) ?_
        refine v_icmp_ne X (pc := 33) (tgt := 46) h eM_set_33 (by decide) (fun h => ?_) (fun h => ?_)
        · refine v_iload_n X (pc := 36) 3 rfl eM_set_36 rfl ?_
          refine v_iconst X (pc := 37) (v := (0 : Int32)) eM_set_37 (by decide) ?_
          refine v_ldc X (pc := 38) qw_769 eM_set_38 ?_
          obtain ⟨r4, m4, hc4, h⟩ := bd_some h
          refine v_callS X (pc := 40) [_, _, _] [] ok_S_M_42 (cM_in  hc4) rfl (Nat.le_of_ble_eq_true rfl) ⟨Nat.le_of_ble_eq_true rfl, Nat.le_of_ble_eq_true rfl⟩ ⟨Nat.zero_le _, Nat.zero_le _⟩ eM_set_40 ?_
          refine v_goto X (pc := 43) (tgt := 66) eM_set_43 (by decide) ?_
          exact v_sub [0, 1, 2, 3] rfl (cM_set_66 X hr _ _ _ _ _  h)
        · refine v_iload_n X (pc := 46) 2 rfl eM_set_46 rfl ?_
          refine v_iconst X (pc := 47) (v := (5 : Int32)) eM_set_47 (by decide) ?_
          refine v_icmp_ne X (pc := 48) (tgt := 65) h eM_set_48 (by decide) (fun h => ?_) (fun h => ?_)
          · refine v_iload_n X (pc := 51) 3 rfl eM_set_51 rfl ?_
            refine v_iconst X (pc := 52) (v := (0 : Int32)) eM_set_52 (by decide) ?_
            refine v_bipush X (pc := 53) (v := (99 : Int32)) eM_set_53 (by decide) ?_
            obtain ⟨r5, m5, hc5, h⟩ := bd_some h
            refine v_callS X (pc := 55) [_, _, _] [] ok_S_M_42 (cM_in  hc5) rfl (Nat.le_of_ble_eq_true rfl) ⟨Nat.le_of_ble_eq_true rfl, Nat.le_of_ble_eq_true rfl⟩ ⟨Nat.zero_le _, Nat.zero_le _⟩ eM_set_55 ?_
            refine v_if_eq X (pc := 58) (tgt := 65) h eM_set_58 (by decide) (fun h => ?_) (fun h => ?_)
            · refine v_iconst X (pc := 65) (v := (0 : Int32)) eM_set_65 (by decide) ?_
              exact v_sub [0, 1, 2, 3] rfl (cM_set_66 X hr _ _ _ _ _  h)
            · refine v_iconst X (pc := 61) (v := (1 : Int32)) eM_set_61 (by decide) ?_
              refine v_goto X (pc := 62) (tgt := 66) eM_set_62 (by decide) ?_
              exact v_sub [0, 1, 2, 3] rfl (cM_set_66 X hr _ _ _ _ _  h)
          · refine v_iconst X (pc := 65) (v := (0 : Int32)) eM_set_65 (by decide) ?_
            exact v_sub [0, 1, 2, 3] rfl (cM_set_66 X hr _ _ _ _ _  h)
set_option maxHeartbeats 4000000 in
set_option maxRecDepth 100000 in
theorem cM_turn {f : Nat} {a1 : Int32} {a2 : Int32} {mem : Mem} {o : Int32} {mem' : Mem}  (h : dM_turn f a1 a2 mem = some (o, mem')) : RT yM_turn prog_6_method_25_code 3 (Option.some Jvm.ClassFile.FieldType.int) (rmM 2 43) [aR 12 0, aI a1, aI a2] mem (some (aI o)) mem' := by
  refine RT.of (by decide +kernel) (Nat.le_of_ble_eq_true rfl) (fun p l e s m args below meth c k X hr => ?_)
  replace X : CX p s m args meth c k prog_6_method_25_code 3 "WallShiftsModel" := X
  unfold dM_turn at h
  refine v_sub (lv' := [(0, _), (1, _), (2, _)]) [0, 1, 2] rfl ?_
  refine v_aload_n X (pc := 0) 0 rfl eM_turn_0 rfl ?_
  refine v_iload_n X (pc := 1) 1 rfl eM_turn_1 rfl ?_
  obtain ⟨r1, m1, hc1, h⟩ := bd_some h
  refine v_callV X (pc := 2) [_] [] ok_V_M_77 (cM_isOne  hc1) rfl (Nat.le_of_ble_eq_true rfl) ⟨Nat.le_of_ble_eq_true rfl, Nat.le_of_ble_eq_true rfl⟩ ⟨Nat.zero_le _, Nat.zero_le _⟩ (by decide) (by decide) rfl rfl eM_turn_2 ?_
  refine v_if_eq X (pc := 5) (tgt := 30) h eM_turn_5 (by decide) (fun h => ?_) (fun h => ?_)
  · refine v_aload_n X (pc := 30) 0 rfl eM_turn_30 rfl ?_
    refine v_ldc X (pc := 31) qw_717 eM_turn_31 ?_
    obtain ⟨r2, m2, hc2, h⟩ := bd_some h
    refine v_callV X (pc := 33) [_] [] ok_V_M_57 (cM_finds  hc2) rfl (Nat.le_of_ble_eq_true rfl) ⟨Nat.le_of_ble_eq_true rfl, Nat.le_of_ble_eq_true rfl⟩ ⟨Nat.zero_le _, Nat.zero_le _⟩ (by decide) (by decide) rfl rfl eM_turn_33 ?_
    exact v_iret X (pc := 36) h hr eM_turn_36
  · refine v_iload_n X (pc := 8) 2 rfl eM_turn_8 rfl ?_
    obtain ⟨r3, m3, hc3, h⟩ := bd_some h
    refine v_callS X (pc := 9) [_] [] ok_S_M_65 (cM_isKind  hc3) rfl (Nat.le_of_ble_eq_true rfl) ⟨Nat.le_of_ble_eq_true rfl, Nat.le_of_ble_eq_true rfl⟩ ⟨Nat.zero_le _, Nat.zero_le _⟩ eM_turn_9 ?_
    refine v_if_eq X (pc := 12) (tgt := 30) h eM_turn_12 (by decide) (fun h => ?_) (fun h => ?_)
    · refine v_aload_n X (pc := 30) 0 rfl eM_turn_30 rfl ?_
      refine v_ldc X (pc := 31) qw_717 eM_turn_31 ?_
      obtain ⟨r4, m4, hc4, h⟩ := bd_some h
      refine v_callV X (pc := 33) [_] [] ok_V_M_57 (cM_finds  hc4) rfl (Nat.le_of_ble_eq_true rfl) ⟨Nat.le_of_ble_eq_true rfl, Nat.le_of_ble_eq_true rfl⟩ ⟨Nat.zero_le _, Nat.zero_le _⟩ (by decide) (by decide) rfl rfl eM_turn_33 ?_
      exact v_iret X (pc := 36) h hr eM_turn_36
    · refine v_aload_n X (pc := 15) 0 rfl eM_turn_15 rfl ?_
      refine v_bipush X (pc := 16) (v := (6 : Int32)) eM_turn_16 (by decide) ?_
      refine v_bipush X (pc := 18) (v := (6 : Int32)) eM_turn_18 (by decide) ?_
      refine v_iload_n X (pc := 20) 1 rfl eM_turn_20 rfl ?_
      refine v_imul X (pc := 21) eM_turn_21 ?_
      refine v_iadd X (pc := 22) eM_turn_22 ?_
      refine v_iload_n X (pc := 23) 2 rfl eM_turn_23 rfl ?_
      obtain ⟨r5, m5, hc5, h⟩ := bd_some h
      refine v_callV X (pc := 24) [_, _] [] ok_V_M_54 (cM_becomes  hc5) rfl (Nat.le_of_ble_eq_true rfl) ⟨Nat.le_of_ble_eq_true rfl, Nat.le_of_ble_eq_true rfl⟩ ⟨Nat.zero_le _, Nat.zero_le _⟩ (by decide) (by decide) rfl rfl eM_turn_24 ?_
      refine v_goto X (pc := 27) (tgt := 36) eM_turn_27 (by decide) ?_
      exact v_iret X (pc := 36) h hr eM_turn_36
set_option maxHeartbeats 4000000 in
set_option maxRecDepth 100000 in
theorem cM_as_63 {p : Program} {l : Launch} {e : Env} {s : State} {m : MethodId} {args : Array Value} {below : List Frame} {meth : Method} {c : Code} {k : KK} {f : Nat} {o : Int32} {mem' : Mem} (X : CX p s m args meth c k prog_6_method_26_code 5 "WallShiftsModel") (hr : meth.sig.returnType = (Option.some Jvm.ClassFile.FieldType.int)) : ∀ (x1 : Int32) (s0 : Int32) (mem : Mem), dM_as_63 f x1 s0 mem = some (o, mem') → V p l e (rmM 2 43) s m args below meth c 0 0 (MQ below (RQc k (some (aI o)) mem') args s 0 0 (kA k)) k 5 mem 63 [(0, aR 12 0), (1, aI x1)] [aI s0] := by
  intro x1 s0 mem  h
  unfold dM_as_63 at h
  refine v_istore X (pc := 63) (lv' := [(4, _), (0, _), (1, _)]) eM_as_63 (Nat.le_of_ble_eq_true rfl) rfl ?_
  refine v_iload X (pc := 65) 0 rfl eM_as_65 ?_
  refine v_if_eq X (pc := 67) (tgt := 79) h eM_as_67 (by decide) (fun h => ?_) (fun h => ?_)
  · refine v_aload_n X (pc := 79) 1 rfl eM_as_79 rfl ?_
    refine v_ldc X (pc := 80) qw_778 eM_as_80 ?_
    obtain ⟨r1, m1, hc1, h⟩ := bd_some h
    refine v_callV X (pc := 82) [_] [] ok_V_M_57 (cM_finds  hc1) rfl (Nat.le_of_ble_eq_true rfl) ⟨Nat.le_of_ble_eq_true rfl, Nat.le_of_ble_eq_true rfl⟩ ⟨Nat.zero_le _, Nat.zero_le _⟩ (by decide) (by decide) rfl rfl eM_as_82 ?_
    exact v_iret X (pc := 85) h hr eM_as_85
  · refine v_aload_n X (pc := 70) 1 rfl eM_as_70 rfl ?_
    refine v_iload_n X (pc := 71) 2 rfl eM_as_71 rfl ?_
    refine v_iconst X (pc := 72) (v := (4 : Int32)) eM_as_72 (by decide) ?_
    obtain ⟨r2, m2, hc2, h⟩ := bd_some h
    refine v_callV X (pc := 73) [_, _] [] ok_V_M_46 (cM_its  hc2) rfl (Nat.le_of_ble_eq_true rfl) ⟨Nat.le_of_ble_eq_true rfl, Nat.le_of_ble_eq_true rfl⟩ ⟨Nat.zero_le _, Nat.zero_le _⟩ (by decide) (by decide) rfl rfl eM_as_73 ?_
    refine v_goto X (pc := 76) (tgt := 85) eM_as_76 (by decide) ?_
    exact v_iret X (pc := 85) h hr eM_as_85
set_option maxHeartbeats 4000000 in
set_option maxRecDepth 100000 in
theorem cM_as_48 {p : Program} {l : Launch} {e : Env} {s : State} {m : MethodId} {args : Array Value} {below : List Frame} {meth : Method} {c : Code} {k : KK} {f : Nat} {o : Int32} {mem' : Mem} (X : CX p s m args meth c k prog_6_method_26_code 5 "WallShiftsModel") (hr : meth.sig.returnType = (Option.some Jvm.ClassFile.FieldType.int)) : ∀ (x1 : Int32) (x2 : Int32) (x3 : Int32) (mem : Mem), dM_as_48 f x1 x2 x3 mem = some (o, mem') → V p l e (rmM 2 43) s m args below meth c 0 0 (MQ below (RQc k (some (aI o)) mem') args s 0 0 (kA k)) k 5 mem 48 [(0, aR 12 0), (1, aI x1), (2, aI x2), (3, aI x3)] [] := by
  intro x1 x2 x3 mem  h
  unfold dM_as_48 at h
  refine v_iload_n X (pc := 48) 2 rfl eM_as_48 rfl ?_
  refine v_iconst X (pc := 49) (v := (2 : Int32)) eM_as_49 (by decide) ?_
  refine v_icmp_ne X (pc := 50) (tgt := 62) h eM_as_50 (by decide) (fun h => ?_) (fun h => ?_)
  · refine v_iload_n X (pc := 53) 3 rfl eM_as_53 rfl ?_
    refine v_iconst X (pc := 54) (v := (5 : Int32)) eM_as_54 (by decide) ?_
    refine v_icmp_ne X (pc := 55) (tgt := 62) h eM_as_55 (by decide) (fun h => ?_) (fun h => ?_)
    · refine v_iconst X (pc := 58) (v := (1 : Int32)) eM_as_58 (by decide) ?_
      refine v_goto X (pc := 59) (tgt := 63) eM_as_59 (by decide) ?_
      exact v_sub [0, 1] rfl (cM_as_63 X hr _ _ _  h)
    · refine v_iconst X (pc := 62) (v := (0 : Int32)) eM_as_62 (by decide) ?_
      exact v_sub [0, 1] rfl (cM_as_63 X hr _ _ _  h)
  · refine v_iconst X (pc := 62) (v := (0 : Int32)) eM_as_62 (by decide) ?_
    exact v_sub [0, 1] rfl (cM_as_63 X hr _ _ _  h)
set_option maxHeartbeats 4000000 in
set_option maxRecDepth 100000 in
theorem cM_as {f : Nat} {a1 : Int32} {a2 : Int32} {mem : Mem} {o : Int32} {mem' : Mem}  (h : dM_as f a1 a2 mem = some (o, mem')) : RT yM_as prog_6_method_26_code 5 (Option.some Jvm.ClassFile.FieldType.int) (rmM 2 43) [aR 12 0, aI a1, aI a2] mem (some (aI o)) mem' := by
  refine RT.of (by decide +kernel) (Nat.le_of_ble_eq_true rfl) (fun p l e s m args below meth c k X hr => ?_)
  replace X : CX p s m args meth c k prog_6_method_26_code 5 "WallShiftsModel" := X
  unfold dM_as at h
  refine v_sub (lv' := [(0, _), (1, _), (2, _)]) [0, 1, 2] rfl ?_
  refine v_aload_n X (pc := 0) 0 rfl eM_as_0 rfl ?_
  refine v_iload_n X (pc := 1) 1 rfl eM_as_1 rfl ?_
  obtain ⟨r1, m1, hc1, h⟩ := bd_some h
  refine v_callV X (pc := 2) [_] [] ok_V_M_77 (cM_isOne  hc1) rfl (Nat.le_of_ble_eq_true rfl) ⟨Nat.le_of_ble_eq_true rfl, Nat.le_of_ble_eq_true rfl⟩ ⟨Nat.zero_le _, Nat.zero_le _⟩ (by decide) (by decide) rfl rfl eM_as_2 ?_
  refine v_if_eq X (pc := 5) (tgt := 15) h eM_as_5 (by decide) (fun h => ?_) (fun h => ?_)
  · refine v_aload_n X (pc := 15) 0 rfl eM_as_15 rfl ?_
    refine v_ldc X (pc := 16) qw_717 eM_as_16 ?_
    obtain ⟨r2, m2, hc2, h⟩ := bd_some h
    refine v_callV X (pc := 18) [_] [] ok_V_M_57 (cM_finds  hc2) rfl (Nat.le_of_ble_eq_true rfl) ⟨Nat.le_of_ble_eq_true rfl, Nat.le_of_ble_eq_true rfl⟩ ⟨Nat.zero_le _, Nat.zero_le _⟩ (by decide) (by decide) rfl rfl eM_as_18 ?_
    exact v_iret X (pc := 21) h hr eM_as_21
  · refine v_iload_n X (pc := 8) 2 rfl eM_as_8 rfl ?_
    obtain ⟨r3, m3, hc3, h⟩ := bd_some h
    refine v_callS X (pc := 9) [_] [] ok_S_M_65 (cM_isKind  hc3) rfl (Nat.le_of_ble_eq_true rfl) ⟨Nat.le_of_ble_eq_true rfl, Nat.le_of_ble_eq_true rfl⟩ ⟨Nat.zero_le _, Nat.zero_le _⟩ eM_as_9 ?_
    refine v_if_ne X (pc := 12) (tgt := 22) h eM_as_12 (by decide) (fun h => ?_) (fun h => ?_)
    · refine v_aload_n X (pc := 15) 0 rfl eM_as_15 rfl ?_
      refine v_ldc X (pc := 16) qw_717 eM_as_16 ?_
      obtain ⟨r4, m4, hc4, h⟩ := bd_some h
      refine v_callV X (pc := 18) [_] [] ok_V_M_57 (cM_finds  hc4) rfl (Nat.le_of_ble_eq_true rfl) ⟨Nat.le_of_ble_eq_true rfl, Nat.le_of_ble_eq_true rfl⟩ ⟨Nat.zero_le _, Nat.zero_le _⟩ (by decide) (by decide) rfl rfl eM_as_18 ?_
      exact v_iret X (pc := 21) h hr eM_as_21
    · refine v_aload_n X (pc := 22) 0 rfl eM_as_22 rfl ?_
      refine v_iload_n X (pc := 23) 1 rfl eM_as_23 rfl ?_
      refine v_iconst X (pc := 24) (v := (0 : Int32)) eM_as_24 (by decide) ?_
      obtain ⟨r5, m5, hc5, h⟩ := bd_some h
      refine v_callV X (pc := 25) [_, _] [] ok_V_M_46 (cM_its  hc5) rfl (Nat.le_of_ble_eq_true rfl) ⟨Nat.le_of_ble_eq_true rfl, Nat.le_of_ble_eq_true rfl⟩ ⟨Nat.zero_le _, Nat.zero_le _⟩ (by decide) (by decide) rfl rfl eM_as_25 ?_
      refine v_istore_n X (pc := 28) (lv' := [(3, _), (0, _), (1, _), (2, _)]) eM_as_28 rfl (Nat.le_of_ble_eq_true rfl) rfl ?_
      refine v_iload_n X (pc := 29) 3 rfl eM_as_29 rfl ?_
      refine v_if_eq X (pc := 30) (tgt := 58) h eM_as_30 (by decide) (fun h => ?_) (fun h => ?_)
      · refine v_iconst X (pc := 58) (v := (1 : Int32)) eM_as_58 (by decide) ?_
        refine v_goto X (pc := 59) (tgt := 63) eM_as_59 (by decide) ?_
        exact v_sub [1, 2] rfl (cM_as_63 X hr _ _ _  h)
      · refine v_iload_n X (pc := 33) 3 rfl eM_as_33 rfl ?_
        refine v_iload_n X (pc := 34) 0 rfl eM_as_34 rfl ?_
        refine v_icmp_eq X (pc := 35) (tgt := 58) h eM_as_35 (by decide) (fun h => ?_) (fun h => ?_)
        · refine v_iconst X (pc := 58) (v := (1 : Int32)) eM_as_58 (by decide) ?_
          refine v_goto X (pc := 59) (tgt := 63) eM_as_59 (by decide) ?_
          exact v_sub [1, 2] rfl (cM_as_63 X hr _ _ _  h)
        · refine v_iload_n X (pc := 38) 3 rfl eM_as_38 rfl ?_
          refine v_iconst X (pc := 39) (v := (1 : Int32)) eM_as_39 (by decide) ?_
          refine v_icmp_ne X (pc := 40) (tgt := 48) h eM_as_40 (by decide) (fun h => ?_) (fun h => ?_)
          · refine v_iload_n X (pc := 43) 0 rfl eM_as_43 rfl ?_
            refine v_iconst X (pc := 44) (v := (4 : Int32)) eM_as_44 (by decide) ?_
            refine v_icmp_eq X (pc := 45) (tgt := 58) h eM_as_45 (by decide) (fun h => ?_) (fun h => ?_)
            · refine v_iconst X (pc := 58) (v := (1 : Int32)) eM_as_58 (by decide) ?_
              refine v_goto X (pc := 59) (tgt := 63) eM_as_59 (by decide) ?_
              exact v_sub [1, 2] rfl (cM_as_63 X hr _ _ _  h)
            · exact v_sub [1, 2, 3, 0] rfl (cM_as_48 X hr _ _ _ _  h)
          · exact v_sub [1, 2, 3, 0] rfl (cM_as_48 X hr _ _ _ _  h)
set_option maxHeartbeats 4000000 in
set_option maxRecDepth 100000 in
theorem cM_isWordOf {f : Nat} {a0 : Int32} {mem : Mem} {o : Int32} {mem' : Mem}  (h : dM_isWordOf f a0 mem = some (o, mem')) : RT yM_isWordOf prog_6_method_10_code 1 (Option.some Jvm.ClassFile.FieldType.boolean) (rmM 1 22) [aI a0] mem (some (aI o)) mem' := by
  refine RT.of (by decide +kernel) (Nat.le_of_ble_eq_true rfl) (fun p l e s m args below meth c k X hr => ?_)
  replace X : CX p s m args meth c k prog_6_method_10_code 1 "WallShiftsModel" := X
  unfold dM_isWordOf at h
  refine v_sub (lv' := [(0, _)]) [0] rfl ?_
  refine v_iload_n X (pc := 0) 0 rfl eM_isWordOf_0 rfl ?_
  refine v_iconst X (pc := 1) (v := (0 : Int32)) eM_isWordOf_1 (by decide) ?_
  refine v_bipush X (pc := 2) (v := (15 : Int32)) eM_isWordOf_2 (by decide) ?_
  obtain ⟨r1, m1, hc1, h⟩ := bd_some h
  refine v_callS X (pc := 4) [_, _, _] [] ok_S_M_42 (cM_in  hc1) rfl (Nat.le_of_ble_eq_true rfl) ⟨Nat.le_of_ble_eq_true rfl, Nat.le_of_ble_eq_true rfl⟩ ⟨Nat.zero_le _, Nat.zero_le _⟩ eM_isWordOf_4 ?_
  obtain ⟨hz, h⟩ := zb_some h
  exact v_zret X (pc := 7) h hr (zb_n hz) eM_isWordOf_7
set_option maxHeartbeats 4000000 in
set_option maxRecDepth 100000 in
theorem cM_heard {f : Nat} {a1 : Int32} {a2 : Int32} {mem : Mem} {o : Int32} {mem' : Mem}  (h : dM_heard f a1 a2 mem = some (o, mem')) : RT yM_heard prog_6_method_15_code 3 (Option.some Jvm.ClassFile.FieldType.int) (rmM 1 22) [aR 12 0, aI a1, aI a2] mem (some (aI o)) mem' := by
  refine RT.of (by decide +kernel) (Nat.le_of_ble_eq_true rfl) (fun p l e s m args below meth c k X hr => ?_)
  replace X : CX p s m args meth c k prog_6_method_15_code 3 "WallShiftsModel" := X
  unfold dM_heard at h
  refine v_sub (lv' := [(0, _), (1, _), (2, _)]) [0, 1, 2] rfl ?_
  refine v_aload_n X (pc := 0) 0 rfl eM_heard_0 rfl ?_
  refine v_iload_n X (pc := 1) 1 rfl eM_heard_1 rfl ?_
  refine v_iconst X (pc := 2) (v := (0 : Int32)) eM_heard_2 (by decide) ?_
  obtain ⟨r1, m1, hc1, h⟩ := bd_some h
  refine v_callV X (pc := 3) [_, _] [] ok_V_M_46 (cM_its  hc1) rfl (Nat.le_of_ble_eq_true rfl) ⟨Nat.le_of_ble_eq_true rfl, Nat.le_of_ble_eq_true rfl⟩ ⟨Nat.zero_le _, Nat.zero_le _⟩ (by decide) (by decide) rfl rfl eM_heard_3 ?_
  by_cases g2 : r1 = (2 : Int32)
  · have h := it_t h g2
    refine v_tsw X (pc := 6) (tgt := 36) (2 : Int32) g2 eM_heard_6 (by decide) (by decide) rfl (by decide) ?_
    refine v_iload_n X (pc := 36) 2 rfl eM_heard_36 rfl ?_
    refine v_iconst X (pc := 37) (v := (1 : Int32)) eM_heard_37 (by decide) ?_
    refine v_ixor X (pc := 38) eM_heard_38 ?_
    exact v_iret X (pc := 39) h hr eM_heard_39
  have h := it_f h g2
  by_cases g3 : r1 = (3 : Int32)
  · have h := it_t h g3
    refine v_tsw X (pc := 6) (tgt := 68) (3 : Int32) g3 eM_heard_6 (by decide) (by decide) rfl (by decide) ?_
    refine v_iload_n X (pc := 68) 2 rfl eM_heard_68 rfl ?_
    exact v_iret X (pc := 69) h hr eM_heard_69
  have h := it_f h g3
  by_cases g4 : r1 = (4 : Int32)
  · have h := it_t h g4
    refine v_tsw X (pc := 6) (tgt := 40) (4 : Int32) g4 eM_heard_6 (by decide) (by decide) rfl (by decide) ?_
    refine v_iload_n X (pc := 40) 2 rfl eM_heard_40 rfl ?_
    refine v_iconst X (pc := 41) (v := (4 : Int32)) eM_heard_41 (by decide) ?_
    refine v_icmp_ge X (pc := 42) (tgt := 49) h eM_heard_42 (by decide) (fun h => ?_) (fun h => ?_)
    · refine v_iconst X (pc := 45) (v := (-1 : Int32)) eM_heard_45 (by decide) ?_
      refine v_goto X (pc := 46) (tgt := 50) eM_heard_46 (by decide) ?_
      exact v_iret X (pc := 50) h hr eM_heard_50
    · refine v_iload_n X (pc := 49) 2 rfl eM_heard_49 rfl ?_
      exact v_iret X (pc := 50) h hr eM_heard_50
  have h := it_f h g4
  by_cases g5 : r1 = (5 : Int32)
  · have h := it_t h g5
    refine v_tsw X (pc := 6) (tgt := 51) (5 : Int32) g5 eM_heard_6 (by decide) (by decide) rfl (by decide) ?_
    refine v_aload_n X (pc := 51) 0 rfl eM_heard_51 rfl ?_
    refine v_iload_n X (pc := 52) 1 rfl eM_heard_52 rfl ?_
    refine v_iconst X (pc := 53) (v := (5 : Int32)) eM_heard_53 (by decide) ?_
    obtain ⟨r2, m2, hc2, h⟩ := bd_some h
    refine v_callV X (pc := 54) [_, _] [] ok_V_M_46 (cM_its  hc2) rfl (Nat.le_of_ble_eq_true rfl) ⟨Nat.le_of_ble_eq_true rfl, Nat.le_of_ble_eq_true rfl⟩ ⟨Nat.zero_le _, Nat.zero_le _⟩ (by decide) (by decide) rfl rfl eM_heard_54 ?_
    refine v_if_ne X (pc := 57) (tgt := 64) h eM_heard_57 (by decide) (fun h => ?_) (fun h => ?_)
    · refine v_iload_n X (pc := 60) 2 rfl eM_heard_60 rfl ?_
      refine v_goto X (pc := 61) (tgt := 67) eM_heard_61 (by decide) ?_
      exact v_iret X (pc := 67) h hr eM_heard_67
    · refine v_iload_n X (pc := 64) 2 rfl eM_heard_64 rfl ?_
      refine v_iconst X (pc := 65) (v := (1 : Int32)) eM_heard_65 (by decide) ?_
      refine v_ixor X (pc := 66) eM_heard_66 ?_
      exact v_iret X (pc := 67) h hr eM_heard_67
  have h := it_f h g5
  refine v_tswD X (pc := 6) (tgt := 68) (tsw_out_2_5 g2 g3 g4 g5) eM_heard_6 (by decide) ?_
  refine v_iload_n X (pc := 68) 2 rfl eM_heard_68 rfl ?_
  exact v_iret X (pc := 69) h hr eM_heard_69
set_option maxHeartbeats 4000000 in
set_option maxRecDepth 100000 in
theorem cM_hears {f : Nat} {a1 : Int32} {a2 : Int32} {mem : Mem} {o : Int32} {mem' : Mem}  (h : dM_hears f a1 a2 mem = some (o, mem')) : RT yM_hears prog_6_method_27_code 4 (Option.some Jvm.ClassFile.FieldType.int) (rmM 2 44) [aR 12 0, aI a1, aI a2] mem (some (aI o)) mem' := by
  refine RT.of (by decide +kernel) (Nat.le_of_ble_eq_true rfl) (fun p l e s m args below meth c k X hr => ?_)
  replace X : CX p s m args meth c k prog_6_method_27_code 4 "WallShiftsModel" := X
  unfold dM_hears at h
  refine v_sub (lv' := [(0, _), (1, _), (2, _)]) [0, 1, 2] rfl ?_
  refine v_aload_n X (pc := 0) 0 rfl eM_hears_0 rfl ?_
  refine v_iload_n X (pc := 1) 1 rfl eM_hears_1 rfl ?_
  obtain ⟨r1, m1, hc1, h⟩ := bd_some h
  refine v_callV X (pc := 2) [_] [] ok_V_M_77 (cM_isOne  hc1) rfl (Nat.le_of_ble_eq_true rfl) ⟨Nat.le_of_ble_eq_true rfl, Nat.le_of_ble_eq_true rfl⟩ ⟨Nat.zero_le _, Nat.zero_le _⟩ (by decide) (by decide) rfl rfl eM_hears_2 ?_
  refine v_if_eq X (pc := 5) (tgt := 15) h eM_hears_5 (by decide) (fun h => ?_) (fun h => ?_)
  · refine v_aload_n X (pc := 15) 0 rfl eM_hears_15 rfl ?_
    refine v_ldc X (pc := 16) qw_717 eM_hears_16 ?_
    obtain ⟨r2, m2, hc2, h⟩ := bd_some h
    refine v_callV X (pc := 18) [_] [] ok_V_M_57 (cM_finds  hc2) rfl (Nat.le_of_ble_eq_true rfl) ⟨Nat.le_of_ble_eq_true rfl, Nat.le_of_ble_eq_true rfl⟩ ⟨Nat.zero_le _, Nat.zero_le _⟩ (by decide) (by decide) rfl rfl eM_hears_18 ?_
    exact v_iret X (pc := 21) h hr eM_hears_21
  · refine v_iload_n X (pc := 8) 2 rfl eM_hears_8 rfl ?_
    obtain ⟨r3, m3, hc3, h⟩ := bd_some h
    refine v_callS X (pc := 9) [_] [] ok_S_M_91 (cM_isWordOf  hc3) rfl (Nat.le_of_ble_eq_true rfl) ⟨Nat.le_of_ble_eq_true rfl, Nat.le_of_ble_eq_true rfl⟩ ⟨Nat.zero_le _, Nat.zero_le _⟩ eM_hears_9 ?_
    refine v_if_ne X (pc := 12) (tgt := 22) h eM_hears_12 (by decide) (fun h => ?_) (fun h => ?_)
    · refine v_aload_n X (pc := 15) 0 rfl eM_hears_15 rfl ?_
      refine v_ldc X (pc := 16) qw_717 eM_hears_16 ?_
      obtain ⟨r4, m4, hc4, h⟩ := bd_some h
      refine v_callV X (pc := 18) [_] [] ok_V_M_57 (cM_finds  hc4) rfl (Nat.le_of_ble_eq_true rfl) ⟨Nat.le_of_ble_eq_true rfl, Nat.le_of_ble_eq_true rfl⟩ ⟨Nat.zero_le _, Nat.zero_le _⟩ (by decide) (by decide) rfl rfl eM_hears_18 ?_
      exact v_iret X (pc := 21) h hr eM_hears_21
    · refine v_aload_n X (pc := 22) 0 rfl eM_hears_22 rfl ?_
      refine v_iload_n X (pc := 23) 1 rfl eM_hears_23 rfl ?_
      refine v_iload_n X (pc := 24) 2 rfl eM_hears_24 rfl ?_
      obtain ⟨r5, m5, hc5, h⟩ := bd_some h
      refine v_callV X (pc := 25) [_, _] [] ok_V_M_94 (cM_heard  hc5) rfl (Nat.le_of_ble_eq_true rfl) ⟨Nat.le_of_ble_eq_true rfl, Nat.le_of_ble_eq_true rfl⟩ ⟨Nat.zero_le _, Nat.zero_le _⟩ (by decide) (by decide) rfl rfl eM_hears_25 ?_
      refine v_istore_n X (pc := 28) (lv' := [(3, _), (0, _), (1, _), (2, _)]) eM_hears_28 rfl (Nat.le_of_ble_eq_true rfl) rfl ?_
      refine v_iload_n X (pc := 29) 0 rfl eM_hears_29 rfl ?_
      refine v_if_ge X (pc := 30) (tgt := 42) h eM_hears_30 (by decide) (fun h => ?_) (fun h => ?_)
      · refine v_aload_n X (pc := 33) 1 rfl eM_hears_33 rfl ?_
        refine v_ldc X (pc := 34) qw_790 eM_hears_34 ?_
        obtain ⟨r6, m6, hc6, h⟩ := bd_some h
        refine v_callV X (pc := 36) [_] [] ok_V_M_57 (cM_finds  hc6) rfl (Nat.le_of_ble_eq_true rfl) ⟨Nat.le_of_ble_eq_true rfl, Nat.le_of_ble_eq_true rfl⟩ ⟨Nat.zero_le _, Nat.zero_le _⟩ (by decide) (by decide) rfl rfl eM_hears_36 ?_
        refine v_goto X (pc := 39) (tgt := 43) eM_hears_39 (by decide) ?_
        exact v_iret X (pc := 43) h hr eM_hears_43
      · refine v_iload_n X (pc := 42) 0 rfl eM_hears_42 rfl ?_
        exact v_iret X (pc := 43) h hr eM_hears_43
set_option maxHeartbeats 4000000 in
set_option maxRecDepth 100000 in
theorem cM_has {f : Nat} {a0 : Int32} {a1 : Int32} {mem : Mem} {o : Int32} {mem' : Mem}  (h : dM_has f a0 a1 mem = some (o, mem')) : RT yM_has prog_6_method_12_code 2 (Option.some Jvm.ClassFile.FieldType.boolean) (rmM 0 0) [aI a0, aI a1] mem (some (aI o)) mem' := by
  refine RT.of (by decide +kernel) (Nat.le_of_ble_eq_true rfl) (fun p l e s m args below meth c k X hr => ?_)
  replace X : CX p s m args meth c k prog_6_method_12_code 2 "WallShiftsModel" := X
  unfold dM_has at h
  refine v_sub (lv' := [(0, _), (1, _)]) [0, 1] rfl ?_
  refine v_iload_n X (pc := 0) 0 rfl eM_has_0 rfl ?_
  refine v_iload_n X (pc := 1) 1 rfl eM_has_1 rfl ?_
  refine v_ishr X (pc := 2) eM_has_2 ?_
  refine v_iconst X (pc := 3) (v := (1 : Int32)) eM_has_3 (by decide) ?_
  refine v_iand X (pc := 4) eM_has_4 ?_
  refine v_iconst X (pc := 5) (v := (1 : Int32)) eM_has_5 (by decide) ?_
  refine v_icmp_ne X (pc := 6) (tgt := 13) h eM_has_6 (by decide) (fun h => ?_) (fun h => ?_)
  · refine v_iconst X (pc := 9) (v := (1 : Int32)) eM_has_9 (by decide) ?_
    refine v_goto X (pc := 10) (tgt := 14) eM_has_10 (by decide) ?_
    exact v_zret X (pc := 14) h hr rfl eM_has_14
  · refine v_iconst X (pc := 13) (v := (0 : Int32)) eM_has_13 (by decide) ?_
    exact v_zret X (pc := 14) h hr rfl eM_has_14
set_option maxHeartbeats 4000000 in
set_option maxRecDepth 100000 in
theorem cM_reachOf_65 {p : Program} {l : Launch} {e : Env} {s : State} {m : MethodId} {args : Array Value} {below : List Frame} {meth : Method} {c : Code} {k : KK} {f : Nat} {o : Int32} {mem' : Mem} (X : CX p s m args meth c k prog_6_method_18_code 5 "WallShiftsModel") (hr : meth.sig.returnType = (Option.some Jvm.ClassFile.FieldType.int)) {k6 : Int32 → Int32 → Mem → Option (Int32 × Mem)} (hk6 : ∀ (x2 : Int32) (x3 : Int32) (mem : Mem), k6 x2 x3 mem = some (o, mem') → V p l e (rmM 1 22) s m args below meth c 0 0 (MQ below (RQc k (some (aI o)) mem') args s 0 0 (kA k)) k 5 mem 6 [(0, aR 12 0), (2, aI x2), (3, aI x3)] []) {k15 : Int32 → Int32 → Int32 → Mem → Option (Int32 × Mem)} (hk15 : ∀ (x2 : Int32) (x3 : Int32) (x4 : Int32) (mem : Mem), k15 x2 x3 x4 mem = some (o, mem') → V p l e (rmM 1 22) s m args below meth c 0 0 (MQ below (RQc k (some (aI o)) mem') args s 0 0 (kA k)) k 5 mem 15 [(0, aR 12 0), (2, aI x2), (3, aI x3), (4, aI x4)] []) : ∀ (x2 : Int32) (x3 : Int32) (x4 : Int32) (mem : Mem), dM_reachOf_65 f k6 k15 x2 x3 x4 mem = some (o, mem') → V p l e (rmM 1 22) s m args below meth c 0 0 (MQ below (RQc k (some (aI o)) mem') args s 0 0 (kA k)) k 5 mem 65 [(0, aR 12 0), (2, aI x2), (3, aI x3), (4, aI x4)] [] := by
  intro x2 x3 x4 mem  h
  unfold dM_reachOf_65 at h
  refine v_iload_n X (pc := 65) 1 rfl eM_reachOf_65 rfl ?_
  refine v_iconst X (pc := 66) (v := (1 : Int32)) eM_reachOf_66 (by decide) ?_
  refine v_aload_n X (pc := 67) 0 rfl eM_reachOf_67 rfl ?_
  refine v_iload X (pc := 68) 3 rfl eM_reachOf_68 ?_
  refine v_iconst X (pc := 70) (v := (1 : Int32)) eM_reachOf_70 (by decide) ?_
  obtain ⟨r1, m1, hc1, h⟩ := bd_some h
  refine v_callV X (pc := 71) [_, _] [_, _] ok_V_M_46 (cM_its  hc1) rfl (Nat.le_of_ble_eq_true rfl) ⟨Nat.le_of_ble_eq_true rfl, Nat.le_of_ble_eq_true rfl⟩ ⟨Nat.zero_le _, Nat.zero_le _⟩ (by decide) (by decide) rfl rfl eM_reachOf_71 ?_
  refine v_ishl X (pc := 74) eM_reachOf_74 ?_
  refine v_iconst X (pc := 75) (v := (1 : Int32)) eM_reachOf_75 (by decide) ?_
  refine v_aload_n X (pc := 76) 0 rfl eM_reachOf_76 rfl ?_
  refine v_iload X (pc := 77) 3 rfl eM_reachOf_77 ?_
  refine v_iconst X (pc := 79) (v := (2 : Int32)) eM_reachOf_79 (by decide) ?_
  obtain ⟨r2, m2, hc2, h⟩ := bd_some h
  refine v_callV X (pc := 80) [_, _] [_, _, _] ok_V_M_46 (cM_its  hc2) rfl (Nat.le_of_ble_eq_true rfl) ⟨Nat.le_of_ble_eq_true rfl, Nat.le_of_ble_eq_true rfl⟩ ⟨Nat.zero_le _, Nat.zero_le _⟩ (by decide) (by decide) rfl rfl eM_reachOf_80 ?_
  refine v_ishl X (pc := 83) eM_reachOf_83 ?_
  refine v_ior X (pc := 84) eM_reachOf_84 ?_
  refine v_ior X (pc := 85) eM_reachOf_85 ?_
  refine v_istore_n X (pc := 86) (lv' := [(2, _), (0, _), (3, _), (4, _)]) eM_reachOf_86 rfl (Nat.le_of_ble_eq_true rfl) rfl ?_
  refine v_iinc X (pc := 87) (v := (x4 + (1 : Int32))) (lv' := [(4, _), (2, _), (0, _), (3, _)]) 3 rfl (by rfl) eM_reachOf_87 (Nat.le_of_ble_eq_true rfl) rfl ?_
  refine v_goto X (pc := 90) (tgt := 15) eM_reachOf_90 (by decide) ?_
  exact v_sub [2, 1, 3, 0] rfl (hk15 _ _ _ _  h)
set_option maxHeartbeats 4000000 in
set_option maxRecDepth 100000 in
theorem cM_reachOf_15 {p : Program} {l : Launch} {e : Env} {s : State} {m : MethodId} {args : Array Value} {below : List Frame} {meth : Method} {c : Code} {k : KK} {f : Nat} {o : Int32} {mem' : Mem} (X : CX p s m args meth c k prog_6_method_18_code 5 "WallShiftsModel") (hr : meth.sig.returnType = (Option.some Jvm.ClassFile.FieldType.int)) {k6 : Int32 → Int32 → Mem → Option (Int32 × Mem)} (hk6 : ∀ (x2 : Int32) (x3 : Int32) (mem : Mem), k6 x2 x3 mem = some (o, mem') → V p l e (rmM 1 22) s m args below meth c 0 0 (MQ below (RQc k (some (aI o)) mem') args s 0 0 (kA k)) k 5 mem 6 [(0, aR 12 0), (2, aI x2), (3, aI x3)] []) : ∀ (n : Nat) (x2 : Int32) (x3 : Int32) (x4 : Int32) (mem : Mem), dM_reachOf_15 f k6 n x2 x3 x4 mem = some (o, mem') → V p l e (rmM 1 22) s m args below meth c 0 0 (MQ below (RQc k (some (aI o)) mem') args s 0 0 (kA k)) k 5 mem 15 [(0, aR 12 0), (2, aI x2), (3, aI x3), (4, aI x4)] [] := by
  intro n
  induction n with
  | zero =>
    intro x2 x3 x4 mem  h
    exact nomatch (show (none : Option (Int32 × Mem)) = some _ from h)
  | succ n ih =>
    intro x2 x3 x4 mem  h
    rw [dM_reachOf_15] at h
    refine v_iload X (pc := 15) 3 rfl eM_reachOf_15 ?_
    refine v_aload_n X (pc := 17) 0 rfl eM_reachOf_17 rfl ?_
    refine v_get X (pc := 18) 0 (a := aR 13 0) (by decide) (by decide) rfl rfl rfl in_Model (by decide) qw_648 rfl eM_reachOf_18 ?_
    refine v_iconst X (pc := 21) (v := (5 : Int32)) eM_reachOf_21 (by decide) ?_
    refine v_ialdK X (pc := 22) (n := 66) 5 (by decide) (by decide) (by decide) (by decide) rfl eM_reachOf_22 ?_
    refine v_icmp_ge X (pc := 23) (tgt := 93) h eM_reachOf_23 (by decide) (fun h => ?_) (fun h => ?_)
    · refine v_aload_n X (pc := 26) 0 rfl eM_reachOf_26 rfl ?_
      refine v_iload X (pc := 27) 3 rfl eM_reachOf_27 ?_
      refine v_iconst X (pc := 29) (v := (0 : Int32)) eM_reachOf_29 (by decide) ?_
      obtain ⟨r1, m1, hc1, h⟩ := bd_some h
      refine v_callV X (pc := 30) [_, _] [] ok_V_M_46 (cM_its  hc1) rfl (Nat.le_of_ble_eq_true rfl) ⟨Nat.le_of_ble_eq_true rfl, Nat.le_of_ble_eq_true rfl⟩ ⟨Nat.zero_le _, Nat.zero_le _⟩ (by decide) (by decide) rfl rfl eM_reachOf_30 ?_
      refine v_iconst X (pc := 33) (v := (3 : Int32)) eM_reachOf_33 (by decide) ?_
      refine v_icmp_ne X (pc := 34) (tgt := 87) h eM_reachOf_34 (by decide) (fun h => ?_) (fun h => ?_)
      · refine v_iload_n X (pc := 37) 1 rfl eM_reachOf_37 rfl ?_
        refine v_aload_n X (pc := 38) 0 rfl eM_reachOf_38 rfl ?_
        refine v_iload X (pc := 39) 3 rfl eM_reachOf_39 ?_
        refine v_iconst X (pc := 41) (v := (1 : Int32)) eM_reachOf_41 (by decide) ?_
        obtain ⟨r2, m2, hc2, h⟩ := bd_some h
        refine v_callV X (pc := 42) [_, _] [_] ok_V_M_46 (cM_its  hc2) rfl (Nat.le_of_ble_eq_true rfl) ⟨Nat.le_of_ble_eq_true rfl, Nat.le_of_ble_eq_true rfl⟩ ⟨Nat.zero_le _, Nat.zero_le _⟩ (by decide) (by decide) rfl rfl eM_reachOf_42 ?_
        obtain ⟨r3, m3, hc3, h⟩ := bd_some h
        refine v_callS X (pc := 45) [_, _] [] ok_S_M_50 (cM_has  hc3) rfl (Nat.le_of_ble_eq_true rfl) ⟨Nat.le_of_ble_eq_true rfl, Nat.le_of_ble_eq_true rfl⟩ ⟨Nat.zero_le _, Nat.zero_le _⟩ eM_reachOf_45 ?_
        refine v_if_ne X (pc := 48) (tgt := 65) h eM_reachOf_48 (by decide) (fun h => ?_) (fun h => ?_)
        · refine v_iload_n X (pc := 51) 1 rfl eM_reachOf_51 rfl ?_
          refine v_aload_n X (pc := 52) 0 rfl eM_reachOf_52 rfl ?_
          refine v_iload X (pc := 53) 3 rfl eM_reachOf_53 ?_
          refine v_iconst X (pc := 55) (v := (2 : Int32)) eM_reachOf_55 (by decide) ?_
          obtain ⟨r4, m4, hc4, h⟩ := bd_some h
          refine v_callV X (pc := 56) [_, _] [_] ok_V_M_46 (cM_its  hc4) rfl (Nat.le_of_ble_eq_true rfl) ⟨Nat.le_of_ble_eq_true rfl, Nat.le_of_ble_eq_true rfl⟩ ⟨Nat.zero_le _, Nat.zero_le _⟩ (by decide) (by decide) rfl rfl eM_reachOf_56 ?_
          obtain ⟨r5, m5, hc5, h⟩ := bd_some h
          refine v_callS X (pc := 59) [_, _] [] ok_S_M_50 (cM_has  hc5) rfl (Nat.le_of_ble_eq_true rfl) ⟨Nat.le_of_ble_eq_true rfl, Nat.le_of_ble_eq_true rfl⟩ ⟨Nat.zero_le _, Nat.zero_le _⟩ eM_reachOf_59 ?_
          refine v_if_eq X (pc := 62) (tgt := 87) h eM_reachOf_62 (by decide) (fun h => ?_) (fun h => ?_)
          · refine v_iinc X (pc := 87) (v := (x4 + (1 : Int32))) (lv' := [(4, _), (0, _), (2, _), (3, _)]) 3 rfl (by rfl) eM_reachOf_87 (Nat.le_of_ble_eq_true rfl) rfl ?_
            refine v_goto X (pc := 90) (tgt := 15) eM_reachOf_90 (by decide) ?_
            exact v_sub [1, 2, 3, 0] rfl (ih _ _ _ _  h)
          · exact v_sub [0, 1, 2, 3] rfl (cM_reachOf_65 X hr hk6 ih _ _ _ _  h)
        · exact v_sub [0, 1, 2, 3] rfl (cM_reachOf_65 X hr hk6 ih _ _ _ _  h)
      · refine v_iinc X (pc := 87) (v := (x4 + (1 : Int32))) (lv' := [(4, _), (0, _), (2, _), (3, _)]) 3 rfl (by rfl) eM_reachOf_87 (Nat.le_of_ble_eq_true rfl) rfl ?_
        refine v_goto X (pc := 90) (tgt := 15) eM_reachOf_90 (by decide) ?_
        exact v_sub [1, 2, 3, 0] rfl (ih _ _ _ _  h)
    · refine v_iinc X (pc := 93) (v := (x3 + (1 : Int32))) (lv' := [(3, _), (0, _), (2, _), (4, _)]) 2 rfl (by rfl) eM_reachOf_93 (Nat.le_of_ble_eq_true rfl) rfl ?_
      refine v_goto X (pc := 96) (tgt := 6) eM_reachOf_96 (by decide) ?_
      exact v_sub [1, 2, 0] rfl (hk6 _ _ _  h)
set_option maxHeartbeats 4000000 in
set_option maxRecDepth 100000 in
theorem cM_reachOf_6 {p : Program} {l : Launch} {e : Env} {s : State} {m : MethodId} {args : Array Value} {below : List Frame} {meth : Method} {c : Code} {k : KK} {f : Nat} {o : Int32} {mem' : Mem} (X : CX p s m args meth c k prog_6_method_18_code 5 "WallShiftsModel") (hr : meth.sig.returnType = (Option.some Jvm.ClassFile.FieldType.int)) : ∀ (n : Nat) (x2 : Int32) (x3 : Int32) (mem : Mem), dM_reachOf_6 f n x2 x3 mem = some (o, mem') → V p l e (rmM 1 22) s m args below meth c 0 0 (MQ below (RQc k (some (aI o)) mem') args s 0 0 (kA k)) k 5 mem 6 [(0, aR 12 0), (2, aI x2), (3, aI x3)] [] := by
  intro n
  induction n with
  | zero =>
    intro x2 x3 mem  h
    exact nomatch (show (none : Option (Int32 × Mem)) = some _ from h)
  | succ n ih =>
    intro x2 x3 mem  h
    rw [dM_reachOf_6] at h
    refine v_iload_n X (pc := 6) 2 rfl eM_reachOf_6 rfl ?_
    refine v_bipush X (pc := 7) (v := (10 : Int32)) eM_reachOf_7 (by decide) ?_
    refine v_icmp_ge X (pc := 9) (tgt := 99) h eM_reachOf_9 (by decide) (fun h => ?_) (fun h => ?_)
    · refine v_iconst X (pc := 12) (v := (0 : Int32)) eM_reachOf_12 (by decide) ?_
      refine v_istore X (pc := 13) (lv' := [(4, _), (0, _), (2, _), (3, _)]) eM_reachOf_13 (Nat.le_of_ble_eq_true rfl) rfl ?_
      exact v_sub [1, 2, 3, 0] rfl (cM_reachOf_15 X hr ih _ _ _ _ _  h)
    · refine v_iload_n X (pc := 99) 1 rfl eM_reachOf_99 rfl ?_
      exact v_iret X (pc := 100) h hr eM_reachOf_100
set_option maxHeartbeats 4000000 in
set_option maxRecDepth 100000 in
theorem cM_reachOf {f : Nat} {a1 : Int32} {mem : Mem} {o : Int32} {mem' : Mem}  (h : dM_reachOf f a1 mem = some (o, mem')) : RT yM_reachOf prog_6_method_18_code 5 (Option.some Jvm.ClassFile.FieldType.int) (rmM 1 22) [aR 12 0, aI a1] mem (some (aI o)) mem' := by
  refine RT.of (by decide +kernel) (Nat.le_of_ble_eq_true rfl) (fun p l e s m args below meth c k X hr => ?_)
  replace X : CX p s m args meth c k prog_6_method_18_code 5 "WallShiftsModel" := X
  unfold dM_reachOf at h
  refine v_sub (lv' := [(0, _), (1, _)]) [0, 1] rfl ?_
  refine v_iconst X (pc := 0) (v := (1 : Int32)) eM_reachOf_0 (by decide) ?_
  refine v_iload_n X (pc := 1) 1 rfl eM_reachOf_1 rfl ?_
  refine v_ishl X (pc := 2) eM_reachOf_2 ?_
  refine v_istore_n X (pc := 3) (lv' := [(2, _), (0, _), (1, _)]) eM_reachOf_3 rfl (Nat.le_of_ble_eq_true rfl) rfl ?_
  refine v_iconst X (pc := 4) (v := (0 : Int32)) eM_reachOf_4 (by decide) ?_
  refine v_istore_n X (pc := 5) (lv' := [(3, _), (2, _), (0, _), (1, _)]) eM_reachOf_5 rfl (Nat.le_of_ble_eq_true rfl) rfl ?_
  exact v_sub [2, 1, 0] rfl (cM_reachOf_6 X hr _ _ _ _  h)
set_option maxHeartbeats 4000000 in
set_option maxRecDepth 100000 in
theorem cM_isAt {f : Nat} {a1 : Int32} {a2 : Int32} {mem : Mem} {o : Int32} {mem' : Mem}  (h : dM_isAt f a1 a2 mem = some (o, mem')) : RT yM_isAt prog_6_method_19_code 3 (Option.some Jvm.ClassFile.FieldType.boolean) (rmM 1 22) [aR 12 0, aI a1, aI a2] mem (some (aI o)) mem' := by
  refine RT.of (by decide +kernel) (Nat.le_of_ble_eq_true rfl) (fun p l e s m args below meth c k X hr => ?_)
  replace X : CX p s m args meth c k prog_6_method_19_code 3 "WallShiftsModel" := X
  unfold dM_isAt at h
  refine v_sub (lv' := [(0, _), (1, _), (2, _)]) [0, 1, 2] rfl ?_
  refine v_iload_n X (pc := 0) 2 rfl eM_isAt_0 rfl ?_
  refine v_aload_n X (pc := 1) 0 rfl eM_isAt_1 rfl ?_
  refine v_iload_n X (pc := 2) 1 rfl eM_isAt_2 rfl ?_
  refine v_iconst X (pc := 3) (v := (1 : Int32)) eM_isAt_3 (by decide) ?_
  obtain ⟨r1, m1, hc1, h⟩ := bd_some h
  refine v_callV X (pc := 4) [_, _] [_] ok_V_M_46 (cM_its  hc1) rfl (Nat.le_of_ble_eq_true rfl) ⟨Nat.le_of_ble_eq_true rfl, Nat.le_of_ble_eq_true rfl⟩ ⟨Nat.zero_le _, Nat.zero_le _⟩ (by decide) (by decide) rfl rfl eM_isAt_4 ?_
  obtain ⟨r2, m2, hc2, h⟩ := bd_some h
  refine v_callS X (pc := 7) [_, _] [] ok_S_M_50 (cM_has  hc2) rfl (Nat.le_of_ble_eq_true rfl) ⟨Nat.le_of_ble_eq_true rfl, Nat.le_of_ble_eq_true rfl⟩ ⟨Nat.zero_le _, Nat.zero_le _⟩ eM_isAt_7 ?_
  refine v_if_ne X (pc := 10) (tgt := 26) h eM_isAt_10 (by decide) (fun h => ?_) (fun h => ?_)
  · refine v_iload_n X (pc := 13) 2 rfl eM_isAt_13 rfl ?_
    refine v_aload_n X (pc := 14) 0 rfl eM_isAt_14 rfl ?_
    refine v_iload_n X (pc := 15) 1 rfl eM_isAt_15 rfl ?_
    refine v_iconst X (pc := 16) (v := (2 : Int32)) eM_isAt_16 (by decide) ?_
    obtain ⟨r3, m3, hc3, h⟩ := bd_some h
    refine v_callV X (pc := 17) [_, _] [_] ok_V_M_46 (cM_its  hc3) rfl (Nat.le_of_ble_eq_true rfl) ⟨Nat.le_of_ble_eq_true rfl, Nat.le_of_ble_eq_true rfl⟩ ⟨Nat.zero_le _, Nat.zero_le _⟩ (by decide) (by decide) rfl rfl eM_isAt_17 ?_
    obtain ⟨r4, m4, hc4, h⟩ := bd_some h
    refine v_callS X (pc := 20) [_, _] [] ok_S_M_50 (cM_has  hc4) rfl (Nat.le_of_ble_eq_true rfl) ⟨Nat.le_of_ble_eq_true rfl, Nat.le_of_ble_eq_true rfl⟩ ⟨Nat.zero_le _, Nat.zero_le _⟩ eM_isAt_20 ?_
    refine v_if_eq X (pc := 23) (tgt := 30) h eM_isAt_23 (by decide) (fun h => ?_) (fun h => ?_)
    · refine v_iconst X (pc := 30) (v := (0 : Int32)) eM_isAt_30 (by decide) ?_
      exact v_zret X (pc := 31) h hr rfl eM_isAt_31
    · refine v_iconst X (pc := 26) (v := (1 : Int32)) eM_isAt_26 (by decide) ?_
      refine v_goto X (pc := 27) (tgt := 31) eM_isAt_27 (by decide) ?_
      exact v_zret X (pc := 31) h hr rfl eM_isAt_31
  · refine v_iconst X (pc := 26) (v := (1 : Int32)) eM_isAt_26 (by decide) ?_
    refine v_goto X (pc := 27) (tgt := 31) eM_isAt_27 (by decide) ?_
    exact v_zret X (pc := 31) h hr rfl eM_isAt_31
set_option maxHeartbeats 4000000 in
set_option maxRecDepth 100000 in
theorem cM_held {f : Nat} {a0 : Int32} {a1 : Int32} {a2 : Int32} {mem : Mem} {o : Int32} {mem' : Mem}  (h : dM_held f a0 a1 a2 mem = some (o, mem')) : RT yM_held prog_6_method_4_code 3 (Option.some Jvm.ClassFile.FieldType.int) (rmM 0 0) [aI a0, aI a1, aI a2] mem (some (aI o)) mem' := by
  refine RT.of (by decide +kernel) (Nat.le_of_ble_eq_true rfl) (fun p l e s m args below meth c k X hr => ?_)
  replace X : CX p s m args meth c k prog_6_method_4_code 3 "WallShiftsModel" := X
  unfold dM_held at h
  refine v_sub (lv' := [(0, _), (1, _), (2, _)]) [0, 1, 2] rfl ?_
  refine v_iload_n X (pc := 0) 0 rfl eM_held_0 rfl ?_
  refine v_iload_n X (pc := 1) 1 rfl eM_held_1 rfl ?_
  refine v_icmp_ge X (pc := 2) (tgt := 9) h eM_held_2 (by decide) (fun h => ?_) (fun h => ?_)
  · refine v_iload_n X (pc := 5) 1 rfl eM_held_5 rfl ?_
    refine v_goto X (pc := 6) (tgt := 19) eM_held_6 (by decide) ?_
    exact v_iret X (pc := 19) h hr eM_held_19
  · refine v_iload_n X (pc := 9) 0 rfl eM_held_9 rfl ?_
    refine v_iload_n X (pc := 10) 2 rfl eM_held_10 rfl ?_
    refine v_icmp_le X (pc := 11) (tgt := 18) h eM_held_11 (by decide) (fun h => ?_) (fun h => ?_)
    · refine v_iload_n X (pc := 14) 2 rfl eM_held_14 rfl ?_
      refine v_goto X (pc := 15) (tgt := 19) eM_held_15 (by decide) ?_
      exact v_iret X (pc := 19) h hr eM_held_19
    · refine v_iload_n X (pc := 18) 0 rfl eM_held_18 rfl ?_
      exact v_iret X (pc := 19) h hr eM_held_19
set_option maxHeartbeats 4000000 in
set_option maxRecDepth 100000 in
theorem cM_saidIn_68 {p : Program} {l : Launch} {e : Env} {s : State} {m : MethodId} {args : Array Value} {below : List Frame} {meth : Method} {c : Code} {k : KK} {f : Nat} {o : Int32} {mem' : Mem} (X : CX p s m args meth c k prog_6_method_28_code 7 "WallShiftsModel") (hr : meth.sig.returnType = (Option.some Jvm.ClassFile.FieldType.int)) {k12 : Int32 → Int32 → Int32 → Int32 → Mem → Option (Int32 × Mem)} (hk12 : ∀ (x2 : Int32) (x3 : Int32) (x4 : Int32) (x5 : Int32) (mem : Mem), k12 x2 x3 x4 x5 mem = some (o, mem') → V p l e (rmM 2 47) s m args below meth c 0 0 (MQ below (RQc k (some (aI o)) mem') args s 0 0 (kA k)) k 7 mem 12 [(0, aR 12 0), (2, aI x2), (3, aI x3), (4, aI x4), (5, aI x5)] []) : ∀ (x2 : Int32) (x3 : Int32) (x4 : Int32) (x5 : Int32) (s0 : Int32) (mem : Mem), dM_saidIn_68 f k12 x2 x3 x4 x5 s0 mem = some (o, mem') → V p l e (rmM 2 47) s m args below meth c 0 0 (MQ below (RQc k (some (aI o)) mem') args s 0 0 (kA k)) k 7 mem 68 [(0, aR 12 0), (2, aI x2), (3, aI x3), (4, aI x4), (5, aI x5)] [aI s0] := by
  intro x2 x3 x4 x5 s0 mem  h
  unfold dM_saidIn_68 at h
  refine v_istore X (pc := 68) (lv' := [(6, _), (0, _), (2, _), (3, _), (4, _), (5, _)]) eM_saidIn_68 (Nat.le_of_ble_eq_true rfl) rfl ?_
  refine v_iload X (pc := 70) 0 rfl eM_saidIn_70 ?_
  refine v_if_lt X (pc := 72) (tgt := 130) h eM_saidIn_72 (by decide) (fun h => ?_) (fun h => ?_)
  · refine v_iinc X (pc := 130) (v := (x5 + (1 : Int32))) (lv' := [(5, _), (6, _), (0, _), (2, _), (3, _), (4, _)]) 5 rfl (by rfl) eM_saidIn_130 (Nat.le_of_ble_eq_true rfl) rfl ?_
    refine v_goto X (pc := 133) (tgt := 12) eM_saidIn_133 (by decide) ?_
    exact v_sub [2, 3, 4, 5, 0] rfl (hk12 _ _ _ _ _  h)
  · refine v_iload X (pc := 75) 4 rfl eM_saidIn_75 ?_
    refine v_iconst X (pc := 77) (v := (1 : Int32)) eM_saidIn_77 (by decide) ?_
    refine v_iload X (pc := 78) 5 rfl eM_saidIn_78 ?_
    refine v_ishl X (pc := 80) eM_saidIn_80 ?_
    refine v_ior X (pc := 81) eM_saidIn_81 ?_
    refine v_istore X (pc := 82) (lv' := [(4, _), (6, _), (0, _), (2, _), (3, _), (5, _)]) eM_saidIn_82 (Nat.le_of_ble_eq_true rfl) rfl ?_
    refine v_aload_n X (pc := 84) 2 rfl eM_saidIn_84 rfl ?_
    refine v_iload X (pc := 85) 5 rfl eM_saidIn_85 ?_
    refine v_iconst X (pc := 87) (v := (4 : Int32)) eM_saidIn_87 (by decide) ?_
    refine v_aload_n X (pc := 88) 2 rfl eM_saidIn_88 rfl ?_
    refine v_iload X (pc := 89) 5 rfl eM_saidIn_89 ?_
    refine v_iconst X (pc := 91) (v := (4 : Int32)) eM_saidIn_91 (by decide) ?_
    obtain ⟨r1, m1, hc1, h⟩ := bd_some h
    refine v_callV X (pc := 92) [_, _] [_, _, _] ok_V_M_46 (cM_its  hc1) rfl (Nat.le_of_ble_eq_true rfl) ⟨Nat.le_of_ble_eq_true rfl, Nat.le_of_ble_eq_true rfl⟩ ⟨Nat.zero_le _, Nat.zero_le _⟩ (by decide) (by decide) rfl rfl eM_saidIn_92 ?_
    refine v_iconst X (pc := 95) (v := (1 : Int32)) eM_saidIn_95 (by decide) ?_
    refine v_iload X (pc := 96) 1 rfl eM_saidIn_96 ?_
    refine v_ishl X (pc := 98) eM_saidIn_98 ?_
    refine v_ior X (pc := 99) eM_saidIn_99 ?_
    obtain ⟨r2, m2, hc2, h⟩ := bd_some h
    refine v_callV X (pc := 100) [_, _, _] [] ok_V_M_61 (cM_puts  hc2) rfl (Nat.le_of_ble_eq_true rfl) ⟨Nat.le_of_ble_eq_true rfl, Nat.le_of_ble_eq_true rfl⟩ ⟨Nat.zero_le _, Nat.zero_le _⟩ (by decide) (by decide) rfl rfl eM_saidIn_100 ?_
    refine v_aload_n X (pc := 103) 2 rfl eM_saidIn_103 rfl ?_
    refine v_iload X (pc := 104) 5 rfl eM_saidIn_104 ?_
    refine v_iconst X (pc := 106) (v := (5 : Int32)) eM_saidIn_106 (by decide) ?_
    refine v_aload_n X (pc := 107) 2 rfl eM_saidIn_107 rfl ?_
    refine v_iload X (pc := 108) 5 rfl eM_saidIn_108 ?_
    refine v_iconst X (pc := 110) (v := (5 : Int32)) eM_saidIn_110 (by decide) ?_
    obtain ⟨r3, m3, hc3, h⟩ := bd_some h
    refine v_callV X (pc := 111) [_, _] [_, _, _] ok_V_M_46 (cM_its  hc3) rfl (Nat.le_of_ble_eq_true rfl) ⟨Nat.le_of_ble_eq_true rfl, Nat.le_of_ble_eq_true rfl⟩ ⟨Nat.zero_le _, Nat.zero_le _⟩ (by decide) (by decide) rfl rfl eM_saidIn_111 ?_
    refine v_aload_n X (pc := 114) 2 rfl eM_saidIn_114 rfl ?_
    refine v_iload X (pc := 115) 5 rfl eM_saidIn_115 ?_
    obtain ⟨r4, m4, hc4, h⟩ := bd_some h
    refine v_callV X (pc := 117) [_] [_, _, _, _] ok_V_M_86 (cM_tires  hc4) rfl (Nat.le_of_ble_eq_true rfl) ⟨Nat.le_of_ble_eq_true rfl, Nat.le_of_ble_eq_true rfl⟩ ⟨Nat.zero_le _, Nat.zero_le _⟩ (by decide) (by decide) rfl rfl eM_saidIn_117 ?_
    refine v_iadd X (pc := 120) eM_saidIn_120 ?_
    refine v_iconst X (pc := 121) (v := (0 : Int32)) eM_saidIn_121 (by decide) ?_
    refine v_bipush X (pc := 122) (v := (99 : Int32)) eM_saidIn_122 (by decide) ?_
    obtain ⟨r5, m5, hc5, h⟩ := bd_some h
    refine v_callS X (pc := 124) [_, _, _] [_, _, _] ok_S_M_104 (cM_held  hc5) rfl (Nat.le_of_ble_eq_true rfl) ⟨Nat.le_of_ble_eq_true rfl, Nat.le_of_ble_eq_true rfl⟩ ⟨Nat.zero_le _, Nat.zero_le _⟩ eM_saidIn_124 ?_
    obtain ⟨r6, m6, hc6, h⟩ := bd_some h
    refine v_callV X (pc := 127) [_, _, _] [] ok_V_M_61 (cM_puts  hc6) rfl (Nat.le_of_ble_eq_true rfl) ⟨Nat.le_of_ble_eq_true rfl, Nat.le_of_ble_eq_true rfl⟩ ⟨Nat.zero_le _, Nat.zero_le _⟩ (by decide) (by decide) rfl rfl eM_saidIn_127 ?_
    refine v_iinc X (pc := 130) (v := (x5 + (1 : Int32))) (lv' := [(5, _), (4, _), (6, _), (0, _), (2, _), (3, _)]) 5 rfl (by rfl) eM_saidIn_130 (Nat.le_of_ble_eq_true rfl) rfl ?_
    refine v_goto X (pc := 133) (tgt := 12) eM_saidIn_133 (by decide) ?_
    exact v_sub [3, 4, 5, 1, 0] rfl (hk12 _ _ _ _ _  h)
set_option maxHeartbeats 4000000 in
set_option maxRecDepth 100000 in
theorem cM_saidIn_12 {p : Program} {l : Launch} {e : Env} {s : State} {m : MethodId} {args : Array Value} {below : List Frame} {meth : Method} {c : Code} {k : KK} {f : Nat} {o : Int32} {mem' : Mem} (X : CX p s m args meth c k prog_6_method_28_code 7 "WallShiftsModel") (hr : meth.sig.returnType = (Option.some Jvm.ClassFile.FieldType.int)) : ∀ (n : Nat) (x2 : Int32) (x3 : Int32) (x4 : Int32) (x5 : Int32) (mem : Mem), dM_saidIn_12 f n x2 x3 x4 x5 mem = some (o, mem') → V p l e (rmM 2 47) s m args below meth c 0 0 (MQ below (RQc k (some (aI o)) mem') args s 0 0 (kA k)) k 7 mem 12 [(0, aR 12 0), (2, aI x2), (3, aI x3), (4, aI x4), (5, aI x5)] [] := by
  intro n
  induction n with
  | zero =>
    intro x2 x3 x4 x5 mem  h
    exact nomatch (show (none : Option (Int32 × Mem)) = some _ from h)
  | succ n ih =>
    intro x2 x3 x4 x5 mem  h
    rw [dM_saidIn_12] at h
    refine v_iload X (pc := 12) 4 rfl eM_saidIn_12 ?_
    refine v_aload_n X (pc := 14) 0 rfl eM_saidIn_14 rfl ?_
    refine v_get X (pc := 15) 0 (a := aR 13 0) (by decide) (by decide) rfl rfl rfl in_Model (by decide) qw_648 rfl eM_saidIn_15 ?_
    refine v_iconst X (pc := 18) (v := (5 : Int32)) eM_saidIn_18 (by decide) ?_
    refine v_ialdK X (pc := 19) (n := 66) 5 (by decide) (by decide) (by decide) (by decide) rfl eM_saidIn_19 ?_
    refine v_icmp_ge X (pc := 20) (tgt := 136) h eM_saidIn_20 (by decide) (fun h => ?_) (fun h => ?_)
    · refine v_aload_n X (pc := 23) 0 rfl eM_saidIn_23 rfl ?_
      refine v_iload X (pc := 24) 4 rfl eM_saidIn_24 ?_
      refine v_iload_n X (pc := 26) 2 rfl eM_saidIn_26 rfl ?_
      obtain ⟨r1, m1, hc1, h⟩ := bd_some h
      refine v_callV X (pc := 27) [_, _] [] ok_V_M_101 (cM_isAt  hc1) rfl (Nat.le_of_ble_eq_true rfl) ⟨Nat.le_of_ble_eq_true rfl, Nat.le_of_ble_eq_true rfl⟩ ⟨Nat.zero_le _, Nat.zero_le _⟩ (by decide) (by decide) rfl rfl eM_saidIn_27 ?_
      refine v_if_eq X (pc := 30) (tgt := 67) h eM_saidIn_30 (by decide) (fun h => ?_) (fun h => ?_)
      · refine v_iconst X (pc := 67) (v := (-1 : Int32)) eM_saidIn_67 (by decide) ?_
        exact v_sub [0, 1, 2, 3, 4] rfl (cM_saidIn_68 X hr ih _ _ _ _ _ _  h)
      · refine v_aload_n X (pc := 33) 0 rfl eM_saidIn_33 rfl ?_
        refine v_iload X (pc := 34) 4 rfl eM_saidIn_34 ?_
        refine v_aload_n X (pc := 36) 0 rfl eM_saidIn_36 rfl ?_
        refine v_get X (pc := 37) 0 (a := aR 13 0) (by decide) (by decide) rfl rfl rfl in_Model (by decide) qw_648 rfl eM_saidIn_37 ?_
        refine v_iconst X (pc := 40) (v := (0 : Int32)) eM_saidIn_40 (by decide) ?_
        refine v_ialdK X (pc := 41) (n := 66) 0 (by decide) (by decide) (by decide) (by decide) rfl eM_saidIn_41 ?_
        obtain ⟨r2, m2, hc2, h⟩ := bd_some h
        refine v_callV X (pc := 42) [_, _] [] ok_V_M_80 (cM_isOnDuty  hc2) rfl (Nat.le_of_ble_eq_true rfl) ⟨Nat.le_of_ble_eq_true rfl, Nat.le_of_ble_eq_true rfl⟩ ⟨Nat.zero_le _, Nat.zero_le _⟩ (by decide) (by decide) rfl rfl eM_saidIn_42 ?_
        refine v_if_eq X (pc := 45) (tgt := 67) h eM_saidIn_45 (by decide) (fun h => ?_) (fun h => ?_)
        · refine v_iconst X (pc := 67) (v := (-1 : Int32)) eM_saidIn_67 (by decide) ?_
          exact v_sub [0, 1, 2, 3, 4] rfl (cM_saidIn_68 X hr ih _ _ _ _ _ _  h)
        · refine v_aload_n X (pc := 48) 0 rfl eM_saidIn_48 rfl ?_
          refine v_iload X (pc := 49) 4 rfl eM_saidIn_49 ?_
          obtain ⟨r3, m3, hc3, h⟩ := bd_some h
          refine v_callV X (pc := 51) [_] [] ok_V_M_83 (cM_isAwake  hc3) rfl (Nat.le_of_ble_eq_true rfl) ⟨Nat.le_of_ble_eq_true rfl, Nat.le_of_ble_eq_true rfl⟩ ⟨Nat.zero_le _, Nat.zero_le _⟩ (by decide) (by decide) rfl rfl eM_saidIn_51 ?_
          refine v_if_eq X (pc := 54) (tgt := 67) h eM_saidIn_54 (by decide) (fun h => ?_) (fun h => ?_)
          · refine v_iconst X (pc := 67) (v := (-1 : Int32)) eM_saidIn_67 (by decide) ?_
            exact v_sub [0, 1, 2, 3, 4] rfl (cM_saidIn_68 X hr ih _ _ _ _ _ _  h)
          · refine v_aload_n X (pc := 57) 0 rfl eM_saidIn_57 rfl ?_
            refine v_iload X (pc := 58) 4 rfl eM_saidIn_58 ?_
            refine v_iload_n X (pc := 60) 1 rfl eM_saidIn_60 rfl ?_
            obtain ⟨r4, m4, hc4, h⟩ := bd_some h
            refine v_callV X (pc := 61) [_, _] [] ok_V_M_94 (cM_heard  hc4) rfl (Nat.le_of_ble_eq_true rfl) ⟨Nat.le_of_ble_eq_true rfl, Nat.le_of_ble_eq_true rfl⟩ ⟨Nat.zero_le _, Nat.zero_le _⟩ (by decide) (by decide) rfl rfl eM_saidIn_61 ?_
            refine v_goto X (pc := 64) (tgt := 68) eM_saidIn_64 (by decide) ?_
            exact v_sub [0, 1, 2, 3, 4] rfl (cM_saidIn_68 X hr ih _ _ _ _ _ _  h)
    · refine v_iload X (pc := 136) 3 rfl eM_saidIn_136 ?_
      exact v_iret X (pc := 138) h hr eM_saidIn_138
set_option maxHeartbeats 4000000 in
set_option maxRecDepth 100000 in
theorem cM_saidIn {f : Nat} {a1 : Int32} {a2 : Int32} {mem : Mem} {o : Int32} {mem' : Mem}  (h : dM_saidIn f a1 a2 mem = some (o, mem')) : RT yM_saidIn prog_6_method_28_code 7 (Option.some Jvm.ClassFile.FieldType.int) (rmM 2 47) [aR 12 0, aI a1, aI a2] mem (some (aI o)) mem' := by
  refine RT.of (by decide +kernel) (Nat.le_of_ble_eq_true rfl) (fun p l e s m args below meth c k X hr => ?_)
  replace X : CX p s m args meth c k prog_6_method_28_code 7 "WallShiftsModel" := X
  unfold dM_saidIn at h
  refine v_sub (lv' := [(0, _), (1, _), (2, _)]) [0, 1, 2] rfl ?_
  refine v_aload_n X (pc := 0) 0 rfl eM_saidIn_0 rfl ?_
  refine v_iload_n X (pc := 1) 1 rfl eM_saidIn_1 rfl ?_
  obtain ⟨r1, m1, hc1, h⟩ := bd_some h
  refine v_callV X (pc := 2) [_] [] ok_V_M_98 (cM_reachOf  hc1) rfl (Nat.le_of_ble_eq_true rfl) ⟨Nat.le_of_ble_eq_true rfl, Nat.le_of_ble_eq_true rfl⟩ ⟨Nat.zero_le _, Nat.zero_le _⟩ (by decide) (by decide) rfl rfl eM_saidIn_2 ?_
  refine v_istore_n X (pc := 5) (lv' := [(3, _), (0, _), (1, _), (2, _)]) eM_saidIn_5 rfl (Nat.le_of_ble_eq_true rfl) rfl ?_
  refine v_iconst X (pc := 6) (v := (0 : Int32)) eM_saidIn_6 (by decide) ?_
  refine v_istore X (pc := 7) (lv' := [(4, _), (3, _), (0, _), (1, _), (2, _)]) eM_saidIn_7 (Nat.le_of_ble_eq_true rfl) rfl ?_
  refine v_iconst X (pc := 9) (v := (0 : Int32)) eM_saidIn_9 (by decide) ?_
  refine v_istore X (pc := 10) (lv' := [(5, _), (4, _), (3, _), (0, _), (1, _), (2, _)]) eM_saidIn_10 (Nat.le_of_ble_eq_true rfl) rfl ?_
  exact v_sub [3, 5, 2, 1, 0] rfl (cM_saidIn_12 X hr _ _ _ _ _ _  h)
set_option maxHeartbeats 4000000 in
set_option maxRecDepth 100000 in
theorem cM_say {f : Nat} {a1 : Int32} {a2 : Int32} {mem : Mem} {o : Int32} {mem' : Mem}  (h : dM_say f a1 a2 mem = some (o, mem')) : RT yM_say prog_6_method_29_code 3 (Option.some Jvm.ClassFile.FieldType.int) (rmM 3 73) [aR 12 0, aI a1, aI a2] mem (some (aI o)) mem' := by
  refine RT.of (by decide +kernel) (Nat.le_of_ble_eq_true rfl) (fun p l e s m args below meth c k X hr => ?_)
  replace X : CX p s m args meth c k prog_6_method_29_code 3 "WallShiftsModel" := X
  unfold dM_say at h
  refine v_sub (lv' := [(0, _), (1, _), (2, _)]) [0, 1, 2] rfl ?_
  refine v_iload_n X (pc := 0) 1 rfl eM_say_0 rfl ?_
  obtain ⟨r1, m1, hc1, h⟩ := bd_some h
  refine v_callS X (pc := 1) [_] [] ok_S_M_69 (cM_isRoom  hc1) rfl (Nat.le_of_ble_eq_true rfl) ⟨Nat.le_of_ble_eq_true rfl, Nat.le_of_ble_eq_true rfl⟩ ⟨Nat.zero_le _, Nat.zero_le _⟩ eM_say_1 ?_
  refine v_if_eq X (pc := 4) (tgt := 23) h eM_say_4 (by decide) (fun h => ?_) (fun h => ?_)
  · refine v_aload_n X (pc := 23) 0 rfl eM_say_23 rfl ?_
    refine v_ldc X (pc := 24) qw_717 eM_say_24 ?_
    obtain ⟨r2, m2, hc2, h⟩ := bd_some h
    refine v_callV X (pc := 26) [_] [] ok_V_M_57 (cM_finds  hc2) rfl (Nat.le_of_ble_eq_true rfl) ⟨Nat.le_of_ble_eq_true rfl, Nat.le_of_ble_eq_true rfl⟩ ⟨Nat.zero_le _, Nat.zero_le _⟩ (by decide) (by decide) rfl rfl eM_say_26 ?_
    exact v_iret X (pc := 29) h hr eM_say_29
  · refine v_iload_n X (pc := 7) 2 rfl eM_say_7 rfl ?_
    obtain ⟨r3, m3, hc3, h⟩ := bd_some h
    refine v_callS X (pc := 8) [_] [] ok_S_M_91 (cM_isWordOf  hc3) rfl (Nat.le_of_ble_eq_true rfl) ⟨Nat.le_of_ble_eq_true rfl, Nat.le_of_ble_eq_true rfl⟩ ⟨Nat.zero_le _, Nat.zero_le _⟩ eM_say_8 ?_
    refine v_if_eq X (pc := 11) (tgt := 23) h eM_say_11 (by decide) (fun h => ?_) (fun h => ?_)
    · refine v_aload_n X (pc := 23) 0 rfl eM_say_23 rfl ?_
      refine v_ldc X (pc := 24) qw_717 eM_say_24 ?_
      obtain ⟨r4, m4, hc4, h⟩ := bd_some h
      refine v_callV X (pc := 26) [_] [] ok_V_M_57 (cM_finds  hc4) rfl (Nat.le_of_ble_eq_true rfl) ⟨Nat.le_of_ble_eq_true rfl, Nat.le_of_ble_eq_true rfl⟩ ⟨Nat.zero_le _, Nat.zero_le _⟩ (by decide) (by decide) rfl rfl eM_say_26 ?_
      exact v_iret X (pc := 29) h hr eM_say_29
    · refine v_aload_n X (pc := 14) 0 rfl eM_say_14 rfl ?_
      refine v_iload_n X (pc := 15) 1 rfl eM_say_15 rfl ?_
      refine v_iload_n X (pc := 16) 2 rfl eM_say_16 rfl ?_
      obtain ⟨r5, m5, hc5, h⟩ := bd_some h
      refine v_callV X (pc := 17) [_, _] [] ok_V_M_108 (cM_saidIn  hc5) rfl (Nat.le_of_ble_eq_true rfl) ⟨Nat.le_of_ble_eq_true rfl, Nat.le_of_ble_eq_true rfl⟩ ⟨Nat.zero_le _, Nat.zero_le _⟩ (by decide) (by decide) rfl rfl eM_say_17 ?_
      refine v_goto X (pc := 20) (tgt := 29) eM_say_20 (by decide) ?_
      exact v_iret X (pc := 29) h hr eM_say_29
set_option maxHeartbeats 4000000 in
set_option maxRecDepth 100000 in
theorem cM_oneMinute_19 {p : Program} {l : Launch} {e : Env} {s : State} {m : MethodId} {args : Array Value} {below : List Frame} {meth : Method} {c : Code} {k : KK} {f : Nat} {o : Unit} {mem' : Mem} (X : CX p s m args meth c k prog_6_method_30_code 3 "WallShiftsModel") (hr : meth.sig.returnType = (Option.none : Option Jvm.ClassFile.FieldType)) : ∀ (n : Nat) (x1 : Int32) (x2 : Int32) (mem : Mem), dM_oneMinute_19 f n x1 x2 mem = some (o, mem') → V p l e (rmM 1 23) s m args below meth c 0 0 (MQ below (RQc k none mem') args s 0 0 (kA k)) k 3 mem 19 [(0, aR 12 0), (1, aI x1), (2, aI x2)] [] := by
  intro n
  induction n with
  | zero =>
    intro x1 x2 mem  h
    exact nomatch (show (none : Option (Unit × Mem)) = some _ from h)
  | succ n ih =>
    intro x1 x2 mem  h
    rw [dM_oneMinute_19] at h
    refine v_iload_n X (pc := 19) 2 rfl eM_oneMinute_19 rfl ?_
    refine v_aload_n X (pc := 20) 0 rfl eM_oneMinute_20 rfl ?_
    refine v_get X (pc := 21) 0 (a := aR 13 0) (by decide) (by decide) rfl rfl rfl in_Model (by decide) qw_648 rfl eM_oneMinute_21 ?_
    refine v_iconst X (pc := 24) (v := (5 : Int32)) eM_oneMinute_24 (by decide) ?_
    refine v_ialdK X (pc := 25) (n := 66) 5 (by decide) (by decide) (by decide) (by decide) rfl eM_oneMinute_25 ?_
    refine v_icmp_ge X (pc := 26) (tgt := 81) h eM_oneMinute_26 (by decide) (fun h => ?_) (fun h => ?_)
    · refine v_iload_n X (pc := 29) 1 rfl eM_oneMinute_29 rfl ?_
      refine v_aload_n X (pc := 30) 0 rfl eM_oneMinute_30 rfl ?_
      refine v_get X (pc := 31) 0 (a := aR 13 0) (by decide) (by decide) rfl rfl rfl in_Model (by decide) qw_648 rfl eM_oneMinute_31 ?_
      refine v_iconst X (pc := 34) (v := (1 : Int32)) eM_oneMinute_34 (by decide) ?_
      refine v_ialdK X (pc := 35) (n := 66) 1 (by decide) (by decide) (by decide) (by decide) rfl eM_oneMinute_35 ?_
      refine v_irem X (pc := 36) h eM_oneMinute_36 (fun h => ?_)
      refine v_if_ne X (pc := 37) (tgt := 81) h eM_oneMinute_37 (by decide) (fun h => ?_) (fun h => ?_)
      · refine v_aload_n X (pc := 40) 0 rfl eM_oneMinute_40 rfl ?_
        refine v_iload_n X (pc := 41) 2 rfl eM_oneMinute_41 rfl ?_
        refine v_iconst X (pc := 42) (v := (5 : Int32)) eM_oneMinute_42 (by decide) ?_
        refine v_aload_n X (pc := 43) 0 rfl eM_oneMinute_43 rfl ?_
        refine v_iload_n X (pc := 44) 2 rfl eM_oneMinute_44 rfl ?_
        refine v_iconst X (pc := 45) (v := (3 : Int32)) eM_oneMinute_45 (by decide) ?_
        obtain ⟨r1, m1, hc1, h⟩ := bd_some h
        refine v_callV X (pc := 46) [_, _] [_, _, _] ok_V_M_46 (cM_its  hc1) rfl (Nat.le_of_ble_eq_true rfl) ⟨Nat.le_of_ble_eq_true rfl, Nat.le_of_ble_eq_true rfl⟩ ⟨Nat.zero_le _, Nat.zero_le _⟩ (by decide) (by decide) rfl rfl eM_oneMinute_46 ?_
        refine v_iload_n X (pc := 49) 1 rfl eM_oneMinute_49 rfl ?_
        refine v_aload_n X (pc := 50) 0 rfl eM_oneMinute_50 rfl ?_
        refine v_get X (pc := 51) 0 (a := aR 13 0) (by decide) (by decide) rfl rfl rfl in_Model (by decide) qw_648 rfl eM_oneMinute_51 ?_
        refine v_iconst X (pc := 54) (v := (1 : Int32)) eM_oneMinute_54 (by decide) ?_
        refine v_ialdK X (pc := 55) (n := 66) 1 (by decide) (by decide) (by decide) (by decide) rfl eM_oneMinute_55 ?_
        refine v_idiv X (pc := 56) h eM_oneMinute_56 (fun h => ?_)
        refine v_iconst X (pc := 57) (v := (4 : Int32)) eM_oneMinute_57 (by decide) ?_
        refine v_irem X (pc := 58) h eM_oneMinute_58 (fun h => ?_)
        refine v_icmp_ne X (pc := 59) (tgt := 66) h eM_oneMinute_59 (by decide) (fun h => ?_) (fun h => ?_)
        · refine v_iconst X (pc := 62) (v := (0 : Int32)) eM_oneMinute_62 (by decide) ?_
          refine v_goto X (pc := 63) (tgt := 72) eM_oneMinute_63 (by decide) ?_
          obtain ⟨r2, m2, hc2, h⟩ := bd_some h
          refine v_callV X (pc := 72) [_, _, _] [] ok_V_M_61 (cM_puts  hc2) rfl (Nat.le_of_ble_eq_true rfl) ⟨Nat.le_of_ble_eq_true rfl, Nat.le_of_ble_eq_true rfl⟩ ⟨Nat.zero_le _, Nat.zero_le _⟩ (by decide) (by decide) rfl rfl eM_oneMinute_72 ?_
          refine v_iinc X (pc := 75) (v := (x2 + (1 : Int32))) (lv' := [(2, _), (0, _), (1, _)]) 2 rfl (by rfl) eM_oneMinute_75 (Nat.le_of_ble_eq_true rfl) rfl ?_
          refine v_goto X (pc := 78) (tgt := 19) eM_oneMinute_78 (by decide) ?_
          exact v_sub [1, 2, 0] rfl (ih _ _ _  h)
        · refine v_aload_n X (pc := 66) 0 rfl eM_oneMinute_66 rfl ?_
          refine v_iload_n X (pc := 67) 2 rfl eM_oneMinute_67 rfl ?_
          refine v_iconst X (pc := 68) (v := (5 : Int32)) eM_oneMinute_68 (by decide) ?_
          obtain ⟨r3, m3, hc3, h⟩ := bd_some h
          refine v_callV X (pc := 69) [_, _] [_, _, _] ok_V_M_46 (cM_its  hc3) rfl (Nat.le_of_ble_eq_true rfl) ⟨Nat.le_of_ble_eq_true rfl, Nat.le_of_ble_eq_true rfl⟩ ⟨Nat.zero_le _, Nat.zero_le _⟩ (by decide) (by decide) rfl rfl eM_oneMinute_69 ?_
          obtain ⟨r4, m4, hc4, h⟩ := bd_some h
          refine v_callV X (pc := 72) [_, _, _] [] ok_V_M_61 (cM_puts  hc4) rfl (Nat.le_of_ble_eq_true rfl) ⟨Nat.le_of_ble_eq_true rfl, Nat.le_of_ble_eq_true rfl⟩ ⟨Nat.zero_le _, Nat.zero_le _⟩ (by decide) (by decide) rfl rfl eM_oneMinute_72 ?_
          refine v_iinc X (pc := 75) (v := (x2 + (1 : Int32))) (lv' := [(2, _), (0, _), (1, _)]) 2 rfl (by rfl) eM_oneMinute_75 (Nat.le_of_ble_eq_true rfl) rfl ?_
          refine v_goto X (pc := 78) (tgt := 19) eM_oneMinute_78 (by decide) ?_
          exact v_sub [1, 2, 0] rfl (ih _ _ _  h)
      · exact v_vret X (pc := 81) h hr eM_oneMinute_81
    · exact v_vret X (pc := 81) h hr eM_oneMinute_81
set_option maxHeartbeats 4000000 in
set_option maxRecDepth 100000 in
theorem cM_oneMinute {f : Nat}  {mem : Mem} {o : Unit} {mem' : Mem}  (h : dM_oneMinute f  mem = some (o, mem')) : RT yM_oneMinute prog_6_method_30_code 3 (Option.none : Option Jvm.ClassFile.FieldType) (rmM 1 23) [aR 12 0] mem none mem' := by
  refine RT.of (by decide +kernel) (Nat.le_of_ble_eq_true rfl) (fun p l e s m args below meth c k X hr => ?_)
  replace X : CX p s m args meth c k prog_6_method_30_code 3 "WallShiftsModel" := X
  unfold dM_oneMinute at h
  refine v_sub (lv' := [(0, _)]) [0] rfl ?_
  refine v_aload_n X (pc := 0) 0 rfl eM_oneMinute_0 rfl ?_
  refine v_get X (pc := 1) 0 (a := aR 13 0) (by decide) (by decide) rfl rfl rfl in_Model (by decide) qw_648 rfl eM_oneMinute_1 ?_
  refine v_iconst X (pc := 4) (v := (0 : Int32)) eM_oneMinute_4 (by decide) ?_
  refine v_dup2 X (pc := 5) rfl rfl eM_oneMinute_5 ?_
  refine v_ialdK X (pc := 6) (n := 66) 0 (by decide) (by decide) (by decide) (by decide) rfl eM_oneMinute_6 ?_
  refine v_iconst X (pc := 7) (v := (1 : Int32)) eM_oneMinute_7 (by decide) ?_
  refine v_iadd X (pc := 8) eM_oneMinute_8 ?_
  refine v_iastK X (pc := 9) (n := 66) 0 (by decide) (by decide) (by decide) (by decide) (fun _ => rfl) eM_oneMinute_9 ?_
  refine v_aload_n X (pc := 10) 0 rfl eM_oneMinute_10 rfl ?_
  refine v_get X (pc := 11) 0 (a := aR 13 0) (by decide) (by decide) rfl rfl rfl in_Model (by decide) qw_648 rfl eM_oneMinute_11 ?_
  refine v_iconst X (pc := 14) (v := (0 : Int32)) eM_oneMinute_14 (by decide) ?_
  refine v_ialdK X (pc := 15) (n := 66) 0 (by decide) (by decide) (by decide) (by decide) rfl eM_oneMinute_15 ?_
  refine v_istore_n X (pc := 16) (lv' := [(1, _), (0, _)]) eM_oneMinute_16 rfl (Nat.le_of_ble_eq_true rfl) rfl ?_
  refine v_iconst X (pc := 17) (v := (0 : Int32)) eM_oneMinute_17 (by decide) ?_
  refine v_istore_n X (pc := 18) (lv' := [(2, _), (1, _), (0, _)]) eM_oneMinute_18 rfl (Nat.le_of_ble_eq_true rfl) rfl ?_
  exact v_sub [2, 1, 0] rfl (cM_oneMinute_19 X hr _ _ _ _  h)
set_option maxHeartbeats 4000000 in
set_option maxRecDepth 100000 in
theorem cM_pass_40 {p : Program} {l : Launch} {e : Env} {s : State} {m : MethodId} {args : Array Value} {below : List Frame} {meth : Method} {c : Code} {k : KK} {f : Nat} {o : Int32} {mem' : Mem} (X : CX p s m args meth c k prog_6_method_31_code 3 "WallShiftsModel") (hr : meth.sig.returnType = (Option.some Jvm.ClassFile.FieldType.int)) : ∀ (n : Nat) (x1 : Int32) (x2 : Int32) (mem : Mem), dM_pass_40 f n x1 x2 mem = some (o, mem') → V p l e (rmM 2 45) s m args below meth c 0 0 (MQ below (RQc k (some (aI o)) mem') args s 0 0 (kA k)) k 3 mem 40 [(0, aR 12 0), (1, aI x1), (2, aI x2)] [] := by
  intro n
  induction n with
  | zero =>
    intro x1 x2 mem  h
    exact nomatch (show (none : Option (Int32 × Mem)) = some _ from h)
  | succ n ih =>
    intro x1 x2 mem  h
    rw [dM_pass_40] at h
    refine v_iload_n X (pc := 40) 2 rfl eM_pass_40 rfl ?_
    refine v_iload_n X (pc := 41) 1 rfl eM_pass_41 rfl ?_
    refine v_icmp_ge X (pc := 42) (tgt := 55) h eM_pass_42 (by decide) (fun h => ?_) (fun h => ?_)
    · refine v_aload_n X (pc := 45) 0 rfl eM_pass_45 rfl ?_
      obtain ⟨r1, m1, hc1, h⟩ := bd_some h
      refine v_callV X (pc := 46) [] [] ok_V_M_113 (cM_oneMinute  hc1) rfl (Nat.le_of_ble_eq_true rfl) ⟨Nat.le_of_ble_eq_true rfl, Nat.le_of_ble_eq_true rfl⟩ ⟨Nat.zero_le _, Nat.zero_le _⟩ (by decide) (by decide) rfl rfl eM_pass_46 ?_
      refine v_iinc X (pc := 49) (v := (x2 + (1 : Int32))) (lv' := [(2, _), (0, _), (1, _)]) 2 rfl (by rfl) eM_pass_49 (Nat.le_of_ble_eq_true rfl) rfl ?_
      refine v_goto X (pc := 52) (tgt := 40) eM_pass_52 (by decide) ?_
      exact v_sub [1, 2, 0] rfl (ih _ _ _  h)
    · refine v_aload_n X (pc := 55) 0 rfl eM_pass_55 rfl ?_
      refine v_get X (pc := 56) 0 (a := aR 13 0) (by decide) (by decide) rfl rfl rfl in_Model (by decide) qw_648 rfl eM_pass_56 ?_
      refine v_iconst X (pc := 59) (v := (0 : Int32)) eM_pass_59 (by decide) ?_
      refine v_ialdK X (pc := 60) (n := 66) 0 (by decide) (by decide) (by decide) (by decide) rfl eM_pass_60 ?_
      exact v_iret X (pc := 61) h hr eM_pass_61
set_option maxHeartbeats 4000000 in
set_option maxRecDepth 100000 in
theorem cM_pass {f : Nat} {a1 : Int32} {mem : Mem} {o : Int32} {mem' : Mem}  (h : dM_pass f a1 mem = some (o, mem')) : RT yM_pass prog_6_method_31_code 3 (Option.some Jvm.ClassFile.FieldType.int) (rmM 2 45) [aR 12 0, aI a1] mem (some (aI o)) mem' := by
  refine RT.of (by decide +kernel) (Nat.le_of_ble_eq_true rfl) (fun p l e s m args below meth c k X hr => ?_)
  replace X : CX p s m args meth c k prog_6_method_31_code 3 "WallShiftsModel" := X
  unfold dM_pass at h
  refine v_sub (lv' := [(0, _), (1, _)]) [0, 1] rfl ?_
  refine v_iload_n X (pc := 0) 1 rfl eM_pass_0 rfl ?_
  refine v_iconst X (pc := 1) (v := (1 : Int32)) eM_pass_1 (by decide) ?_
  refine v_sipush X (pc := 2) (v := (240 : Int32)) eM_pass_2 (by decide) ?_
  obtain ⟨r1, m1, hc1, h⟩ := bd_some h
  refine v_callS X (pc := 5) [_, _, _] [] ok_S_M_42 (cM_in  hc1) rfl (Nat.le_of_ble_eq_true rfl) ⟨Nat.le_of_ble_eq_true rfl, Nat.le_of_ble_eq_true rfl⟩ ⟨Nat.zero_le _, Nat.zero_le _⟩ eM_pass_5 ?_
  refine v_if_ne X (pc := 8) (tgt := 18) h eM_pass_8 (by decide) (fun h => ?_) (fun h => ?_)
  · refine v_aload_n X (pc := 11) 0 rfl eM_pass_11 rfl ?_
    refine v_ldc X (pc := 12) qw_717 eM_pass_12 ?_
    obtain ⟨r2, m2, hc2, h⟩ := bd_some h
    refine v_callV X (pc := 14) [_] [] ok_V_M_57 (cM_finds  hc2) rfl (Nat.le_of_ble_eq_true rfl) ⟨Nat.le_of_ble_eq_true rfl, Nat.le_of_ble_eq_true rfl⟩ ⟨Nat.zero_le _, Nat.zero_le _⟩ (by decide) (by decide) rfl rfl eM_pass_14 ?_
    exact v_iret X (pc := 17) h hr eM_pass_17
  · refine v_aload_n X (pc := 18) 0 rfl eM_pass_18 rfl ?_
    refine v_get X (pc := 19) 0 (a := aR 13 0) (by decide) (by decide) rfl rfl rfl in_Model (by decide) qw_648 rfl eM_pass_19 ?_
    refine v_iconst X (pc := 22) (v := (0 : Int32)) eM_pass_22 (by decide) ?_
    refine v_ialdK X (pc := 23) (n := 66) 0 (by decide) (by decide) (by decide) (by decide) rfl eM_pass_23 ?_
    refine v_iload_n X (pc := 24) 1 rfl eM_pass_24 rfl ?_
    refine v_iadd X (pc := 25) eM_pass_25 ?_
    refine v_ldc X (pc := 26) qw_817 eM_pass_26 ?_
    refine v_icmp_le X (pc := 28) (tgt := 38) h eM_pass_28 (by decide) (fun h => ?_) (fun h => ?_)
    · refine v_aload_n X (pc := 31) 0 rfl eM_pass_31 rfl ?_
      refine v_ldc X (pc := 32) qw_818 eM_pass_32 ?_
      obtain ⟨r3, m3, hc3, h⟩ := bd_some h
      refine v_callV X (pc := 34) [_] [] ok_V_M_57 (cM_finds  hc3) rfl (Nat.le_of_ble_eq_true rfl) ⟨Nat.le_of_ble_eq_true rfl, Nat.le_of_ble_eq_true rfl⟩ ⟨Nat.zero_le _, Nat.zero_le _⟩ (by decide) (by decide) rfl rfl eM_pass_34 ?_
      exact v_iret X (pc := 37) h hr eM_pass_37
    · refine v_iconst X (pc := 38) (v := (0 : Int32)) eM_pass_38 (by decide) ?_
      refine v_istore_n X (pc := 39) (lv' := [(2, _), (0, _), (1, _)]) eM_pass_39 rfl (Nat.le_of_ble_eq_true rfl) rfl ?_
      exact v_sub [1, 2, 0] rfl (cM_pass_40 X hr _ _ _ _  h)
set_option maxHeartbeats 4000000 in
set_option maxRecDepth 100000 in
theorem cM_bits_4 {p : Program} {l : Launch} {e : Env} {s : State} {m : MethodId} {args : Array Value} {below : List Frame} {meth : Method} {c : Code} {k : KK} {f : Nat} {o : Int32} {mem' : Mem} (X : CX p s m args meth c k prog_6_method_13_code 3 "WallShiftsModel") (hr : meth.sig.returnType = (Option.some Jvm.ClassFile.FieldType.int)) : ∀ (n : Nat) (x1 : Int32) (x2 : Int32) (mem : Mem), dM_bits_4 f n x1 x2 mem = some (o, mem') → V p l e (rmM 0 0) s m args below meth c 0 0 (MQ below (RQc k (some (aI o)) mem') args s 0 0 (kA k)) k 3 mem 4 [(1, aI x1), (2, aI x2)] [] := by
  intro n
  induction n with
  | zero =>
    intro x1 x2 mem  h
    exact nomatch (show (none : Option (Int32 × Mem)) = some _ from h)
  | succ n ih =>
    intro x1 x2 mem  h
    rw [dM_bits_4] at h
    refine v_iload_n X (pc := 4) 1 rfl eM_bits_4 rfl ?_
    refine v_if_eq X (pc := 5) (tgt := 20) h eM_bits_5 (by decide) (fun h => ?_) (fun h => ?_)
    · refine v_iload_n X (pc := 20) 0 rfl eM_bits_20 rfl ?_
      exact v_iret X (pc := 21) h hr eM_bits_21
    · refine v_iinc X (pc := 8) (v := (x1 + (1 : Int32))) (lv' := [(1, _), (2, _)]) 0 rfl (by rfl) eM_bits_8 (Nat.le_of_ble_eq_true rfl) rfl ?_
      refine v_iload_n X (pc := 11) 1 rfl eM_bits_11 rfl ?_
      refine v_iload_n X (pc := 12) 1 rfl eM_bits_12 rfl ?_
      refine v_iconst X (pc := 13) (v := (1 : Int32)) eM_bits_13 (by decide) ?_
      refine v_isub X (pc := 14) eM_bits_14 ?_
      refine v_iand X (pc := 15) eM_bits_15 ?_
      refine v_istore_n X (pc := 16) (lv' := [(2, _), (1, _)]) eM_bits_16 rfl (Nat.le_of_ble_eq_true rfl) rfl ?_
      refine v_goto X (pc := 17) (tgt := 4) eM_bits_17 (by decide) ?_
      exact v_sub [1, 0] rfl (ih _ _ _  h)
set_option maxHeartbeats 4000000 in
set_option maxRecDepth 100000 in
theorem cM_bits {f : Nat} {a0 : Int32} {mem : Mem} {o : Int32} {mem' : Mem}  (h : dM_bits f a0 mem = some (o, mem')) : RT yM_bits prog_6_method_13_code 3 (Option.some Jvm.ClassFile.FieldType.int) (rmM 0 0) [aI a0] mem (some (aI o)) mem' := by
  refine RT.of (by decide +kernel) (Nat.le_of_ble_eq_true rfl) (fun p l e s m args below meth c k X hr => ?_)
  replace X : CX p s m args meth c k prog_6_method_13_code 3 "WallShiftsModel" := X
  unfold dM_bits at h
  refine v_sub (lv' := [(0, _)]) [0] rfl ?_
  refine v_iconst X (pc := 0) (v := (0 : Int32)) eM_bits_0 (by decide) ?_
  refine v_istore_n X (pc := 1) (lv' := [(1, _), (0, _)]) eM_bits_1 rfl (Nat.le_of_ble_eq_true rfl) rfl ?_
  refine v_iload_n X (pc := 2) 1 rfl eM_bits_2 rfl ?_
  refine v_istore_n X (pc := 3) (lv' := [(2, _), (1, _), (0, _)]) eM_bits_3 rfl (Nat.le_of_ble_eq_true rfl) rfl ?_
  exact v_sub [1, 0] rfl (cM_bits_4 X hr _ _ _ _  h)
set_option maxHeartbeats 4000000 in
set_option maxRecDepth 100000 in
theorem cM_speaks_10 {p : Program} {l : Launch} {e : Env} {s : State} {m : MethodId} {args : Array Value} {below : List Frame} {meth : Method} {c : Code} {k : KK} {f : Nat} {o : Int32} {mem' : Mem} (X : CX p s m args meth c k prog_6_method_32_code 6 "WallShiftsModel") (hr : meth.sig.returnType = (Option.some Jvm.ClassFile.FieldType.int)) : ∀ (n : Nat) (x1 : Int32) (x2 : Int32) (x3 : Int32) (x4 : Int32) (mem : Mem), dM_speaks_10 f n x1 x2 x3 x4 mem = some (o, mem') → V p l e (rmM 3 73) s m args below meth c 0 0 (MQ below (RQc k (some (aI o)) mem') args s 0 0 (kA k)) k 6 mem 10 [(0, aR 12 0), (1, aI x1), (2, aI x2), (3, aI x3), (4, aI x4)] [] := by
  intro n
  induction n with
  | zero =>
    intro x1 x2 x3 x4 mem  h
    exact nomatch (show (none : Option (Int32 × Mem)) = some _ from h)
  | succ n ih =>
    intro x1 x2 x3 x4 mem  h
    rw [dM_speaks_10] at h
    refine v_iload X (pc := 10) 4 rfl eM_speaks_10 ?_
    refine v_bipush X (pc := 12) (v := (16 : Int32)) eM_speaks_12 (by decide) ?_
    refine v_icmp_ge X (pc := 14) (tgt := 75) h eM_speaks_14 (by decide) (fun h => ?_) (fun h => ?_)
    · refine v_iload_n X (pc := 17) 2 rfl eM_speaks_17 rfl ?_
      refine v_iload X (pc := 18) 4 rfl eM_speaks_18 ?_
      obtain ⟨r1, m1, hc1, h⟩ := bd_some h
      refine v_callS X (pc := 20) [_, _] [] ok_S_M_50 (cM_has  hc1) rfl (Nat.le_of_ble_eq_true rfl) ⟨Nat.le_of_ble_eq_true rfl, Nat.le_of_ble_eq_true rfl⟩ ⟨Nat.zero_le _, Nat.zero_le _⟩ eM_speaks_20 ?_
      refine v_if_eq X (pc := 23) (tgt := 69) h eM_speaks_23 (by decide) (fun h => ?_) (fun h => ?_)
      · refine v_iinc X (pc := 69) (v := (x4 + (1 : Int32))) (lv' := [(4, _), (0, _), (1, _), (2, _), (3, _)]) 4 rfl (by rfl) eM_speaks_69 (Nat.le_of_ble_eq_true rfl) rfl ?_
        refine v_goto X (pc := 72) (tgt := 10) eM_speaks_72 (by decide) ?_
        exact v_sub [1, 2, 3, 4, 0] rfl (ih _ _ _ _ _  h)
      · refine v_aload_n X (pc := 26) 0 rfl eM_speaks_26 rfl ?_
        refine v_iload_n X (pc := 27) 1 rfl eM_speaks_27 rfl ?_
        refine v_iload X (pc := 28) 4 rfl eM_speaks_28 ?_
        obtain ⟨r2, m2, hc2, h⟩ := bd_some h
        refine v_callV X (pc := 30) [_, _] [] ok_V_M_108 (cM_saidIn  hc2) rfl (Nat.le_of_ble_eq_true rfl) ⟨Nat.le_of_ble_eq_true rfl, Nat.le_of_ble_eq_true rfl⟩ ⟨Nat.zero_le _, Nat.zero_le _⟩ (by decide) (by decide) rfl rfl eM_speaks_30 ?_
        refine v_istore X (pc := 33) (lv' := [(5, _), (0, _), (1, _), (2, _), (3, _), (4, _)]) eM_speaks_33 (Nat.le_of_ble_eq_true rfl) rfl ?_
        refine v_iload_n X (pc := 35) 4 rfl eM_speaks_35 rfl ?_
        refine v_iload X (pc := 36) 0 rfl eM_speaks_36 ?_
        obtain ⟨r3, m3, hc3, h⟩ := bd_some h
        refine v_callS X (pc := 38) [_] [_] ok_S_M_120 (cM_bits  hc3) rfl (Nat.le_of_ble_eq_true rfl) ⟨Nat.le_of_ble_eq_true rfl, Nat.le_of_ble_eq_true rfl⟩ ⟨Nat.zero_le _, Nat.zero_le _⟩ eM_speaks_38 ?_
        refine v_iadd X (pc := 41) eM_speaks_41 ?_
        refine v_istore_n X (pc := 42) (lv' := [(3, _), (5, _), (0, _), (1, _), (2, _), (4, _)]) eM_speaks_42 rfl (Nat.le_of_ble_eq_true rfl) rfl ?_
        refine v_aload_n X (pc := 43) 2 rfl eM_speaks_43 rfl ?_
        refine v_dup X (pc := 44) rfl eM_speaks_44 ?_
        refine v_get X (pc := 45) 2 (a := aI (gI m3 12 0 2)) (by decide) (by decide) rfl rfl rfl in_Model (by decide) qw_650 rfl eM_speaks_45 ?_
        refine v_iload X (pc := 48) 1 rfl eM_speaks_48 ?_
        refine v_if_ne X (pc := 50) (tgt := 60) h eM_speaks_50 (by decide) (fun h => ?_) (fun h => ?_)
        · refine v_iconst X (pc := 53) (v := (1 : Int32)) eM_speaks_53 (by decide) ?_
          refine v_iload X (pc := 54) 5 rfl eM_speaks_54 ?_
          refine v_ishl X (pc := 56) eM_speaks_56 ?_
          refine v_goto X (pc := 57) (tgt := 61) eM_speaks_57 (by decide) ?_
          refine v_ior X (pc := 61) eM_speaks_61 ?_
          refine v_put X (pc := 62) 2 (mem' := (sI m3 12 0 2 ((gI m3 12 0 2) ||| ((1 : Int32) <<< (x4 &&& 31))))) (by decide) (by decide) rfl (pf_12_2 _ _ _ _ _) rowI_ne rfl in_Model ty_Model_ok nm_Model (by decide) qw_650 rfl rfl rfl (Nat.le_of_ble_eq_true rfl) eM_speaks_62 ?_
          refine v_aload_n X (pc := 65) 2 rfl eM_speaks_65 rfl ?_
          obtain ⟨r4, m4, hc4, h⟩ := bd_some h
          refine v_callV X (pc := 66) [] [] ok_V_M_113 (cM_oneMinute  hc4) rfl (Nat.le_of_ble_eq_true rfl) ⟨Nat.le_of_ble_eq_true rfl, Nat.le_of_ble_eq_true rfl⟩ ⟨Nat.zero_le _, Nat.zero_le _⟩ (by decide) (by decide) rfl rfl eM_speaks_66 ?_
          refine v_iinc X (pc := 69) (v := (x4 + (1 : Int32))) (lv' := [(4, _), (3, _), (5, _), (0, _), (1, _), (2, _)]) 5 rfl (by rfl) eM_speaks_69 (Nat.le_of_ble_eq_true rfl) rfl ?_
          refine v_goto X (pc := 72) (tgt := 10) eM_speaks_72 (by decide) ?_
          exact v_sub [3, 4, 5, 1, 0] rfl (ih _ _ _ _ _  h)
        · refine v_iconst X (pc := 60) (v := (0 : Int32)) eM_speaks_60 (by decide) ?_
          refine v_ior X (pc := 61) eM_speaks_61 ?_
          refine v_put X (pc := 62) 2 (mem' := (sI m3 12 0 2 ((gI m3 12 0 2) ||| (0 : Int32)))) (by decide) (by decide) rfl (pf_12_2 _ _ _ _ _) rowI_ne rfl in_Model ty_Model_ok nm_Model (by decide) qw_650 rfl rfl rfl (Nat.le_of_ble_eq_true rfl) eM_speaks_62 ?_
          refine v_aload_n X (pc := 65) 2 rfl eM_speaks_65 rfl ?_
          obtain ⟨r5, m5, hc5, h⟩ := bd_some h
          refine v_callV X (pc := 66) [] [] ok_V_M_113 (cM_oneMinute  hc5) rfl (Nat.le_of_ble_eq_true rfl) ⟨Nat.le_of_ble_eq_true rfl, Nat.le_of_ble_eq_true rfl⟩ ⟨Nat.zero_le _, Nat.zero_le _⟩ (by decide) (by decide) rfl rfl eM_speaks_66 ?_
          refine v_iinc X (pc := 69) (v := (x4 + (1 : Int32))) (lv' := [(4, _), (3, _), (5, _), (0, _), (1, _), (2, _)]) 5 rfl (by rfl) eM_speaks_69 (Nat.le_of_ble_eq_true rfl) rfl ?_
          refine v_goto X (pc := 72) (tgt := 10) eM_speaks_72 (by decide) ?_
          exact v_sub [3, 4, 5, 1, 0] rfl (ih _ _ _ _ _  h)
    · refine v_iload_n X (pc := 75) 3 rfl eM_speaks_75 rfl ?_
      exact v_iret X (pc := 76) h hr eM_speaks_76
set_option maxHeartbeats 4000000 in
set_option maxRecDepth 100000 in
theorem cM_speaks {f : Nat} {a1 : Int32} {a2 : Int32} {mem : Mem} {o : Int32} {mem' : Mem}  (h : dM_speaks f a1 a2 mem = some (o, mem')) : RT yM_speaks prog_6_method_32_code 6 (Option.some Jvm.ClassFile.FieldType.int) (rmM 3 73) [aR 12 0, aI a1, aI a2] mem (some (aI o)) mem' := by
  refine RT.of (by decide +kernel) (Nat.le_of_ble_eq_true rfl) (fun p l e s m args below meth c k X hr => ?_)
  replace X : CX p s m args meth c k prog_6_method_32_code 6 "WallShiftsModel" := X
  unfold dM_speaks at h
  refine v_sub (lv' := [(0, _), (1, _), (2, _)]) [0, 1, 2] rfl ?_
  refine v_iconst X (pc := 0) (v := (0 : Int32)) eM_speaks_0 (by decide) ?_
  refine v_istore_n X (pc := 1) (lv' := [(3, _), (0, _), (1, _), (2, _)]) eM_speaks_1 rfl (Nat.le_of_ble_eq_true rfl) rfl ?_
  refine v_aload_n X (pc := 2) 1 rfl eM_speaks_2 rfl ?_
  refine v_iconst X (pc := 3) (v := (0 : Int32)) eM_speaks_3 (by decide) ?_
  refine v_put X (pc := 4) 2 (mem' := (sI mem 12 0 2 (0 : Int32))) (by decide) (by decide) rfl (pf_12_2 _ _ _ _ _) rowI_ne rfl in_Model ty_Model_ok nm_Model (by decide) qw_650 rfl rfl rfl (Nat.le_of_ble_eq_true rfl) eM_speaks_4 ?_
  refine v_iconst X (pc := 7) (v := (0 : Int32)) eM_speaks_7 (by decide) ?_
  refine v_istore X (pc := 8) (lv' := [(4, _), (3, _), (0, _), (1, _), (2, _)]) eM_speaks_8 (Nat.le_of_ble_eq_true rfl) rfl ?_
  exact v_sub [2, 3, 4, 1, 0] rfl (cM_speaks_10 X hr _ _ _ _ _ _  h)
set_option maxHeartbeats 4000000 in
set_option maxRecDepth 100000 in
theorem cM_speak {f : Nat} {a1 : Int32} {a2 : Int32} {mem : Mem} {o : Int32} {mem' : Mem}  (h : dM_speak f a1 a2 mem = some (o, mem')) : RT yM_speak prog_6_method_33_code 3 (Option.some Jvm.ClassFile.FieldType.int) (rmM 4 98) [aR 12 0, aI a1, aI a2] mem (some (aI o)) mem' := by
  refine RT.of (by decide +kernel) (Nat.le_of_ble_eq_true rfl) (fun p l e s m args below meth c k X hr => ?_)
  replace X : CX p s m args meth c k prog_6_method_33_code 3 "WallShiftsModel" := X
  unfold dM_speak at h
  refine v_sub (lv' := [(0, _), (1, _), (2, _)]) [0, 1, 2] rfl ?_
  refine v_iload_n X (pc := 0) 1 rfl eM_speak_0 rfl ?_
  obtain ⟨r1, m1, hc1, h⟩ := bd_some h
  refine v_callS X (pc := 1) [_] [] ok_S_M_69 (cM_isRoom  hc1) rfl (Nat.le_of_ble_eq_true rfl) ⟨Nat.le_of_ble_eq_true rfl, Nat.le_of_ble_eq_true rfl⟩ ⟨Nat.zero_le _, Nat.zero_le _⟩ eM_speak_1 ?_
  refine v_if_eq X (pc := 4) (tgt := 17) h eM_speak_4 (by decide) (fun h => ?_) (fun h => ?_)
  · refine v_aload_n X (pc := 17) 0 rfl eM_speak_17 rfl ?_
    refine v_ldc X (pc := 18) qw_717 eM_speak_18 ?_
    obtain ⟨r2, m2, hc2, h⟩ := bd_some h
    refine v_callV X (pc := 20) [_] [] ok_V_M_57 (cM_finds  hc2) rfl (Nat.le_of_ble_eq_true rfl) ⟨Nat.le_of_ble_eq_true rfl, Nat.le_of_ble_eq_true rfl⟩ ⟨Nat.zero_le _, Nat.zero_le _⟩ (by decide) (by decide) rfl rfl eM_speak_20 ?_
    exact v_iret X (pc := 23) h hr eM_speak_23
  · refine v_iload_n X (pc := 7) 2 rfl eM_speak_7 rfl ?_
    refine v_iconst X (pc := 8) (v := (0 : Int32)) eM_speak_8 (by decide) ?_
    refine v_ldc X (pc := 9) qw_769 eM_speak_9 ?_
    obtain ⟨r3, m3, hc3, h⟩ := bd_some h
    refine v_callS X (pc := 11) [_, _, _] [] ok_S_M_42 (cM_in  hc3) rfl (Nat.le_of_ble_eq_true rfl) ⟨Nat.le_of_ble_eq_true rfl, Nat.le_of_ble_eq_true rfl⟩ ⟨Nat.zero_le _, Nat.zero_le _⟩ eM_speak_11 ?_
    refine v_if_ne X (pc := 14) (tgt := 24) h eM_speak_14 (by decide) (fun h => ?_) (fun h => ?_)
    · refine v_aload_n X (pc := 17) 0 rfl eM_speak_17 rfl ?_
      refine v_ldc X (pc := 18) qw_717 eM_speak_18 ?_
      obtain ⟨r4, m4, hc4, h⟩ := bd_some h
      refine v_callV X (pc := 20) [_] [] ok_V_M_57 (cM_finds  hc4) rfl (Nat.le_of_ble_eq_true rfl) ⟨Nat.le_of_ble_eq_true rfl, Nat.le_of_ble_eq_true rfl⟩ ⟨Nat.zero_le _, Nat.zero_le _⟩ (by decide) (by decide) rfl rfl eM_speak_20 ?_
      exact v_iret X (pc := 23) h hr eM_speak_23
    · refine v_aload_n X (pc := 24) 0 rfl eM_speak_24 rfl ?_
      refine v_get X (pc := 25) 0 (a := aR 13 0) (by decide) (by decide) rfl rfl rfl in_Model (by decide) qw_648 rfl eM_speak_25 ?_
      refine v_iconst X (pc := 28) (v := (0 : Int32)) eM_speak_28 (by decide) ?_
      refine v_ialdK X (pc := 29) (n := 66) 0 (by decide) (by decide) (by decide) (by decide) rfl eM_speak_29 ?_
      refine v_iload_n X (pc := 30) 2 rfl eM_speak_30 rfl ?_
      obtain ⟨r5, m5, hc5, h⟩ := bd_some h
      refine v_callS X (pc := 31) [_] [_] ok_S_M_120 (cM_bits  hc5) rfl (Nat.le_of_ble_eq_true rfl) ⟨Nat.le_of_ble_eq_true rfl, Nat.le_of_ble_eq_true rfl⟩ ⟨Nat.zero_le _, Nat.zero_le _⟩ eM_speak_31 ?_
      refine v_iadd X (pc := 34) eM_speak_34 ?_
      refine v_ldc X (pc := 35) qw_817 eM_speak_35 ?_
      refine v_icmp_le X (pc := 37) (tgt := 49) h eM_speak_37 (by decide) (fun h => ?_) (fun h => ?_)
      · refine v_aload_n X (pc := 40) 0 rfl eM_speak_40 rfl ?_
        refine v_ldc X (pc := 41) qw_818 eM_speak_41 ?_
        obtain ⟨r6, m6, hc6, h⟩ := bd_some h
        refine v_callV X (pc := 43) [_] [] ok_V_M_57 (cM_finds  hc6) rfl (Nat.le_of_ble_eq_true rfl) ⟨Nat.le_of_ble_eq_true rfl, Nat.le_of_ble_eq_true rfl⟩ ⟨Nat.zero_le _, Nat.zero_le _⟩ (by decide) (by decide) rfl rfl eM_speak_43 ?_
        refine v_goto X (pc := 46) (tgt := 55) eM_speak_46 (by decide) ?_
        exact v_iret X (pc := 55) h hr eM_speak_55
      · refine v_aload_n X (pc := 49) 0 rfl eM_speak_49 rfl ?_
        refine v_iload_n X (pc := 50) 1 rfl eM_speak_50 rfl ?_
        refine v_iload_n X (pc := 51) 2 rfl eM_speak_51 rfl ?_
        obtain ⟨r7, m7, hc7, h⟩ := bd_some h
        refine v_callV X (pc := 52) [_, _] [] ok_V_M_123 (cM_speaks  hc7) rfl (Nat.le_of_ble_eq_true rfl) ⟨Nat.le_of_ble_eq_true rfl, Nat.le_of_ble_eq_true rfl⟩ ⟨Nat.zero_le _, Nat.zero_le _⟩ (by decide) (by decide) rfl rfl eM_speak_52 ?_
        exact v_iret X (pc := 55) h hr eM_speak_55
set_option maxHeartbeats 4000000 in
set_option maxRecDepth 100000 in
theorem cM_reach {f : Nat} {a1 : Int32} {mem : Mem} {o : Int32} {mem' : Mem}  (h : dM_reach f a1 mem = some (o, mem')) : RT yM_reach prog_6_method_34_code 2 (Option.some Jvm.ClassFile.FieldType.int) (rmM 2 46) [aR 12 0, aI a1] mem (some (aI o)) mem' := by
  refine RT.of (by decide +kernel) (Nat.le_of_ble_eq_true rfl) (fun p l e s m args below meth c k X hr => ?_)
  replace X : CX p s m args meth c k prog_6_method_34_code 2 "WallShiftsModel" := X
  unfold dM_reach at h
  refine v_sub (lv' := [(0, _), (1, _)]) [0, 1] rfl ?_
  refine v_iload_n X (pc := 0) 1 rfl eM_reach_0 rfl ?_
  obtain ⟨r1, m1, hc1, h⟩ := bd_some h
  refine v_callS X (pc := 1) [_] [] ok_S_M_69 (cM_isRoom  hc1) rfl (Nat.le_of_ble_eq_true rfl) ⟨Nat.le_of_ble_eq_true rfl, Nat.le_of_ble_eq_true rfl⟩ ⟨Nat.zero_le _, Nat.zero_le _⟩ eM_reach_1 ?_
  refine v_if_eq X (pc := 4) (tgt := 15) h eM_reach_4 (by decide) (fun h => ?_) (fun h => ?_)
  · refine v_aload_n X (pc := 15) 0 rfl eM_reach_15 rfl ?_
    refine v_ldc X (pc := 16) qw_717 eM_reach_16 ?_
    obtain ⟨r2, m2, hc2, h⟩ := bd_some h
    refine v_callV X (pc := 18) [_] [] ok_V_M_57 (cM_finds  hc2) rfl (Nat.le_of_ble_eq_true rfl) ⟨Nat.le_of_ble_eq_true rfl, Nat.le_of_ble_eq_true rfl⟩ ⟨Nat.zero_le _, Nat.zero_le _⟩ (by decide) (by decide) rfl rfl eM_reach_18 ?_
    exact v_iret X (pc := 21) h hr eM_reach_21
  · refine v_aload_n X (pc := 7) 0 rfl eM_reach_7 rfl ?_
    refine v_iload_n X (pc := 8) 1 rfl eM_reach_8 rfl ?_
    obtain ⟨r3, m3, hc3, h⟩ := bd_some h
    refine v_callV X (pc := 9) [_] [] ok_V_M_98 (cM_reachOf  hc3) rfl (Nat.le_of_ble_eq_true rfl) ⟨Nat.le_of_ble_eq_true rfl, Nat.le_of_ble_eq_true rfl⟩ ⟨Nat.zero_le _, Nat.zero_le _⟩ (by decide) (by decide) rfl rfl eM_reach_9 ?_
    refine v_goto X (pc := 12) (tgt := 21) eM_reach_12 (by decide) ?_
    exact v_iret X (pc := 21) h hr eM_reach_21
set_option maxHeartbeats 4000000 in
set_option maxRecDepth 100000 in
theorem cM_duty_21 {p : Program} {l : Launch} {e : Env} {s : State} {m : MethodId} {args : Array Value} {below : List Frame} {meth : Method} {c : Code} {k : KK} {f : Nat} {o : Int32} {mem' : Mem} (X : CX p s m args meth c k prog_6_method_35_code 4 "WallShiftsModel") (hr : meth.sig.returnType = (Option.some Jvm.ClassFile.FieldType.int)) : ∀ (n : Nat) (x1 : Int32) (x2 : Int32) (x3 : Int32) (mem : Mem), dM_duty_21 f n x1 x2 x3 mem = some (o, mem') → V p l e (rmM 2 47) s m args below meth c 0 0 (MQ below (RQc k (some (aI o)) mem') args s 0 0 (kA k)) k 4 mem 21 [(0, aR 12 0), (1, aI x1), (2, aI x2), (3, aI x3)] [] := by
  intro n
  induction n with
  | zero =>
    intro x1 x2 x3 mem  h
    exact nomatch (show (none : Option (Int32 × Mem)) = some _ from h)
  | succ n ih =>
    intro x1 x2 x3 mem  h
    rw [dM_duty_21] at h
    refine v_iload_n X (pc := 21) 3 rfl eM_duty_21 rfl ?_
    refine v_aload_n X (pc := 22) 0 rfl eM_duty_22 rfl ?_
    refine v_get X (pc := 23) 0 (a := aR 13 0) (by decide) (by decide) rfl rfl rfl in_Model (by decide) qw_648 rfl eM_duty_23 ?_
    refine v_iconst X (pc := 26) (v := (5 : Int32)) eM_duty_26 (by decide) ?_
    refine v_ialdK X (pc := 27) (n := 66) 5 (by decide) (by decide) (by decide) (by decide) rfl eM_duty_27 ?_
    refine v_icmp_ge X (pc := 28) (tgt := 56) h eM_duty_28 (by decide) (fun h => ?_) (fun h => ?_)
    · refine v_iload_n X (pc := 31) 2 rfl eM_duty_31 rfl ?_
      refine v_aload_n X (pc := 32) 0 rfl eM_duty_32 rfl ?_
      refine v_iload_n X (pc := 33) 3 rfl eM_duty_33 rfl ?_
      refine v_iload_n X (pc := 34) 1 rfl eM_duty_34 rfl ?_
      obtain ⟨r1, m1, hc1, h⟩ := bd_some h
      refine v_callV X (pc := 35) [_, _] [_] ok_V_M_80 (cM_isOnDuty  hc1) rfl (Nat.le_of_ble_eq_true rfl) ⟨Nat.le_of_ble_eq_true rfl, Nat.le_of_ble_eq_true rfl⟩ ⟨Nat.zero_le _, Nat.zero_le _⟩ (by decide) (by decide) rfl rfl eM_duty_35 ?_
      refine v_if_eq X (pc := 38) (tgt := 47) h eM_duty_38 (by decide) (fun h => ?_) (fun h => ?_)
      · refine v_iconst X (pc := 47) (v := (0 : Int32)) eM_duty_47 (by decide) ?_
        refine v_ior X (pc := 48) eM_duty_48 ?_
        refine v_istore_n X (pc := 49) (lv' := [(2, _), (0, _), (1, _), (3, _)]) eM_duty_49 rfl (Nat.le_of_ble_eq_true rfl) rfl ?_
        refine v_iinc X (pc := 50) (v := (x3 + (1 : Int32))) (lv' := [(3, _), (2, _), (0, _), (1, _)]) 3 rfl (by rfl) eM_duty_50 (Nat.le_of_ble_eq_true rfl) rfl ?_
        refine v_goto X (pc := 53) (tgt := 21) eM_duty_53 (by decide) ?_
        exact v_sub [2, 3, 1, 0] rfl (ih _ _ _ _  h)
      · refine v_iconst X (pc := 41) (v := (1 : Int32)) eM_duty_41 (by decide) ?_
        refine v_iload_n X (pc := 42) 3 rfl eM_duty_42 rfl ?_
        refine v_ishl X (pc := 43) eM_duty_43 ?_
        refine v_goto X (pc := 44) (tgt := 48) eM_duty_44 (by decide) ?_
        refine v_ior X (pc := 48) eM_duty_48 ?_
        refine v_istore_n X (pc := 49) (lv' := [(2, _), (0, _), (1, _), (3, _)]) eM_duty_49 rfl (Nat.le_of_ble_eq_true rfl) rfl ?_
        refine v_iinc X (pc := 50) (v := (x3 + (1 : Int32))) (lv' := [(3, _), (2, _), (0, _), (1, _)]) 3 rfl (by rfl) eM_duty_50 (Nat.le_of_ble_eq_true rfl) rfl ?_
        refine v_goto X (pc := 53) (tgt := 21) eM_duty_53 (by decide) ?_
        exact v_sub [2, 3, 1, 0] rfl (ih _ _ _ _  h)
    · refine v_iload_n X (pc := 56) 2 rfl eM_duty_56 rfl ?_
      exact v_iret X (pc := 57) h hr eM_duty_57
set_option maxHeartbeats 4000000 in
set_option maxRecDepth 100000 in
theorem cM_duty {f : Nat} {a1 : Int32} {mem : Mem} {o : Int32} {mem' : Mem}  (h : dM_duty f a1 mem = some (o, mem')) : RT yM_duty prog_6_method_35_code 4 (Option.some Jvm.ClassFile.FieldType.int) (rmM 2 47) [aR 12 0, aI a1] mem (some (aI o)) mem' := by
  refine RT.of (by decide +kernel) (Nat.le_of_ble_eq_true rfl) (fun p l e s m args below meth c k X hr => ?_)
  replace X : CX p s m args meth c k prog_6_method_35_code 4 "WallShiftsModel" := X
  unfold dM_duty at h
  refine v_sub (lv' := [(0, _), (1, _)]) [0, 1] rfl ?_
  refine v_iload_n X (pc := 0) 1 rfl eM_duty_0 rfl ?_
  refine v_iconst X (pc := 1) (v := (0 : Int32)) eM_duty_1 (by decide) ?_
  refine v_ldc X (pc := 2) qw_817 eM_duty_2 ?_
  obtain ⟨r1, m1, hc1, h⟩ := bd_some h
  refine v_callS X (pc := 4) [_, _, _] [] ok_S_M_42 (cM_in  hc1) rfl (Nat.le_of_ble_eq_true rfl) ⟨Nat.le_of_ble_eq_true rfl, Nat.le_of_ble_eq_true rfl⟩ ⟨Nat.zero_le _, Nat.zero_le _⟩ eM_duty_4 ?_
  refine v_if_ne X (pc := 7) (tgt := 17) h eM_duty_7 (by decide) (fun h => ?_) (fun h => ?_)
  · refine v_aload_n X (pc := 10) 0 rfl eM_duty_10 rfl ?_
    refine v_ldc X (pc := 11) qw_717 eM_duty_11 ?_
    obtain ⟨r2, m2, hc2, h⟩ := bd_some h
    refine v_callV X (pc := 13) [_] [] ok_V_M_57 (cM_finds  hc2) rfl (Nat.le_of_ble_eq_true rfl) ⟨Nat.le_of_ble_eq_true rfl, Nat.le_of_ble_eq_true rfl⟩ ⟨Nat.zero_le _, Nat.zero_le _⟩ (by decide) (by decide) rfl rfl eM_duty_13 ?_
    exact v_iret X (pc := 16) h hr eM_duty_16
  · refine v_iconst X (pc := 17) (v := (0 : Int32)) eM_duty_17 (by decide) ?_
    refine v_istore_n X (pc := 18) (lv' := [(2, _), (0, _), (1, _)]) eM_duty_18 rfl (Nat.le_of_ble_eq_true rfl) rfl ?_
    refine v_iconst X (pc := 19) (v := (0 : Int32)) eM_duty_19 (by decide) ?_
    refine v_istore_n X (pc := 20) (lv' := [(3, _), (2, _), (0, _), (1, _)]) eM_duty_20 rfl (Nat.le_of_ble_eq_true rfl) rfl ?_
    exact v_sub [2, 3, 1, 0] rfl (cM_duty_21 X hr _ _ _ _ _  h)
set_option maxHeartbeats 4000000 in
set_option maxRecDepth 100000 in
theorem cM_inFiles_4 {p : Program} {l : Launch} {e : Env} {s : State} {m : MethodId} {args : Array Value} {below : List Frame} {meth : Method} {c : Code} {k : KK} {f : Nat} {o : Int32} {mem' : Mem} (X : CX p s m args meth c k prog_6_method_36_code 3 "WallShiftsModel") (hr : meth.sig.returnType = (Option.some Jvm.ClassFile.FieldType.int)) : ∀ (n : Nat) (x1 : Int32) (x2 : Int32) (mem : Mem), dM_inFiles_4 f n x1 x2 mem = some (o, mem') → V p l e (rmM 1 22) s m args below meth c 0 0 (MQ below (RQc k (some (aI o)) mem') args s 0 0 (kA k)) k 3 mem 4 [(0, aR 12 0), (1, aI x1), (2, aI x2)] [] := by
  intro n
  induction n with
  | zero =>
    intro x1 x2 mem  h
    exact nomatch (show (none : Option (Int32 × Mem)) = some _ from h)
  | succ n ih =>
    intro x1 x2 mem  h
    rw [dM_inFiles_4] at h
    refine v_iload_n X (pc := 4) 2 rfl eM_inFiles_4 rfl ?_
    refine v_aload_n X (pc := 5) 0 rfl eM_inFiles_5 rfl ?_
    refine v_get X (pc := 6) 0 (a := aR 13 0) (by decide) (by decide) rfl rfl rfl in_Model (by decide) qw_648 rfl eM_inFiles_6 ?_
    refine v_iconst X (pc := 9) (v := (5 : Int32)) eM_inFiles_9 (by decide) ?_
    refine v_ialdK X (pc := 10) (n := 66) 5 (by decide) (by decide) (by decide) (by decide) rfl eM_inFiles_10 ?_
    refine v_icmp_ge X (pc := 11) (tgt := 29) h eM_inFiles_11 (by decide) (fun h => ?_) (fun h => ?_)
    · refine v_iload_n X (pc := 14) 1 rfl eM_inFiles_14 rfl ?_
      refine v_aload_n X (pc := 15) 0 rfl eM_inFiles_15 rfl ?_
      refine v_iload_n X (pc := 16) 2 rfl eM_inFiles_16 rfl ?_
      refine v_iconst X (pc := 17) (v := (4 : Int32)) eM_inFiles_17 (by decide) ?_
      obtain ⟨r1, m1, hc1, h⟩ := bd_some h
      refine v_callV X (pc := 18) [_, _] [_] ok_V_M_46 (cM_its  hc1) rfl (Nat.le_of_ble_eq_true rfl) ⟨Nat.le_of_ble_eq_true rfl, Nat.le_of_ble_eq_true rfl⟩ ⟨Nat.zero_le _, Nat.zero_le _⟩ (by decide) (by decide) rfl rfl eM_inFiles_18 ?_
      refine v_ior X (pc := 21) eM_inFiles_21 ?_
      refine v_istore_n X (pc := 22) (lv' := [(1, _), (0, _), (2, _)]) eM_inFiles_22 rfl (Nat.le_of_ble_eq_true rfl) rfl ?_
      refine v_iinc X (pc := 23) (v := (x2 + (1 : Int32))) (lv' := [(2, _), (1, _), (0, _)]) 2 rfl (by rfl) eM_inFiles_23 (Nat.le_of_ble_eq_true rfl) rfl ?_
      refine v_goto X (pc := 26) (tgt := 4) eM_inFiles_26 (by decide) ?_
      exact v_sub [2, 1, 0] rfl (ih _ _ _  h)
    · refine v_iload_n X (pc := 29) 1 rfl eM_inFiles_29 rfl ?_
      exact v_iret X (pc := 30) h hr eM_inFiles_30
set_option maxHeartbeats 4000000 in
set_option maxRecDepth 100000 in
theorem cM_inFiles {f : Nat}  {mem : Mem} {o : Int32} {mem' : Mem}  (h : dM_inFiles f  mem = some (o, mem')) : RT yM_inFiles prog_6_method_36_code 3 (Option.some Jvm.ClassFile.FieldType.int) (rmM 1 22) [aR 12 0] mem (some (aI o)) mem' := by
  refine RT.of (by decide +kernel) (Nat.le_of_ble_eq_true rfl) (fun p l e s m args below meth c k X hr => ?_)
  replace X : CX p s m args meth c k prog_6_method_36_code 3 "WallShiftsModel" := X
  unfold dM_inFiles at h
  refine v_sub (lv' := [(0, _)]) [0] rfl ?_
  refine v_iconst X (pc := 0) (v := (0 : Int32)) eM_inFiles_0 (by decide) ?_
  refine v_istore_n X (pc := 1) (lv' := [(1, _), (0, _)]) eM_inFiles_1 rfl (Nat.le_of_ble_eq_true rfl) rfl ?_
  refine v_iconst X (pc := 2) (v := (0 : Int32)) eM_inFiles_2 (by decide) ?_
  refine v_istore_n X (pc := 3) (lv' := [(2, _), (1, _), (0, _)]) eM_inFiles_3 rfl (Nat.le_of_ble_eq_true rfl) rfl ?_
  exact v_sub [2, 1, 0] rfl (cM_inFiles_4 X hr _ _ _ _  h)
set_option maxHeartbeats 4000000 in
set_option maxRecDepth 100000 in
theorem cM_tiredAll_4 {p : Program} {l : Launch} {e : Env} {s : State} {m : MethodId} {args : Array Value} {below : List Frame} {meth : Method} {c : Code} {k : KK} {f : Nat} {o : Int32} {mem' : Mem} (X : CX p s m args meth c k prog_6_method_37_code 3 "WallShiftsModel") (hr : meth.sig.returnType = (Option.some Jvm.ClassFile.FieldType.int)) : ∀ (n : Nat) (x1 : Int32) (x2 : Int32) (mem : Mem), dM_tiredAll_4 f n x1 x2 mem = some (o, mem') → V p l e (rmM 1 22) s m args below meth c 0 0 (MQ below (RQc k (some (aI o)) mem') args s 0 0 (kA k)) k 3 mem 4 [(0, aR 12 0), (1, aI x1), (2, aI x2)] [] := by
  intro n
  induction n with
  | zero =>
    intro x1 x2 mem  h
    exact nomatch (show (none : Option (Int32 × Mem)) = some _ from h)
  | succ n ih =>
    intro x1 x2 mem  h
    rw [dM_tiredAll_4] at h
    refine v_iload_n X (pc := 4) 2 rfl eM_tiredAll_4 rfl ?_
    refine v_aload_n X (pc := 5) 0 rfl eM_tiredAll_5 rfl ?_
    refine v_get X (pc := 6) 0 (a := aR 13 0) (by decide) (by decide) rfl rfl rfl in_Model (by decide) qw_648 rfl eM_tiredAll_6 ?_
    refine v_iconst X (pc := 9) (v := (5 : Int32)) eM_tiredAll_9 (by decide) ?_
    refine v_ialdK X (pc := 10) (n := 66) 5 (by decide) (by decide) (by decide) (by decide) rfl eM_tiredAll_10 ?_
    refine v_icmp_ge X (pc := 11) (tgt := 29) h eM_tiredAll_11 (by decide) (fun h => ?_) (fun h => ?_)
    · refine v_iload_n X (pc := 14) 1 rfl eM_tiredAll_14 rfl ?_
      refine v_aload_n X (pc := 15) 0 rfl eM_tiredAll_15 rfl ?_
      refine v_iload_n X (pc := 16) 2 rfl eM_tiredAll_16 rfl ?_
      refine v_iconst X (pc := 17) (v := (5 : Int32)) eM_tiredAll_17 (by decide) ?_
      obtain ⟨r1, m1, hc1, h⟩ := bd_some h
      refine v_callV X (pc := 18) [_, _] [_] ok_V_M_46 (cM_its  hc1) rfl (Nat.le_of_ble_eq_true rfl) ⟨Nat.le_of_ble_eq_true rfl, Nat.le_of_ble_eq_true rfl⟩ ⟨Nat.zero_le _, Nat.zero_le _⟩ (by decide) (by decide) rfl rfl eM_tiredAll_18 ?_
      refine v_iadd X (pc := 21) eM_tiredAll_21 ?_
      refine v_istore_n X (pc := 22) (lv' := [(1, _), (0, _), (2, _)]) eM_tiredAll_22 rfl (Nat.le_of_ble_eq_true rfl) rfl ?_
      refine v_iinc X (pc := 23) (v := (x2 + (1 : Int32))) (lv' := [(2, _), (1, _), (0, _)]) 2 rfl (by rfl) eM_tiredAll_23 (Nat.le_of_ble_eq_true rfl) rfl ?_
      refine v_goto X (pc := 26) (tgt := 4) eM_tiredAll_26 (by decide) ?_
      exact v_sub [2, 1, 0] rfl (ih _ _ _  h)
    · refine v_iload_n X (pc := 29) 1 rfl eM_tiredAll_29 rfl ?_
      exact v_iret X (pc := 30) h hr eM_tiredAll_30
set_option maxHeartbeats 4000000 in
set_option maxRecDepth 100000 in
theorem cM_tiredAll {f : Nat}  {mem : Mem} {o : Int32} {mem' : Mem}  (h : dM_tiredAll f  mem = some (o, mem')) : RT yM_tiredAll prog_6_method_37_code 3 (Option.some Jvm.ClassFile.FieldType.int) (rmM 1 22) [aR 12 0] mem (some (aI o)) mem' := by
  refine RT.of (by decide +kernel) (Nat.le_of_ble_eq_true rfl) (fun p l e s m args below meth c k X hr => ?_)
  replace X : CX p s m args meth c k prog_6_method_37_code 3 "WallShiftsModel" := X
  unfold dM_tiredAll at h
  refine v_sub (lv' := [(0, _)]) [0] rfl ?_
  refine v_iconst X (pc := 0) (v := (0 : Int32)) eM_tiredAll_0 (by decide) ?_
  refine v_istore_n X (pc := 1) (lv' := [(1, _), (0, _)]) eM_tiredAll_1 rfl (Nat.le_of_ble_eq_true rfl) rfl ?_
  refine v_iconst X (pc := 2) (v := (0 : Int32)) eM_tiredAll_2 (by decide) ?_
  refine v_istore_n X (pc := 3) (lv' := [(2, _), (1, _), (0, _)]) eM_tiredAll_3 rfl (Nat.le_of_ble_eq_true rfl) rfl ?_
  exact v_sub [2, 1, 0] rfl (cM_tiredAll_4 X hr _ _ _ _  h)
set_option maxHeartbeats 4000000 in
set_option maxRecDepth 100000 in
theorem cM_now {f : Nat} {a1 : Int32} {mem : Mem} {o : Int32} {mem' : Mem}  (h : dM_now f a1 mem = some (o, mem')) : RT yM_now prog_6_method_38_code 2 (Option.some Jvm.ClassFile.FieldType.int) (rmM 2 44) [aR 12 0, aI a1] mem (some (aI o)) mem' := by
  refine RT.of (by decide +kernel) (Nat.le_of_ble_eq_true rfl) (fun p l e s m args below meth c k X hr => ?_)
  replace X : CX p s m args meth c k prog_6_method_38_code 2 "WallShiftsModel" := X
  unfold dM_now at h
  refine v_sub (lv' := [(0, _), (1, _)]) [0, 1] rfl ?_
  refine v_iload_n X (pc := 0) 1 rfl eM_now_0 rfl ?_
  refine v_iconst X (pc := 1) (v := (0 : Int32)) eM_now_1 (by decide) ?_
  refine v_iconst X (pc := 2) (v := (4 : Int32)) eM_now_2 (by decide) ?_
  obtain ⟨r1, m1, hc1, h⟩ := bd_some h
  refine v_callS X (pc := 3) [_, _, _] [] ok_S_M_42 (cM_in  hc1) rfl (Nat.le_of_ble_eq_true rfl) ⟨Nat.le_of_ble_eq_true rfl, Nat.le_of_ble_eq_true rfl⟩ ⟨Nat.zero_le _, Nat.zero_le _⟩ eM_now_3 ?_
  refine v_if_eq X (pc := 6) (tgt := 16) h eM_now_6 (by decide) (fun h => ?_) (fun h => ?_)
  · refine v_iload_n X (pc := 16) 1 rfl eM_now_16 rfl ?_
    refine v_iconst X (pc := 17) (v := (5 : Int32)) eM_now_17 (by decide) ?_
    refine v_icmp_ne X (pc := 18) (tgt := 28) h eM_now_18 (by decide) (fun h => ?_) (fun h => ?_)
    · refine v_aload_n X (pc := 21) 0 rfl eM_now_21 rfl ?_
      obtain ⟨r2, m2, hc2, h⟩ := bd_some h
      refine v_callV X (pc := 22) [] [] ok_V_M_126 (cM_inFiles  hc2) rfl (Nat.le_of_ble_eq_true rfl) ⟨Nat.le_of_ble_eq_true rfl, Nat.le_of_ble_eq_true rfl⟩ ⟨Nat.zero_le _, Nat.zero_le _⟩ (by decide) (by decide) rfl rfl eM_now_22 ?_
      refine v_goto X (pc := 25) (tgt := 47) eM_now_25 (by decide) ?_
      exact v_iret X (pc := 47) h hr eM_now_47
    · refine v_iload_n X (pc := 28) 1 rfl eM_now_28 rfl ?_
      refine v_bipush X (pc := 29) (v := (6 : Int32)) eM_now_29 (by decide) ?_
      refine v_icmp_ne X (pc := 31) (tgt := 41) h eM_now_31 (by decide) (fun h => ?_) (fun h => ?_)
      · refine v_aload_n X (pc := 34) 0 rfl eM_now_34 rfl ?_
        obtain ⟨r3, m3, hc3, h⟩ := bd_some h
        refine v_callV X (pc := 35) [] [] ok_V_M_130 (cM_tiredAll  hc3) rfl (Nat.le_of_ble_eq_true rfl) ⟨Nat.le_of_ble_eq_true rfl, Nat.le_of_ble_eq_true rfl⟩ ⟨Nat.zero_le _, Nat.zero_le _⟩ (by decide) (by decide) rfl rfl eM_now_35 ?_
        refine v_goto X (pc := 38) (tgt := 47) eM_now_38 (by decide) ?_
        exact v_iret X (pc := 47) h hr eM_now_47
      · refine v_aload_n X (pc := 41) 0 rfl eM_now_41 rfl ?_
        refine v_ldc X (pc := 42) qw_717 eM_now_42 ?_
        obtain ⟨r4, m4, hc4, h⟩ := bd_some h
        refine v_callV X (pc := 44) [_] [] ok_V_M_57 (cM_finds  hc4) rfl (Nat.le_of_ble_eq_true rfl) ⟨Nat.le_of_ble_eq_true rfl, Nat.le_of_ble_eq_true rfl⟩ ⟨Nat.zero_le _, Nat.zero_le _⟩ (by decide) (by decide) rfl rfl eM_now_44 ?_
        exact v_iret X (pc := 47) h hr eM_now_47
  · refine v_aload_n X (pc := 9) 0 rfl eM_now_9 rfl ?_
    refine v_get X (pc := 10) 0 (a := aR 13 0) (by decide) (by decide) rfl rfl rfl in_Model (by decide) qw_648 rfl eM_now_10 ?_
    refine v_iload_n X (pc := 13) 1 rfl eM_now_13 rfl ?_
    refine v_iald X (pc := 14) h (by decide) (by decide) rfl eM_now_14 (fun h => ?_)
    exact v_iret X (pc := 15) h hr eM_now_15
set_option maxHeartbeats 4000000 in
set_option maxRecDepth 100000 in
theorem cM_filed_18 {p : Program} {l : Launch} {e : Env} {s : State} {m : MethodId} {args : Array Value} {below : List Frame} {meth : Method} {c : Code} {k : KK} {f : Nat} {o : Int32} {mem' : Mem} (X : CX p s m args meth c k prog_6_method_39_code 4 "WallShiftsModel") (hr : meth.sig.returnType = (Option.some Jvm.ClassFile.FieldType.int)) : ∀ (n : Nat) (x1 : Int32) (x2 : Int32) (x3 : Int32) (mem : Mem), dM_filed_18 f n x1 x2 x3 mem = some (o, mem') → V p l e (rmM 2 42) s m args below meth c 0 0 (MQ below (RQc k (some (aI o)) mem') args s 0 0 (kA k)) k 4 mem 18 [(0, aR 12 0), (1, aI x1), (2, aI x2), (3, aI x3)] [] := by
  intro n
  induction n with
  | zero =>
    intro x1 x2 x3 mem  h
    exact nomatch (show (none : Option (Int32 × Mem)) = some _ from h)
  | succ n ih =>
    intro x1 x2 x3 mem  h
    rw [dM_filed_18] at h
    refine v_iload_n X (pc := 18) 3 rfl eM_filed_18 rfl ?_
    refine v_aload_n X (pc := 19) 0 rfl eM_filed_19 rfl ?_
    refine v_get X (pc := 20) 0 (a := aR 13 0) (by decide) (by decide) rfl rfl rfl in_Model (by decide) qw_648 rfl eM_filed_20 ?_
    refine v_iconst X (pc := 23) (v := (5 : Int32)) eM_filed_23 (by decide) ?_
    refine v_ialdK X (pc := 24) (n := 66) 5 (by decide) (by decide) (by decide) (by decide) rfl eM_filed_24 ?_
    refine v_icmp_ge X (pc := 25) (tgt := 55) h eM_filed_25 (by decide) (fun h => ?_) (fun h => ?_)
    · refine v_iload_n X (pc := 28) 2 rfl eM_filed_28 rfl ?_
      refine v_aload_n X (pc := 29) 0 rfl eM_filed_29 rfl ?_
      refine v_iload_n X (pc := 30) 3 rfl eM_filed_30 rfl ?_
      refine v_iconst X (pc := 31) (v := (4 : Int32)) eM_filed_31 (by decide) ?_
      obtain ⟨r1, m1, hc1, h⟩ := bd_some h
      refine v_callV X (pc := 32) [_, _] [_] ok_V_M_46 (cM_its  hc1) rfl (Nat.le_of_ble_eq_true rfl) ⟨Nat.le_of_ble_eq_true rfl, Nat.le_of_ble_eq_true rfl⟩ ⟨Nat.zero_le _, Nat.zero_le _⟩ (by decide) (by decide) rfl rfl eM_filed_32 ?_
      refine v_iload_n X (pc := 35) 1 rfl eM_filed_35 rfl ?_
      obtain ⟨r2, m2, hc2, h⟩ := bd_some h
      refine v_callS X (pc := 36) [_, _] [_] ok_S_M_50 (cM_has  hc2) rfl (Nat.le_of_ble_eq_true rfl) ⟨Nat.le_of_ble_eq_true rfl, Nat.le_of_ble_eq_true rfl⟩ ⟨Nat.zero_le _, Nat.zero_le _⟩ eM_filed_36 ?_
      refine v_if_eq X (pc := 39) (tgt := 46) h eM_filed_39 (by decide) (fun h => ?_) (fun h => ?_)
      · refine v_iconst X (pc := 46) (v := (0 : Int32)) eM_filed_46 (by decide) ?_
        refine v_iadd X (pc := 47) eM_filed_47 ?_
        refine v_istore_n X (pc := 48) (lv' := [(2, _), (0, _), (1, _), (3, _)]) eM_filed_48 rfl (Nat.le_of_ble_eq_true rfl) rfl ?_
        refine v_iinc X (pc := 49) (v := (x3 + (1 : Int32))) (lv' := [(3, _), (2, _), (0, _), (1, _)]) 3 rfl (by rfl) eM_filed_49 (Nat.le_of_ble_eq_true rfl) rfl ?_
        refine v_goto X (pc := 52) (tgt := 18) eM_filed_52 (by decide) ?_
        exact v_sub [2, 3, 1, 0] rfl (ih _ _ _ _  h)
      · refine v_iconst X (pc := 42) (v := (1 : Int32)) eM_filed_42 (by decide) ?_
        refine v_goto X (pc := 43) (tgt := 47) eM_filed_43 (by decide) ?_
        refine v_iadd X (pc := 47) eM_filed_47 ?_
        refine v_istore_n X (pc := 48) (lv' := [(2, _), (0, _), (1, _), (3, _)]) eM_filed_48 rfl (Nat.le_of_ble_eq_true rfl) rfl ?_
        refine v_iinc X (pc := 49) (v := (x3 + (1 : Int32))) (lv' := [(3, _), (2, _), (0, _), (1, _)]) 3 rfl (by rfl) eM_filed_49 (Nat.le_of_ble_eq_true rfl) rfl ?_
        refine v_goto X (pc := 52) (tgt := 18) eM_filed_52 (by decide) ?_
        exact v_sub [2, 3, 1, 0] rfl (ih _ _ _ _  h)
    · refine v_iload_n X (pc := 55) 2 rfl eM_filed_55 rfl ?_
      exact v_iret X (pc := 56) h hr eM_filed_56
set_option maxHeartbeats 4000000 in
set_option maxRecDepth 100000 in
theorem cM_filed {f : Nat} {a1 : Int32} {mem : Mem} {o : Int32} {mem' : Mem}  (h : dM_filed f a1 mem = some (o, mem')) : RT yM_filed prog_6_method_39_code 4 (Option.some Jvm.ClassFile.FieldType.int) (rmM 2 42) [aR 12 0, aI a1] mem (some (aI o)) mem' := by
  refine RT.of (by decide +kernel) (Nat.le_of_ble_eq_true rfl) (fun p l e s m args below meth c k X hr => ?_)
  replace X : CX p s m args meth c k prog_6_method_39_code 4 "WallShiftsModel" := X
  unfold dM_filed at h
  refine v_sub (lv' := [(0, _), (1, _)]) [0, 1] rfl ?_
  refine v_iload_n X (pc := 0) 1 rfl eM_filed_0 rfl ?_
  obtain ⟨r1, m1, hc1, h⟩ := bd_some h
  refine v_callS X (pc := 1) [_] [] ok_S_M_91 (cM_isWordOf  hc1) rfl (Nat.le_of_ble_eq_true rfl) ⟨Nat.le_of_ble_eq_true rfl, Nat.le_of_ble_eq_true rfl⟩ ⟨Nat.zero_le _, Nat.zero_le _⟩ eM_filed_1 ?_
  refine v_if_ne X (pc := 4) (tgt := 14) h eM_filed_4 (by decide) (fun h => ?_) (fun h => ?_)
  · refine v_aload_n X (pc := 7) 0 rfl eM_filed_7 rfl ?_
    refine v_ldc X (pc := 8) qw_717 eM_filed_8 ?_
    obtain ⟨r2, m2, hc2, h⟩ := bd_some h
    refine v_callV X (pc := 10) [_] [] ok_V_M_57 (cM_finds  hc2) rfl (Nat.le_of_ble_eq_true rfl) ⟨Nat.le_of_ble_eq_true rfl, Nat.le_of_ble_eq_true rfl⟩ ⟨Nat.zero_le _, Nat.zero_le _⟩ (by decide) (by decide) rfl rfl eM_filed_10 ?_
    exact v_iret X (pc := 13) h hr eM_filed_13
  · refine v_iconst X (pc := 14) (v := (0 : Int32)) eM_filed_14 (by decide) ?_
    refine v_istore_n X (pc := 15) (lv' := [(2, _), (0, _), (1, _)]) eM_filed_15 rfl (Nat.le_of_ble_eq_true rfl) rfl ?_
    refine v_iconst X (pc := 16) (v := (0 : Int32)) eM_filed_16 (by decide) ?_
    refine v_istore_n X (pc := 17) (lv' := [(3, _), (2, _), (0, _), (1, _)]) eM_filed_17 rfl (Nat.le_of_ble_eq_true rfl) rfl ?_
    exact v_sub [2, 3, 1, 0] rfl (cM_filed_18 X hr _ _ _ _ _  h)
set_option maxHeartbeats 4000000 in
set_option maxRecDepth 100000 in
theorem cM_isUnheard_6 {p : Program} {l : Launch} {e : Env} {s : State} {m : MethodId} {args : Array Value} {below : List Frame} {meth : Method} {c : Code} {k : KK} {f : Nat} {o : Int32} {mem' : Mem} (X : CX p s m args meth c k prog_6_method_40_code 6 "WallShiftsModel") (hr : meth.sig.returnType = (Option.some Jvm.ClassFile.FieldType.boolean)) : ∀ (n : Nat) (x1 : Int32) (x2 : Int32) (x3 : Int32) (x4 : Int32) (x5 : Int32) (mem : Mem), dM_isUnheard_6 f n x1 x2 x3 x4 x5 mem = some (o, mem') → V p l e (rmM 2 47) s m args below meth c 0 0 (MQ below (RQc k (some (aI o)) mem') args s 0 0 (kA k)) k 6 mem 6 [(0, aR 12 0), (1, aI x1), (2, aI x2), (3, aI x3), (4, aI x4), (5, aI x5)] [] := by
  intro n
  induction n with
  | zero =>
    intro x1 x2 x3 x4 x5 mem  h
    exact nomatch (show (none : Option (Int32 × Mem)) = some _ from h)
  | succ n ih =>
    intro x1 x2 x3 x4 x5 mem  h
    rw [dM_isUnheard_6] at h
    refine v_iload X (pc := 6) 5 rfl eM_isUnheard_6 ?_
    refine v_aload_n X (pc := 8) 0 rfl eM_isUnheard_8 rfl ?_
    refine v_get X (pc := 9) 0 (a := aR 13 0) (by decide) (by decide) rfl rfl rfl in_Model (by decide) qw_648 rfl eM_isUnheard_9 ?_
    refine v_iconst X (pc := 12) (v := (5 : Int32)) eM_isUnheard_12 (by decide) ?_
    refine v_ialdK X (pc := 13) (n := 66) 5 (by decide) (by decide) (by decide) (by decide) rfl eM_isUnheard_13 ?_
    refine v_icmp_ge X (pc := 14) (tgt := 64) h eM_isUnheard_14 (by decide) (fun h => ?_) (fun h => ?_)
    · refine v_iload X (pc := 17) 4 rfl eM_isUnheard_17 ?_
      refine v_if_eq X (pc := 19) (tgt := 64) h eM_isUnheard_19 (by decide) (fun h => ?_) (fun h => ?_)
      · refine v_iload X (pc := 64) 4 rfl eM_isUnheard_64 ?_
        obtain ⟨hz, h⟩ := zb_some h
        exact v_zret X (pc := 66) h hr (zb_n hz) eM_isUnheard_66
      · refine v_iload_n X (pc := 22) 3 rfl eM_isUnheard_22 rfl ?_
        refine v_iload X (pc := 23) 5 rfl eM_isUnheard_23 ?_
        obtain ⟨r1, m1, hc1, h⟩ := bd_some h
        refine v_callS X (pc := 25) [_, _] [] ok_S_M_50 (cM_has  hc1) rfl (Nat.le_of_ble_eq_true rfl) ⟨Nat.le_of_ble_eq_true rfl, Nat.le_of_ble_eq_true rfl⟩ ⟨Nat.zero_le _, Nat.zero_le _⟩ eM_isUnheard_25 ?_
        refine v_if_eq X (pc := 28) (tgt := 51) h eM_isUnheard_28 (by decide) (fun h => ?_) (fun h => ?_)
        · refine v_iconst X (pc := 51) (v := (1 : Int32)) eM_isUnheard_51 (by decide) ?_
          refine v_goto X (pc := 52) (tgt := 56) eM_isUnheard_52 (by decide) ?_
          refine v_istore X (pc := 56) (lv' := [(4, _), (0, _), (1, _), (2, _), (3, _), (5, _)]) eM_isUnheard_56 (Nat.le_of_ble_eq_true rfl) rfl ?_
          refine v_iinc X (pc := 58) (v := (x5 + (1 : Int32))) (lv' := [(5, _), (4, _), (0, _), (1, _), (2, _), (3, _)]) 5 rfl (by rfl) eM_isUnheard_58 (Nat.le_of_ble_eq_true rfl) rfl ?_
          refine v_goto X (pc := 61) (tgt := 6) eM_isUnheard_61 (by decide) ?_
          exact v_sub [2, 3, 4, 5, 1, 0] rfl (ih _ _ _ _ _ _  h)
        · refine v_aload_n X (pc := 31) 0 rfl eM_isUnheard_31 rfl ?_
          refine v_iload X (pc := 32) 5 rfl eM_isUnheard_32 ?_
          refine v_iload_n X (pc := 34) 1 rfl eM_isUnheard_34 rfl ?_
          obtain ⟨r2, m2, hc2, h⟩ := bd_some h
          refine v_callV X (pc := 35) [_, _] [] ok_V_M_101 (cM_isAt  hc2) rfl (Nat.le_of_ble_eq_true rfl) ⟨Nat.le_of_ble_eq_true rfl, Nat.le_of_ble_eq_true rfl⟩ ⟨Nat.zero_le _, Nat.zero_le _⟩ (by decide) (by decide) rfl rfl eM_isUnheard_35 ?_
          refine v_if_eq X (pc := 38) (tgt := 51) h eM_isUnheard_38 (by decide) (fun h => ?_) (fun h => ?_)
          · refine v_iconst X (pc := 51) (v := (1 : Int32)) eM_isUnheard_51 (by decide) ?_
            refine v_goto X (pc := 52) (tgt := 56) eM_isUnheard_52 (by decide) ?_
            refine v_istore X (pc := 56) (lv' := [(4, _), (0, _), (1, _), (2, _), (3, _), (5, _)]) eM_isUnheard_56 (Nat.le_of_ble_eq_true rfl) rfl ?_
            refine v_iinc X (pc := 58) (v := (x5 + (1 : Int32))) (lv' := [(5, _), (4, _), (0, _), (1, _), (2, _), (3, _)]) 5 rfl (by rfl) eM_isUnheard_58 (Nat.le_of_ble_eq_true rfl) rfl ?_
            refine v_goto X (pc := 61) (tgt := 6) eM_isUnheard_61 (by decide) ?_
            exact v_sub [2, 3, 4, 5, 1, 0] rfl (ih _ _ _ _ _ _  h)
          · refine v_aload_n X (pc := 41) 0 rfl eM_isUnheard_41 rfl ?_
            refine v_iload X (pc := 42) 5 rfl eM_isUnheard_42 ?_
            refine v_iload_n X (pc := 44) 2 rfl eM_isUnheard_44 rfl ?_
            obtain ⟨r3, m3, hc3, h⟩ := bd_some h
            refine v_callV X (pc := 45) [_, _] [] ok_V_M_80 (cM_isOnDuty  hc3) rfl (Nat.le_of_ble_eq_true rfl) ⟨Nat.le_of_ble_eq_true rfl, Nat.le_of_ble_eq_true rfl⟩ ⟨Nat.zero_le _, Nat.zero_le _⟩ (by decide) (by decide) rfl rfl eM_isUnheard_45 ?_
            refine v_if_ne X (pc := 48) (tgt := 55) h eM_isUnheard_48 (by decide) (fun h => ?_) (fun h => ?_)
            · refine v_iconst X (pc := 51) (v := (1 : Int32)) eM_isUnheard_51 (by decide) ?_
              refine v_goto X (pc := 52) (tgt := 56) eM_isUnheard_52 (by decide) ?_
              refine v_istore X (pc := 56) (lv' := [(4, _), (0, _), (1, _), (2, _), (3, _), (5, _)]) eM_isUnheard_56 (Nat.le_of_ble_eq_true rfl) rfl ?_
              refine v_iinc X (pc := 58) (v := (x5 + (1 : Int32))) (lv' := [(5, _), (4, _), (0, _), (1, _), (2, _), (3, _)]) 5 rfl (by rfl) eM_isUnheard_58 (Nat.le_of_ble_eq_true rfl) rfl ?_
              refine v_goto X (pc := 61) (tgt := 6) eM_isUnheard_61 (by decide) ?_
              exact v_sub [2, 3, 4, 5, 1, 0] rfl (ih _ _ _ _ _ _  h)
            · refine v_iconst X (pc := 55) (v := (0 : Int32)) eM_isUnheard_55 (by decide) ?_
              refine v_istore X (pc := 56) (lv' := [(4, _), (0, _), (1, _), (2, _), (3, _), (5, _)]) eM_isUnheard_56 (Nat.le_of_ble_eq_true rfl) rfl ?_
              refine v_iinc X (pc := 58) (v := (x5 + (1 : Int32))) (lv' := [(5, _), (4, _), (0, _), (1, _), (2, _), (3, _)]) 5 rfl (by rfl) eM_isUnheard_58 (Nat.le_of_ble_eq_true rfl) rfl ?_
              refine v_goto X (pc := 61) (tgt := 6) eM_isUnheard_61 (by decide) ?_
              exact v_sub [2, 3, 4, 5, 1, 0] rfl (ih _ _ _ _ _ _  h)
    · refine v_iload X (pc := 64) 4 rfl eM_isUnheard_64 ?_
      obtain ⟨hz, h⟩ := zb_some h
      exact v_zret X (pc := 66) h hr (zb_n hz) eM_isUnheard_66
set_option maxHeartbeats 4000000 in
set_option maxRecDepth 100000 in
theorem cM_isUnheard {f : Nat} {a1 : Int32} {a2 : Int32} {a3 : Int32} {mem : Mem} {o : Int32} {mem' : Mem}  (h : dM_isUnheard f a1 a2 a3 mem = some (o, mem')) : RT yM_isUnheard prog_6_method_40_code 6 (Option.some Jvm.ClassFile.FieldType.boolean) (rmM 2 47) [aR 12 0, aI a1, aI a2, aI a3] mem (some (aI o)) mem' := by
  refine RT.of (by decide +kernel) (Nat.le_of_ble_eq_true rfl) (fun p l e s m args below meth c k X hr => ?_)
  replace X : CX p s m args meth c k prog_6_method_40_code 6 "WallShiftsModel" := X
  unfold dM_isUnheard at h
  refine v_sub (lv' := [(0, _), (1, _), (2, _), (3, _)]) [0, 1, 2, 3] rfl ?_
  refine v_iconst X (pc := 0) (v := (1 : Int32)) eM_isUnheard_0 (by decide) ?_
  refine v_istore X (pc := 1) (lv' := [(4, _), (0, _), (1, _), (2, _), (3, _)]) eM_isUnheard_1 (Nat.le_of_ble_eq_true rfl) rfl ?_
  refine v_iconst X (pc := 3) (v := (0 : Int32)) eM_isUnheard_3 (by decide) ?_
  refine v_istore X (pc := 4) (lv' := [(5, _), (4, _), (0, _), (1, _), (2, _), (3, _)]) eM_isUnheard_4 (Nat.le_of_ble_eq_true rfl) rfl ?_
  exact v_sub [2, 3, 4, 5, 1, 0] rfl (cM_isUnheard_6 X hr _ _ _ _ _ _ _  h)
set_option maxHeartbeats 4000000 in
set_option maxRecDepth 100000 in
theorem cM_safeIn_50 {p : Program} {l : Launch} {e : Env} {s : State} {m : MethodId} {args : Array Value} {below : List Frame} {meth : Method} {c : Code} {k : KK} {f : Nat} {o : Int32} {mem' : Mem} (X : CX p s m args meth c k prog_6_method_41_code 6 "WallShiftsModel") (hr : meth.sig.returnType = (Option.some Jvm.ClassFile.FieldType.int)) {k12 : Int32 → Int32 → Int32 → Int32 → Mem → Option (Int32 × Mem)} (hk12 : ∀ (x2 : Int32) (x3 : Int32) (x4 : Int32) (x5 : Int32) (mem : Mem), k12 x2 x3 x4 x5 mem = some (o, mem') → V p l e (rmM 3 72) s m args below meth c 0 0 (MQ below (RQc k (some (aI o)) mem') args s 0 0 (kA k)) k 6 mem 12 [(0, aR 12 0), (2, aI x2), (3, aI x3), (4, aI x4), (5, aI x5)] []) : ∀ (x2 : Int32) (x3 : Int32) (x5 : Int32) (s0 : Int32) (mem : Mem), dM_safeIn_50 f k12 x2 x3 x5 s0 mem = some (o, mem') → V p l e (rmM 3 72) s m args below meth c 0 0 (MQ below (RQc k (some (aI o)) mem') args s 0 0 (kA k)) k 6 mem 50 [(0, aR 12 0), (2, aI x2), (3, aI x3), (5, aI x5)] [aI s0] := by
  intro x2 x3 x5 s0 mem  h
  unfold dM_safeIn_50 at h
  refine v_istore X (pc := 50) (lv' := [(4, _), (0, _), (2, _), (3, _), (5, _)]) eM_safeIn_50 (Nat.le_of_ble_eq_true rfl) rfl ?_
  refine v_iload X (pc := 52) 0 rfl eM_safeIn_52 ?_
  refine v_iload_n X (pc := 54) 2 rfl eM_safeIn_54 rfl ?_
  refine v_icmp_ne X (pc := 55) (tgt := 65) h eM_safeIn_55 (by decide) (fun h => ?_) (fun h => ?_)
  · refine v_iload X (pc := 58) 4 rfl eM_safeIn_58 ?_
    refine v_iconst X (pc := 60) (v := (1 : Int32)) eM_safeIn_60 (by decide) ?_
    refine v_iadd X (pc := 61) eM_safeIn_61 ?_
    refine v_iload_n X (pc := 62) 2 rfl eM_safeIn_62 rfl ?_
    refine v_isub X (pc := 63) eM_safeIn_63 ?_
    exact v_iret X (pc := 64) h hr eM_safeIn_64
  · refine v_iinc X (pc := 65) (v := (x5 + (1 : Int32))) (lv' := [(5, _), (4, _), (0, _), (2, _), (3, _)]) 4 rfl (by rfl) eM_safeIn_65 (Nat.le_of_ble_eq_true rfl) rfl ?_
    refine v_goto X (pc := 68) (tgt := 12) eM_safeIn_68 (by decide) ?_
    exact v_sub [2, 3, 4, 1, 0] rfl (hk12 _ _ _ _ _  h)
set_option maxHeartbeats 4000000 in
set_option maxRecDepth 100000 in
theorem cM_safeIn_12 {p : Program} {l : Launch} {e : Env} {s : State} {m : MethodId} {args : Array Value} {below : List Frame} {meth : Method} {c : Code} {k : KK} {f : Nat} {o : Int32} {mem' : Mem} (X : CX p s m args meth c k prog_6_method_41_code 6 "WallShiftsModel") (hr : meth.sig.returnType = (Option.some Jvm.ClassFile.FieldType.int)) : ∀ (n : Nat) (x2 : Int32) (x3 : Int32) (x4 : Int32) (x5 : Int32) (mem : Mem), dM_safeIn_12 f n x2 x3 x4 x5 mem = some (o, mem') → V p l e (rmM 3 72) s m args below meth c 0 0 (MQ below (RQc k (some (aI o)) mem') args s 0 0 (kA k)) k 6 mem 12 [(0, aR 12 0), (2, aI x2), (3, aI x3), (4, aI x4), (5, aI x5)] [] := by
  intro n
  induction n with
  | zero =>
    intro x2 x3 x4 x5 mem  h
    exact nomatch (show (none : Option (Int32 × Mem)) = some _ from h)
  | succ n ih =>
    intro x2 x3 x4 x5 mem  h
    rw [dM_safeIn_12] at h
    refine v_iload X (pc := 12) 4 rfl eM_safeIn_12 ?_
    refine v_sipush X (pc := 14) (v := (240 : Int32)) eM_safeIn_14 (by decide) ?_
    refine v_iload_n X (pc := 17) 1 rfl eM_safeIn_17 rfl ?_
    refine v_iadd X (pc := 18) eM_safeIn_18 ?_
    refine v_icmp_ge X (pc := 19) (tgt := 71) h eM_safeIn_19 (by decide) (fun h => ?_) (fun h => ?_)
    · refine v_aload_n X (pc := 22) 0 rfl eM_safeIn_22 rfl ?_
      refine v_iload_n X (pc := 23) 2 rfl eM_safeIn_23 rfl ?_
      refine v_aload_n X (pc := 24) 0 rfl eM_safeIn_24 rfl ?_
      refine v_get X (pc := 25) 0 (a := aR 13 0) (by decide) (by decide) rfl rfl rfl in_Model (by decide) qw_648 rfl eM_safeIn_25 ?_
      refine v_iconst X (pc := 28) (v := (0 : Int32)) eM_safeIn_28 (by decide) ?_
      refine v_ialdK X (pc := 29) (n := 66) 0 (by decide) (by decide) (by decide) (by decide) rfl eM_safeIn_29 ?_
      refine v_iload X (pc := 30) 4 rfl eM_safeIn_30 ?_
      refine v_iadd X (pc := 32) eM_safeIn_32 ?_
      refine v_sipush X (pc := 33) (v := (1023 : Int32)) eM_safeIn_33 (by decide) ?_
      obtain ⟨r1, m1, hc1, h⟩ := bd_some h
      refine v_callV X (pc := 36) [_, _, _] [] ok_V_M_133 (cM_isUnheard  hc1) rfl (Nat.le_of_ble_eq_true rfl) ⟨Nat.le_of_ble_eq_true rfl, Nat.le_of_ble_eq_true rfl⟩ ⟨Nat.zero_le _, Nat.zero_le _⟩ (by decide) (by decide) rfl rfl eM_safeIn_36 ?_
      refine v_if_eq X (pc := 39) (tgt := 49) h eM_safeIn_39 (by decide) (fun h => ?_) (fun h => ?_)
      · refine v_iconst X (pc := 49) (v := (0 : Int32)) eM_safeIn_49 (by decide) ?_
        exact v_sub [0, 1, 2, 4] rfl (cM_safeIn_50 X hr ih _ _ _ _ _  h)
      · refine v_iload X (pc := 42) 3 rfl eM_safeIn_42 ?_
        refine v_iconst X (pc := 44) (v := (1 : Int32)) eM_safeIn_44 (by decide) ?_
        refine v_iadd X (pc := 45) eM_safeIn_45 ?_
        refine v_goto X (pc := 46) (tgt := 50) eM_safeIn_46 (by decide) ?_
        exact v_sub [0, 1, 2, 4] rfl (cM_safeIn_50 X hr ih _ _ _ _ _  h)
    · refine v_iconst X (pc := 71) (v := (-1 : Int32)) eM_safeIn_71 (by decide) ?_
      exact v_iret X (pc := 72) h hr eM_safeIn_72
set_option maxHeartbeats 4000000 in
set_option maxRecDepth 100000 in
theorem cM_safeIn {f : Nat} {a1 : Int32} {a2 : Int32} {mem : Mem} {o : Int32} {mem' : Mem}  (h : dM_safeIn f a1 a2 mem = some (o, mem')) : RT yM_safeIn prog_6_method_41_code 6 (Option.some Jvm.ClassFile.FieldType.int) (rmM 3 72) [aR 12 0, aI a1, aI a2] mem (some (aI o)) mem' := by
  refine RT.of (by decide +kernel) (Nat.le_of_ble_eq_true rfl) (fun p l e s m args below meth c k X hr => ?_)
  replace X : CX p s m args meth c k prog_6_method_41_code 6 "WallShiftsModel" := X
  unfold dM_safeIn at h
  refine v_sub (lv' := [(0, _), (1, _), (2, _)]) [0, 1, 2] rfl ?_
  refine v_aload_n X (pc := 0) 0 rfl eM_safeIn_0 rfl ?_
  refine v_iload_n X (pc := 1) 1 rfl eM_safeIn_1 rfl ?_
  obtain ⟨r1, m1, hc1, h⟩ := bd_some h
  refine v_callV X (pc := 2) [_] [] ok_V_M_98 (cM_reachOf  hc1) rfl (Nat.le_of_ble_eq_true rfl) ⟨Nat.le_of_ble_eq_true rfl, Nat.le_of_ble_eq_true rfl⟩ ⟨Nat.zero_le _, Nat.zero_le _⟩ (by decide) (by decide) rfl rfl eM_safeIn_2 ?_
  refine v_istore_n X (pc := 5) (lv' := [(3, _), (0, _), (1, _), (2, _)]) eM_safeIn_5 rfl (Nat.le_of_ble_eq_true rfl) rfl ?_
  refine v_iconst X (pc := 6) (v := (0 : Int32)) eM_safeIn_6 (by decide) ?_
  refine v_istore X (pc := 7) (lv' := [(4, _), (3, _), (0, _), (1, _), (2, _)]) eM_safeIn_7 (Nat.le_of_ble_eq_true rfl) rfl ?_
  refine v_iconst X (pc := 9) (v := (0 : Int32)) eM_safeIn_9 (by decide) ?_
  refine v_istore X (pc := 10) (lv' := [(5, _), (4, _), (3, _), (0, _), (1, _), (2, _)]) eM_safeIn_10 (Nat.le_of_ble_eq_true rfl) rfl ?_
  exact v_sub [3, 5, 2, 1, 0] rfl (cM_safeIn_12 X hr _ _ _ _ _ _  h)
set_option maxHeartbeats 4000000 in
set_option maxRecDepth 100000 in
theorem cM_safe {f : Nat} {a1 : Int32} {a2 : Int32} {mem : Mem} {o : Int32} {mem' : Mem}  (h : dM_safe f a1 a2 mem = some (o, mem')) : RT yM_safe prog_6_method_42_code 4 (Option.some Jvm.ClassFile.FieldType.int) (rmM 4 97) [aR 12 0, aI a1, aI a2] mem (some (aI o)) mem' := by
  refine RT.of (by decide +kernel) (Nat.le_of_ble_eq_true rfl) (fun p l e s m args below meth c k X hr => ?_)
  replace X : CX p s m args meth c k prog_6_method_42_code 4 "WallShiftsModel" := X
  unfold dM_safe at h
  refine v_sub (lv' := [(0, _), (1, _), (2, _)]) [0, 1, 2] rfl ?_
  refine v_iload_n X (pc := 0) 1 rfl eM_safe_0 rfl ?_
  obtain ⟨r1, m1, hc1, h⟩ := bd_some h
  refine v_callS X (pc := 1) [_] [] ok_S_M_69 (cM_isRoom  hc1) rfl (Nat.le_of_ble_eq_true rfl) ⟨Nat.le_of_ble_eq_true rfl, Nat.le_of_ble_eq_true rfl⟩ ⟨Nat.zero_le _, Nat.zero_le _⟩ eM_safe_1 ?_
  refine v_if_eq X (pc := 4) (tgt := 17) h eM_safe_4 (by decide) (fun h => ?_) (fun h => ?_)
  · refine v_aload_n X (pc := 17) 0 rfl eM_safe_17 rfl ?_
    refine v_ldc X (pc := 18) qw_717 eM_safe_18 ?_
    obtain ⟨r2, m2, hc2, h⟩ := bd_some h
    refine v_callV X (pc := 20) [_] [] ok_V_M_57 (cM_finds  hc2) rfl (Nat.le_of_ble_eq_true rfl) ⟨Nat.le_of_ble_eq_true rfl, Nat.le_of_ble_eq_true rfl⟩ ⟨Nat.zero_le _, Nat.zero_le _⟩ (by decide) (by decide) rfl rfl eM_safe_20 ?_
    exact v_iret X (pc := 23) h hr eM_safe_23
  · refine v_iload_n X (pc := 7) 2 rfl eM_safe_7 rfl ?_
    refine v_iconst X (pc := 8) (v := (1 : Int32)) eM_safe_8 (by decide) ?_
    refine v_bipush X (pc := 9) (v := (30 : Int32)) eM_safe_9 (by decide) ?_
    obtain ⟨r3, m3, hc3, h⟩ := bd_some h
    refine v_callS X (pc := 11) [_, _, _] [] ok_S_M_42 (cM_in  hc3) rfl (Nat.le_of_ble_eq_true rfl) ⟨Nat.le_of_ble_eq_true rfl, Nat.le_of_ble_eq_true rfl⟩ ⟨Nat.zero_le _, Nat.zero_le _⟩ eM_safe_11 ?_
    refine v_if_ne X (pc := 14) (tgt := 24) h eM_safe_14 (by decide) (fun h => ?_) (fun h => ?_)
    · refine v_aload_n X (pc := 17) 0 rfl eM_safe_17 rfl ?_
      refine v_ldc X (pc := 18) qw_717 eM_safe_18 ?_
      obtain ⟨r4, m4, hc4, h⟩ := bd_some h
      refine v_callV X (pc := 20) [_] [] ok_V_M_57 (cM_finds  hc4) rfl (Nat.le_of_ble_eq_true rfl) ⟨Nat.le_of_ble_eq_true rfl, Nat.le_of_ble_eq_true rfl⟩ ⟨Nat.zero_le _, Nat.zero_le _⟩ (by decide) (by decide) rfl rfl eM_safe_20 ?_
      exact v_iret X (pc := 23) h hr eM_safe_23
    · refine v_aload_n X (pc := 24) 0 rfl eM_safe_24 rfl ?_
      refine v_iload_n X (pc := 25) 1 rfl eM_safe_25 rfl ?_
      refine v_iload_n X (pc := 26) 2 rfl eM_safe_26 rfl ?_
      obtain ⟨r5, m5, hc5, h⟩ := bd_some h
      refine v_callV X (pc := 27) [_, _] [] ok_V_M_136 (cM_safeIn  hc5) rfl (Nat.le_of_ble_eq_true rfl) ⟨Nat.le_of_ble_eq_true rfl, Nat.le_of_ble_eq_true rfl⟩ ⟨Nat.zero_le _, Nat.zero_le _⟩ (by decide) (by decide) rfl rfl eM_safe_27 ?_
      refine v_istore_n X (pc := 30) (lv' := [(3, _), (0, _), (1, _), (2, _)]) eM_safe_30 rfl (Nat.le_of_ble_eq_true rfl) rfl ?_
      refine v_iload_n X (pc := 31) 0 rfl eM_safe_31 rfl ?_
      refine v_if_ge X (pc := 32) (tgt := 44) h eM_safe_32 (by decide) (fun h => ?_) (fun h => ?_)
      · refine v_aload_n X (pc := 35) 1 rfl eM_safe_35 rfl ?_
        refine v_ldc X (pc := 36) qw_790 eM_safe_36 ?_
        obtain ⟨r6, m6, hc6, h⟩ := bd_some h
        refine v_callV X (pc := 38) [_] [] ok_V_M_57 (cM_finds  hc6) rfl (Nat.le_of_ble_eq_true rfl) ⟨Nat.le_of_ble_eq_true rfl, Nat.le_of_ble_eq_true rfl⟩ ⟨Nat.zero_le _, Nat.zero_le _⟩ (by decide) (by decide) rfl rfl eM_safe_38 ?_
        refine v_goto X (pc := 41) (tgt := 45) eM_safe_41 (by decide) ?_
        exact v_iret X (pc := 45) h hr eM_safe_45
      · refine v_iload_n X (pc := 44) 0 rfl eM_safe_44 rfl ?_
        exact v_iret X (pc := 45) h hr eM_safe_45
set_option maxHeartbeats 4000000 in
set_option maxRecDepth 100000 in
theorem cM_where_59 {p : Program} {l : Launch} {e : Env} {s : State} {m : MethodId} {args : Array Value} {below : List Frame} {meth : Method} {c : Code} {k : KK} {f : Nat} {o : Int32} {mem' : Mem} (X : CX p s m args meth c k prog_6_method_43_code 6 "WallShiftsModel") (hr : meth.sig.returnType = (Option.some Jvm.ClassFile.FieldType.int)) {k26 : Int32 → Int32 → Int32 → Int32 → Mem → Option (Int32 × Mem)} (hk26 : ∀ (x1 : Int32) (x2 : Int32) (x3 : Int32) (x4 : Int32) (mem : Mem), k26 x1 x2 x3 x4 mem = some (o, mem') → V p l e (rmM 4 97) s m args below meth c 0 0 (MQ below (RQc k (some (aI o)) mem') args s 0 0 (kA k)) k 6 mem 26 [(0, aR 12 0), (1, aI x1), (2, aI x2), (3, aI x3), (4, aI x4)] []) : ∀ (x1 : Int32) (x3 : Int32) (x4 : Int32) (x5 : Int32) (s0 : Int32) (mem : Mem), dM_where_59 f k26 x1 x3 x4 x5 s0 mem = some (o, mem') → V p l e (rmM 4 97) s m args below meth c 0 0 (MQ below (RQc k (some (aI o)) mem') args s 0 0 (kA k)) k 6 mem 59 [(0, aR 12 0), (1, aI x1), (3, aI x3), (4, aI x4), (5, aI x5)] [aI s0] := by
  intro x1 x3 x4 x5 s0 mem  h
  unfold dM_where_59 at h
  refine v_istore_n X (pc := 59) (lv' := [(2, _), (0, _), (1, _), (3, _), (4, _), (5, _)]) eM_where_59 rfl (Nat.le_of_ble_eq_true rfl) rfl ?_
  refine v_iload_n X (pc := 60) 0 rfl eM_where_60 rfl ?_
  refine v_iload X (pc := 61) 4 rfl eM_where_61 ?_
  refine v_icmp_ne X (pc := 63) (tgt := 71) h eM_where_63 (by decide) (fun h => ?_) (fun h => ?_)
  · refine v_iload X (pc := 66) 5 rfl eM_where_66 ?_
    refine v_goto X (pc := 68) (tgt := 72) eM_where_68 (by decide) ?_
    refine v_istore_n X (pc := 72) (lv' := [(3, _), (2, _), (0, _), (1, _), (4, _), (5, _)]) eM_where_72 rfl (Nat.le_of_ble_eq_true rfl) rfl ?_
    refine v_iinc X (pc := 73) (v := (x4 + (1 : Int32))) (lv' := [(4, _), (3, _), (2, _), (0, _), (1, _), (5, _)]) 4 rfl (by rfl) eM_where_73 (Nat.le_of_ble_eq_true rfl) rfl ?_
    refine v_goto X (pc := 76) (tgt := 26) eM_where_76 (by decide) ?_
    exact v_sub [3, 4, 2, 1, 0] rfl (hk26 _ _ _ _ _  h)
  · refine v_iload_n X (pc := 71) 3 rfl eM_where_71 rfl ?_
    refine v_istore_n X (pc := 72) (lv' := [(3, _), (2, _), (0, _), (1, _), (4, _), (5, _)]) eM_where_72 rfl (Nat.le_of_ble_eq_true rfl) rfl ?_
    refine v_iinc X (pc := 73) (v := (x4 + (1 : Int32))) (lv' := [(4, _), (3, _), (2, _), (0, _), (1, _), (5, _)]) 4 rfl (by rfl) eM_where_73 (Nat.le_of_ble_eq_true rfl) rfl ?_
    refine v_goto X (pc := 76) (tgt := 26) eM_where_76 (by decide) ?_
    exact v_sub [3, 4, 2, 1, 0] rfl (hk26 _ _ _ _ _  h)
set_option maxHeartbeats 4000000 in
set_option maxRecDepth 100000 in
theorem cM_where_26 {p : Program} {l : Launch} {e : Env} {s : State} {m : MethodId} {args : Array Value} {below : List Frame} {meth : Method} {c : Code} {k : KK} {f : Nat} {o : Int32} {mem' : Mem} (X : CX p s m args meth c k prog_6_method_43_code 6 "WallShiftsModel") (hr : meth.sig.returnType = (Option.some Jvm.ClassFile.FieldType.int)) : ∀ (n : Nat) (x1 : Int32) (x2 : Int32) (x3 : Int32) (x4 : Int32) (mem : Mem), dM_where_26 f n x1 x2 x3 x4 mem = some (o, mem') → V p l e (rmM 4 97) s m args below meth c 0 0 (MQ below (RQc k (some (aI o)) mem') args s 0 0 (kA k)) k 6 mem 26 [(0, aR 12 0), (1, aI x1), (2, aI x2), (3, aI x3), (4, aI x4)] [] := by
  intro n
  induction n with
  | zero =>
    intro x1 x2 x3 x4 mem  h
    exact nomatch (show (none : Option (Int32 × Mem)) = some _ from h)
  | succ n ih =>
    intro x1 x2 x3 x4 mem  h
    rw [dM_where_26] at h
    refine v_iload X (pc := 26) 4 rfl eM_where_26 ?_
    refine v_bipush X (pc := 28) (v := (10 : Int32)) eM_where_28 (by decide) ?_
    refine v_icmp_ge X (pc := 30) (tgt := 79) h eM_where_30 (by decide) (fun h => ?_) (fun h => ?_)
    · refine v_aload_n X (pc := 33) 0 rfl eM_where_33 rfl ?_
      refine v_iload X (pc := 34) 4 rfl eM_where_34 ?_
      refine v_iload_n X (pc := 36) 1 rfl eM_where_36 rfl ?_
      obtain ⟨r1, m1, hc1, h⟩ := bd_some h
      refine v_callV X (pc := 37) [_, _] [] ok_V_M_136 (cM_safeIn  hc1) rfl (Nat.le_of_ble_eq_true rfl) ⟨Nat.le_of_ble_eq_true rfl, Nat.le_of_ble_eq_true rfl⟩ ⟨Nat.zero_le _, Nat.zero_le _⟩ (by decide) (by decide) rfl rfl eM_where_37 ?_
      refine v_istore X (pc := 40) (lv' := [(5, _), (0, _), (1, _), (2, _), (3, _), (4, _)]) eM_where_40 (Nat.le_of_ble_eq_true rfl) rfl ?_
      refine v_iload X (pc := 42) 0 rfl eM_where_42 ?_
      refine v_if_lt X (pc := 44) (tgt := 58) h eM_where_44 (by decide) (fun h => ?_) (fun h => ?_)
      · refine v_iload_n X (pc := 58) 3 rfl eM_where_58 rfl ?_
        exact v_sub [1, 2, 4, 5, 0] rfl (cM_where_59 X hr ih _ _ _ _ _ _  h)
      · refine v_iload X (pc := 47) 0 rfl eM_where_47 ?_
        refine v_iload_n X (pc := 49) 4 rfl eM_where_49 rfl ?_
        refine v_icmp_ge X (pc := 50) (tgt := 58) h eM_where_50 (by decide) (fun h => ?_) (fun h => ?_)
        · refine v_iload X (pc := 53) 5 rfl eM_where_53 ?_
          refine v_goto X (pc := 55) (tgt := 59) eM_where_55 (by decide) ?_
          exact v_sub [1, 2, 4, 5, 0] rfl (cM_where_59 X hr ih _ _ _ _ _ _  h)
        · refine v_iload_n X (pc := 58) 3 rfl eM_where_58 rfl ?_
          exact v_sub [1, 2, 4, 5, 0] rfl (cM_where_59 X hr ih _ _ _ _ _ _  h)
    · refine v_iload_n X (pc := 79) 2 rfl eM_where_79 rfl ?_
      refine v_if_ge X (pc := 80) (tgt := 92) h eM_where_80 (by decide) (fun h => ?_) (fun h => ?_)
      · refine v_aload_n X (pc := 83) 0 rfl eM_where_83 rfl ?_
        refine v_ldc X (pc := 84) qw_790 eM_where_84 ?_
        obtain ⟨r2, m2, hc2, h⟩ := bd_some h
        refine v_callV X (pc := 86) [_] [] ok_V_M_57 (cM_finds  hc2) rfl (Nat.le_of_ble_eq_true rfl) ⟨Nat.le_of_ble_eq_true rfl, Nat.le_of_ble_eq_true rfl⟩ ⟨Nat.zero_le _, Nat.zero_le _⟩ (by decide) (by decide) rfl rfl eM_where_86 ?_
        refine v_goto X (pc := 89) (tgt := 93) eM_where_89 (by decide) ?_
        exact v_iret X (pc := 93) h hr eM_where_93
      · refine v_iload_n X (pc := 92) 2 rfl eM_where_92 rfl ?_
        exact v_iret X (pc := 93) h hr eM_where_93
set_option maxHeartbeats 4000000 in
set_option maxRecDepth 100000 in
theorem cM_where {f : Nat} {a1 : Int32} {mem : Mem} {o : Int32} {mem' : Mem}  (h : dM_where f a1 mem = some (o, mem')) : RT yM_where prog_6_method_43_code 6 (Option.some Jvm.ClassFile.FieldType.int) (rmM 4 97) [aR 12 0, aI a1] mem (some (aI o)) mem' := by
  refine RT.of (by decide +kernel) (Nat.le_of_ble_eq_true rfl) (fun p l e s m args below meth c k X hr => ?_)
  replace X : CX p s m args meth c k prog_6_method_43_code 6 "WallShiftsModel" := X
  unfold dM_where at h
  refine v_sub (lv' := [(0, _), (1, _)]) [0, 1] rfl ?_
  refine v_iload_n X (pc := 0) 1 rfl eM_where_0 rfl ?_
  refine v_iconst X (pc := 1) (v := (1 : Int32)) eM_where_1 (by decide) ?_
  refine v_bipush X (pc := 2) (v := (30 : Int32)) eM_where_2 (by decide) ?_
  obtain ⟨r1, m1, hc1, h⟩ := bd_some h
  refine v_callS X (pc := 4) [_, _, _] [] ok_S_M_42 (cM_in  hc1) rfl (Nat.le_of_ble_eq_true rfl) ⟨Nat.le_of_ble_eq_true rfl, Nat.le_of_ble_eq_true rfl⟩ ⟨Nat.zero_le _, Nat.zero_le _⟩ eM_where_4 ?_
  refine v_if_ne X (pc := 7) (tgt := 17) h eM_where_7 (by decide) (fun h => ?_) (fun h => ?_)
  · refine v_aload_n X (pc := 10) 0 rfl eM_where_10 rfl ?_
    refine v_ldc X (pc := 11) qw_717 eM_where_11 ?_
    obtain ⟨r2, m2, hc2, h⟩ := bd_some h
    refine v_callV X (pc := 13) [_] [] ok_V_M_57 (cM_finds  hc2) rfl (Nat.le_of_ble_eq_true rfl) ⟨Nat.le_of_ble_eq_true rfl, Nat.le_of_ble_eq_true rfl⟩ ⟨Nat.zero_le _, Nat.zero_le _⟩ (by decide) (by decide) rfl rfl eM_where_13 ?_
    exact v_iret X (pc := 16) h hr eM_where_16
  · refine v_iconst X (pc := 17) (v := (-1 : Int32)) eM_where_17 (by decide) ?_
    refine v_istore_n X (pc := 18) (lv' := [(2, _), (0, _), (1, _)]) eM_where_18 rfl (Nat.le_of_ble_eq_true rfl) rfl ?_
    refine v_sipush X (pc := 19) (v := (241 : Int32)) eM_where_19 (by decide) ?_
    refine v_istore_n X (pc := 22) (lv' := [(3, _), (2, _), (0, _), (1, _)]) eM_where_22 rfl (Nat.le_of_ble_eq_true rfl) rfl ?_
    refine v_iconst X (pc := 23) (v := (0 : Int32)) eM_where_23 (by decide) ?_
    refine v_istore X (pc := 24) (lv' := [(4, _), (3, _), (2, _), (0, _), (1, _)]) eM_where_24 (Nat.le_of_ble_eq_true rfl) rfl ?_
    exact v_sub [3, 4, 2, 1, 0] rfl (cM_where_26 X hr _ _ _ _ _ _  h)
set_option maxHeartbeats 4000000 in
set_option maxRecDepth 100000 in
theorem cM_unheardIn_13 {p : Program} {l : Launch} {e : Env} {s : State} {m : MethodId} {args : Array Value} {below : List Frame} {meth : Method} {c : Code} {k : KK} {f : Nat} {o : Int32} {mem' : Mem} (X : CX p s m args meth c k prog_6_method_44_code 7 "WallShiftsModel") (hr : meth.sig.returnType = (Option.some Jvm.ClassFile.FieldType.int)) : ∀ (n : Nat) (x2 : Int32) (x3 : Int32) (x4 : Int32) (x5 : Int32) (x6 : Int32) (mem : Mem), dM_unheardIn_13 f n x2 x3 x4 x5 x6 mem = some (o, mem') → V p l e (rmM 3 72) s m args below meth c 0 0 (MQ below (RQc k (some (aI o)) mem') args s 0 0 (kA k)) k 7 mem 13 [(0, aR 12 0), (2, aI x2), (3, aI x3), (4, aI x4), (5, aI x5), (6, aI x6)] [] := by
  intro n
  induction n with
  | zero =>
    intro x2 x3 x4 x5 x6 mem  h
    exact nomatch (show (none : Option (Int32 × Mem)) = some _ from h)
  | succ n ih =>
    intro x2 x3 x4 x5 x6 mem  h
    rw [dM_unheardIn_13] at h
    refine v_iload X (pc := 13) 5 rfl eM_unheardIn_13 ?_
    refine v_iload_n X (pc := 15) 1 rfl eM_unheardIn_15 rfl ?_
    refine v_icmp_ge X (pc := 16) (tgt := 54) h eM_unheardIn_16 (by decide) (fun h => ?_) (fun h => ?_)
    · refine v_iload X (pc := 19) 4 rfl eM_unheardIn_19 ?_
      refine v_aload_n X (pc := 21) 0 rfl eM_unheardIn_21 rfl ?_
      refine v_iload X (pc := 22) 3 rfl eM_unheardIn_22 ?_
      refine v_aload_n X (pc := 24) 0 rfl eM_unheardIn_24 rfl ?_
      refine v_get X (pc := 25) 0 (a := aR 13 0) (by decide) (by decide) rfl rfl rfl in_Model (by decide) qw_648 rfl eM_unheardIn_25 ?_
      refine v_iconst X (pc := 28) (v := (0 : Int32)) eM_unheardIn_28 (by decide) ?_
      refine v_ialdK X (pc := 29) (n := 66) 0 (by decide) (by decide) (by decide) (by decide) rfl eM_unheardIn_29 ?_
      refine v_iload X (pc := 30) 5 rfl eM_unheardIn_30 ?_
      refine v_iadd X (pc := 32) eM_unheardIn_32 ?_
      refine v_iload_n X (pc := 33) 2 rfl eM_unheardIn_33 rfl ?_
      obtain ⟨r1, m1, hc1, h⟩ := bd_some h
      refine v_callV X (pc := 34) [_, _, _] [_] ok_V_M_133 (cM_isUnheard  hc1) rfl (Nat.le_of_ble_eq_true rfl) ⟨Nat.le_of_ble_eq_true rfl, Nat.le_of_ble_eq_true rfl⟩ ⟨Nat.zero_le _, Nat.zero_le _⟩ (by decide) (by decide) rfl rfl eM_unheardIn_34 ?_
      refine v_if_eq X (pc := 37) (tgt := 44) h eM_unheardIn_37 (by decide) (fun h => ?_) (fun h => ?_)
      · refine v_iconst X (pc := 44) (v := (0 : Int32)) eM_unheardIn_44 (by decide) ?_
        refine v_iadd X (pc := 45) eM_unheardIn_45 ?_
        refine v_istore X (pc := 46) (lv' := [(5, _), (0, _), (2, _), (3, _), (4, _), (6, _)]) eM_unheardIn_46 (Nat.le_of_ble_eq_true rfl) rfl ?_
        refine v_iinc X (pc := 48) (v := (x6 + (1 : Int32))) (lv' := [(6, _), (5, _), (0, _), (2, _), (3, _), (4, _)]) 5 rfl (by rfl) eM_unheardIn_48 (Nat.le_of_ble_eq_true rfl) rfl ?_
        refine v_goto X (pc := 51) (tgt := 13) eM_unheardIn_51 (by decide) ?_
        exact v_sub [2, 3, 4, 5, 1, 0] rfl (ih _ _ _ _ _ _  h)
      · refine v_iconst X (pc := 40) (v := (1 : Int32)) eM_unheardIn_40 (by decide) ?_
        refine v_goto X (pc := 41) (tgt := 45) eM_unheardIn_41 (by decide) ?_
        refine v_iadd X (pc := 45) eM_unheardIn_45 ?_
        refine v_istore X (pc := 46) (lv' := [(5, _), (0, _), (2, _), (3, _), (4, _), (6, _)]) eM_unheardIn_46 (Nat.le_of_ble_eq_true rfl) rfl ?_
        refine v_iinc X (pc := 48) (v := (x6 + (1 : Int32))) (lv' := [(6, _), (5, _), (0, _), (2, _), (3, _), (4, _)]) 5 rfl (by rfl) eM_unheardIn_48 (Nat.le_of_ble_eq_true rfl) rfl ?_
        refine v_goto X (pc := 51) (tgt := 13) eM_unheardIn_51 (by decide) ?_
        exact v_sub [2, 3, 4, 5, 1, 0] rfl (ih _ _ _ _ _ _  h)
    · refine v_iload X (pc := 54) 4 rfl eM_unheardIn_54 ?_
      exact v_iret X (pc := 56) h hr eM_unheardIn_56
set_option maxHeartbeats 4000000 in
set_option maxRecDepth 100000 in
theorem cM_unheardIn {f : Nat} {a1 : Int32} {a2 : Int32} {a3 : Int32} {mem : Mem} {o : Int32} {mem' : Mem}  (h : dM_unheardIn f a1 a2 a3 mem = some (o, mem')) : RT yM_unheardIn prog_6_method_44_code 7 (Option.some Jvm.ClassFile.FieldType.int) (rmM 3 72) [aR 12 0, aI a1, aI a2, aI a3] mem (some (aI o)) mem' := by
  refine RT.of (by decide +kernel) (Nat.le_of_ble_eq_true rfl) (fun p l e s m args below meth c k X hr => ?_)
  replace X : CX p s m args meth c k prog_6_method_44_code 7 "WallShiftsModel" := X
  unfold dM_unheardIn at h
  refine v_sub (lv' := [(0, _), (1, _), (2, _), (3, _)]) [0, 1, 2, 3] rfl ?_
  refine v_aload_n X (pc := 0) 0 rfl eM_unheardIn_0 rfl ?_
  refine v_iload_n X (pc := 1) 1 rfl eM_unheardIn_1 rfl ?_
  obtain ⟨r1, m1, hc1, h⟩ := bd_some h
  refine v_callV X (pc := 2) [_] [] ok_V_M_98 (cM_reachOf  hc1) rfl (Nat.le_of_ble_eq_true rfl) ⟨Nat.le_of_ble_eq_true rfl, Nat.le_of_ble_eq_true rfl⟩ ⟨Nat.zero_le _, Nat.zero_le _⟩ (by decide) (by decide) rfl rfl eM_unheardIn_2 ?_
  refine v_istore X (pc := 5) (lv' := [(4, _), (0, _), (1, _), (2, _), (3, _)]) eM_unheardIn_5 (Nat.le_of_ble_eq_true rfl) rfl ?_
  refine v_iconst X (pc := 7) (v := (0 : Int32)) eM_unheardIn_7 (by decide) ?_
  refine v_istore X (pc := 8) (lv' := [(5, _), (4, _), (0, _), (1, _), (2, _), (3, _)]) eM_unheardIn_8 (Nat.le_of_ble_eq_true rfl) rfl ?_
  refine v_iconst X (pc := 10) (v := (0 : Int32)) eM_unheardIn_10 (by decide) ?_
  refine v_istore X (pc := 11) (lv' := [(6, _), (5, _), (4, _), (0, _), (1, _), (2, _), (3, _)]) eM_unheardIn_11 (Nat.le_of_ble_eq_true rfl) rfl ?_
  exact v_sub [3, 5, 6, 2, 1, 0] rfl (cM_unheardIn_13 X hr _ _ _ _ _ _ _  h)
set_option maxHeartbeats 4000000 in
set_option maxRecDepth 100000 in
theorem cM_quiet {f : Nat} {a1 : Int32} {a2 : Int32} {mem : Mem} {o : Int32} {mem' : Mem}  (h : dM_quiet f a1 a2 mem = some (o, mem')) : RT yM_quiet prog_6_method_45_code 3 (Option.some Jvm.ClassFile.FieldType.int) (rmM 4 98) [aR 12 0, aI a1, aI a2] mem (some (aI o)) mem' := by
  refine RT.of (by decide +kernel) (Nat.le_of_ble_eq_true rfl) (fun p l e s m args below meth c k X hr => ?_)
  replace X : CX p s m args meth c k prog_6_method_45_code 3 "WallShiftsModel" := X
  unfold dM_quiet at h
  refine v_sub (lv' := [(0, _), (1, _), (2, _)]) [0, 1, 2] rfl ?_
  refine v_iload_n X (pc := 0) 1 rfl eM_quiet_0 rfl ?_
  obtain ⟨r1, m1, hc1, h⟩ := bd_some h
  refine v_callS X (pc := 1) [_] [] ok_S_M_69 (cM_isRoom  hc1) rfl (Nat.le_of_ble_eq_true rfl) ⟨Nat.le_of_ble_eq_true rfl, Nat.le_of_ble_eq_true rfl⟩ ⟨Nat.zero_le _, Nat.zero_le _⟩ eM_quiet_1 ?_
  refine v_if_eq X (pc := 4) (tgt := 30) h eM_quiet_4 (by decide) (fun h => ?_) (fun h => ?_)
  · refine v_aload_n X (pc := 30) 0 rfl eM_quiet_30 rfl ?_
    refine v_ldc X (pc := 31) qw_717 eM_quiet_31 ?_
    obtain ⟨r2, m2, hc2, h⟩ := bd_some h
    refine v_callV X (pc := 33) [_] [] ok_V_M_57 (cM_finds  hc2) rfl (Nat.le_of_ble_eq_true rfl) ⟨Nat.le_of_ble_eq_true rfl, Nat.le_of_ble_eq_true rfl⟩ ⟨Nat.zero_le _, Nat.zero_le _⟩ (by decide) (by decide) rfl rfl eM_quiet_33 ?_
    exact v_iret X (pc := 36) h hr eM_quiet_36
  · refine v_iload_n X (pc := 7) 2 rfl eM_quiet_7 rfl ?_
    refine v_iconst X (pc := 8) (v := (1 : Int32)) eM_quiet_8 (by decide) ?_
    refine v_sipush X (pc := 9) (v := (240 : Int32)) eM_quiet_9 (by decide) ?_
    obtain ⟨r3, m3, hc3, h⟩ := bd_some h
    refine v_callS X (pc := 12) [_, _, _] [] ok_S_M_42 (cM_in  hc3) rfl (Nat.le_of_ble_eq_true rfl) ⟨Nat.le_of_ble_eq_true rfl, Nat.le_of_ble_eq_true rfl⟩ ⟨Nat.zero_le _, Nat.zero_le _⟩ eM_quiet_12 ?_
    refine v_if_eq X (pc := 15) (tgt := 30) h eM_quiet_15 (by decide) (fun h => ?_) (fun h => ?_)
    · refine v_aload_n X (pc := 30) 0 rfl eM_quiet_30 rfl ?_
      refine v_ldc X (pc := 31) qw_717 eM_quiet_31 ?_
      obtain ⟨r4, m4, hc4, h⟩ := bd_some h
      refine v_callV X (pc := 33) [_] [] ok_V_M_57 (cM_finds  hc4) rfl (Nat.le_of_ble_eq_true rfl) ⟨Nat.le_of_ble_eq_true rfl, Nat.le_of_ble_eq_true rfl⟩ ⟨Nat.zero_le _, Nat.zero_le _⟩ (by decide) (by decide) rfl rfl eM_quiet_33 ?_
      exact v_iret X (pc := 36) h hr eM_quiet_36
    · refine v_aload_n X (pc := 18) 0 rfl eM_quiet_18 rfl ?_
      refine v_iload_n X (pc := 19) 1 rfl eM_quiet_19 rfl ?_
      refine v_iload_n X (pc := 20) 2 rfl eM_quiet_20 rfl ?_
      refine v_sipush X (pc := 21) (v := (1023 : Int32)) eM_quiet_21 (by decide) ?_
      obtain ⟨r5, m5, hc5, h⟩ := bd_some h
      refine v_callV X (pc := 24) [_, _, _] [] ok_V_M_139 (cM_unheardIn  hc5) rfl (Nat.le_of_ble_eq_true rfl) ⟨Nat.le_of_ble_eq_true rfl, Nat.le_of_ble_eq_true rfl⟩ ⟨Nat.zero_le _, Nat.zero_le _⟩ (by decide) (by decide) rfl rfl eM_quiet_24 ?_
      refine v_goto X (pc := 27) (tgt := 36) eM_quiet_27 (by decide) ?_
      exact v_iret X (pc := 36) h hr eM_quiet_36
set_option maxHeartbeats 4000000 in
set_option maxRecDepth 100000 in
theorem cM_worst_81 {p : Program} {l : Launch} {e : Env} {s : State} {m : MethodId} {args : Array Value} {below : List Frame} {meth : Method} {c : Code} {k : KK} {f : Nat} {o : Int32} {mem' : Mem} (X : CX p s m args meth c k prog_6_method_46_code 7 "WallShiftsModel") (hr : meth.sig.returnType = (Option.some Jvm.ClassFile.FieldType.int)) {k41 : Int32 → Int32 → Int32 → Int32 → Int32 → Mem → Option (Int32 × Mem)} (hk41 : ∀ (x1 : Int32) (x2 : Int32) (x3 : Int32) (x4 : Int32) (x5 : Int32) (mem : Mem), k41 x1 x2 x3 x4 x5 mem = some (o, mem') → V p l e (rmM 4 98) s m args below meth c 0 0 (MQ below (RQc k (some (aI o)) mem') args s 0 0 (kA k)) k 7 mem 41 [(0, aR 12 0), (1, aI x1), (2, aI x2), (3, aI x3), (4, aI x4), (5, aI x5)] []) : ∀ (x1 : Int32) (x2 : Int32) (x3 : Int32) (x5 : Int32) (x6 : Int32) (s0 : Int32) (mem : Mem), dM_worst_81 f k41 x1 x2 x3 x5 x6 s0 mem = some (o, mem') → V p l e (rmM 4 98) s m args below meth c 0 0 (MQ below (RQc k (some (aI o)) mem') args s 0 0 (kA k)) k 7 mem 81 [(0, aR 12 0), (1, aI x1), (2, aI x2), (3, aI x3), (5, aI x5), (6, aI x6)] [aI s0] := by
  intro x1 x2 x3 x5 x6 s0 mem  h
  unfold dM_worst_81 at h
  refine v_istore X (pc := 81) (lv' := [(4, _), (0, _), (1, _), (2, _), (3, _), (5, _), (6, _)]) eM_worst_81 (Nat.le_of_ble_eq_true rfl) rfl ?_
  refine v_iload X (pc := 83) 6 rfl eM_worst_83 ?_
  refine v_iload_n X (pc := 85) 4 rfl eM_worst_85 rfl ?_
  refine v_icmp_le X (pc := 86) (tgt := 94) h eM_worst_86 (by decide) (fun h => ?_) (fun h => ?_)
  · refine v_iload X (pc := 89) 6 rfl eM_worst_89 ?_
    refine v_goto X (pc := 91) (tgt := 95) eM_worst_91 (by decide) ?_
    refine v_istore_n X (pc := 95) (lv' := [(3, _), (4, _), (0, _), (1, _), (2, _), (5, _), (6, _)]) eM_worst_95 rfl (Nat.le_of_ble_eq_true rfl) rfl ?_
    refine v_iinc X (pc := 96) (v := (x5 + (1 : Int32))) (lv' := [(5, _), (3, _), (4, _), (0, _), (1, _), (2, _), (6, _)]) 5 rfl (by rfl) eM_worst_96 (Nat.le_of_ble_eq_true rfl) rfl ?_
    refine v_goto X (pc := 99) (tgt := 41) eM_worst_99 (by decide) ?_
    exact v_sub [3, 4, 5, 1, 2, 0] rfl (hk41 _ _ _ _ _ _  h)
  · refine v_iload_n X (pc := 94) 4 rfl eM_worst_94 rfl ?_
    refine v_istore_n X (pc := 95) (lv' := [(3, _), (4, _), (0, _), (1, _), (2, _), (5, _), (6, _)]) eM_worst_95 rfl (Nat.le_of_ble_eq_true rfl) rfl ?_
    refine v_iinc X (pc := 96) (v := (x5 + (1 : Int32))) (lv' := [(5, _), (3, _), (4, _), (0, _), (1, _), (2, _), (6, _)]) 5 rfl (by rfl) eM_worst_96 (Nat.le_of_ble_eq_true rfl) rfl ?_
    refine v_goto X (pc := 99) (tgt := 41) eM_worst_99 (by decide) ?_
    exact v_sub [3, 4, 5, 1, 2, 0] rfl (hk41 _ _ _ _ _ _  h)
set_option maxHeartbeats 4000000 in
set_option maxRecDepth 100000 in
theorem cM_worst_41 {p : Program} {l : Launch} {e : Env} {s : State} {m : MethodId} {args : Array Value} {below : List Frame} {meth : Method} {c : Code} {k : KK} {f : Nat} {o : Int32} {mem' : Mem} (X : CX p s m args meth c k prog_6_method_46_code 7 "WallShiftsModel") (hr : meth.sig.returnType = (Option.some Jvm.ClassFile.FieldType.int)) : ∀ (n : Nat) (x1 : Int32) (x2 : Int32) (x3 : Int32) (x4 : Int32) (x5 : Int32) (mem : Mem), dM_worst_41 f n x1 x2 x3 x4 x5 mem = some (o, mem') → V p l e (rmM 4 98) s m args below meth c 0 0 (MQ below (RQc k (some (aI o)) mem') args s 0 0 (kA k)) k 7 mem 41 [(0, aR 12 0), (1, aI x1), (2, aI x2), (3, aI x3), (4, aI x4), (5, aI x5)] [] := by
  intro n
  induction n with
  | zero =>
    intro x1 x2 x3 x4 x5 mem  h
    exact nomatch (show (none : Option (Int32 × Mem)) = some _ from h)
  | succ n ih =>
    intro x1 x2 x3 x4 x5 mem  h
    rw [dM_worst_41] at h
    refine v_iload X (pc := 41) 5 rfl eM_worst_41 ?_
    refine v_aload_n X (pc := 43) 0 rfl eM_worst_43 rfl ?_
    refine v_get X (pc := 44) 0 (a := aR 13 0) (by decide) (by decide) rfl rfl rfl in_Model (by decide) qw_648 rfl eM_worst_44 ?_
    refine v_iconst X (pc := 47) (v := (5 : Int32)) eM_worst_47 (by decide) ?_
    refine v_ialdK X (pc := 48) (n := 66) 5 (by decide) (by decide) (by decide) (by decide) rfl eM_worst_48 ?_
    refine v_icmp_ge X (pc := 49) (tgt := 102) h eM_worst_49 (by decide) (fun h => ?_) (fun h => ?_)
    · refine v_aload_n X (pc := 52) 0 rfl eM_worst_52 rfl ?_
      refine v_iload_n X (pc := 53) 1 rfl eM_worst_53 rfl ?_
      refine v_iload_n X (pc := 54) 2 rfl eM_worst_54 rfl ?_
      refine v_sipush X (pc := 55) (v := (1023 : Int32)) eM_worst_55 (by decide) ?_
      refine v_iconst X (pc := 58) (v := (1 : Int32)) eM_worst_58 (by decide) ?_
      refine v_iload X (pc := 59) 5 rfl eM_worst_59 ?_
      refine v_ishl X (pc := 61) eM_worst_61 ?_
      refine v_ixor X (pc := 62) eM_worst_62 ?_
      obtain ⟨r1, m1, hc1, h⟩ := bd_some h
      refine v_callV X (pc := 63) [_, _, _] [] ok_V_M_139 (cM_unheardIn  hc1) rfl (Nat.le_of_ble_eq_true rfl) ⟨Nat.le_of_ble_eq_true rfl, Nat.le_of_ble_eq_true rfl⟩ ⟨Nat.zero_le _, Nat.zero_le _⟩ (by decide) (by decide) rfl rfl eM_worst_63 ?_
      refine v_istore X (pc := 66) (lv' := [(6, _), (0, _), (1, _), (2, _), (3, _), (4, _), (5, _)]) eM_worst_66 (Nat.le_of_ble_eq_true rfl) rfl ?_
      refine v_iload X (pc := 68) 0 rfl eM_worst_68 ?_
      refine v_iload_n X (pc := 70) 4 rfl eM_worst_70 rfl ?_
      refine v_icmp_le X (pc := 71) (tgt := 79) h eM_worst_71 (by decide) (fun h => ?_) (fun h => ?_)
      · refine v_iload X (pc := 74) 6 rfl eM_worst_74 ?_
        refine v_goto X (pc := 76) (tgt := 81) eM_worst_76 (by decide) ?_
        exact v_sub [1, 2, 3, 4, 6, 0] rfl (cM_worst_81 X hr ih _ _ _ _ _ _ _  h)
      · refine v_iload X (pc := 79) 5 rfl eM_worst_79 ?_
        exact v_sub [1, 2, 3, 4, 6, 0] rfl (cM_worst_81 X hr ih _ _ _ _ _ _ _  h)
    · refine v_iload X (pc := 102) 4 rfl eM_worst_102 ?_
      refine v_if_ge X (pc := 104) (tgt := 116) h eM_worst_104 (by decide) (fun h => ?_) (fun h => ?_)
      · refine v_aload_n X (pc := 107) 0 rfl eM_worst_107 rfl ?_
        refine v_ldc X (pc := 108) qw_790 eM_worst_108 ?_
        obtain ⟨r2, m2, hc2, h⟩ := bd_some h
        refine v_callV X (pc := 110) [_] [] ok_V_M_57 (cM_finds  hc2) rfl (Nat.le_of_ble_eq_true rfl) ⟨Nat.le_of_ble_eq_true rfl, Nat.le_of_ble_eq_true rfl⟩ ⟨Nat.zero_le _, Nat.zero_le _⟩ (by decide) (by decide) rfl rfl eM_worst_110 ?_
        refine v_goto X (pc := 113) (tgt := 118) eM_worst_113 (by decide) ?_
        exact v_iret X (pc := 118) h hr eM_worst_118
      · refine v_iload X (pc := 116) 4 rfl eM_worst_116 ?_
        exact v_iret X (pc := 118) h hr eM_worst_118
set_option maxHeartbeats 4000000 in
set_option maxRecDepth 100000 in
theorem cM_worst {f : Nat} {a1 : Int32} {a2 : Int32} {mem : Mem} {o : Int32} {mem' : Mem}  (h : dM_worst f a1 a2 mem = some (o, mem')) : RT yM_worst prog_6_method_46_code 7 (Option.some Jvm.ClassFile.FieldType.int) (rmM 4 98) [aR 12 0, aI a1, aI a2] mem (some (aI o)) mem' := by
  refine RT.of (by decide +kernel) (Nat.le_of_ble_eq_true rfl) (fun p l e s m args below meth c k X hr => ?_)
  replace X : CX p s m args meth c k prog_6_method_46_code 7 "WallShiftsModel" := X
  unfold dM_worst at h
  refine v_sub (lv' := [(0, _), (1, _), (2, _)]) [0, 1, 2] rfl ?_
  refine v_iload_n X (pc := 0) 1 rfl eM_worst_0 rfl ?_
  obtain ⟨r1, m1, hc1, h⟩ := bd_some h
  refine v_callS X (pc := 1) [_] [] ok_S_M_69 (cM_isRoom  hc1) rfl (Nat.le_of_ble_eq_true rfl) ⟨Nat.le_of_ble_eq_true rfl, Nat.le_of_ble_eq_true rfl⟩ ⟨Nat.zero_le _, Nat.zero_le _⟩ eM_worst_1 ?_
  refine v_if_eq X (pc := 4) (tgt := 18) h eM_worst_4 (by decide) (fun h => ?_) (fun h => ?_)
  · refine v_aload_n X (pc := 18) 0 rfl eM_worst_18 rfl ?_
    refine v_ldc X (pc := 19) qw_717 eM_worst_19 ?_
    obtain ⟨r2, m2, hc2, h⟩ := bd_some h
    refine v_callV X (pc := 21) [_] [] ok_V_M_57 (cM_finds  hc2) rfl (Nat.le_of_ble_eq_true rfl) ⟨Nat.le_of_ble_eq_true rfl, Nat.le_of_ble_eq_true rfl⟩ ⟨Nat.zero_le _, Nat.zero_le _⟩ (by decide) (by decide) rfl rfl eM_worst_21 ?_
    exact v_iret X (pc := 24) h hr eM_worst_24
  · refine v_iload_n X (pc := 7) 2 rfl eM_worst_7 rfl ?_
    refine v_iconst X (pc := 8) (v := (1 : Int32)) eM_worst_8 (by decide) ?_
    refine v_sipush X (pc := 9) (v := (240 : Int32)) eM_worst_9 (by decide) ?_
    obtain ⟨r3, m3, hc3, h⟩ := bd_some h
    refine v_callS X (pc := 12) [_, _, _] [] ok_S_M_42 (cM_in  hc3) rfl (Nat.le_of_ble_eq_true rfl) ⟨Nat.le_of_ble_eq_true rfl, Nat.le_of_ble_eq_true rfl⟩ ⟨Nat.zero_le _, Nat.zero_le _⟩ eM_worst_12 ?_
    refine v_if_ne X (pc := 15) (tgt := 25) h eM_worst_15 (by decide) (fun h => ?_) (fun h => ?_)
    · refine v_aload_n X (pc := 18) 0 rfl eM_worst_18 rfl ?_
      refine v_ldc X (pc := 19) qw_717 eM_worst_19 ?_
      obtain ⟨r4, m4, hc4, h⟩ := bd_some h
      refine v_callV X (pc := 21) [_] [] ok_V_M_57 (cM_finds  hc4) rfl (Nat.le_of_ble_eq_true rfl) ⟨Nat.le_of_ble_eq_true rfl, Nat.le_of_ble_eq_true rfl⟩ ⟨Nat.zero_le _, Nat.zero_le _⟩ (by decide) (by decide) rfl rfl eM_worst_21 ?_
      exact v_iret X (pc := 24) h hr eM_worst_24
    · refine v_aload_n X (pc := 25) 0 rfl eM_worst_25 rfl ?_
      refine v_iload_n X (pc := 26) 1 rfl eM_worst_26 rfl ?_
      refine v_iload_n X (pc := 27) 2 rfl eM_worst_27 rfl ?_
      refine v_sipush X (pc := 28) (v := (1023 : Int32)) eM_worst_28 (by decide) ?_
      obtain ⟨r5, m5, hc5, h⟩ := bd_some h
      refine v_callV X (pc := 31) [_, _, _] [] ok_V_M_139 (cM_unheardIn  hc5) rfl (Nat.le_of_ble_eq_true rfl) ⟨Nat.le_of_ble_eq_true rfl, Nat.le_of_ble_eq_true rfl⟩ ⟨Nat.zero_le _, Nat.zero_le _⟩ (by decide) (by decide) rfl rfl eM_worst_31 ?_
      refine v_istore_n X (pc := 34) (lv' := [(3, _), (0, _), (1, _), (2, _)]) eM_worst_34 rfl (Nat.le_of_ble_eq_true rfl) rfl ?_
      refine v_iconst X (pc := 35) (v := (-1 : Int32)) eM_worst_35 (by decide) ?_
      refine v_istore X (pc := 36) (lv' := [(4, _), (3, _), (0, _), (1, _), (2, _)]) eM_worst_36 (Nat.le_of_ble_eq_true rfl) rfl ?_
      refine v_iconst X (pc := 38) (v := (0 : Int32)) eM_worst_38 (by decide) ?_
      refine v_istore X (pc := 39) (lv' := [(5, _), (4, _), (3, _), (0, _), (1, _), (2, _)]) eM_worst_39 (Nat.le_of_ble_eq_true rfl) rfl ?_
      exact v_sub [3, 4, 5, 2, 1, 0] rfl (cM_worst_41 X hr _ _ _ _ _ _ _  h)
set_option maxHeartbeats 4000000 in
set_option maxRecDepth 100000 in
theorem cM_cover_58 {p : Program} {l : Launch} {e : Env} {s : State} {m : MethodId} {args : Array Value} {below : List Frame} {meth : Method} {c : Code} {k : KK} {f : Nat} {o : Int32} {mem' : Mem} (X : CX p s m args meth c k prog_6_method_47_code 5 "WallShiftsModel") (hr : meth.sig.returnType = (Option.some Jvm.ClassFile.FieldType.int)) {k29 : Int32 → Int32 → Int32 → Int32 → Mem → Option (Int32 × Mem)} (hk29 : ∀ (x1 : Int32) (x2 : Int32) (x3 : Int32) (x4 : Int32) (mem : Mem), k29 x1 x2 x3 x4 mem = some (o, mem') → V p l e (rmM 4 98) s m args below meth c 0 0 (MQ below (RQc k (some (aI o)) mem') args s 0 0 (kA k)) k 5 mem 29 [(0, aR 12 0), (1, aI x1), (2, aI x2), (3, aI x3), (4, aI x4)] []) : ∀ (x1 : Int32) (x2 : Int32) (x3 : Int32) (x4 : Int32) (mem : Mem), dM_cover_58 f k29 x1 x2 x3 x4 mem = some (o, mem') → V p l e (rmM 4 98) s m args below meth c 0 0 (MQ below (RQc k (some (aI o)) mem') args s 0 0 (kA k)) k 5 mem 58 [(0, aR 12 0), (1, aI x1), (2, aI x2), (3, aI x3), (4, aI x4)] [] := by
  intro x1 x2 x3 x4 mem  h
  unfold dM_cover_58 at h
  refine v_aload_n X (pc := 58) 0 rfl eM_cover_58 rfl ?_
  refine v_iload_n X (pc := 59) 1 rfl eM_cover_59 rfl ?_
  refine v_iload_n X (pc := 60) 2 rfl eM_cover_60 rfl ?_
  refine v_iload X (pc := 61) 4 rfl eM_cover_61 ?_
  obtain ⟨r1, m1, hc1, h⟩ := bd_some h
  refine v_callV X (pc := 63) [_, _, _] [] ok_V_M_139 (cM_unheardIn  hc1) rfl (Nat.le_of_ble_eq_true rfl) ⟨Nat.le_of_ble_eq_true rfl, Nat.le_of_ble_eq_true rfl⟩ ⟨Nat.zero_le _, Nat.zero_le _⟩ (by decide) (by decide) rfl rfl eM_cover_63 ?_
  refine v_if_ne X (pc := 66) (tgt := 74) h eM_cover_66 (by decide) (fun h => ?_) (fun h => ?_)
  · refine v_iload X (pc := 69) 4 rfl eM_cover_69 ?_
    refine v_goto X (pc := 71) (tgt := 75) eM_cover_71 (by decide) ?_
    refine v_istore_n X (pc := 75) (lv' := [(3, _), (0, _), (1, _), (2, _), (4, _)]) eM_cover_75 rfl (Nat.le_of_ble_eq_true rfl) rfl ?_
    refine v_iinc X (pc := 76) (v := (x4 + (1 : Int32))) (lv' := [(4, _), (3, _), (0, _), (1, _), (2, _)]) 4 rfl (by rfl) eM_cover_76 (Nat.le_of_ble_eq_true rfl) rfl ?_
    refine v_goto X (pc := 79) (tgt := 29) eM_cover_79 (by decide) ?_
    exact v_sub [2, 3, 4, 1, 0] rfl (hk29 _ _ _ _ _  h)
  · refine v_iload_n X (pc := 74) 3 rfl eM_cover_74 rfl ?_
    refine v_istore_n X (pc := 75) (lv' := [(3, _), (0, _), (1, _), (2, _), (4, _)]) eM_cover_75 rfl (Nat.le_of_ble_eq_true rfl) rfl ?_
    refine v_iinc X (pc := 76) (v := (x4 + (1 : Int32))) (lv' := [(4, _), (3, _), (0, _), (1, _), (2, _)]) 4 rfl (by rfl) eM_cover_76 (Nat.le_of_ble_eq_true rfl) rfl ?_
    refine v_goto X (pc := 79) (tgt := 29) eM_cover_79 (by decide) ?_
    exact v_sub [2, 3, 4, 1, 0] rfl (hk29 _ _ _ _ _  h)
set_option maxHeartbeats 4000000 in
set_option maxRecDepth 100000 in
theorem cM_cover_29 {p : Program} {l : Launch} {e : Env} {s : State} {m : MethodId} {args : Array Value} {below : List Frame} {meth : Method} {c : Code} {k : KK} {f : Nat} {o : Int32} {mem' : Mem} (X : CX p s m args meth c k prog_6_method_47_code 5 "WallShiftsModel") (hr : meth.sig.returnType = (Option.some Jvm.ClassFile.FieldType.int)) : ∀ (n : Nat) (x1 : Int32) (x2 : Int32) (x3 : Int32) (x4 : Int32) (mem : Mem), dM_cover_29 f n x1 x2 x3 x4 mem = some (o, mem') → V p l e (rmM 4 98) s m args below meth c 0 0 (MQ below (RQc k (some (aI o)) mem') args s 0 0 (kA k)) k 5 mem 29 [(0, aR 12 0), (1, aI x1), (2, aI x2), (3, aI x3), (4, aI x4)] [] := by
  intro n
  induction n with
  | zero =>
    intro x1 x2 x3 x4 mem  h
    exact nomatch (show (none : Option (Int32 × Mem)) = some _ from h)
  | succ n ih =>
    intro x1 x2 x3 x4 mem  h
    rw [dM_cover_29] at h
    refine v_iload X (pc := 29) 4 rfl eM_cover_29 ?_
    refine v_iconst X (pc := 31) (v := (1 : Int32)) eM_cover_31 (by decide) ?_
    refine v_aload_n X (pc := 32) 0 rfl eM_cover_32 rfl ?_
    refine v_get X (pc := 33) 0 (a := aR 13 0) (by decide) (by decide) rfl rfl rfl in_Model (by decide) qw_648 rfl eM_cover_33 ?_
    refine v_iconst X (pc := 36) (v := (5 : Int32)) eM_cover_36 (by decide) ?_
    refine v_ialdK X (pc := 37) (n := 66) 5 (by decide) (by decide) (by decide) (by decide) rfl eM_cover_37 ?_
    refine v_ishl X (pc := 38) eM_cover_38 ?_
    refine v_icmp_ge X (pc := 39) (tgt := 82) h eM_cover_39 (by decide) (fun h => ?_) (fun h => ?_)
    · refine v_iload_n X (pc := 42) 3 rfl eM_cover_42 rfl ?_
      refine v_if_lt X (pc := 43) (tgt := 58) h eM_cover_43 (by decide) (fun h => ?_) (fun h => ?_)
      · exact v_sub [0, 1, 2, 3, 4] rfl (cM_cover_58 X hr ih _ _ _ _ _  h)
      · refine v_iload X (pc := 46) 4 rfl eM_cover_46 ?_
        obtain ⟨r1, m1, hc1, h⟩ := bd_some h
        refine v_callS X (pc := 48) [_] [] ok_S_M_120 (cM_bits  hc1) rfl (Nat.le_of_ble_eq_true rfl) ⟨Nat.le_of_ble_eq_true rfl, Nat.le_of_ble_eq_true rfl⟩ ⟨Nat.zero_le _, Nat.zero_le _⟩ eM_cover_48 ?_
        refine v_iload_n X (pc := 51) 3 rfl eM_cover_51 rfl ?_
        obtain ⟨r2, m2, hc2, h⟩ := bd_some h
        refine v_callS X (pc := 52) [_] [_] ok_S_M_120 (cM_bits  hc2) rfl (Nat.le_of_ble_eq_true rfl) ⟨Nat.le_of_ble_eq_true rfl, Nat.le_of_ble_eq_true rfl⟩ ⟨Nat.zero_le _, Nat.zero_le _⟩ eM_cover_52 ?_
        refine v_icmp_ge X (pc := 55) (tgt := 76) h eM_cover_55 (by decide) (fun h => ?_) (fun h => ?_)
        · exact v_sub [0, 1, 2, 3, 4] rfl (cM_cover_58 X hr ih _ _ _ _ _  h)
        · refine v_iinc X (pc := 76) (v := (x4 + (1 : Int32))) (lv' := [(4, _), (0, _), (1, _), (2, _), (3, _)]) 4 rfl (by rfl) eM_cover_76 (Nat.le_of_ble_eq_true rfl) rfl ?_
          refine v_goto X (pc := 79) (tgt := 29) eM_cover_79 (by decide) ?_
          exact v_sub [1, 2, 3, 4, 0] rfl (ih _ _ _ _ _  h)
    · refine v_iload_n X (pc := 82) 3 rfl eM_cover_82 rfl ?_
      refine v_if_ge X (pc := 83) (tgt := 95) h eM_cover_83 (by decide) (fun h => ?_) (fun h => ?_)
      · refine v_aload_n X (pc := 86) 0 rfl eM_cover_86 rfl ?_
        refine v_ldc X (pc := 87) qw_790 eM_cover_87 ?_
        obtain ⟨r3, m3, hc3, h⟩ := bd_some h
        refine v_callV X (pc := 89) [_] [] ok_V_M_57 (cM_finds  hc3) rfl (Nat.le_of_ble_eq_true rfl) ⟨Nat.le_of_ble_eq_true rfl, Nat.le_of_ble_eq_true rfl⟩ ⟨Nat.zero_le _, Nat.zero_le _⟩ (by decide) (by decide) rfl rfl eM_cover_89 ?_
        refine v_goto X (pc := 92) (tgt := 96) eM_cover_92 (by decide) ?_
        exact v_iret X (pc := 96) h hr eM_cover_96
      · refine v_iload_n X (pc := 95) 3 rfl eM_cover_95 rfl ?_
        exact v_iret X (pc := 96) h hr eM_cover_96
set_option maxHeartbeats 4000000 in
set_option maxRecDepth 100000 in
theorem cM_cover {f : Nat} {a1 : Int32} {a2 : Int32} {mem : Mem} {o : Int32} {mem' : Mem}  (h : dM_cover f a1 a2 mem = some (o, mem')) : RT yM_cover prog_6_method_47_code 5 (Option.some Jvm.ClassFile.FieldType.int) (rmM 4 98) [aR 12 0, aI a1, aI a2] mem (some (aI o)) mem' := by
  refine RT.of (by decide +kernel) (Nat.le_of_ble_eq_true rfl) (fun p l e s m args below meth c k X hr => ?_)
  replace X : CX p s m args meth c k prog_6_method_47_code 5 "WallShiftsModel" := X
  unfold dM_cover at h
  refine v_sub (lv' := [(0, _), (1, _), (2, _)]) [0, 1, 2] rfl ?_
  refine v_iload_n X (pc := 0) 1 rfl eM_cover_0 rfl ?_
  obtain ⟨r1, m1, hc1, h⟩ := bd_some h
  refine v_callS X (pc := 1) [_] [] ok_S_M_69 (cM_isRoom  hc1) rfl (Nat.le_of_ble_eq_true rfl) ⟨Nat.le_of_ble_eq_true rfl, Nat.le_of_ble_eq_true rfl⟩ ⟨Nat.zero_le _, Nat.zero_le _⟩ eM_cover_1 ?_
  refine v_if_eq X (pc := 4) (tgt := 17) h eM_cover_4 (by decide) (fun h => ?_) (fun h => ?_)
  · refine v_aload_n X (pc := 17) 0 rfl eM_cover_17 rfl ?_
    refine v_ldc X (pc := 18) qw_717 eM_cover_18 ?_
    obtain ⟨r2, m2, hc2, h⟩ := bd_some h
    refine v_callV X (pc := 20) [_] [] ok_V_M_57 (cM_finds  hc2) rfl (Nat.le_of_ble_eq_true rfl) ⟨Nat.le_of_ble_eq_true rfl, Nat.le_of_ble_eq_true rfl⟩ ⟨Nat.zero_le _, Nat.zero_le _⟩ (by decide) (by decide) rfl rfl eM_cover_20 ?_
    exact v_iret X (pc := 23) h hr eM_cover_23
  · refine v_iload_n X (pc := 7) 2 rfl eM_cover_7 rfl ?_
    refine v_iconst X (pc := 8) (v := (1 : Int32)) eM_cover_8 (by decide) ?_
    refine v_bipush X (pc := 9) (v := (60 : Int32)) eM_cover_9 (by decide) ?_
    obtain ⟨r3, m3, hc3, h⟩ := bd_some h
    refine v_callS X (pc := 11) [_, _, _] [] ok_S_M_42 (cM_in  hc3) rfl (Nat.le_of_ble_eq_true rfl) ⟨Nat.le_of_ble_eq_true rfl, Nat.le_of_ble_eq_true rfl⟩ ⟨Nat.zero_le _, Nat.zero_le _⟩ eM_cover_11 ?_
    refine v_if_ne X (pc := 14) (tgt := 24) h eM_cover_14 (by decide) (fun h => ?_) (fun h => ?_)
    · refine v_aload_n X (pc := 17) 0 rfl eM_cover_17 rfl ?_
      refine v_ldc X (pc := 18) qw_717 eM_cover_18 ?_
      obtain ⟨r4, m4, hc4, h⟩ := bd_some h
      refine v_callV X (pc := 20) [_] [] ok_V_M_57 (cM_finds  hc4) rfl (Nat.le_of_ble_eq_true rfl) ⟨Nat.le_of_ble_eq_true rfl, Nat.le_of_ble_eq_true rfl⟩ ⟨Nat.zero_le _, Nat.zero_le _⟩ (by decide) (by decide) rfl rfl eM_cover_20 ?_
      exact v_iret X (pc := 23) h hr eM_cover_23
    · refine v_iconst X (pc := 24) (v := (-1 : Int32)) eM_cover_24 (by decide) ?_
      refine v_istore_n X (pc := 25) (lv' := [(3, _), (0, _), (1, _), (2, _)]) eM_cover_25 rfl (Nat.le_of_ble_eq_true rfl) rfl ?_
      refine v_iconst X (pc := 26) (v := (0 : Int32)) eM_cover_26 (by decide) ?_
      refine v_istore X (pc := 27) (lv' := [(4, _), (3, _), (0, _), (1, _), (2, _)]) eM_cover_27 (Nat.le_of_ble_eq_true rfl) rfl ?_
      exact v_sub [2, 3, 4, 1, 0] rfl (cM_cover_29 X hr _ _ _ _ _ _  h)
set_option maxHeartbeats 4000000 in
set_option maxRecDepth 100000 in
theorem cM_shift_82 {p : Program} {l : Launch} {e : Env} {s : State} {m : MethodId} {args : Array Value} {below : List Frame} {meth : Method} {c : Code} {k : KK} {f : Nat} {o : Int32} {mem' : Mem} (X : CX p s m args meth c k prog_6_method_48_code 8 "WallShiftsModel") (hr : meth.sig.returnType = (Option.some Jvm.ClassFile.FieldType.int)) {k42 : Int32 → Int32 → Int32 → Int32 → Int32 → Int32 → Mem → Option (Int32 × Mem)} (hk42 : ∀ (x1 : Int32) (x2 : Int32) (x3 : Int32) (x4 : Int32) (x5 : Int32) (x6 : Int32) (mem : Mem), k42 x1 x2 x3 x4 x5 x6 mem = some (o, mem') → V p l e (rmM 4 98) s m args below meth c 0 0 (MQ below (RQc k (some (aI o)) mem') args s 0 0 (kA k)) k 8 mem 42 [(0, aR 12 0), (1, aI x1), (2, aI x2), (3, aI x3), (4, aI x4), (5, aI x5), (6, aI x6)] []) : ∀ (x1 : Int32) (x2 : Int32) (x3 : Int32) (x5 : Int32) (x6 : Int32) (x7 : Int32) (s0 : Int32) (mem : Mem), dM_shift_82 f k42 x1 x2 x3 x5 x6 x7 s0 mem = some (o, mem') → V p l e (rmM 4 98) s m args below meth c 0 0 (MQ below (RQc k (some (aI o)) mem') args s 0 0 (kA k)) k 8 mem 82 [(0, aR 12 0), (1, aI x1), (2, aI x2), (3, aI x3), (5, aI x5), (6, aI x6), (7, aI x7)] [aI s0] := by
  intro x1 x2 x3 x5 x6 x7 s0 mem  h
  unfold dM_shift_82 at h
  refine v_istore X (pc := 82) (lv' := [(4, _), (0, _), (1, _), (2, _), (3, _), (5, _), (6, _), (7, _)]) eM_shift_82 (Nat.le_of_ble_eq_true rfl) rfl ?_
  refine v_iload X (pc := 84) 7 rfl eM_shift_84 ?_
  refine v_iload X (pc := 86) 5 rfl eM_shift_86 ?_
  refine v_icmp_ge X (pc := 88) (tgt := 96) h eM_shift_88 (by decide) (fun h => ?_) (fun h => ?_)
  · refine v_iload X (pc := 91) 7 rfl eM_shift_91 ?_
    refine v_goto X (pc := 93) (tgt := 98) eM_shift_93 (by decide) ?_
    refine v_istore X (pc := 98) (lv' := [(5, _), (4, _), (0, _), (1, _), (2, _), (3, _), (6, _), (7, _)]) eM_shift_98 (Nat.le_of_ble_eq_true rfl) rfl ?_
    refine v_iinc X (pc := 100) (v := (x6 + (1 : Int32))) (lv' := [(6, _), (5, _), (4, _), (0, _), (1, _), (2, _), (3, _), (7, _)]) 6 rfl (by rfl) eM_shift_100 (Nat.le_of_ble_eq_true rfl) rfl ?_
    refine v_goto X (pc := 103) (tgt := 42) eM_shift_103 (by decide) ?_
    exact v_sub [3, 4, 5, 6, 2, 1, 0] rfl (hk42 _ _ _ _ _ _ _  h)
  · refine v_iload X (pc := 96) 5 rfl eM_shift_96 ?_
    refine v_istore X (pc := 98) (lv' := [(5, _), (4, _), (0, _), (1, _), (2, _), (3, _), (6, _), (7, _)]) eM_shift_98 (Nat.le_of_ble_eq_true rfl) rfl ?_
    refine v_iinc X (pc := 100) (v := (x6 + (1 : Int32))) (lv' := [(6, _), (5, _), (4, _), (0, _), (1, _), (2, _), (3, _), (7, _)]) 6 rfl (by rfl) eM_shift_100 (Nat.le_of_ble_eq_true rfl) rfl ?_
    refine v_goto X (pc := 103) (tgt := 42) eM_shift_103 (by decide) ?_
    exact v_sub [3, 4, 5, 6, 2, 1, 0] rfl (hk42 _ _ _ _ _ _ _  h)
