/-! GENERATED: the walks. -/
set_option maxHeartbeats 4000000 in
set_option maxRecDepth 100000 in
theorem cW_where_35 {p : Program} {l : Launch} {e : Env} {s : State} {m : MethodId} {args : Array Value} {below : List Frame} {meth : Method} {c : Code} {k : KK} {f : Nat} {o : Int32} {mem' : Mem} (X : CX p s m args meth c k prog_1_method_17_code 6 "WallShifts") (hr : meth.sig.returnType = (Option.some Jvm.ClassFile.FieldType.int)) : ∀ (n : Nat) (x1 : Int32) (x2 : Int32) (x3 : Int32) (x4 : Int32) (mem : Mem), dW_where_35 f n x1 x2 x3 x4 mem = some (o, mem') → V p l e (rmM 4 95) s m args below meth c 0 0 (MQ below (RQc k (some (aI o)) mem') args s 0 0 (kA k)) k 6 mem 35 [(0, aR 0 0), (1, aI x1), (2, aI x2), (3, aI x3), (4, aI x4)] [] := by
  intro n
  induction n with
  | zero =>
    intro x1 x2 x3 x4 mem  h
    exact nomatch (show (none : Option (Int32 × Mem)) = some _ from h)
  | succ n ih =>
    intro x1 x2 x3 x4 mem  h
    rw [dW_where_35] at h
    refine v_iload X (pc := 35) 4 rfl eW_where_35 ?_
    refine v_bipush X (pc := 37) (v := (10 : Int32)) eW_where_37 (by decide) ?_
    refine v_icmp_ge X (pc := 39) (tgt := 74) h eW_where_39 (by decide) (fun h => ?_) (fun h => ?_)
    · refine v_aload_n X (pc := 42) 0 rfl eW_where_42 rfl ?_
      refine v_iload X (pc := 43) 4 rfl eW_where_43 ?_
      refine v_iload_n X (pc := 45) 1 rfl eW_where_45 rfl ?_
      obtain ⟨r1, m1, hc1, h⟩ := bd_some h
      refine v_callV X (pc := 46) [_, _] [] ok_V_W_162 (cW_firstSilence  hc1) rfl (Nat.le_of_ble_eq_true rfl) ⟨Nat.le_of_ble_eq_true rfl, Nat.le_of_ble_eq_true rfl⟩ ⟨Nat.zero_le _, Nat.zero_le _⟩ (by decide) (by decide) rfl rfl eW_where_46 ?_
      refine v_istore X (pc := 49) (lv' := [(5, _), (0, _), (1, _), (2, _), (3, _), (4, _)]) eW_where_49 (Nat.le_of_ble_eq_true rfl) rfl ?_
      refine v_iload X (pc := 51) 0 rfl eW_where_51 ?_
      refine v_if_lt X (pc := 53) (tgt := 68) h eW_where_53 (by decide) (fun h => ?_) (fun h => ?_)
      · refine v_iinc X (pc := 68) (v := (x4 + (1 : Int32))) (lv' := [(4, _), (5, _), (0, _), (1, _), (2, _), (3, _)]) 5 rfl (by rfl) eW_where_68 (Nat.le_of_ble_eq_true rfl) rfl ?_
        refine v_goto X (pc := 71) (tgt := 35) eW_where_71 (by decide) ?_
        exact v_sub [2, 3, 4, 5, 0] rfl (ih _ _ _ _ _  h)
      · refine v_iload X (pc := 56) 0 rfl eW_where_56 ?_
        refine v_iload_n X (pc := 58) 3 rfl eW_where_58 rfl ?_
        refine v_icmp_ge X (pc := 59) (tgt := 68) h eW_where_59 (by decide) (fun h => ?_) (fun h => ?_)
        · refine v_iload X (pc := 62) 0 rfl eW_where_62 ?_
          refine v_istore_n X (pc := 64) (lv' := [(2, _), (5, _), (0, _), (1, _), (3, _), (4, _)]) eW_where_64 rfl (Nat.le_of_ble_eq_true rfl) rfl ?_
          refine v_iload X (pc := 65) 5 rfl eW_where_65 ?_
          refine v_istore_n X (pc := 67) (lv' := [(3, _), (2, _), (5, _), (0, _), (1, _), (4, _)]) eW_where_67 rfl (Nat.le_of_ble_eq_true rfl) rfl ?_
          refine v_iinc X (pc := 68) (v := (x4 + (1 : Int32))) (lv' := [(4, _), (3, _), (2, _), (5, _), (0, _), (1, _)]) 5 rfl (by rfl) eW_where_68 (Nat.le_of_ble_eq_true rfl) rfl ?_
          refine v_goto X (pc := 71) (tgt := 35) eW_where_71 (by decide) ?_
          exact v_sub [4, 5, 2, 1, 0] rfl (ih _ _ _ _ _  h)
        · refine v_iinc X (pc := 68) (v := (x4 + (1 : Int32))) (lv' := [(4, _), (5, _), (0, _), (1, _), (2, _), (3, _)]) 5 rfl (by rfl) eW_where_68 (Nat.le_of_ble_eq_true rfl) rfl ?_
          refine v_goto X (pc := 71) (tgt := 35) eW_where_71 (by decide) ?_
          exact v_sub [2, 3, 4, 5, 0] rfl (ih _ _ _ _ _  h)
    · refine v_iload_n X (pc := 74) 3 rfl eW_where_74 rfl ?_
      refine v_if_ge X (pc := 75) (tgt := 87) h eW_where_75 (by decide) (fun h => ?_) (fun h => ?_)
      · refine v_aload_n X (pc := 78) 0 rfl eW_where_78 rfl ?_
        refine v_ldc X (pc := 79) qw_268 eW_where_79 ?_
        obtain ⟨r2, m2, hc2, h⟩ := bd_some h
        refine v_callV X (pc := 81) [_] [] ok_V_W_52 (cW_finding  hc2) rfl (Nat.le_of_ble_eq_true rfl) ⟨Nat.le_of_ble_eq_true rfl, Nat.le_of_ble_eq_true rfl⟩ ⟨Nat.zero_le _, Nat.zero_le _⟩ (by decide) (by decide) rfl rfl eW_where_81 ?_
        refine v_goto X (pc := 84) (tgt := 88) eW_where_84 (by decide) ?_
        exact v_iret X (pc := 88) h hr eW_where_88
      · refine v_iload_n X (pc := 87) 3 rfl eW_where_87 rfl ?_
        exact v_iret X (pc := 88) h hr eW_where_88
set_option maxHeartbeats 4000000 in
set_option maxRecDepth 100000 in
theorem cW_where {f : Nat} {a1 : Int32} {mem : Mem} {o : Int32} {mem' : Mem}  (h : dW_where f a1 mem = some (o, mem')) : RT yW_where prog_1_method_17_code 6 (Option.some Jvm.ClassFile.FieldType.int) (rmM 4 95) [aR 0 0, aI a1] mem (some (aI o)) mem' := by
  refine RT.of (by decide +kernel) (Nat.le_of_ble_eq_true rfl) (fun p l e s m args below meth c k X hr => ?_)
  replace X : CX p s m args meth c k prog_1_method_17_code 6 "WallShifts" := X
  unfold dW_where at h
  refine v_sub (lv' := [(0, _), (1, _)]) [0, 1] rfl ?_
  refine v_iload_n X (pc := 0) 1 rfl eW_where_0 rfl ?_
  refine v_iconst X (pc := 1) (v := (1 : Int32)) eW_where_1 (by decide) ?_
  refine v_bipush X (pc := 2) (v := (30 : Int32)) eW_where_2 (by decide) ?_
  obtain ⟨r1, m1, hc1, h⟩ := bd_some h
  refine v_callS X (pc := 4) [_, _, _] [] ok_S_W_82 (cW_isIn  hc1) rfl (Nat.le_of_ble_eq_true rfl) ⟨Nat.le_of_ble_eq_true rfl, Nat.le_of_ble_eq_true rfl⟩ ⟨Nat.zero_le _, Nat.zero_le _⟩ eW_where_4 ?_
  refine v_if_ne X (pc := 7) (tgt := 17) h eW_where_7 (by decide) (fun h => ?_) (fun h => ?_)
  · refine v_aload_n X (pc := 10) 0 rfl eW_where_10 rfl ?_
    refine v_ldc X (pc := 11) qw_135 eW_where_11 ?_
    obtain ⟨r2, m2, hc2, h⟩ := bd_some h
    refine v_callV X (pc := 13) [_] [] ok_V_W_52 (cW_finding  hc2) rfl (Nat.le_of_ble_eq_true rfl) ⟨Nat.le_of_ble_eq_true rfl, Nat.le_of_ble_eq_true rfl⟩ ⟨Nat.zero_le _, Nat.zero_le _⟩ (by decide) (by decide) rfl rfl eW_where_13 ?_
    exact v_iret X (pc := 16) h hr eW_where_16
  · refine v_aload_n X (pc := 17) 0 rfl eW_where_17 rfl ?_
    refine v_sipush X (pc := 18) (v := (240 : Int32)) eW_where_18 (by decide) ?_
    refine v_iload_n X (pc := 21) 1 rfl eW_where_21 rfl ?_
    refine v_iadd X (pc := 22) eW_where_22 ?_
    obtain ⟨r3, m3, hc3, h⟩ := bd_some h
    refine v_callV X (pc := 23) [_] [] ok_V_W_158 (cW_foresee  hc3) rfl (Nat.le_of_ble_eq_true rfl) ⟨Nat.le_of_ble_eq_true rfl, Nat.le_of_ble_eq_true rfl⟩ ⟨Nat.zero_le _, Nat.zero_le _⟩ (by decide) (by decide) rfl rfl eW_where_23 ?_
    refine v_sipush X (pc := 26) (v := (241 : Int32)) eW_where_26 (by decide) ?_
    refine v_istore_n X (pc := 29) (lv' := [(2, _), (0, _), (1, _)]) eW_where_29 rfl (Nat.le_of_ble_eq_true rfl) rfl ?_
    refine v_iconst X (pc := 30) (v := (-1 : Int32)) eW_where_30 (by decide) ?_
    refine v_istore_n X (pc := 31) (lv' := [(3, _), (2, _), (0, _), (1, _)]) eW_where_31 rfl (Nat.le_of_ble_eq_true rfl) rfl ?_
    refine v_iconst X (pc := 32) (v := (0 : Int32)) eW_where_32 (by decide) ?_
    refine v_istore X (pc := 33) (lv' := [(4, _), (3, _), (2, _), (0, _), (1, _)]) eW_where_33 (Nat.le_of_ble_eq_true rfl) rfl ?_
    exact v_sub [3, 4, 2, 1, 0] rfl (cW_where_35 X hr _ _ _ _ _ _  h)
set_option maxHeartbeats 4000000 in
set_option maxRecDepth 100000 in
theorem cP_silentMinutes_6 {p : Program} {l : Launch} {e : Env} {s : State} {m : MethodId} {args : Array Value} {below : List Frame} {meth : Method} {c : Code} {k : KK} {f : Nat} {o : Int32} {mem' : Mem} (X : CX p s m args meth c k prog_2_method_10_code 6 "WallShifts$Palace") (hr : meth.sig.returnType = (Option.some Jvm.ClassFile.FieldType.int)) : ∀ (n : Nat) (q0 : Nat) (x1 : Int32) (x2 : Int32) (x3 : Int32) (x4 : Int32) (x5 : Int32) (mem : Mem), q0 < 3 → dP_silentMinutes_6 f n q0 x1 x2 x3 x4 x5 mem = some (o, mem') → V p l e (rmM 2 53) s m args below meth c 0 0 (MQ below (RQc k (some (aI o)) mem') args s 0 0 (kA k)) k 6 mem 6 [(0, aR 1 q0), (1, aI x1), (2, aI x2), (3, aI x3), (4, aI x4), (5, aI x5)] [] := by
  intro n
  induction n with
  | zero =>
    intro q0 x1 x2 x3 x4 x5 mem hq0 h
    exact nomatch (show (none : Option (Int32 × Mem)) = some _ from h)
  | succ n ih =>
    intro q0 x1 x2 x3 x4 x5 mem hq0 h
    rw [dP_silentMinutes_6] at h
    refine v_iload X (pc := 6) 5 rfl eP_silentMinutes_6 ?_
    refine v_iload_n X (pc := 8) 2 rfl eP_silentMinutes_8 rfl ?_
    refine v_icmp_ge X (pc := 9) (tgt := 45) h eP_silentMinutes_9 (by decide) (fun h => ?_) (fun h => ?_)
    · refine v_iload X (pc := 12) 4 rfl eP_silentMinutes_12 ?_
      refine v_aload_n X (pc := 14) 0 rfl eP_silentMinutes_14 rfl ?_
      refine v_aload_n X (pc := 15) 0 rfl eP_silentMinutes_15 rfl ?_
      refine v_get X (pc := 16) 0 (a := aI (gI mem 1 q0 0)) (by decide) hq0 rfl rfl rfl in_Palace (by decide) qw_30 rfl eP_silentMinutes_16 ?_
      refine v_iload X (pc := 19) 5 rfl eP_silentMinutes_19 ?_
      refine v_iadd X (pc := 21) eP_silentMinutes_21 ?_
      refine v_iload_n X (pc := 22) 3 rfl eP_silentMinutes_22 rfl ?_
      obtain ⟨r1, m1, hc1, h⟩ := bd_some h
      refine v_callV X (pc := 23) [_, _] [_] ok_V_P_36 (cP_onDuty hq0 hc1) rfl (Nat.le_of_ble_eq_true rfl) ⟨Nat.le_of_ble_eq_true rfl, Nat.le_of_ble_eq_true rfl⟩ ⟨Nat.zero_le _, Nat.zero_le _⟩ (by decide) hq0 rfl rfl eP_silentMinutes_23 ?_
      refine v_iload_n X (pc := 26) 1 rfl eP_silentMinutes_26 rfl ?_
      refine v_iand X (pc := 27) eP_silentMinutes_27 ?_
      refine v_if_ne X (pc := 28) (tgt := 35) h eP_silentMinutes_28 (by decide) (fun h => ?_) (fun h => ?_)
      · refine v_iconst X (pc := 31) (v := (1 : Int32)) eP_silentMinutes_31 (by decide) ?_
        refine v_goto X (pc := 32) (tgt := 36) eP_silentMinutes_32 (by decide) ?_
        refine v_iadd X (pc := 36) eP_silentMinutes_36 ?_
        refine v_istore X (pc := 37) (lv' := [(4, _), (0, _), (1, _), (2, _), (3, _), (5, _)]) eP_silentMinutes_37 (Nat.le_of_ble_eq_true rfl) rfl ?_
        refine v_iinc X (pc := 39) (v := (x5 + (1 : Int32))) (lv' := [(5, _), (4, _), (0, _), (1, _), (2, _), (3, _)]) 5 rfl (by rfl) eP_silentMinutes_39 (Nat.le_of_ble_eq_true rfl) rfl ?_
        refine v_goto X (pc := 42) (tgt := 6) eP_silentMinutes_42 (by decide) ?_
        exact v_sub [2, 3, 4, 5, 1, 0] rfl (ih _ _ _ _ _ _ _ hq0 h)
      · refine v_iconst X (pc := 35) (v := (0 : Int32)) eP_silentMinutes_35 (by decide) ?_
        refine v_iadd X (pc := 36) eP_silentMinutes_36 ?_
        refine v_istore X (pc := 37) (lv' := [(4, _), (0, _), (1, _), (2, _), (3, _), (5, _)]) eP_silentMinutes_37 (Nat.le_of_ble_eq_true rfl) rfl ?_
        refine v_iinc X (pc := 39) (v := (x5 + (1 : Int32))) (lv' := [(5, _), (4, _), (0, _), (1, _), (2, _), (3, _)]) 5 rfl (by rfl) eP_silentMinutes_39 (Nat.le_of_ble_eq_true rfl) rfl ?_
        refine v_goto X (pc := 42) (tgt := 6) eP_silentMinutes_42 (by decide) ?_
        exact v_sub [2, 3, 4, 5, 1, 0] rfl (ih _ _ _ _ _ _ _ hq0 h)
    · refine v_iload X (pc := 45) 4 rfl eP_silentMinutes_45 ?_
      exact v_iret X (pc := 47) h hr eP_silentMinutes_47
set_option maxHeartbeats 4000000 in
set_option maxRecDepth 100000 in
theorem cP_silentMinutes {f : Nat} {q0 : Nat} {a1 : Int32} {a2 : Int32} {a3 : Int32} {mem : Mem} {o : Int32} {mem' : Mem} (hq0 : q0 < 3) (h : dP_silentMinutes f q0 a1 a2 a3 mem = some (o, mem')) : RT yP_silentMinutes prog_2_method_10_code 6 (Option.some Jvm.ClassFile.FieldType.int) (rmM 2 53) [aR 1 q0, aI a1, aI a2, aI a3] mem (some (aI o)) mem' := by
  refine RT.of (by decide +kernel) (Nat.le_of_ble_eq_true rfl) (fun p l e s m args below meth c k X hr => ?_)
  replace X : CX p s m args meth c k prog_2_method_10_code 6 "WallShifts$Palace" := X
  unfold dP_silentMinutes at h
  refine v_sub (lv' := [(0, _), (1, _), (2, _), (3, _)]) [0, 1, 2, 3] rfl ?_
  refine v_iconst X (pc := 0) (v := (0 : Int32)) eP_silentMinutes_0 (by decide) ?_
  refine v_istore X (pc := 1) (lv' := [(4, _), (0, _), (1, _), (2, _), (3, _)]) eP_silentMinutes_1 (Nat.le_of_ble_eq_true rfl) rfl ?_
  refine v_iconst X (pc := 3) (v := (0 : Int32)) eP_silentMinutes_3 (by decide) ?_
  refine v_istore X (pc := 4) (lv' := [(5, _), (4, _), (0, _), (1, _), (2, _), (3, _)]) eP_silentMinutes_4 (Nat.le_of_ble_eq_true rfl) rfl ?_
  exact v_sub [2, 3, 4, 5, 1, 0] rfl (cP_silentMinutes_6 X hr _ _ _ _ _ _ _ _ hq0 h)
set_option maxHeartbeats 4000000 in
set_option maxRecDepth 100000 in
theorem cW_quiet {f : Nat} {a1 : Int32} {a2 : Int32} {mem : Mem} {o : Int32} {mem' : Mem}  (h : dW_quiet f a1 a2 mem = some (o, mem')) : RT yW_quiet prog_1_method_18_code 3 (Option.some Jvm.ClassFile.FieldType.int) (rmM 3 78) [aR 0 0, aI a1, aI a2] mem (some (aI o)) mem' := by
  refine RT.of (by decide +kernel) (Nat.le_of_ble_eq_true rfl) (fun p l e s m args below meth c k X hr => ?_)
  replace X : CX p s m args meth c k prog_1_method_18_code 3 "WallShifts" := X
  unfold dW_quiet at h
  refine v_sub (lv' := [(0, _), (1, _), (2, _)]) [0, 1, 2] rfl ?_
  refine v_iload_n X (pc := 0) 1 rfl eW_quiet_0 rfl ?_
  obtain ⟨r1, m1, hc1, h⟩ := bd_some h
  refine v_callS X (pc := 1) [_] [] ok_S_W_63 (cW_isRoom  hc1) rfl (Nat.le_of_ble_eq_true rfl) ⟨Nat.le_of_ble_eq_true rfl, Nat.le_of_ble_eq_true rfl⟩ ⟨Nat.zero_le _, Nat.zero_le _⟩ eW_quiet_1 ?_
  refine v_if_eq X (pc := 4) (tgt := 18) h eW_quiet_4 (by decide) (fun h => ?_) (fun h => ?_)
  · refine v_aload_n X (pc := 18) 0 rfl eW_quiet_18 rfl ?_
    refine v_ldc X (pc := 19) qw_135 eW_quiet_19 ?_
    obtain ⟨r2, m2, hc2, h⟩ := bd_some h
    refine v_callV X (pc := 21) [_] [] ok_V_W_52 (cW_finding  hc2) rfl (Nat.le_of_ble_eq_true rfl) ⟨Nat.le_of_ble_eq_true rfl, Nat.le_of_ble_eq_true rfl⟩ ⟨Nat.zero_le _, Nat.zero_le _⟩ (by decide) (by decide) rfl rfl eW_quiet_21 ?_
    exact v_iret X (pc := 24) h hr eW_quiet_24
  · refine v_iload_n X (pc := 7) 2 rfl eW_quiet_7 rfl ?_
    refine v_iconst X (pc := 8) (v := (1 : Int32)) eW_quiet_8 (by decide) ?_
    refine v_sipush X (pc := 9) (v := (240 : Int32)) eW_quiet_9 (by decide) ?_
    obtain ⟨r3, m3, hc3, h⟩ := bd_some h
    refine v_callS X (pc := 12) [_, _, _] [] ok_S_W_82 (cW_isIn  hc3) rfl (Nat.le_of_ble_eq_true rfl) ⟨Nat.le_of_ble_eq_true rfl, Nat.le_of_ble_eq_true rfl⟩ ⟨Nat.zero_le _, Nat.zero_le _⟩ eW_quiet_12 ?_
    refine v_if_ne X (pc := 15) (tgt := 25) h eW_quiet_15 (by decide) (fun h => ?_) (fun h => ?_)
    · refine v_aload_n X (pc := 18) 0 rfl eW_quiet_18 rfl ?_
      refine v_ldc X (pc := 19) qw_135 eW_quiet_19 ?_
      obtain ⟨r4, m4, hc4, h⟩ := bd_some h
      refine v_callV X (pc := 21) [_] [] ok_V_W_52 (cW_finding  hc4) rfl (Nat.le_of_ble_eq_true rfl) ⟨Nat.le_of_ble_eq_true rfl, Nat.le_of_ble_eq_true rfl⟩ ⟨Nat.zero_le _, Nat.zero_le _⟩ (by decide) (by decide) rfl rfl eW_quiet_21 ?_
      exact v_iret X (pc := 24) h hr eW_quiet_24
    · refine v_aload_n X (pc := 25) 0 rfl eW_quiet_25 rfl ?_
      refine v_get X (pc := 26) 0 (a := aR 1 0) (by decide) (by decide) rfl rfl rfl in_WallShifts (by decide) qw_96 rfl eW_quiet_26 ?_
      refine v_aload_n X (pc := 29) 0 rfl eW_quiet_29 rfl ?_
      refine v_get X (pc := 30) 0 (a := aR 1 0) (by decide) (by decide) rfl rfl rfl in_WallShifts (by decide) qw_96 rfl eW_quiet_30 ?_
      refine v_iload_n X (pc := 33) 1 rfl eW_quiet_33 rfl ?_
      obtain ⟨r5, m5, hc5, h⟩ := bd_some h
      refine v_callV X (pc := 34) [_] [_] ok_V_W_119 (cP_near (by decide) hc5) rfl (Nat.le_of_ble_eq_true rfl) ⟨Nat.le_of_ble_eq_true rfl, Nat.le_of_ble_eq_true rfl⟩ ⟨Nat.zero_le _, Nat.zero_le _⟩ (by decide) (by decide) rfl rfl eW_quiet_34 ?_
      refine v_iload_n X (pc := 37) 2 rfl eW_quiet_37 rfl ?_
      refine v_aload_n X (pc := 38) 0 rfl eW_quiet_38 rfl ?_
      refine v_get X (pc := 39) 0 (a := aR 1 0) (by decide) (by decide) rfl rfl rfl in_WallShifts (by decide) qw_96 rfl eW_quiet_39 ?_
      refine v_get X (pc := 42) 1 (a := aR 2 0) (by decide) (by decide) rfl rfl rfl in_Palace (by decide) qw_33 rfl eW_quiet_42 ?_
      refine v_iconst X (pc := 45) (v := (0 : Int32)) eW_quiet_45 (by decide) ?_
      refine v_ialdK X (pc := 46) (n := 4) 0 (by decide) (by decide) (by decide) (by decide) rfl eW_quiet_46 ?_
      obtain ⟨r6, m6, hc6, h⟩ := bd_some h
      refine v_callV X (pc := 47) [_, _, _] [] ok_V_W_165 (cP_silentMinutes (by decide) hc6) rfl (Nat.le_of_ble_eq_true rfl) ⟨Nat.le_of_ble_eq_true rfl, Nat.le_of_ble_eq_true rfl⟩ ⟨Nat.zero_le _, Nat.zero_le _⟩ (by decide) (by decide) rfl rfl eW_quiet_47 ?_
      exact v_iret X (pc := 50) h hr eW_quiet_50
set_option maxHeartbeats 4000000 in
set_option maxRecDepth 100000 in
theorem cW_minutesAlone_6 {p : Program} {l : Launch} {e : Env} {s : State} {m : MethodId} {args : Array Value} {below : List Frame} {meth : Method} {c : Code} {k : KK} {f : Nat} {o : Int32} {mem' : Mem} (X : CX p s m args meth c k prog_1_method_42_code 6 "WallShifts") (hr : meth.sig.returnType = (Option.some Jvm.ClassFile.FieldType.int)) : ∀ (n : Nat) (x1 : Int32) (x2 : Int32) (x3 : Int32) (x4 : Int32) (x5 : Int32) (mem : Mem), dW_minutesAlone_6 f n x1 x2 x3 x4 x5 mem = some (o, mem') → V p l e (rmM 0 0) s m args below meth c 0 0 (MQ below (RQc k (some (aI o)) mem') args s 0 0 (kA k)) k 6 mem 6 [(0, aR 0 0), (1, aI x1), (2, aI x2), (3, aI x3), (4, aI x4), (5, aI x5)] [] := by
  intro n
  induction n with
  | zero =>
    intro x1 x2 x3 x4 x5 mem  h
    exact nomatch (show (none : Option (Int32 × Mem)) = some _ from h)
  | succ n ih =>
    intro x1 x2 x3 x4 x5 mem  h
    rw [dW_minutesAlone_6] at h
    refine v_iload X (pc := 6) 5 rfl eW_minutesAlone_6 ?_
    refine v_iload_n X (pc := 8) 3 rfl eW_minutesAlone_8 rfl ?_
    refine v_icmp_ge X (pc := 9) (tgt := 51) h eW_minutesAlone_9 (by decide) (fun h => ?_) (fun h => ?_)
    · refine v_iload X (pc := 12) 5 rfl eW_minutesAlone_12 ?_
      refine v_aload_n X (pc := 14) 0 rfl eW_minutesAlone_14 rfl ?_
      refine v_get X (pc := 15) 7 (a := aR 11 0) (by decide) (by decide) rfl rfl rfl in_WallShifts (by decide) qw_103 rfl eW_minutesAlone_15 ?_
      refine v_alenI X (pc := 18) (v := (270 : Int32)) rfl (by decide) (by decide) rfl eW_minutesAlone_18 ?_
      refine v_icmp_ge X (pc := 19) (tgt := 51) h eW_minutesAlone_19 (by decide) (fun h => ?_) (fun h => ?_)
      · refine v_iload X (pc := 22) 4 rfl eW_minutesAlone_22 ?_
        refine v_aload_n X (pc := 24) 0 rfl eW_minutesAlone_24 rfl ?_
        refine v_get X (pc := 25) 7 (a := aR 11 0) (by decide) (by decide) rfl rfl rfl in_WallShifts (by decide) qw_103 rfl eW_minutesAlone_25 ?_
        refine v_iload X (pc := 28) 5 rfl eW_minutesAlone_28 ?_
        refine v_iald X (pc := 30) h (by decide) (by decide) rfl eW_minutesAlone_30 (fun h => ?_)
        refine v_iload_n X (pc := 31) 2 rfl eW_minutesAlone_31 rfl ?_
        refine v_iand X (pc := 32) eW_minutesAlone_32 ?_
        refine v_iload_n X (pc := 33) 1 rfl eW_minutesAlone_33 rfl ?_
        refine v_icmp_ne X (pc := 34) (tgt := 41) h eW_minutesAlone_34 (by decide) (fun h => ?_) (fun h => ?_)
        · refine v_iconst X (pc := 37) (v := (1 : Int32)) eW_minutesAlone_37 (by decide) ?_
          refine v_goto X (pc := 38) (tgt := 42) eW_minutesAlone_38 (by decide) ?_
          refine v_iadd X (pc := 42) eW_minutesAlone_42 ?_
          refine v_istore X (pc := 43) (lv' := [(4, _), (0, _), (1, _), (2, _), (3, _), (5, _)]) eW_minutesAlone_43 (Nat.le_of_ble_eq_true rfl) rfl ?_
          refine v_iinc X (pc := 45) (v := (x5 + (1 : Int32))) (lv' := [(5, _), (4, _), (0, _), (1, _), (2, _), (3, _)]) 5 rfl (by rfl) eW_minutesAlone_45 (Nat.le_of_ble_eq_true rfl) rfl ?_
          refine v_goto X (pc := 48) (tgt := 6) eW_minutesAlone_48 (by decide) ?_
          exact v_sub [2, 3, 4, 5, 1, 0] rfl (ih _ _ _ _ _ _  h)
        · refine v_iconst X (pc := 41) (v := (0 : Int32)) eW_minutesAlone_41 (by decide) ?_
          refine v_iadd X (pc := 42) eW_minutesAlone_42 ?_
          refine v_istore X (pc := 43) (lv' := [(4, _), (0, _), (1, _), (2, _), (3, _), (5, _)]) eW_minutesAlone_43 (Nat.le_of_ble_eq_true rfl) rfl ?_
          refine v_iinc X (pc := 45) (v := (x5 + (1 : Int32))) (lv' := [(5, _), (4, _), (0, _), (1, _), (2, _), (3, _)]) 5 rfl (by rfl) eW_minutesAlone_45 (Nat.le_of_ble_eq_true rfl) rfl ?_
          refine v_goto X (pc := 48) (tgt := 6) eW_minutesAlone_48 (by decide) ?_
          exact v_sub [2, 3, 4, 5, 1, 0] rfl (ih _ _ _ _ _ _  h)
      · refine v_iload X (pc := 51) 4 rfl eW_minutesAlone_51 ?_
        exact v_iret X (pc := 53) h hr eW_minutesAlone_53
    · refine v_iload X (pc := 51) 4 rfl eW_minutesAlone_51 ?_
      exact v_iret X (pc := 53) h hr eW_minutesAlone_53
set_option maxHeartbeats 4000000 in
set_option maxRecDepth 100000 in
theorem cW_minutesAlone {f : Nat} {a1 : Int32} {a2 : Int32} {a3 : Int32} {mem : Mem} {o : Int32} {mem' : Mem}  (h : dW_minutesAlone f a1 a2 a3 mem = some (o, mem')) : RT yW_minutesAlone prog_1_method_42_code 6 (Option.some Jvm.ClassFile.FieldType.int) (rmM 0 0) [aR 0 0, aI a1, aI a2, aI a3] mem (some (aI o)) mem' := by
  refine RT.of (by decide +kernel) (Nat.le_of_ble_eq_true rfl) (fun p l e s m args below meth c k X hr => ?_)
  replace X : CX p s m args meth c k prog_1_method_42_code 6 "WallShifts" := X
  unfold dW_minutesAlone at h
  refine v_sub (lv' := [(0, _), (1, _), (2, _), (3, _)]) [0, 1, 2, 3] rfl ?_
  refine v_iconst X (pc := 0) (v := (0 : Int32)) eW_minutesAlone_0 (by decide) ?_
  refine v_istore X (pc := 1) (lv' := [(4, _), (0, _), (1, _), (2, _), (3, _)]) eW_minutesAlone_1 (Nat.le_of_ble_eq_true rfl) rfl ?_
  refine v_iconst X (pc := 3) (v := (0 : Int32)) eW_minutesAlone_3 (by decide) ?_
  refine v_istore X (pc := 4) (lv' := [(5, _), (4, _), (0, _), (1, _), (2, _), (3, _)]) eW_minutesAlone_4 (Nat.le_of_ble_eq_true rfl) rfl ?_
  exact v_sub [2, 3, 4, 5, 1, 0] rfl (cW_minutesAlone_6 X hr _ _ _ _ _ _ _  h)
set_option maxHeartbeats 4000000 in
set_option maxRecDepth 100000 in
theorem cW_worst_48 {p : Program} {l : Launch} {e : Env} {s : State} {m : MethodId} {args : Array Value} {below : List Frame} {meth : Method} {c : Code} {k : KK} {f : Nat} {o : Int32} {mem' : Mem} (X : CX p s m args meth c k prog_1_method_19_code 8 "WallShifts") (hr : meth.sig.returnType = (Option.some Jvm.ClassFile.FieldType.int)) : ∀ (n : Nat) (x2 : Int32) (x3 : Int32) (x4 : Int32) (x5 : Int32) (x6 : Int32) (mem : Mem), dW_worst_48 f n x2 x3 x4 x5 x6 mem = some (o, mem') → V p l e (rmM 3 75) s m args below meth c 0 0 (MQ below (RQc k (some (aI o)) mem') args s 0 0 (kA k)) k 8 mem 48 [(0, aR 0 0), (2, aI x2), (3, aI x3), (4, aI x4), (5, aI x5), (6, aI x6)] [] := by
  intro n
  induction n with
  | zero =>
    intro x2 x3 x4 x5 x6 mem  h
    exact nomatch (show (none : Option (Int32 × Mem)) = some _ from h)
  | succ n ih =>
    intro x2 x3 x4 x5 x6 mem  h
    rw [dW_worst_48] at h
    refine v_iload X (pc := 48) 5 rfl eW_worst_48 ?_
    refine v_aload_n X (pc := 50) 0 rfl eW_worst_50 rfl ?_
    refine v_get X (pc := 51) 0 (a := aR 1 0) (by decide) (by decide) rfl rfl rfl in_WallShifts (by decide) qw_96 rfl eW_worst_51 ?_
    refine v_get X (pc := 54) 2 (a := aI (gI mem 1 0 2)) (by decide) (by decide) rfl rfl rfl in_Palace (by decide) qw_35 rfl eW_worst_54 ?_
    refine v_icmp_ge X (pc := 57) (tgt := 93) h eW_worst_57 (by decide) (fun h => ?_) (fun h => ?_)
    · refine v_aload_n X (pc := 60) 0 rfl eW_worst_60 rfl ?_
      refine v_iconst X (pc := 61) (v := (1 : Int32)) eW_worst_61 (by decide) ?_
      refine v_iload X (pc := 62) 5 rfl eW_worst_62 ?_
      refine v_ishl X (pc := 64) eW_worst_64 ?_
      refine v_iload_n X (pc := 65) 2 rfl eW_worst_65 rfl ?_
      refine v_iload_n X (pc := 66) 1 rfl eW_worst_66 rfl ?_
      obtain ⟨r1, m1, hc1, h⟩ := bd_some h
      refine v_callV X (pc := 67) [_, _, _] [] ok_V_W_171 (cW_minutesAlone  hc1) rfl (Nat.le_of_ble_eq_true rfl) ⟨Nat.le_of_ble_eq_true rfl, Nat.le_of_ble_eq_true rfl⟩ ⟨Nat.zero_le _, Nat.zero_le _⟩ (by decide) (by decide) rfl rfl eW_worst_67 ?_
      refine v_istore X (pc := 70) (lv' := [(7, _), (0, _), (2, _), (3, _), (4, _), (5, _), (6, _)]) eW_worst_70 (Nat.le_of_ble_eq_true rfl) rfl ?_
      refine v_iload X (pc := 72) 0 rfl eW_worst_72 ?_
      refine v_iload X (pc := 74) 4 rfl eW_worst_74 ?_
      refine v_icmp_le X (pc := 76) (tgt := 87) h eW_worst_76 (by decide) (fun h => ?_) (fun h => ?_)
      · refine v_iload X (pc := 79) 0 rfl eW_worst_79 ?_
        refine v_istore X (pc := 81) (lv' := [(4, _), (7, _), (0, _), (2, _), (3, _), (5, _), (6, _)]) eW_worst_81 (Nat.le_of_ble_eq_true rfl) rfl ?_
        refine v_iload X (pc := 83) 6 rfl eW_worst_83 ?_
        refine v_istore X (pc := 85) (lv' := [(5, _), (4, _), (7, _), (0, _), (2, _), (3, _), (6, _)]) eW_worst_85 (Nat.le_of_ble_eq_true rfl) rfl ?_
        refine v_iinc X (pc := 87) (v := (x6 + (1 : Int32))) (lv' := [(6, _), (5, _), (4, _), (7, _), (0, _), (2, _), (3, _)]) 6 rfl (by rfl) eW_worst_87 (Nat.le_of_ble_eq_true rfl) rfl ?_
        refine v_goto X (pc := 90) (tgt := 48) eW_worst_90 (by decide) ?_
        exact v_sub [4, 5, 6, 2, 1, 0] rfl (ih _ _ _ _ _ _  h)
      · refine v_iinc X (pc := 87) (v := (x6 + (1 : Int32))) (lv' := [(6, _), (7, _), (0, _), (2, _), (3, _), (4, _), (5, _)]) 6 rfl (by rfl) eW_worst_87 (Nat.le_of_ble_eq_true rfl) rfl ?_
        refine v_goto X (pc := 90) (tgt := 48) eW_worst_90 (by decide) ?_
        exact v_sub [2, 3, 4, 5, 6, 0] rfl (ih _ _ _ _ _ _  h)
    · refine v_iload X (pc := 93) 4 rfl eW_worst_93 ?_
      refine v_if_ge X (pc := 95) (tgt := 107) h eW_worst_95 (by decide) (fun h => ?_) (fun h => ?_)
      · refine v_aload_n X (pc := 98) 0 rfl eW_worst_98 rfl ?_
        refine v_ldc X (pc := 99) qw_268 eW_worst_99 ?_
        obtain ⟨r2, m2, hc2, h⟩ := bd_some h
        refine v_callV X (pc := 101) [_] [] ok_V_W_52 (cW_finding  hc2) rfl (Nat.le_of_ble_eq_true rfl) ⟨Nat.le_of_ble_eq_true rfl, Nat.le_of_ble_eq_true rfl⟩ ⟨Nat.zero_le _, Nat.zero_le _⟩ (by decide) (by decide) rfl rfl eW_worst_101 ?_
        refine v_goto X (pc := 104) (tgt := 109) eW_worst_104 (by decide) ?_
        exact v_iret X (pc := 109) h hr eW_worst_109
      · refine v_iload X (pc := 107) 4 rfl eW_worst_107 ?_
        exact v_iret X (pc := 109) h hr eW_worst_109
set_option maxHeartbeats 4000000 in
set_option maxRecDepth 100000 in
theorem cW_worst {f : Nat} {a1 : Int32} {a2 : Int32} {mem : Mem} {o : Int32} {mem' : Mem}  (h : dW_worst f a1 a2 mem = some (o, mem')) : RT yW_worst prog_1_method_19_code 8 (Option.some Jvm.ClassFile.FieldType.int) (rmM 3 75) [aR 0 0, aI a1, aI a2] mem (some (aI o)) mem' := by
  refine RT.of (by decide +kernel) (Nat.le_of_ble_eq_true rfl) (fun p l e s m args below meth c k X hr => ?_)
  replace X : CX p s m args meth c k prog_1_method_19_code 8 "WallShifts" := X
  unfold dW_worst at h
  refine v_sub (lv' := [(0, _), (1, _), (2, _)]) [0, 1, 2] rfl ?_
  refine v_iload_n X (pc := 0) 1 rfl eW_worst_0 rfl ?_
  obtain ⟨r1, m1, hc1, h⟩ := bd_some h
  refine v_callS X (pc := 1) [_] [] ok_S_W_63 (cW_isRoom  hc1) rfl (Nat.le_of_ble_eq_true rfl) ⟨Nat.le_of_ble_eq_true rfl, Nat.le_of_ble_eq_true rfl⟩ ⟨Nat.zero_le _, Nat.zero_le _⟩ eW_worst_1 ?_
  refine v_if_eq X (pc := 4) (tgt := 18) h eW_worst_4 (by decide) (fun h => ?_) (fun h => ?_)
  · refine v_aload_n X (pc := 18) 0 rfl eW_worst_18 rfl ?_
    refine v_ldc X (pc := 19) qw_135 eW_worst_19 ?_
    obtain ⟨r2, m2, hc2, h⟩ := bd_some h
    refine v_callV X (pc := 21) [_] [] ok_V_W_52 (cW_finding  hc2) rfl (Nat.le_of_ble_eq_true rfl) ⟨Nat.le_of_ble_eq_true rfl, Nat.le_of_ble_eq_true rfl⟩ ⟨Nat.zero_le _, Nat.zero_le _⟩ (by decide) (by decide) rfl rfl eW_worst_21 ?_
    exact v_iret X (pc := 24) h hr eW_worst_24
  · refine v_iload_n X (pc := 7) 2 rfl eW_worst_7 rfl ?_
    refine v_iconst X (pc := 8) (v := (1 : Int32)) eW_worst_8 (by decide) ?_
    refine v_sipush X (pc := 9) (v := (240 : Int32)) eW_worst_9 (by decide) ?_
    obtain ⟨r3, m3, hc3, h⟩ := bd_some h
    refine v_callS X (pc := 12) [_, _, _] [] ok_S_W_82 (cW_isIn  hc3) rfl (Nat.le_of_ble_eq_true rfl) ⟨Nat.le_of_ble_eq_true rfl, Nat.le_of_ble_eq_true rfl⟩ ⟨Nat.zero_le _, Nat.zero_le _⟩ eW_worst_12 ?_
    refine v_if_ne X (pc := 15) (tgt := 25) h eW_worst_15 (by decide) (fun h => ?_) (fun h => ?_)
    · refine v_aload_n X (pc := 18) 0 rfl eW_worst_18 rfl ?_
      refine v_ldc X (pc := 19) qw_135 eW_worst_19 ?_
      obtain ⟨r4, m4, hc4, h⟩ := bd_some h
      refine v_callV X (pc := 21) [_] [] ok_V_W_52 (cW_finding  hc4) rfl (Nat.le_of_ble_eq_true rfl) ⟨Nat.le_of_ble_eq_true rfl, Nat.le_of_ble_eq_true rfl⟩ ⟨Nat.zero_le _, Nat.zero_le _⟩ (by decide) (by decide) rfl rfl eW_worst_21 ?_
      exact v_iret X (pc := 24) h hr eW_worst_24
    · refine v_aload_n X (pc := 25) 0 rfl eW_worst_25 rfl ?_
      refine v_iload_n X (pc := 26) 2 rfl eW_worst_26 rfl ?_
      obtain ⟨r5, m5, hc5, h⟩ := bd_some h
      refine v_callV X (pc := 27) [_] [] ok_V_W_158 (cW_foresee  hc5) rfl (Nat.le_of_ble_eq_true rfl) ⟨Nat.le_of_ble_eq_true rfl, Nat.le_of_ble_eq_true rfl⟩ ⟨Nat.zero_le _, Nat.zero_le _⟩ (by decide) (by decide) rfl rfl eW_worst_27 ?_
      refine v_aload_n X (pc := 30) 0 rfl eW_worst_30 rfl ?_
      refine v_get X (pc := 31) 0 (a := aR 1 0) (by decide) (by decide) rfl rfl rfl in_WallShifts (by decide) qw_96 rfl eW_worst_31 ?_
      refine v_iload_n X (pc := 34) 1 rfl eW_worst_34 rfl ?_
      obtain ⟨r6, m6, hc6, h⟩ := bd_some h
      refine v_callV X (pc := 35) [_] [] ok_V_W_119 (cP_near (by decide) hc6) rfl (Nat.le_of_ble_eq_true rfl) ⟨Nat.le_of_ble_eq_true rfl, Nat.le_of_ble_eq_true rfl⟩ ⟨Nat.zero_le _, Nat.zero_le _⟩ (by decide) (by decide) rfl rfl eW_worst_35 ?_
      refine v_istore_n X (pc := 38) (lv' := [(3, _), (0, _), (1, _), (2, _)]) eW_worst_38 rfl (Nat.le_of_ble_eq_true rfl) rfl ?_
      refine v_iconst X (pc := 39) (v := (0 : Int32)) eW_worst_39 (by decide) ?_
      refine v_istore X (pc := 40) (lv' := [(4, _), (3, _), (0, _), (1, _), (2, _)]) eW_worst_40 (Nat.le_of_ble_eq_true rfl) rfl ?_
      refine v_iconst X (pc := 42) (v := (-1 : Int32)) eW_worst_42 (by decide) ?_
      refine v_istore X (pc := 43) (lv' := [(5, _), (4, _), (3, _), (0, _), (1, _), (2, _)]) eW_worst_43 (Nat.le_of_ble_eq_true rfl) rfl ?_
      refine v_iconst X (pc := 45) (v := (0 : Int32)) eW_worst_45 (by decide) ?_
      refine v_istore X (pc := 46) (lv' := [(6, _), (5, _), (4, _), (3, _), (0, _), (1, _), (2, _)]) eW_worst_46 (Nat.le_of_ble_eq_true rfl) rfl ?_
      exact v_sub [4, 6, 3, 2, 1, 0] rfl (cW_worst_48 X hr _ _ _ _ _ _ _  h)
set_option maxHeartbeats 4000000 in
set_option maxRecDepth 100000 in
theorem cW_hearsAlways_2 {p : Program} {l : Launch} {e : Env} {s : State} {m : MethodId} {args : Array Value} {below : List Frame} {meth : Method} {c : Code} {k : KK} {f : Nat} {o : Int32} {mem' : Mem} (X : CX p s m args meth c k prog_1_method_43_code 4 "WallShifts") (hr : meth.sig.returnType = (Option.some Jvm.ClassFile.FieldType.boolean)) : ∀ (n : Nat) (x1 : Int32) (x2 : Int32) (x3 : Int32) (mem : Mem), dW_hearsAlways_2 f n x1 x2 x3 mem = some (o, mem') → V p l e (rmM 0 0) s m args below meth c 0 0 (MQ below (RQc k (some (aI o)) mem') args s 0 0 (kA k)) k 4 mem 2 [(0, aR 0 0), (1, aI x1), (2, aI x2), (3, aI x3)] [] := by
  intro n
  induction n with
  | zero =>
    intro x1 x2 x3 mem  h
    exact nomatch (show (none : Option (Int32 × Mem)) = some _ from h)
  | succ n ih =>
    intro x1 x2 x3 mem  h
    rw [dW_hearsAlways_2] at h
    refine v_iload_n X (pc := 2) 3 rfl eW_hearsAlways_2 rfl ?_
    refine v_iload_n X (pc := 3) 2 rfl eW_hearsAlways_3 rfl ?_
    refine v_icmp_ge X (pc := 4) (tgt := 35) h eW_hearsAlways_4 (by decide) (fun h => ?_) (fun h => ?_)
    · refine v_iload_n X (pc := 7) 3 rfl eW_hearsAlways_7 rfl ?_
      refine v_aload_n X (pc := 8) 0 rfl eW_hearsAlways_8 rfl ?_
      refine v_get X (pc := 9) 7 (a := aR 11 0) (by decide) (by decide) rfl rfl rfl in_WallShifts (by decide) qw_103 rfl eW_hearsAlways_9 ?_
      refine v_alenI X (pc := 12) (v := (270 : Int32)) rfl (by decide) (by decide) rfl eW_hearsAlways_12 ?_
      refine v_icmp_ge X (pc := 13) (tgt := 35) h eW_hearsAlways_13 (by decide) (fun h => ?_) (fun h => ?_)
      · refine v_aload_n X (pc := 16) 0 rfl eW_hearsAlways_16 rfl ?_
        refine v_get X (pc := 17) 7 (a := aR 11 0) (by decide) (by decide) rfl rfl rfl in_WallShifts (by decide) qw_103 rfl eW_hearsAlways_17 ?_
        refine v_iload_n X (pc := 20) 3 rfl eW_hearsAlways_20 rfl ?_
        refine v_iald X (pc := 21) h (by decide) (by decide) rfl eW_hearsAlways_21 (fun h => ?_)
        refine v_iload_n X (pc := 22) 1 rfl eW_hearsAlways_22 rfl ?_
        refine v_iand X (pc := 23) eW_hearsAlways_23 ?_
        refine v_if_ne X (pc := 24) (tgt := 29) h eW_hearsAlways_24 (by decide) (fun h => ?_) (fun h => ?_)
        · refine v_iconst X (pc := 27) (v := (0 : Int32)) eW_hearsAlways_27 (by decide) ?_
          exact v_zret X (pc := 28) h hr rfl eW_hearsAlways_28
        · refine v_iinc X (pc := 29) (v := (x3 + (1 : Int32))) (lv' := [(3, _), (0, _), (1, _), (2, _)]) 3 rfl (by rfl) eW_hearsAlways_29 (Nat.le_of_ble_eq_true rfl) rfl ?_
          refine v_goto X (pc := 32) (tgt := 2) eW_hearsAlways_32 (by decide) ?_
          exact v_sub [1, 2, 3, 0] rfl (ih _ _ _ _  h)
      · refine v_iconst X (pc := 35) (v := (1 : Int32)) eW_hearsAlways_35 (by decide) ?_
        exact v_zret X (pc := 36) h hr rfl eW_hearsAlways_36
    · refine v_iconst X (pc := 35) (v := (1 : Int32)) eW_hearsAlways_35 (by decide) ?_
      exact v_zret X (pc := 36) h hr rfl eW_hearsAlways_36
set_option maxHeartbeats 4000000 in
set_option maxRecDepth 100000 in
theorem cW_hearsAlways {f : Nat} {a1 : Int32} {a2 : Int32} {mem : Mem} {o : Int32} {mem' : Mem}  (h : dW_hearsAlways f a1 a2 mem = some (o, mem')) : RT yW_hearsAlways prog_1_method_43_code 4 (Option.some Jvm.ClassFile.FieldType.boolean) (rmM 0 0) [aR 0 0, aI a1, aI a2] mem (some (aI o)) mem' := by
  refine RT.of (by decide +kernel) (Nat.le_of_ble_eq_true rfl) (fun p l e s m args below meth c k X hr => ?_)
  replace X : CX p s m args meth c k prog_1_method_43_code 4 "WallShifts" := X
  unfold dW_hearsAlways at h
  refine v_sub (lv' := [(0, _), (1, _), (2, _)]) [0, 1, 2] rfl ?_
  refine v_iconst X (pc := 0) (v := (0 : Int32)) eW_hearsAlways_0 (by decide) ?_
  refine v_istore_n X (pc := 1) (lv' := [(3, _), (0, _), (1, _), (2, _)]) eW_hearsAlways_1 rfl (Nat.le_of_ble_eq_true rfl) rfl ?_
  exact v_sub [1, 2, 3, 0] rfl (cW_hearsAlways_2 X hr _ _ _ _ _  h)
set_option maxHeartbeats 4000000 in
set_option maxRecDepth 100000 in
theorem cW_cover_80 {p : Program} {l : Launch} {e : Env} {s : State} {m : MethodId} {args : Array Value} {below : List Frame} {meth : Method} {c : Code} {k : KK} {f : Nat} {o : Int32} {mem' : Mem} (X : CX p s m args meth c k prog_1_method_20_code 7 "WallShifts") (hr : meth.sig.returnType = (Option.some Jvm.ClassFile.FieldType.int)) {k60 : Int32 → Int32 → Int32 → Int32 → Mem → Option (Int32 × Mem)} (hk60 : ∀ (x2 : Int32) (x3 : Int32) (x4 : Int32) (x5 : Int32) (mem : Mem), k60 x2 x3 x4 x5 mem = some (o, mem') → V p l e (rmM 3 75) s m args below meth c 0 0 (MQ below (RQc k (some (aI o)) mem') args s 0 0 (kA k)) k 7 mem 60 [(0, aR 0 0), (2, aI x2), (3, aI x3), (4, aI x4), (5, aI x5)] []) : ∀ (x2 : Int32) (x3 : Int32) (x4 : Int32) (x5 : Int32) (s0 : Int32) (mem : Mem), dW_cover_80 f k60 x2 x3 x4 x5 s0 mem = some (o, mem') → V p l e (rmM 3 75) s m args below meth c 0 0 (MQ below (RQc k (some (aI o)) mem') args s 0 0 (kA k)) k 7 mem 80 [(0, aR 0 0), (2, aI x2), (3, aI x3), (4, aI x4), (5, aI x5)] [aI s0] := by
  intro x2 x3 x4 x5 s0 mem  h
  unfold dW_cover_80 at h
  refine v_istore X (pc := 80) (lv' := [(6, _), (0, _), (2, _), (3, _), (4, _), (5, _)]) eW_cover_80 (Nat.le_of_ble_eq_true rfl) rfl ?_
  refine v_iload X (pc := 82) 0 rfl eW_cover_82 ?_
  refine v_if_eq X (pc := 84) (tgt := 114) h eW_cover_84 (by decide) (fun h => ?_) (fun h => ?_)
  · refine v_iinc X (pc := 114) (v := (x5 + (1 : Int32))) (lv' := [(5, _), (6, _), (0, _), (2, _), (3, _), (4, _)]) 5 rfl (by rfl) eW_cover_114 (Nat.le_of_ble_eq_true rfl) rfl ?_
    refine v_goto X (pc := 117) (tgt := 60) eW_cover_117 (by decide) ?_
    exact v_sub [2, 3, 4, 5, 0] rfl (hk60 _ _ _ _ _  h)
  · refine v_iload X (pc := 87) 5 rfl eW_cover_87 ?_
    obtain ⟨r1, m1, hc1, h⟩ := bd_some h
    refine v_callS X (pc := 89) [_] [] ok_S_W_134 (cJInt_bitCount  hc1) rfl (Nat.le_of_ble_eq_true rfl) ⟨Nat.le_of_ble_eq_true rfl, Nat.le_of_ble_eq_true rfl⟩ ⟨Nat.zero_le _, Nat.zero_le _⟩ eW_cover_89 ?_
    refine v_iload X (pc := 92) 4 rfl eW_cover_92 ?_
    obtain ⟨r2, m2, hc2, h⟩ := bd_some h
    refine v_callS X (pc := 94) [_] [_] ok_S_W_134 (cJInt_bitCount  hc2) rfl (Nat.le_of_ble_eq_true rfl) ⟨Nat.le_of_ble_eq_true rfl, Nat.le_of_ble_eq_true rfl⟩ ⟨Nat.zero_le _, Nat.zero_le _⟩ eW_cover_94 ?_
    refine v_icmp_ge X (pc := 97) (tgt := 114) h eW_cover_97 (by decide) (fun h => ?_) (fun h => ?_)
    · refine v_aload_n X (pc := 100) 1 rfl eW_cover_100 rfl ?_
      refine v_iload X (pc := 101) 5 rfl eW_cover_101 ?_
      refine v_iload_n X (pc := 103) 2 rfl eW_cover_103 rfl ?_
      obtain ⟨r3, m3, hc3, h⟩ := bd_some h
      refine v_callV X (pc := 104) [_, _] [] ok_V_W_174 (cW_hearsAlways  hc3) rfl (Nat.le_of_ble_eq_true rfl) ⟨Nat.le_of_ble_eq_true rfl, Nat.le_of_ble_eq_true rfl⟩ ⟨Nat.zero_le _, Nat.zero_le _⟩ (by decide) (by decide) rfl rfl eW_cover_104 ?_
      refine v_if_eq X (pc := 107) (tgt := 114) h eW_cover_107 (by decide) (fun h => ?_) (fun h => ?_)
      · refine v_iinc X (pc := 114) (v := (x5 + (1 : Int32))) (lv' := [(5, _), (6, _), (0, _), (2, _), (3, _), (4, _)]) 5 rfl (by rfl) eW_cover_114 (Nat.le_of_ble_eq_true rfl) rfl ?_
        refine v_goto X (pc := 117) (tgt := 60) eW_cover_117 (by decide) ?_
        exact v_sub [2, 3, 4, 5, 0] rfl (hk60 _ _ _ _ _  h)
      · refine v_iload X (pc := 110) 5 rfl eW_cover_110 ?_
        refine v_istore X (pc := 112) (lv' := [(4, _), (6, _), (0, _), (2, _), (3, _), (5, _)]) eW_cover_112 (Nat.le_of_ble_eq_true rfl) rfl ?_
        refine v_iinc X (pc := 114) (v := (x5 + (1 : Int32))) (lv' := [(5, _), (4, _), (6, _), (0, _), (2, _), (3, _)]) 5 rfl (by rfl) eW_cover_114 (Nat.le_of_ble_eq_true rfl) rfl ?_
        refine v_goto X (pc := 117) (tgt := 60) eW_cover_117 (by decide) ?_
        exact v_sub [3, 4, 5, 1, 0] rfl (hk60 _ _ _ _ _  h)
    · refine v_iinc X (pc := 114) (v := (x5 + (1 : Int32))) (lv' := [(5, _), (6, _), (0, _), (2, _), (3, _), (4, _)]) 5 rfl (by rfl) eW_cover_114 (Nat.le_of_ble_eq_true rfl) rfl ?_
      refine v_goto X (pc := 117) (tgt := 60) eW_cover_117 (by decide) ?_
      exact v_sub [2, 3, 4, 5, 0] rfl (hk60 _ _ _ _ _  h)
set_option maxHeartbeats 4000000 in
set_option maxRecDepth 100000 in
theorem cW_cover_60 {p : Program} {l : Launch} {e : Env} {s : State} {m : MethodId} {args : Array Value} {below : List Frame} {meth : Method} {c : Code} {k : KK} {f : Nat} {o : Int32} {mem' : Mem} (X : CX p s m args meth c k prog_1_method_20_code 7 "WallShifts") (hr : meth.sig.returnType = (Option.some Jvm.ClassFile.FieldType.int)) : ∀ (n : Nat) (x2 : Int32) (x3 : Int32) (x4 : Int32) (x5 : Int32) (mem : Mem), dW_cover_60 f n x2 x3 x4 x5 mem = some (o, mem') → V p l e (rmM 3 75) s m args below meth c 0 0 (MQ below (RQc k (some (aI o)) mem') args s 0 0 (kA k)) k 7 mem 60 [(0, aR 0 0), (2, aI x2), (3, aI x3), (4, aI x4), (5, aI x5)] [] := by
  intro n
  induction n with
  | zero =>
    intro x2 x3 x4 x5 mem  h
    exact nomatch (show (none : Option (Int32 × Mem)) = some _ from h)
  | succ n ih =>
    intro x2 x3 x4 x5 mem  h
    rw [dW_cover_60] at h
    refine v_iload X (pc := 60) 4 rfl eW_cover_60 ?_
    refine v_iload_n X (pc := 62) 2 rfl eW_cover_62 rfl ?_
    refine v_icmp_ge X (pc := 63) (tgt := 120) h eW_cover_63 (by decide) (fun h => ?_) (fun h => ?_)
    · refine v_iload X (pc := 66) 4 rfl eW_cover_66 ?_
      refine v_iload_n X (pc := 68) 2 rfl eW_cover_68 rfl ?_
      refine v_iconst X (pc := 69) (v := (-1 : Int32)) eW_cover_69 (by decide) ?_
      refine v_ixor X (pc := 70) eW_cover_70 ?_
      refine v_iand X (pc := 71) eW_cover_71 ?_
      refine v_if_ne X (pc := 72) (tgt := 79) h eW_cover_72 (by decide) (fun h => ?_) (fun h => ?_)
      · refine v_iconst X (pc := 75) (v := (1 : Int32)) eW_cover_75 (by decide) ?_
        refine v_goto X (pc := 76) (tgt := 80) eW_cover_76 (by decide) ?_
        exact v_sub [0, 1, 2, 3, 4] rfl (cW_cover_80 X hr ih _ _ _ _ _ _  h)
      · refine v_iconst X (pc := 79) (v := (0 : Int32)) eW_cover_79 (by decide) ?_
        exact v_sub [0, 1, 2, 3, 4] rfl (cW_cover_80 X hr ih _ _ _ _ _ _  h)
    · refine v_iload X (pc := 120) 3 rfl eW_cover_120 ?_
      exact v_iret X (pc := 122) h hr eW_cover_122
set_option maxHeartbeats 4000000 in
set_option maxRecDepth 100000 in
theorem cW_cover {f : Nat} {a1 : Int32} {a2 : Int32} {mem : Mem} {o : Int32} {mem' : Mem}  (h : dW_cover f a1 a2 mem = some (o, mem')) : RT yW_cover prog_1_method_20_code 7 (Option.some Jvm.ClassFile.FieldType.int) (rmM 3 75) [aR 0 0, aI a1, aI a2] mem (some (aI o)) mem' := by
  refine RT.of (by decide +kernel) (Nat.le_of_ble_eq_true rfl) (fun p l e s m args below meth c k X hr => ?_)
  replace X : CX p s m args meth c k prog_1_method_20_code 7 "WallShifts" := X
  unfold dW_cover at h
  refine v_sub (lv' := [(0, _), (1, _), (2, _)]) [0, 1, 2] rfl ?_
  refine v_iload_n X (pc := 0) 1 rfl eW_cover_0 rfl ?_
  obtain ⟨r1, m1, hc1, h⟩ := bd_some h
  refine v_callS X (pc := 1) [_] [] ok_S_W_63 (cW_isRoom  hc1) rfl (Nat.le_of_ble_eq_true rfl) ⟨Nat.le_of_ble_eq_true rfl, Nat.le_of_ble_eq_true rfl⟩ ⟨Nat.zero_le _, Nat.zero_le _⟩ eW_cover_1 ?_
  refine v_if_eq X (pc := 4) (tgt := 17) h eW_cover_4 (by decide) (fun h => ?_) (fun h => ?_)
  · refine v_aload_n X (pc := 17) 0 rfl eW_cover_17 rfl ?_
    refine v_ldc X (pc := 18) qw_135 eW_cover_18 ?_
    obtain ⟨r2, m2, hc2, h⟩ := bd_some h
    refine v_callV X (pc := 20) [_] [] ok_V_W_52 (cW_finding  hc2) rfl (Nat.le_of_ble_eq_true rfl) ⟨Nat.le_of_ble_eq_true rfl, Nat.le_of_ble_eq_true rfl⟩ ⟨Nat.zero_le _, Nat.zero_le _⟩ (by decide) (by decide) rfl rfl eW_cover_20 ?_
    exact v_iret X (pc := 23) h hr eW_cover_23
  · refine v_iload_n X (pc := 7) 2 rfl eW_cover_7 rfl ?_
    refine v_iconst X (pc := 8) (v := (1 : Int32)) eW_cover_8 (by decide) ?_
    refine v_bipush X (pc := 9) (v := (60 : Int32)) eW_cover_9 (by decide) ?_
    obtain ⟨r3, m3, hc3, h⟩ := bd_some h
    refine v_callS X (pc := 11) [_, _, _] [] ok_S_W_82 (cW_isIn  hc3) rfl (Nat.le_of_ble_eq_true rfl) ⟨Nat.le_of_ble_eq_true rfl, Nat.le_of_ble_eq_true rfl⟩ ⟨Nat.zero_le _, Nat.zero_le _⟩ eW_cover_11 ?_
    refine v_if_ne X (pc := 14) (tgt := 24) h eW_cover_14 (by decide) (fun h => ?_) (fun h => ?_)
    · refine v_aload_n X (pc := 17) 0 rfl eW_cover_17 rfl ?_
      refine v_ldc X (pc := 18) qw_135 eW_cover_18 ?_
      obtain ⟨r4, m4, hc4, h⟩ := bd_some h
      refine v_callV X (pc := 20) [_] [] ok_V_W_52 (cW_finding  hc4) rfl (Nat.le_of_ble_eq_true rfl) ⟨Nat.le_of_ble_eq_true rfl, Nat.le_of_ble_eq_true rfl⟩ ⟨Nat.zero_le _, Nat.zero_le _⟩ (by decide) (by decide) rfl rfl eW_cover_20 ?_
      exact v_iret X (pc := 23) h hr eW_cover_23
    · refine v_aload_n X (pc := 24) 0 rfl eW_cover_24 rfl ?_
      refine v_iload_n X (pc := 25) 2 rfl eW_cover_25 rfl ?_
      obtain ⟨r5, m5, hc5, h⟩ := bd_some h
      refine v_callV X (pc := 26) [_] [] ok_V_W_158 (cW_foresee  hc5) rfl (Nat.le_of_ble_eq_true rfl) ⟨Nat.le_of_ble_eq_true rfl, Nat.le_of_ble_eq_true rfl⟩ ⟨Nat.zero_le _, Nat.zero_le _⟩ (by decide) (by decide) rfl rfl eW_cover_26 ?_
      refine v_aload_n X (pc := 29) 0 rfl eW_cover_29 rfl ?_
      refine v_get X (pc := 30) 0 (a := aR 1 0) (by decide) (by decide) rfl rfl rfl in_WallShifts (by decide) qw_96 rfl eW_cover_30 ?_
      refine v_iload_n X (pc := 33) 1 rfl eW_cover_33 rfl ?_
      obtain ⟨r6, m6, hc6, h⟩ := bd_some h
      refine v_callV X (pc := 34) [_] [] ok_V_W_119 (cP_near (by decide) hc6) rfl (Nat.le_of_ble_eq_true rfl) ⟨Nat.le_of_ble_eq_true rfl, Nat.le_of_ble_eq_true rfl⟩ ⟨Nat.zero_le _, Nat.zero_le _⟩ (by decide) (by decide) rfl rfl eW_cover_34 ?_
      refine v_istore_n X (pc := 37) (lv' := [(3, _), (0, _), (1, _), (2, _)]) eW_cover_37 rfl (Nat.le_of_ble_eq_true rfl) rfl ?_
      refine v_aload_n X (pc := 38) 1 rfl eW_cover_38 rfl ?_
      refine v_iload_n X (pc := 39) 0 rfl eW_cover_39 rfl ?_
      refine v_iload_n X (pc := 40) 3 rfl eW_cover_40 rfl ?_
      obtain ⟨r7, m7, hc7, h⟩ := bd_some h
      refine v_callV X (pc := 41) [_, _] [] ok_V_W_174 (cW_hearsAlways  hc7) rfl (Nat.le_of_ble_eq_true rfl) ⟨Nat.le_of_ble_eq_true rfl, Nat.le_of_ble_eq_true rfl⟩ ⟨Nat.zero_le _, Nat.zero_le _⟩ (by decide) (by decide) rfl rfl eW_cover_41 ?_
      refine v_if_ne X (pc := 44) (tgt := 54) h eW_cover_44 (by decide) (fun h => ?_) (fun h => ?_)
      · refine v_aload_n X (pc := 47) 1 rfl eW_cover_47 rfl ?_
        refine v_ldc X (pc := 48) qw_268 eW_cover_48 ?_
        obtain ⟨r8, m8, hc8, h⟩ := bd_some h
        refine v_callV X (pc := 50) [_] [] ok_V_W_52 (cW_finding  hc8) rfl (Nat.le_of_ble_eq_true rfl) ⟨Nat.le_of_ble_eq_true rfl, Nat.le_of_ble_eq_true rfl⟩ ⟨Nat.zero_le _, Nat.zero_le _⟩ (by decide) (by decide) rfl rfl eW_cover_50 ?_
        exact v_iret X (pc := 53) h hr eW_cover_53
      · refine v_iload_n X (pc := 54) 0 rfl eW_cover_54 rfl ?_
        refine v_istore X (pc := 55) (lv' := [(4, _), (3, _), (0, _), (1, _), (2, _)]) eW_cover_55 (Nat.le_of_ble_eq_true rfl) rfl ?_
        refine v_iconst X (pc := 57) (v := (0 : Int32)) eW_cover_57 (by decide) ?_
        refine v_istore X (pc := 58) (lv' := [(5, _), (4, _), (3, _), (0, _), (1, _), (2, _)]) eW_cover_58 (Nat.le_of_ble_eq_true rfl) rfl ?_
        exact v_sub [3, 5, 2, 1, 0] rfl (cW_cover_60 X hr _ _ _ _ _ _  h)
set_option maxHeartbeats 4000000 in
set_option maxRecDepth 100000 in
theorem cW_shift_48 {p : Program} {l : Launch} {e : Env} {s : State} {m : MethodId} {args : Array Value} {below : List Frame} {meth : Method} {c : Code} {k : KK} {f : Nat} {o : Int32} {mem' : Mem} (X : CX p s m args meth c k prog_1_method_21_code 8 "WallShifts") (hr : meth.sig.returnType = (Option.some Jvm.ClassFile.FieldType.int)) : ∀ (n : Nat) (x2 : Int32) (x3 : Int32) (x4 : Int32) (x5 : Int32) (x6 : Int32) (mem : Mem), dW_shift_48 f n x2 x3 x4 x5 x6 mem = some (o, mem') → V p l e (rmM 3 78) s m args below meth c 0 0 (MQ below (RQc k (some (aI o)) mem') args s 0 0 (kA k)) k 8 mem 48 [(0, aR 0 0), (2, aI x2), (3, aI x3), (4, aI x4), (5, aI x5), (6, aI x6)] [] := by
  intro n
  induction n with
  | zero =>
    intro x2 x3 x4 x5 x6 mem  h
    exact nomatch (show (none : Option (Int32 × Mem)) = some _ from h)
  | succ n ih =>
    intro x2 x3 x4 x5 x6 mem  h
    rw [dW_shift_48] at h
    refine v_iload X (pc := 48) 5 rfl eW_shift_48 ?_
    refine v_gets X (pc := 50) 2 (by decide) qw_133 eW_shift_50 ?_
    refine v_iconst X (pc := 53) (v := (0 : Int32)) eW_shift_53 (by decide) ?_
    refine v_stld X (pc := 54) h (by decide) eW_shift_54 (fun h => ?_)
    refine v_icmp_gt X (pc := 55) (tgt := 92) h eW_shift_55 (by decide) (fun h => ?_) (fun h => ?_)
    · refine v_iload X (pc := 92) 4 rfl eW_shift_92 ?_
      exact v_iret X (pc := 94) h hr eW_shift_94
    · refine v_aload_n X (pc := 58) 0 rfl eW_shift_58 rfl ?_
      refine v_get X (pc := 59) 0 (a := aR 1 0) (by decide) (by decide) rfl rfl rfl in_WallShifts (by decide) qw_96 rfl eW_shift_59 ?_
      refine v_iload_n X (pc := 62) 2 rfl eW_shift_62 rfl ?_
      refine v_iload_n X (pc := 63) 1 rfl eW_shift_63 rfl ?_
      refine v_iload X (pc := 64) 5 rfl eW_shift_64 ?_
      obtain ⟨r1, m1, hc1, h⟩ := bd_some h
      refine v_callV X (pc := 66) [_, _, _] [] ok_V_W_165 (cP_silentMinutes (by decide) hc1) rfl (Nat.le_of_ble_eq_true rfl) ⟨Nat.le_of_ble_eq_true rfl, Nat.le_of_ble_eq_true rfl⟩ ⟨Nat.zero_le _, Nat.zero_le _⟩ (by decide) (by decide) rfl rfl eW_shift_66 ?_
      refine v_istore X (pc := 69) (lv' := [(7, _), (0, _), (2, _), (3, _), (4, _), (5, _), (6, _)]) eW_shift_69 (Nat.le_of_ble_eq_true rfl) rfl ?_
      refine v_iload X (pc := 71) 0 rfl eW_shift_71 ?_
      refine v_iload X (pc := 73) 4 rfl eW_shift_73 ?_
      refine v_icmp_ge X (pc := 75) (tgt := 86) h eW_shift_75 (by decide) (fun h => ?_) (fun h => ?_)
      · refine v_iload X (pc := 78) 0 rfl eW_shift_78 ?_
        refine v_istore X (pc := 80) (lv' := [(4, _), (7, _), (0, _), (2, _), (3, _), (5, _), (6, _)]) eW_shift_80 (Nat.le_of_ble_eq_true rfl) rfl ?_
        refine v_iload X (pc := 82) 6 rfl eW_shift_82 ?_
        refine v_istore X (pc := 84) (lv' := [(5, _), (4, _), (7, _), (0, _), (2, _), (3, _), (6, _)]) eW_shift_84 (Nat.le_of_ble_eq_true rfl) rfl ?_
        refine v_iinc X (pc := 86) (v := (x6 + (1 : Int32))) (lv' := [(6, _), (5, _), (4, _), (7, _), (0, _), (2, _), (3, _)]) 6 rfl (by rfl) eW_shift_86 (Nat.le_of_ble_eq_true rfl) rfl ?_
        refine v_goto X (pc := 89) (tgt := 48) eW_shift_89 (by decide) ?_
        exact v_sub [4, 5, 6, 2, 1, 0] rfl (ih _ _ _ _ _ _  h)
      · refine v_iinc X (pc := 86) (v := (x6 + (1 : Int32))) (lv' := [(6, _), (7, _), (0, _), (2, _), (3, _), (4, _), (5, _)]) 6 rfl (by rfl) eW_shift_86 (Nat.le_of_ble_eq_true rfl) rfl ?_
        refine v_goto X (pc := 89) (tgt := 48) eW_shift_89 (by decide) ?_
        exact v_sub [2, 3, 4, 5, 6, 0] rfl (ih _ _ _ _ _ _  h)
set_option maxHeartbeats 4000000 in
set_option maxRecDepth 100000 in
theorem cW_shift {f : Nat} {a1 : Int32} {a2 : Int32} {mem : Mem} {o : Int32} {mem' : Mem}  (h : dW_shift f a1 a2 mem = some (o, mem')) : RT yW_shift prog_1_method_21_code 8 (Option.some Jvm.ClassFile.FieldType.int) (rmM 3 78) [aR 0 0, aI a1, aI a2] mem (some (aI o)) mem' := by
  refine RT.of (by decide +kernel) (Nat.le_of_ble_eq_true rfl) (fun p l e s m args below meth c k X hr => ?_)
  replace X : CX p s m args meth c k prog_1_method_21_code 8 "WallShifts" := X
  unfold dW_shift at h
  refine v_sub (lv' := [(0, _), (1, _), (2, _)]) [0, 1, 2] rfl ?_
  refine v_iload_n X (pc := 0) 1 rfl eW_shift_0 rfl ?_
  obtain ⟨r1, m1, hc1, h⟩ := bd_some h
  refine v_callS X (pc := 1) [_] [] ok_S_W_63 (cW_isRoom  hc1) rfl (Nat.le_of_ble_eq_true rfl) ⟨Nat.le_of_ble_eq_true rfl, Nat.le_of_ble_eq_true rfl⟩ ⟨Nat.zero_le _, Nat.zero_le _⟩ eW_shift_1 ?_
  refine v_if_eq X (pc := 4) (tgt := 17) h eW_shift_4 (by decide) (fun h => ?_) (fun h => ?_)
  · refine v_aload_n X (pc := 17) 0 rfl eW_shift_17 rfl ?_
    refine v_ldc X (pc := 18) qw_135 eW_shift_18 ?_
    obtain ⟨r2, m2, hc2, h⟩ := bd_some h
    refine v_callV X (pc := 20) [_] [] ok_V_W_52 (cW_finding  hc2) rfl (Nat.le_of_ble_eq_true rfl) ⟨Nat.le_of_ble_eq_true rfl, Nat.le_of_ble_eq_true rfl⟩ ⟨Nat.zero_le _, Nat.zero_le _⟩ (by decide) (by decide) rfl rfl eW_shift_20 ?_
    exact v_iret X (pc := 23) h hr eW_shift_23
  · refine v_iload_n X (pc := 7) 2 rfl eW_shift_7 rfl ?_
    refine v_iconst X (pc := 8) (v := (1 : Int32)) eW_shift_8 (by decide) ?_
    refine v_bipush X (pc := 9) (v := (60 : Int32)) eW_shift_9 (by decide) ?_
    obtain ⟨r3, m3, hc3, h⟩ := bd_some h
    refine v_callS X (pc := 11) [_, _, _] [] ok_S_W_82 (cW_isIn  hc3) rfl (Nat.le_of_ble_eq_true rfl) ⟨Nat.le_of_ble_eq_true rfl, Nat.le_of_ble_eq_true rfl⟩ ⟨Nat.zero_le _, Nat.zero_le _⟩ eW_shift_11 ?_
    refine v_if_ne X (pc := 14) (tgt := 24) h eW_shift_14 (by decide) (fun h => ?_) (fun h => ?_)
    · refine v_aload_n X (pc := 17) 0 rfl eW_shift_17 rfl ?_
      refine v_ldc X (pc := 18) qw_135 eW_shift_18 ?_
      obtain ⟨r4, m4, hc4, h⟩ := bd_some h
      refine v_callV X (pc := 20) [_] [] ok_V_W_52 (cW_finding  hc4) rfl (Nat.le_of_ble_eq_true rfl) ⟨Nat.le_of_ble_eq_true rfl, Nat.le_of_ble_eq_true rfl⟩ ⟨Nat.zero_le _, Nat.zero_le _⟩ (by decide) (by decide) rfl rfl eW_shift_20 ?_
      exact v_iret X (pc := 23) h hr eW_shift_23
    · refine v_aload_n X (pc := 24) 0 rfl eW_shift_24 rfl ?_
      refine v_get X (pc := 25) 0 (a := aR 1 0) (by decide) (by decide) rfl rfl rfl in_WallShifts (by decide) qw_96 rfl eW_shift_25 ?_
      refine v_iload_n X (pc := 28) 1 rfl eW_shift_28 rfl ?_
      obtain ⟨r5, m5, hc5, h⟩ := bd_some h
      refine v_callV X (pc := 29) [_] [] ok_V_W_119 (cP_near (by decide) hc5) rfl (Nat.le_of_ble_eq_true rfl) ⟨Nat.le_of_ble_eq_true rfl, Nat.le_of_ble_eq_true rfl⟩ ⟨Nat.zero_le _, Nat.zero_le _⟩ (by decide) (by decide) rfl rfl eW_shift_29 ?_
      refine v_istore_n X (pc := 32) (lv' := [(3, _), (0, _), (1, _), (2, _)]) eW_shift_32 rfl (Nat.le_of_ble_eq_true rfl) rfl ?_
      refine v_iload_n X (pc := 33) 3 rfl eW_shift_33 rfl ?_
      refine v_iconst X (pc := 34) (v := (1 : Int32)) eW_shift_34 (by decide) ?_
      refine v_iadd X (pc := 35) eW_shift_35 ?_
      refine v_istore X (pc := 36) (lv' := [(4, _), (3, _), (0, _), (1, _), (2, _)]) eW_shift_36 (Nat.le_of_ble_eq_true rfl) rfl ?_
      refine v_iconst X (pc := 38) (v := (1 : Int32)) eW_shift_38 (by decide) ?_
      refine v_istore X (pc := 39) (lv' := [(5, _), (4, _), (3, _), (0, _), (1, _), (2, _)]) eW_shift_39 (Nat.le_of_ble_eq_true rfl) rfl ?_
      refine v_gets X (pc := 41) 1 (by decide) qw_131 eW_shift_41 ?_
      refine v_iconst X (pc := 44) (v := (0 : Int32)) eW_shift_44 (by decide) ?_
      refine v_stld X (pc := 45) h (by decide) eW_shift_45 (fun h => ?_)
      refine v_istore X (pc := 46) (lv' := [(6, _), (5, _), (4, _), (3, _), (0, _), (1, _), (2, _)]) eW_shift_46 (Nat.le_of_ble_eq_true rfl) rfl ?_
      exact v_sub [4, 6, 3, 2, 1, 0] rfl (cW_shift_48 X hr _ _ _ _ _ _ _  h)
set_option maxHeartbeats 4000000 in
set_option maxRecDepth 100000 in
theorem cP_become_32 {p : Program} {l : Launch} {e : Env} {s : State} {m : MethodId} {args : Array Value} {below : List Frame} {meth : Method} {c : Code} {k : KK} {f : Nat} {o : Unit} {mem' : Mem} (X : CX p s m args meth c k prog_2_method_2_code 3 "WallShifts$Palace") (hr : meth.sig.returnType = (Option.none : Option Jvm.ClassFile.FieldType)) : ∀ (n : Nat) (q0 : Nat) (q1 : Nat) (x2 : Int32) (mem : Mem), q0 < 3 → q1 < 3 → dP_become_32 f n q0 q1 x2 mem = some (o, mem') → V p l e (rmM 1 60) s m args below meth c 0 0 (MQ below (RQc k none mem') args s 0 0 (kA k)) k 3 mem 32 [(0, aR 1 q0), (1, aR 1 q1), (2, aI x2)] [] := by
  intro n
  induction n with
  | zero =>
    intro q0 q1 x2 mem hq0 hq1 h
    exact nomatch (show (none : Option (Unit × Mem)) = some _ from h)
  | succ n ih =>
    intro q0 q1 x2 mem hq0 hq1 h
    rw [dP_become_32] at h
    refine v_iload_n X (pc := 32) 2 rfl eP_become_32 rfl ?_
    refine v_aload_n X (pc := 33) 0 rfl eP_become_33 rfl ?_
    refine v_get X (pc := 34) 2 (a := aI (gI mem 1 q0 2)) (by decide) hq0 rfl rfl rfl in_Palace (by decide) qw_34 rfl eP_become_34 ?_
    refine v_icmp_ge X (pc := 37) (tgt := 65) h eP_become_37 (by decide) (fun h => ?_) (fun h => ?_)
    · refine v_aload_n X (pc := 40) 1 rfl eP_become_40 rfl ?_
      refine v_get X (pc := 41) 3 (a := aR 3 q1) (by decide) hq1 rfl rfl rfl in_Palace (by decide) qw_36 rfl eP_become_41 ?_
      refine v_iload_n X (pc := 44) 2 rfl eP_become_44 rfl ?_
      refine v_aaldW X (pc := 45) h hq1 eP_become_45 (fun hb1 h => ?_)
      refine v_iconst X (pc := 46) (v := (0 : Int32)) eP_become_46 (by decide) ?_
      refine v_aload_n X (pc := 47) 0 rfl eP_become_47 rfl ?_
      refine v_get X (pc := 48) 3 (a := aR 3 q0) (by decide) hq0 rfl rfl rfl in_Palace (by decide) qw_36 rfl eP_become_48 ?_
      refine v_iload_n X (pc := 51) 2 rfl eP_become_51 rfl ?_
      refine v_aaldW X (pc := 52) h hq0 eP_become_52 (fun hb2 h => ?_)
      refine v_iconst X (pc := 53) (v := (0 : Int32)) eP_become_53 (by decide) ?_
      refine v_bipush X (pc := 54) (v := (6 : Int32)) eP_become_54 (by decide) ?_
      refine v_copyI X (pc := 56) h okC_P_30 (by decide) hb1 (by decide) hb2 rfl (fun _ => rfl) [] (Nat.le_of_ble_eq_true rfl) (Nat.le_of_ble_eq_true rfl) eP_become_56 (fun h => ?_)
      refine v_iinc X (pc := 59) (v := (x2 + (1 : Int32))) (lv' := [(2, _), (0, _), (1, _)]) 2 rfl (by rfl) eP_become_59 (Nat.le_of_ble_eq_true rfl) rfl ?_
      refine v_goto X (pc := 62) (tgt := 32) eP_become_62 (by decide) ?_
      exact v_sub [1, 2, 0] rfl (ih _ _ _ _ hq0 hq1 h)
    · exact v_vret X (pc := 65) h hr eP_become_65
set_option maxHeartbeats 4000000 in
set_option maxRecDepth 100000 in
theorem cP_become {f : Nat} {q0 : Nat} {q1 : Nat} {mem : Mem} {o : Unit} {mem' : Mem} (hq0 : q0 < 3) (hq1 : q1 < 3) (h : dP_become f q0 q1 mem = some (o, mem')) : RT yP_become prog_2_method_2_code 3 (Option.none : Option Jvm.ClassFile.FieldType) (rmM 1 60) [aR 1 q0, aR 1 q1] mem none mem' := by
  refine RT.of (by decide +kernel) (Nat.le_of_ble_eq_true rfl) (fun p l e s m args below meth c k X hr => ?_)
  replace X : CX p s m args meth c k prog_2_method_2_code 3 "WallShifts$Palace" := X
  unfold dP_become at h
  refine v_sub (lv' := [(0, _), (1, _)]) [0, 1] rfl ?_
  refine v_aload_n X (pc := 0) 0 rfl eP_become_0 rfl ?_
  refine v_aload_n X (pc := 1) 1 rfl eP_become_1 rfl ?_
  refine v_get X (pc := 2) 0 (a := aI (gI mem 1 q1 0)) (by decide) hq1 rfl rfl rfl in_Palace (by decide) qw_30 rfl eP_become_2 ?_
  refine v_put X (pc := 5) 0 (mem' := (sI mem 1 q0 0 (gI mem 1 q1 0))) (by decide) hq0 rfl (pf_1_0 _ _ _ _ _) rowI_ne rfl in_Palace ty_Palace_ok nm_Palace (by decide) qw_30 rfl rfl rfl (Nat.le_of_ble_eq_true rfl) eP_become_5 ?_
  refine v_aload_n X (pc := 8) 1 rfl eP_become_8 rfl ?_
  refine v_get X (pc := 9) 1 (a := aR 2 q1) (by decide) hq1 rfl rfl rfl in_Palace (by decide) qw_32 rfl eP_become_9 ?_
  refine v_iconst X (pc := 12) (v := (0 : Int32)) eP_become_12 (by decide) ?_
  refine v_aload_n X (pc := 13) 0 rfl eP_become_13 rfl ?_
  refine v_get X (pc := 14) 1 (a := aR 2 q0) (by decide) hq0 rfl rfl rfl in_Palace (by decide) qw_32 rfl eP_become_14 ?_
  refine v_iconst X (pc := 17) (v := (0 : Int32)) eP_become_17 (by decide) ?_
  refine v_iconst X (pc := 18) (v := (4 : Int32)) eP_become_18 (by decide) ?_
  refine v_copyI X (pc := 19) h okC_P_30 (by decide) hq1 (by decide) hq0 rfl (fun _ => rfl) [] (Nat.le_of_ble_eq_true rfl) (Nat.le_of_ble_eq_true rfl) eP_become_19 (fun h => ?_)
  refine v_aload_n X (pc := 22) 0 rfl eP_become_22 rfl ?_
  refine v_aload_n X (pc := 23) 1 rfl eP_become_23 rfl ?_
  refine v_get X (pc := 24) 2 (a := aI (gI (sIr (sI mem 1 q0 0 (gI mem 1 q1 0)) 2 q0 (va_cpy (gI (sI mem 1 q0 0 (gI mem 1 q1 0)) 2 q1) (gI (sI mem 1 q0 0 (gI mem 1 q1 0)) 2 q0) (0 : Int32).toNatClampNeg (0 : Int32).toNatClampNeg (4 : Int32).toNatClampNeg)) 1 q1 2)) (by decide) hq1 rfl rfl rfl in_Palace (by decide) qw_34 rfl eP_become_24 ?_
  refine v_put X (pc := 27) 2 (mem' := (sI (sIr (sI mem 1 q0 0 (gI mem 1 q1 0)) 2 q0 (va_cpy (gI (sI mem 1 q0 0 (gI mem 1 q1 0)) 2 q1) (gI (sI mem 1 q0 0 (gI mem 1 q1 0)) 2 q0) (0 : Int32).toNatClampNeg (0 : Int32).toNatClampNeg (4 : Int32).toNatClampNeg)) 1 q0 2 (gI (sIr (sI mem 1 q0 0 (gI mem 1 q1 0)) 2 q0 (va_cpy (gI (sI mem 1 q0 0 (gI mem 1 q1 0)) 2 q1) (gI (sI mem 1 q0 0 (gI mem 1 q1 0)) 2 q0) (0 : Int32).toNatClampNeg (0 : Int32).toNatClampNeg (4 : Int32).toNatClampNeg)) 1 q1 2))) (by decide) hq0 rfl (pf_1_2 _ _ _ _ _) rowI_ne rfl in_Palace ty_Palace_ok nm_Palace (by decide) qw_34 rfl rfl rfl (Nat.le_of_ble_eq_true rfl) eP_become_27 ?_
  refine v_iconst X (pc := 30) (v := (0 : Int32)) eP_become_30 (by decide) ?_
  refine v_istore_n X (pc := 31) (lv' := [(2, _), (0, _), (1, _)]) eP_become_31 rfl (Nat.le_of_ble_eq_true rfl) rfl ?_
  exact v_sub [1, 2, 0] rfl (cP_become_32 X hr _ _ _ _ _ hq0 hq1 h)
set_option maxHeartbeats 4000000 in
set_option maxRecDepth 100000 in
theorem cW_side_65 {p : Program} {l : Launch} {e : Env} {s : State} {m : MethodId} {args : Array Value} {below : List Frame} {meth : Method} {c : Code} {k : KK} {f : Nat} {o : Int32} {mem' : Mem} (X : CX p s m args meth c k prog_1_method_22_code 9 "WallShifts") (hr : meth.sig.returnType = (Option.some Jvm.ClassFile.FieldType.int)) : ∀ (n : Nat) (x1 : Int32) (x3 : Int32) (x4 : Int32) (x5 : Int32) (x6 : Int32) (x7 : Int32) (mem : Mem), dW_side_65 f n x1 x3 x4 x5 x6 x7 mem = some (o, mem') → V p l e (rmM 3 82) s m args below meth c 0 0 (MQ below (RQc k (some (aI o)) mem') args s 0 0 (kA k)) k 9 mem 65 [(0, aR 0 0), (1, aI x1), (3, aI x3), (4, aI x4), (5, aI x5), (6, aI x6), (7, aI x7)] [] := by
  intro n
  induction n with
  | zero =>
    intro x1 x3 x4 x5 x6 x7 mem  h
    exact nomatch (show (none : Option (Int32 × Mem)) = some _ from h)
  | succ n ih =>
    intro x1 x3 x4 x5 x6 x7 mem  h
    rw [dW_side_65] at h
    refine v_iload X (pc := 65) 6 rfl eW_side_65 ?_
    refine v_iconst X (pc := 67) (v := (4 : Int32)) eW_side_67 (by decide) ?_
    refine v_icmp_ge X (pc := 68) (tgt := 125) h eW_side_68 (by decide) (fun h => ?_) (fun h => ?_)
    · refine v_aload_n X (pc := 71) 0 rfl eW_side_71 rfl ?_
      refine v_get X (pc := 72) 3 (a := aR 1 2) (by decide) (by decide) rfl rfl rfl in_WallShifts (by decide) qw_99 rfl eW_side_72 ?_
      refine v_iload_n X (pc := 75) 1 rfl eW_side_75 rfl ?_
      refine v_iconst X (pc := 76) (v := (3 : Int32)) eW_side_76 (by decide) ?_
      refine v_iload X (pc := 77) 6 rfl eW_side_77 ?_
      obtain ⟨r1, m1, hc1, h⟩ := bd_some h
      refine v_callV X (pc := 79) [_, _, _] [] ok_V_W_103 (cP_replace (by decide) hc1) rfl (Nat.le_of_ble_eq_true rfl) ⟨Nat.le_of_ble_eq_true rfl, Nat.le_of_ble_eq_true rfl⟩ ⟨Nat.zero_le _, Nat.zero_le _⟩ (by decide) (by decide) rfl rfl eW_side_79 ?_
      refine v_pop X (pc := 82) rfl eW_side_82 ?_
      refine v_aload_n X (pc := 83) 0 rfl eW_side_83 rfl ?_
      refine v_get X (pc := 84) 3 (a := aR 1 2) (by decide) (by decide) rfl rfl rfl in_WallShifts (by decide) qw_99 rfl eW_side_84 ?_
      refine v_iload X (pc := 87) 3 rfl eW_side_87 ?_
      refine v_iload_n X (pc := 89) 2 rfl eW_side_89 rfl ?_
      refine v_aload_n X (pc := 90) 0 rfl eW_side_90 rfl ?_
      refine v_get X (pc := 91) 3 (a := aR 1 2) (by decide) (by decide) rfl rfl rfl in_WallShifts (by decide) qw_99 rfl eW_side_91 ?_
      refine v_get X (pc := 94) 1 (a := aR 2 2) (by decide) (by decide) rfl rfl rfl in_Palace (by decide) qw_33 rfl eW_side_94 ?_
      refine v_iconst X (pc := 97) (v := (0 : Int32)) eW_side_97 (by decide) ?_
      refine v_ialdK X (pc := 98) (n := 4) 0 (by decide) (by decide) (by decide) (by decide) rfl eW_side_98 ?_
      obtain ⟨r2, m2, hc2, h⟩ := bd_some h
      refine v_callV X (pc := 99) [_, _, _] [] ok_V_W_165 (cP_silentMinutes (by decide) hc2) rfl (Nat.le_of_ble_eq_true rfl) ⟨Nat.le_of_ble_eq_true rfl, Nat.le_of_ble_eq_true rfl⟩ ⟨Nat.zero_le _, Nat.zero_le _⟩ (by decide) (by decide) rfl rfl eW_side_99 ?_
      refine v_istore X (pc := 102) (lv' := [(8, _), (0, _), (1, _), (3, _), (4, _), (5, _), (6, _), (7, _)]) eW_side_102 (Nat.le_of_ble_eq_true rfl) rfl ?_
      refine v_iload X (pc := 104) 0 rfl eW_side_104 ?_
      refine v_iload X (pc := 106) 5 rfl eW_side_106 ?_
      refine v_icmp_ge X (pc := 108) (tgt := 119) h eW_side_108 (by decide) (fun h => ?_) (fun h => ?_)
      · refine v_iload X (pc := 111) 0 rfl eW_side_111 ?_
        refine v_istore X (pc := 113) (lv' := [(5, _), (8, _), (0, _), (1, _), (3, _), (4, _), (6, _), (7, _)]) eW_side_113 (Nat.le_of_ble_eq_true rfl) rfl ?_
        refine v_iload X (pc := 115) 7 rfl eW_side_115 ?_
        refine v_istore X (pc := 117) (lv' := [(6, _), (5, _), (8, _), (0, _), (1, _), (3, _), (4, _), (7, _)]) eW_side_117 (Nat.le_of_ble_eq_true rfl) rfl ?_
        refine v_iinc X (pc := 119) (v := (x7 + (1 : Int32))) (lv' := [(7, _), (6, _), (5, _), (8, _), (0, _), (1, _), (3, _), (4, _)]) 7 rfl (by rfl) eW_side_119 (Nat.le_of_ble_eq_true rfl) rfl ?_
        refine v_goto X (pc := 122) (tgt := 65) eW_side_122 (by decide) ?_
        exact v_sub [4, 5, 6, 7, 2, 1, 0] rfl (ih _ _ _ _ _ _ _  h)
      · refine v_iinc X (pc := 119) (v := (x7 + (1 : Int32))) (lv' := [(7, _), (8, _), (0, _), (1, _), (3, _), (4, _), (5, _), (6, _)]) 7 rfl (by rfl) eW_side_119 (Nat.le_of_ble_eq_true rfl) rfl ?_
        refine v_goto X (pc := 122) (tgt := 65) eW_side_122 (by decide) ?_
        exact v_sub [2, 3, 4, 5, 6, 7, 0] rfl (ih _ _ _ _ _ _ _  h)
    · refine v_iload X (pc := 125) 5 rfl eW_side_125 ?_
      exact v_iret X (pc := 127) h hr eW_side_127
