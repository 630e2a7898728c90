/-! GENERATED: the walks. -/
set_option maxHeartbeats 4000000 in
set_option maxRecDepth 100000 in
theorem cW_side {f : Nat} {a1 : Int32} {a2 : Int32} {a3 : Int32} {mem : Mem} {o : Int32} {mem' : Mem}  (h : dW_side f a1 a2 a3 mem = some (o, mem')) : RT yW_side prog_1_method_22_code 9 (Option.some Jvm.ClassFile.FieldType.int) (rmM 3 82) [aR 0 0, aI a1, aI a2, aI a3] mem (some (aI o)) mem' := by
  refine RT.of (by decide +kernel) (Nat.le_of_ble_eq_true rfl) (fun p l e s m args below meth c k X hr => ?_)
  replace X : CX p s m args meth c k prog_1_method_22_code 9 "WallShifts" := X
  unfold dW_side at h
  refine v_sub (lv' := [(0, _), (1, _), (2, _), (3, _)]) [0, 1, 2, 3] rfl ?_
  refine v_aload_n X (pc := 0) 0 rfl eW_side_0 rfl ?_
  refine v_iload_n X (pc := 1) 1 rfl eW_side_1 rfl ?_
  obtain ⟨r1, m1, hc1, h⟩ := bd_some h
  refine v_callV X (pc := 2) [_] [] ok_V_W_75 (cW_isWall  hc1) rfl (Nat.le_of_ble_eq_true rfl) ⟨Nat.le_of_ble_eq_true rfl, Nat.le_of_ble_eq_true rfl⟩ ⟨Nat.zero_le _, Nat.zero_le _⟩ (by decide) (by decide) rfl rfl eW_side_2 ?_
  refine v_if_eq X (pc := 5) (tgt := 26) h eW_side_5 (by decide) (fun h => ?_) (fun h => ?_)
  · refine v_aload_n X (pc := 26) 0 rfl eW_side_26 rfl ?_
    refine v_ldc X (pc := 27) qw_135 eW_side_27 ?_
    obtain ⟨r2, m2, hc2, h⟩ := bd_some h
    refine v_callV X (pc := 29) [_] [] ok_V_W_52 (cW_finding  hc2) rfl (Nat.le_of_ble_eq_true rfl) ⟨Nat.le_of_ble_eq_true rfl, Nat.le_of_ble_eq_true rfl⟩ ⟨Nat.zero_le _, Nat.zero_le _⟩ (by decide) (by decide) rfl rfl eW_side_29 ?_
    exact v_iret X (pc := 32) h hr eW_side_32
  · refine v_iload_n X (pc := 8) 2 rfl eW_side_8 rfl ?_
    obtain ⟨r3, m3, hc3, h⟩ := bd_some h
    refine v_callS X (pc := 9) [_] [] ok_S_W_63 (cW_isRoom  hc3) rfl (Nat.le_of_ble_eq_true rfl) ⟨Nat.le_of_ble_eq_true rfl, Nat.le_of_ble_eq_true rfl⟩ ⟨Nat.zero_le _, Nat.zero_le _⟩ eW_side_9 ?_
    refine v_if_eq X (pc := 12) (tgt := 26) h eW_side_12 (by decide) (fun h => ?_) (fun h => ?_)
    · refine v_aload_n X (pc := 26) 0 rfl eW_side_26 rfl ?_
      refine v_ldc X (pc := 27) qw_135 eW_side_27 ?_
      obtain ⟨r4, m4, hc4, h⟩ := bd_some h
      refine v_callV X (pc := 29) [_] [] ok_V_W_52 (cW_finding  hc4) rfl (Nat.le_of_ble_eq_true rfl) ⟨Nat.le_of_ble_eq_true rfl, Nat.le_of_ble_eq_true rfl⟩ ⟨Nat.zero_le _, Nat.zero_le _⟩ (by decide) (by decide) rfl rfl eW_side_29 ?_
      exact v_iret X (pc := 32) h hr eW_side_32
    · refine v_iload_n X (pc := 15) 3 rfl eW_side_15 rfl ?_
      refine v_iconst X (pc := 16) (v := (1 : Int32)) eW_side_16 (by decide) ?_
      refine v_sipush X (pc := 17) (v := (240 : Int32)) eW_side_17 (by decide) ?_
      obtain ⟨r5, m5, hc5, h⟩ := bd_some h
      refine v_callS X (pc := 20) [_, _, _] [] ok_S_W_82 (cW_isIn  hc5) rfl (Nat.le_of_ble_eq_true rfl) ⟨Nat.le_of_ble_eq_true rfl, Nat.le_of_ble_eq_true rfl⟩ ⟨Nat.zero_le _, Nat.zero_le _⟩ eW_side_20 ?_
      refine v_if_ne X (pc := 23) (tgt := 33) h eW_side_23 (by decide) (fun h => ?_) (fun h => ?_)
      · refine v_aload_n X (pc := 26) 0 rfl eW_side_26 rfl ?_
        refine v_ldc X (pc := 27) qw_135 eW_side_27 ?_
        obtain ⟨r6, m6, hc6, h⟩ := bd_some h
        refine v_callV X (pc := 29) [_] [] ok_V_W_52 (cW_finding  hc6) rfl (Nat.le_of_ble_eq_true rfl) ⟨Nat.le_of_ble_eq_true rfl, Nat.le_of_ble_eq_true rfl⟩ ⟨Nat.zero_le _, Nat.zero_le _⟩ (by decide) (by decide) rfl rfl eW_side_29 ?_
        exact v_iret X (pc := 32) h hr eW_side_32
      · refine v_aload_n X (pc := 33) 0 rfl eW_side_33 rfl ?_
        refine v_get X (pc := 34) 0 (a := aR 1 0) (by decide) (by decide) rfl rfl rfl in_WallShifts (by decide) qw_96 rfl eW_side_34 ?_
        refine v_iload_n X (pc := 37) 2 rfl eW_side_37 rfl ?_
        obtain ⟨r7, m7, hc7, h⟩ := bd_some h
        refine v_callV X (pc := 38) [_] [] ok_V_W_119 (cP_near (by decide) hc7) rfl (Nat.le_of_ble_eq_true rfl) ⟨Nat.le_of_ble_eq_true rfl, Nat.le_of_ble_eq_true rfl⟩ ⟨Nat.zero_le _, Nat.zero_le _⟩ (by decide) (by decide) rfl rfl eW_side_38 ?_
        refine v_istore X (pc := 41) (lv' := [(4, _), (0, _), (1, _), (2, _), (3, _)]) eW_side_41 (Nat.le_of_ble_eq_true rfl) rfl ?_
        refine v_iload_n X (pc := 43) 4 rfl eW_side_43 rfl ?_
        refine v_iconst X (pc := 44) (v := (1 : Int32)) eW_side_44 (by decide) ?_
        refine v_iadd X (pc := 45) eW_side_45 ?_
        refine v_istore X (pc := 46) (lv' := [(5, _), (4, _), (0, _), (1, _), (2, _), (3, _)]) eW_side_46 (Nat.le_of_ble_eq_true rfl) rfl ?_
        refine v_iconst X (pc := 48) (v := (0 : Int32)) eW_side_48 (by decide) ?_
        refine v_istore X (pc := 49) (lv' := [(6, _), (5, _), (4, _), (0, _), (1, _), (2, _), (3, _)]) eW_side_49 (Nat.le_of_ble_eq_true rfl) rfl ?_
        refine v_aload_n X (pc := 51) 3 rfl eW_side_51 rfl ?_
        refine v_get X (pc := 52) 3 (a := aR 1 2) (by decide) (by decide) rfl rfl rfl in_WallShifts (by decide) qw_99 rfl eW_side_52 ?_
        refine v_aload_n X (pc := 55) 3 rfl eW_side_55 rfl ?_
        refine v_get X (pc := 56) 0 (a := aR 1 0) (by decide) (by decide) rfl rfl rfl in_WallShifts (by decide) qw_96 rfl eW_side_56 ?_
        obtain ⟨r8, m8, hc8, h⟩ := bd_some h
        refine v_callV X (pc := 59) [_] [] ok_V_W_183 (cP_become (by decide) (by decide) hc8) rfl (Nat.le_of_ble_eq_true rfl) ⟨Nat.le_of_ble_eq_true rfl, Nat.le_of_ble_eq_true rfl⟩ ⟨Nat.zero_le _, Nat.zero_le _⟩ (by decide) (by decide) rfl rfl eW_side_59 ?_
        refine v_iconst X (pc := 62) (v := (0 : Int32)) eW_side_62 (by decide) ?_
        refine v_istore X (pc := 63) (lv' := [(7, _), (6, _), (5, _), (4, _), (0, _), (1, _), (2, _), (3, _)]) eW_side_63 (Nat.le_of_ble_eq_true rfl) rfl ?_
        exact v_sub [4, 5, 7, 3, 2, 1, 0] rfl (cW_side_65 X hr _ _ _ _ _ _ _ _  h)
set_option maxHeartbeats 4000000 in
set_option maxRecDepth 100000 in
theorem cW_lost {f : Nat} {a1 : Int32} {a2 : Int32} {mem : Mem} {o : Int32} {mem' : Mem}  (h : dW_lost f a1 a2 mem = some (o, mem')) : RT yW_lost prog_1_method_23_code 3 (Option.some Jvm.ClassFile.FieldType.int) (rmM 4 106) [aR 0 0, aI a1, aI a2] mem (some (aI o)) mem' := by
  refine RT.of (by decide +kernel) (Nat.le_of_ble_eq_true rfl) (fun p l e s m args below meth c k X hr => ?_)
  replace X : CX p s m args meth c k prog_1_method_23_code 3 "WallShifts" := X
  unfold dW_lost at h
  refine v_sub (lv' := [(0, _), (1, _), (2, _)]) [0, 1, 2] rfl ?_
  refine v_iload_n X (pc := 0) 1 rfl eW_lost_0 rfl ?_
  obtain ⟨r1, m1, hc1, h⟩ := bd_some h
  refine v_callS X (pc := 1) [_] [] ok_S_W_63 (cW_isRoom  hc1) rfl (Nat.le_of_ble_eq_true rfl) ⟨Nat.le_of_ble_eq_true rfl, Nat.le_of_ble_eq_true rfl⟩ ⟨Nat.zero_le _, Nat.zero_le _⟩ eW_lost_1 ?_
  refine v_if_eq X (pc := 4) (tgt := 14) h eW_lost_4 (by decide) (fun h => ?_) (fun h => ?_)
  · refine v_aload_n X (pc := 14) 0 rfl eW_lost_14 rfl ?_
    refine v_ldc X (pc := 15) qw_135 eW_lost_15 ?_
    obtain ⟨r2, m2, hc2, h⟩ := bd_some h
    refine v_callV X (pc := 17) [_] [] ok_V_W_52 (cW_finding  hc2) rfl (Nat.le_of_ble_eq_true rfl) ⟨Nat.le_of_ble_eq_true rfl, Nat.le_of_ble_eq_true rfl⟩ ⟨Nat.zero_le _, Nat.zero_le _⟩ (by decide) (by decide) rfl rfl eW_lost_17 ?_
    exact v_iret X (pc := 20) h hr eW_lost_20
  · refine v_iload_n X (pc := 7) 2 rfl eW_lost_7 rfl ?_
    obtain ⟨r3, m3, hc3, h⟩ := bd_some h
    refine v_callS X (pc := 8) [_] [] ok_S_W_131 (cW_isSetOfWords  hc3) rfl (Nat.le_of_ble_eq_true rfl) ⟨Nat.le_of_ble_eq_true rfl, Nat.le_of_ble_eq_true rfl⟩ ⟨Nat.zero_le _, Nat.zero_le _⟩ eW_lost_8 ?_
    refine v_if_ne X (pc := 11) (tgt := 21) h eW_lost_11 (by decide) (fun h => ?_) (fun h => ?_)
    · refine v_aload_n X (pc := 14) 0 rfl eW_lost_14 rfl ?_
      refine v_ldc X (pc := 15) qw_135 eW_lost_15 ?_
      obtain ⟨r4, m4, hc4, h⟩ := bd_some h
      refine v_callV X (pc := 17) [_] [] ok_V_W_52 (cW_finding  hc4) rfl (Nat.le_of_ble_eq_true rfl) ⟨Nat.le_of_ble_eq_true rfl, Nat.le_of_ble_eq_true rfl⟩ ⟨Nat.zero_le _, Nat.zero_le _⟩ (by decide) (by decide) rfl rfl eW_lost_17 ?_
      exact v_iret X (pc := 20) h hr eW_lost_20
    · refine v_aload_n X (pc := 21) 0 rfl eW_lost_21 rfl ?_
      refine v_get X (pc := 22) 3 (a := aR 1 2) (by decide) (by decide) rfl rfl rfl in_WallShifts (by decide) qw_99 rfl eW_lost_22 ?_
      refine v_aload_n X (pc := 25) 0 rfl eW_lost_25 rfl ?_
      refine v_get X (pc := 26) 0 (a := aR 1 0) (by decide) (by decide) rfl rfl rfl in_WallShifts (by decide) qw_96 rfl eW_lost_26 ?_
      obtain ⟨r5, m5, hc5, h⟩ := bd_some h
      refine v_callV X (pc := 29) [_] [] ok_V_W_183 (cP_become (by decide) (by decide) hc5) rfl (Nat.le_of_ble_eq_true rfl) ⟨Nat.le_of_ble_eq_true rfl, Nat.le_of_ble_eq_true rfl⟩ ⟨Nat.zero_le _, Nat.zero_le _⟩ (by decide) (by decide) rfl rfl eW_lost_29 ?_
      refine v_aload_n X (pc := 32) 0 rfl eW_lost_32 rfl ?_
      refine v_get X (pc := 33) 3 (a := aR 1 2) (by decide) (by decide) rfl rfl rfl in_WallShifts (by decide) qw_99 rfl eW_lost_33 ?_
      refine v_iload_n X (pc := 36) 1 rfl eW_lost_36 rfl ?_
      refine v_iload_n X (pc := 37) 2 rfl eW_lost_37 rfl ?_
      obtain ⟨r6, m6, hc6, h⟩ := bd_some h
      refine v_callV X (pc := 38) [_, _] [] ok_V_W_139 (cP_utterAll (by decide) hc6) rfl (Nat.le_of_ble_eq_true rfl) ⟨Nat.le_of_ble_eq_true rfl, Nat.le_of_ble_eq_true rfl⟩ ⟨Nat.zero_le _, Nat.zero_le _⟩ (by decide) (by decide) rfl rfl eW_lost_38 ?_
      refine v_pop X (pc := 41) rfl eW_lost_41 ?_
      refine v_aload_n X (pc := 42) 0 rfl eW_lost_42 rfl ?_
      refine v_get X (pc := 43) 3 (a := aR 1 2) (by decide) (by decide) rfl rfl rfl in_WallShifts (by decide) qw_99 rfl eW_lost_43 ?_
      refine v_get X (pc := 46) 4 (a := aI (gI m6 1 2 4)) (by decide) (by decide) rfl rfl rfl in_Palace (by decide) qw_39 rfl eW_lost_46 ?_
      exact v_iret X (pc := 49) h hr eW_lost_49
set_option maxHeartbeats 4000000 in
set_option maxRecDepth 100000 in
theorem cW_best_23 {p : Program} {l : Launch} {e : Env} {s : State} {m : MethodId} {args : Array Value} {below : List Frame} {meth : Method} {c : Code} {k : KK} {f : Nat} {o : Int32} {mem' : Mem} (X : CX p s m args meth c k prog_1_method_24_code 6 "WallShifts") (hr : meth.sig.returnType = (Option.some Jvm.ClassFile.FieldType.int)) : ∀ (n : Nat) (x1 : Int32) (x2 : Int32) (x3 : Int32) (x4 : Int32) (mem : Mem), dW_best_23 f n x1 x2 x3 x4 mem = some (o, mem') → V p l e (rmM 4 106) s m args below meth c 0 0 (MQ below (RQc k (some (aI o)) mem') args s 0 0 (kA k)) k 6 mem 23 [(0, aR 0 0), (1, aI x1), (2, aI x2), (3, aI x3), (4, aI x4)] [] := by
  intro n
  induction n with
  | zero =>
    intro x1 x2 x3 x4 mem  h
    exact nomatch (show (none : Option (Int32 × Mem)) = some _ from h)
  | succ n ih =>
    intro x1 x2 x3 x4 mem  h
    rw [dW_best_23] at h
    refine v_iload X (pc := 23) 4 rfl eW_best_23 ?_
    refine v_bipush X (pc := 25) (v := (10 : Int32)) eW_best_25 (by decide) ?_
    refine v_icmp_ge X (pc := 27) (tgt := 71) h eW_best_27 (by decide) (fun h => ?_) (fun h => ?_)
    · refine v_aload_n X (pc := 30) 0 rfl eW_best_30 rfl ?_
      refine v_get X (pc := 31) 3 (a := aR 1 2) (by decide) (by decide) rfl rfl rfl in_WallShifts (by decide) qw_99 rfl eW_best_31 ?_
      refine v_aload_n X (pc := 34) 0 rfl eW_best_34 rfl ?_
      refine v_get X (pc := 35) 0 (a := aR 1 0) (by decide) (by decide) rfl rfl rfl in_WallShifts (by decide) qw_96 rfl eW_best_35 ?_
      obtain ⟨r1, m1, hc1, h⟩ := bd_some h
      refine v_callV X (pc := 38) [_] [] ok_V_W_183 (cP_become (by decide) (by decide) hc1) rfl (Nat.le_of_ble_eq_true rfl) ⟨Nat.le_of_ble_eq_true rfl, Nat.le_of_ble_eq_true rfl⟩ ⟨Nat.zero_le _, Nat.zero_le _⟩ (by decide) (by decide) rfl rfl eW_best_38 ?_
      refine v_aload_n X (pc := 41) 0 rfl eW_best_41 rfl ?_
      refine v_get X (pc := 42) 3 (a := aR 1 2) (by decide) (by decide) rfl rfl rfl in_WallShifts (by decide) qw_99 rfl eW_best_42 ?_
      refine v_iload X (pc := 45) 4 rfl eW_best_45 ?_
      refine v_iload_n X (pc := 47) 1 rfl eW_best_47 rfl ?_
      obtain ⟨r2, m2, hc2, h⟩ := bd_some h
      refine v_callV X (pc := 48) [_, _] [] ok_V_W_139 (cP_utterAll (by decide) hc2) rfl (Nat.le_of_ble_eq_true rfl) ⟨Nat.le_of_ble_eq_true rfl, Nat.le_of_ble_eq_true rfl⟩ ⟨Nat.zero_le _, Nat.zero_le _⟩ (by decide) (by decide) rfl rfl eW_best_48 ?_
      refine v_istore X (pc := 51) (lv' := [(5, _), (0, _), (1, _), (2, _), (3, _), (4, _)]) eW_best_51 (Nat.le_of_ble_eq_true rfl) rfl ?_
      refine v_iload X (pc := 53) 0 rfl eW_best_53 ?_
      refine v_iload_n X (pc := 55) 3 rfl eW_best_55 rfl ?_
      refine v_icmp_ge X (pc := 56) (tgt := 65) h eW_best_56 (by decide) (fun h => ?_) (fun h => ?_)
      · refine v_iload X (pc := 59) 0 rfl eW_best_59 ?_
        refine v_istore_n X (pc := 61) (lv' := [(2, _), (5, _), (0, _), (1, _), (3, _), (4, _)]) eW_best_61 rfl (Nat.le_of_ble_eq_true rfl) rfl ?_
        refine v_iload X (pc := 62) 5 rfl eW_best_62 ?_
        refine v_istore_n X (pc := 64) (lv' := [(3, _), (2, _), (5, _), (0, _), (1, _), (4, _)]) eW_best_64 rfl (Nat.le_of_ble_eq_true rfl) rfl ?_
        refine v_iinc X (pc := 65) (v := (x4 + (1 : Int32))) (lv' := [(4, _), (3, _), (2, _), (5, _), (0, _), (1, _)]) 5 rfl (by rfl) eW_best_65 (Nat.le_of_ble_eq_true rfl) rfl ?_
        refine v_goto X (pc := 68) (tgt := 23) eW_best_68 (by decide) ?_
        exact v_sub [4, 5, 2, 1, 0] rfl (ih _ _ _ _ _  h)
      · refine v_iinc X (pc := 65) (v := (x4 + (1 : Int32))) (lv' := [(4, _), (5, _), (0, _), (1, _), (2, _), (3, _)]) 5 rfl (by rfl) eW_best_65 (Nat.le_of_ble_eq_true rfl) rfl ?_
        refine v_goto X (pc := 68) (tgt := 23) eW_best_68 (by decide) ?_
        exact v_sub [2, 3, 4, 5, 0] rfl (ih _ _ _ _ _  h)
    · refine v_iload_n X (pc := 71) 3 rfl eW_best_71 rfl ?_
      exact v_iret X (pc := 72) h hr eW_best_72
set_option maxHeartbeats 4000000 in
set_option maxRecDepth 100000 in
theorem cW_best {f : Nat} {a1 : Int32} {mem : Mem} {o : Int32} {mem' : Mem}  (h : dW_best f a1 mem = some (o, mem')) : RT yW_best prog_1_method_24_code 6 (Option.some Jvm.ClassFile.FieldType.int) (rmM 4 106) [aR 0 0, aI a1] mem (some (aI o)) mem' := by
  refine RT.of (by decide +kernel) (Nat.le_of_ble_eq_true rfl) (fun p l e s m args below meth c k X hr => ?_)
  replace X : CX p s m args meth c k prog_1_method_24_code 6 "WallShifts" := X
  unfold dW_best at h
  refine v_sub (lv' := [(0, _), (1, _)]) [0, 1] rfl ?_
  refine v_iload_n X (pc := 0) 1 rfl eW_best_0 rfl ?_
  obtain ⟨r1, m1, hc1, h⟩ := bd_some h
  refine v_callS X (pc := 1) [_] [] ok_S_W_131 (cW_isSetOfWords  hc1) rfl (Nat.le_of_ble_eq_true rfl) ⟨Nat.le_of_ble_eq_true rfl, Nat.le_of_ble_eq_true rfl⟩ ⟨Nat.zero_le _, Nat.zero_le _⟩ eW_best_1 ?_
  refine v_if_ne X (pc := 4) (tgt := 14) h eW_best_4 (by decide) (fun h => ?_) (fun h => ?_)
  · refine v_aload_n X (pc := 7) 0 rfl eW_best_7 rfl ?_
    refine v_ldc X (pc := 8) qw_135 eW_best_8 ?_
    obtain ⟨r2, m2, hc2, h⟩ := bd_some h
    refine v_callV X (pc := 10) [_] [] ok_V_W_52 (cW_finding  hc2) rfl (Nat.le_of_ble_eq_true rfl) ⟨Nat.le_of_ble_eq_true rfl, Nat.le_of_ble_eq_true rfl⟩ ⟨Nat.zero_le _, Nat.zero_le _⟩ (by decide) (by decide) rfl rfl eW_best_10 ?_
    exact v_iret X (pc := 13) h hr eW_best_13
  · refine v_sipush X (pc := 14) (v := (161 : Int32)) eW_best_14 (by decide) ?_
    refine v_istore_n X (pc := 17) (lv' := [(2, _), (0, _), (1, _)]) eW_best_17 rfl (Nat.le_of_ble_eq_true rfl) rfl ?_
    refine v_iconst X (pc := 18) (v := (0 : Int32)) eW_best_18 (by decide) ?_
    refine v_istore_n X (pc := 19) (lv' := [(3, _), (2, _), (0, _), (1, _)]) eW_best_19 rfl (Nat.le_of_ble_eq_true rfl) rfl ?_
    refine v_iconst X (pc := 20) (v := (0 : Int32)) eW_best_20 (by decide) ?_
    refine v_istore X (pc := 21) (lv' := [(4, _), (3, _), (2, _), (0, _), (1, _)]) eW_best_21 (Nat.le_of_ble_eq_true rfl) rfl ?_
    exact v_sub [3, 4, 2, 1, 0] rfl (cW_best_23 X hr _ _ _ _ _ _  h)
set_option maxHeartbeats 4000000 in
set_option maxRecDepth 100000 in
theorem cW_image {f : Nat}  {mem : Mem} {o : Int32} {mem' : Mem}  (h : dW_image f  mem = some (o, mem')) : RT yW_image prog_1_method_34_code 1 (Option.some Jvm.ClassFile.FieldType.int) (rmM 2 82) [aR 0 0] mem (some (aI o)) mem' := by
  refine RT.of (by decide +kernel) (Nat.le_of_ble_eq_true rfl) (fun p l e s m args below meth c k X hr => ?_)
  replace X : CX p s m args meth c k prog_1_method_34_code 1 "WallShifts" := X
  unfold dW_image at h
  refine v_sub (lv' := [(0, _)]) [0] rfl ?_
  refine v_aload_n X (pc := 0) 0 rfl eW_image_0 rfl ?_
  refine v_get X (pc := 1) 1 (a := aR 1 1) (by decide) (by decide) rfl rfl rfl in_WallShifts (by decide) qw_97 rfl eW_image_1 ?_
  refine v_aload_n X (pc := 4) 0 rfl eW_image_4 rfl ?_
  refine v_get X (pc := 5) 0 (a := aR 1 0) (by decide) (by decide) rfl rfl rfl in_WallShifts (by decide) qw_96 rfl eW_image_5 ?_
  obtain ⟨r1, m1, hc1, h⟩ := bd_some h
  refine v_callV X (pc := 8) [_] [] ok_V_W_183 (cP_become (by decide) (by decide) hc1) rfl (Nat.le_of_ble_eq_true rfl) ⟨Nat.le_of_ble_eq_true rfl, Nat.le_of_ble_eq_true rfl⟩ ⟨Nat.zero_le _, Nat.zero_le _⟩ (by decide) (by decide) rfl rfl eW_image_8 ?_
  refine v_aload_n X (pc := 11) 0 rfl eW_image_11 rfl ?_
  refine v_iconst X (pc := 12) (v := (1 : Int32)) eW_image_12 (by decide) ?_
  refine v_put X (pc := 13) 2 (mem' := (sI m1 0 0 2 (1 : Int32))) (by decide) (by decide) rfl (pf_0_2 _ _ _ _ _) rowI_ne rfl in_WallShifts ty_WallShifts_ok nm_WallShifts (by decide) qw_98 rfl rfl rfl (Nat.le_of_ble_eq_true rfl) eW_image_13 ?_
  refine v_iconst X (pc := 16) (v := (1 : Int32)) eW_image_16 (by decide) ?_
  exact v_iret X (pc := 17) h hr eW_image_17
set_option maxHeartbeats 4000000 in
set_option maxRecDepth 100000 in
theorem cW_undo {f : Nat}  {mem : Mem} {o : Int32} {mem' : Mem}  (h : dW_undo f  mem = some (o, mem')) : RT yW_undo prog_1_method_35_code 1 (Option.some Jvm.ClassFile.FieldType.int) (rmM 2 82) [aR 0 0] mem (some (aI o)) mem' := by
  refine RT.of (by decide +kernel) (Nat.le_of_ble_eq_true rfl) (fun p l e s m args below meth c k X hr => ?_)
  replace X : CX p s m args meth c k prog_1_method_35_code 1 "WallShifts" := X
  unfold dW_undo at h
  refine v_sub (lv' := [(0, _)]) [0] rfl ?_
  refine v_aload_n X (pc := 0) 0 rfl eW_undo_0 rfl ?_
  refine v_get X (pc := 1) 2 (a := aI (gI mem 0 0 2)) (by decide) (by decide) rfl rfl rfl in_WallShifts (by decide) qw_98 rfl eW_undo_1 ?_
  refine v_if_ne X (pc := 4) (tgt := 14) h eW_undo_4 (by decide) (fun h => ?_) (fun h => ?_)
  · refine v_aload_n X (pc := 7) 0 rfl eW_undo_7 rfl ?_
    refine v_ldc X (pc := 8) qw_268 eW_undo_8 ?_
    obtain ⟨r1, m1, hc1, h⟩ := bd_some h
    refine v_callV X (pc := 10) [_] [] ok_V_W_52 (cW_finding  hc1) rfl (Nat.le_of_ble_eq_true rfl) ⟨Nat.le_of_ble_eq_true rfl, Nat.le_of_ble_eq_true rfl⟩ ⟨Nat.zero_le _, Nat.zero_le _⟩ (by decide) (by decide) rfl rfl eW_undo_10 ?_
    exact v_iret X (pc := 13) h hr eW_undo_13
  · refine v_aload_n X (pc := 14) 0 rfl eW_undo_14 rfl ?_
    refine v_get X (pc := 15) 0 (a := aR 1 0) (by decide) (by decide) rfl rfl rfl in_WallShifts (by decide) qw_96 rfl eW_undo_15 ?_
    refine v_aload_n X (pc := 18) 0 rfl eW_undo_18 rfl ?_
    refine v_get X (pc := 19) 1 (a := aR 1 1) (by decide) (by decide) rfl rfl rfl in_WallShifts (by decide) qw_97 rfl eW_undo_19 ?_
    obtain ⟨r2, m2, hc2, h⟩ := bd_some h
    refine v_callV X (pc := 22) [_] [] ok_V_W_183 (cP_become (by decide) (by decide) hc2) rfl (Nat.le_of_ble_eq_true rfl) ⟨Nat.le_of_ble_eq_true rfl, Nat.le_of_ble_eq_true rfl⟩ ⟨Nat.zero_le _, Nat.zero_le _⟩ (by decide) (by decide) rfl rfl eW_undo_22 ?_
    refine v_aload_n X (pc := 25) 0 rfl eW_undo_25 rfl ?_
    refine v_get X (pc := 26) 0 (a := aR 1 0) (by decide) (by decide) rfl rfl rfl in_WallShifts (by decide) qw_96 rfl eW_undo_26 ?_
    refine v_get X (pc := 29) 2 (a := aI (gI m2 1 0 2)) (by decide) (by decide) rfl rfl rfl in_Palace (by decide) qw_35 rfl eW_undo_29 ?_
    exact v_iret X (pc := 32) h hr eW_undo_32
set_option maxHeartbeats 4000000 in
set_option maxRecDepth 100000 in
theorem cW_isKind {f : Nat} {a0 : Int32} {mem : Mem} {o : Int32} {mem' : Mem}  (h : dW_isKind f a0 mem = some (o, mem')) : RT yW_isKind prog_1_method_47_code 1 (Option.some Jvm.ClassFile.FieldType.boolean) (rmM 1 22) [aI a0] mem (some (aI o)) mem' := by
  refine RT.of (by decide +kernel) (Nat.le_of_ble_eq_true rfl) (fun p l e s m args below meth c k X hr => ?_)
  replace X : CX p s m args meth c k prog_1_method_47_code 1 "WallShifts" := X
  unfold dW_isKind at h
  refine v_sub (lv' := [(0, _)]) [0] rfl ?_
  refine v_iload_n X (pc := 0) 0 rfl eW_isKind_0 rfl ?_
  refine v_iconst X (pc := 1) (v := (0 : Int32)) eW_isKind_1 (by decide) ?_
  refine v_iconst X (pc := 2) (v := (5 : Int32)) eW_isKind_2 (by decide) ?_
  obtain ⟨r1, m1, hc1, h⟩ := bd_some h
  refine v_callS X (pc := 3) [_, _, _] [] ok_S_W_82 (cW_isIn  hc1) rfl (Nat.le_of_ble_eq_true rfl) ⟨Nat.le_of_ble_eq_true rfl, Nat.le_of_ble_eq_true rfl⟩ ⟨Nat.zero_le _, Nat.zero_le _⟩ eW_isKind_3 ?_
  obtain ⟨hz, h⟩ := zb_some h
  exact v_zret X (pc := 6) h hr (zb_n hz) eW_isKind_6
set_option maxHeartbeats 4000000 in
set_option maxRecDepth 100000 in
theorem cP_isBuiltUp {f : Nat} {q0 : Nat} {mem : Mem} {o : Int32} {mem' : Mem} (hq0 : q0 < 3) (h : dP_isBuiltUp f q0 mem = some (o, mem')) : RT yP_isBuiltUp prog_2_method_3_code 1 (Option.some Jvm.ClassFile.FieldType.boolean) (rmM 0 0) [aR 1 q0] mem (some (aI o)) mem' := by
  refine RT.of (by decide +kernel) (Nat.le_of_ble_eq_true rfl) (fun p l e s m args below meth c k X hr => ?_)
  replace X : CX p s m args meth c k prog_2_method_3_code 1 "WallShifts$Palace" := X
  unfold dP_isBuiltUp at h
  refine v_sub (lv' := [(0, _)]) [0] rfl ?_
  refine v_aload_n X (pc := 0) 0 rfl eP_isBuiltUp_0 rfl ?_
  refine v_get X (pc := 1) 2 (a := aI (gI mem 1 q0 2)) (by decide) hq0 rfl rfl rfl in_Palace (by decide) qw_34 rfl eP_isBuiltUp_1 ?_
  refine v_bipush X (pc := 4) (v := (10 : Int32)) eP_isBuiltUp_4 (by decide) ?_
  refine v_icmp_lt X (pc := 6) (tgt := 13) h eP_isBuiltUp_6 (by decide) (fun h => ?_) (fun h => ?_)
  · refine v_iconst X (pc := 13) (v := (0 : Int32)) eP_isBuiltUp_13 (by decide) ?_
    exact v_zret X (pc := 14) h hr rfl eP_isBuiltUp_14
  · refine v_iconst X (pc := 9) (v := (1 : Int32)) eP_isBuiltUp_9 (by decide) ?_
    refine v_goto X (pc := 10) (tgt := 14) eP_isBuiltUp_10 (by decide) ?_
    exact v_zret X (pc := 14) h hr rfl eP_isBuiltUp_14
set_option maxHeartbeats 4000000 in
set_option maxRecDepth 100000 in
theorem cP_build {f : Nat} {q0 : Nat} {a1 : Int32} {a2 : Int32} {a3 : Int32} {a4 : Int32} {mem : Mem} {o : Int32} {mem' : Mem} (hq0 : q0 < 3) (h : dP_build f q0 a1 a2 a3 a4 mem = some (o, mem')) : RT yP_build prog_2_method_4_code 6 (Option.some Jvm.ClassFile.FieldType.int) (rmM 0 0) [aR 1 q0, aI a1, aI a2, aI a3, aI a4] mem (some (aI o)) mem' := by
  refine RT.of (by decide +kernel) (Nat.le_of_ble_eq_true rfl) (fun p l e s m args below meth c k X hr => ?_)
  replace X : CX p s m args meth c k prog_2_method_4_code 6 "WallShifts$Palace" := X
  unfold dP_build at h
  refine v_sub (lv' := [(0, _), (1, _), (2, _), (3, _), (4, _)]) [0, 1, 2, 3, 4] rfl ?_
  refine v_aload_n X (pc := 0) 0 rfl eP_build_0 rfl ?_
  refine v_get X (pc := 1) 3 (a := aR 3 q0) (by decide) hq0 rfl rfl rfl in_Palace (by decide) qw_36 rfl eP_build_1 ?_
  refine v_aload_n X (pc := 4) 0 rfl eP_build_4 rfl ?_
  refine v_get X (pc := 5) 2 (a := aI (gI mem 1 q0 2)) (by decide) hq0 rfl rfl rfl in_Palace (by decide) qw_34 rfl eP_build_5 ?_
  refine v_aaldW X (pc := 8) h hq0 eP_build_8 (fun hb1 h => ?_)
  refine v_astore X (pc := 9) (lv' := [(5, _), (0, _), (1, _), (2, _), (3, _), (4, _)]) eP_build_9 (Nat.le_of_ble_eq_true rfl) rfl ?_
  refine v_aload X (pc := 11) 0 rfl eP_build_11 ?_
  refine v_iconst X (pc := 13) (v := (0 : Int32)) eP_build_13 (by decide) ?_
  refine v_iload_n X (pc := 14) 2 rfl eP_build_14 rfl ?_
  refine v_iastK X (pc := 15) (n := 6) 0 (by decide) (by decide) (by decide) hb1 (fun _ => rfl) eP_build_15 ?_
  refine v_aload X (pc := 16) 0 rfl eP_build_16 ?_
  refine v_iconst X (pc := 18) (v := (1 : Int32)) eP_build_18 (by decide) ?_
  refine v_iload_n X (pc := 19) 3 rfl eP_build_19 rfl ?_
  refine v_iastK X (pc := 20) (n := 6) 1 (by decide) (by decide) (by decide) hb1 (fun _ => rfl) eP_build_20 ?_
  refine v_aload X (pc := 21) 0 rfl eP_build_21 ?_
  refine v_iconst X (pc := 23) (v := (2 : Int32)) eP_build_23 (by decide) ?_
  refine v_iload_n X (pc := 24) 4 rfl eP_build_24 rfl ?_
  refine v_iastK X (pc := 25) (n := 6) 2 (by decide) (by decide) (by decide) hb1 (fun _ => rfl) eP_build_25 ?_
  refine v_aload X (pc := 26) 0 rfl eP_build_26 ?_
  refine v_iconst X (pc := 28) (v := (3 : Int32)) eP_build_28 (by decide) ?_
  refine v_iload X (pc := 29) 5 rfl eP_build_29 ?_
  refine v_iastK X (pc := 31) (n := 6) 3 (by decide) (by decide) (by decide) hb1 (fun _ => rfl) eP_build_31 ?_
  refine v_aload X (pc := 32) 0 rfl eP_build_32 ?_
  refine v_iconst X (pc := 34) (v := (4 : Int32)) eP_build_34 (by decide) ?_
  refine v_iconst X (pc := 35) (v := (0 : Int32)) eP_build_35 (by decide) ?_
  refine v_iastK X (pc := 36) (n := 6) 4 (by decide) (by decide) (by decide) hb1 (fun _ => rfl) eP_build_36 ?_
  refine v_aload X (pc := 37) 0 rfl eP_build_37 ?_
  refine v_iconst X (pc := 39) (v := (5 : Int32)) eP_build_39 (by decide) ?_
  refine v_iconst X (pc := 40) (v := (0 : Int32)) eP_build_40 (by decide) ?_
  refine v_iastK X (pc := 41) (n := 6) 5 (by decide) (by decide) (by decide) hb1 (fun _ => rfl) eP_build_41 ?_
  refine v_aload_n X (pc := 42) 1 rfl eP_build_42 rfl ?_
  refine v_dup X (pc := 43) rfl eP_build_43 ?_
  refine v_get X (pc := 44) 2 (a := aI (gI (sI (sI (sI (sI (sI (sI mem 4 (10 * q0 + (gI mem 1 q0 2).toNatClampNeg) 0 a1) 4 (10 * q0 + (gI mem 1 q0 2).toNatClampNeg) 1 a2) 4 (10 * q0 + (gI mem 1 q0 2).toNatClampNeg) 2 a3) 4 (10 * q0 + (gI mem 1 q0 2).toNatClampNeg) 3 a4) 4 (10 * q0 + (gI mem 1 q0 2).toNatClampNeg) 4 (0 : Int32)) 4 (10 * q0 + (gI mem 1 q0 2).toNatClampNeg) 5 (0 : Int32)) 1 q0 2)) (by decide) hq0 rfl rfl rfl in_Palace (by decide) qw_34 rfl eP_build_44 ?_
  refine v_dup_x1 X (pc := 47) rfl rfl eP_build_47 ?_
  refine v_iconst X (pc := 48) (v := (1 : Int32)) eP_build_48 (by decide) ?_
  refine v_iadd X (pc := 49) eP_build_49 ?_
  refine v_put X (pc := 50) 2 (mem' := (sI (sI (sI (sI (sI (sI (sI mem 4 (10 * q0 + (gI mem 1 q0 2).toNatClampNeg) 0 a1) 4 (10 * q0 + (gI mem 1 q0 2).toNatClampNeg) 1 a2) 4 (10 * q0 + (gI mem 1 q0 2).toNatClampNeg) 2 a3) 4 (10 * q0 + (gI mem 1 q0 2).toNatClampNeg) 3 a4) 4 (10 * q0 + (gI mem 1 q0 2).toNatClampNeg) 4 (0 : Int32)) 4 (10 * q0 + (gI mem 1 q0 2).toNatClampNeg) 5 (0 : Int32)) 1 q0 2 ((gI (sI (sI (sI (sI (sI (sI mem 4 (10 * q0 + (gI mem 1 q0 2).toNatClampNeg) 0 a1) 4 (10 * q0 + (gI mem 1 q0 2).toNatClampNeg) 1 a2) 4 (10 * q0 + (gI mem 1 q0 2).toNatClampNeg) 2 a3) 4 (10 * q0 + (gI mem 1 q0 2).toNatClampNeg) 3 a4) 4 (10 * q0 + (gI mem 1 q0 2).toNatClampNeg) 4 (0 : Int32)) 4 (10 * q0 + (gI mem 1 q0 2).toNatClampNeg) 5 (0 : Int32)) 1 q0 2) + (1 : Int32)))) (by decide) hq0 rfl (pf_1_2 _ _ _ _ _) rowI_ne rfl in_Palace ty_Palace_ok nm_Palace (by decide) qw_34 rfl rfl rfl (Nat.le_of_ble_eq_true rfl) eP_build_50 ?_
  exact v_iret X (pc := 53) h hr eP_build_53
set_option maxHeartbeats 4000000 in
set_option maxRecDepth 100000 in
theorem cW_wall {f : Nat} {a1 : Int32} {a2 : Int32} {a3 : Int32} {mem : Mem} {o : Int32} {mem' : Mem}  (h : dW_wall f a1 a2 a3 mem = some (o, mem')) : RT yW_wall prog_1_method_3_code 4 (Option.some Jvm.ClassFile.FieldType.int) (rmM 2 44) [aR 0 0, aI a1, aI a2, aI a3] mem (some (aI o)) mem' := by
  refine RT.of (by decide +kernel) (Nat.le_of_ble_eq_true rfl) (fun p l e s m args below meth c k X hr => ?_)
  replace X : CX p s m args meth c k prog_1_method_3_code 4 "WallShifts" := X
  unfold dW_wall at h
  refine v_sub (lv' := [(0, _), (1, _), (2, _), (3, _)]) [0, 1, 2, 3] rfl ?_
  refine v_iload_n X (pc := 0) 1 rfl eW_wall_0 rfl ?_
  obtain ⟨r1, m1, hc1, h⟩ := bd_some h
  refine v_callS X (pc := 1) [_] [] ok_S_W_59 (cW_isKind  hc1) rfl (Nat.le_of_ble_eq_true rfl) ⟨Nat.le_of_ble_eq_true rfl, Nat.le_of_ble_eq_true rfl⟩ ⟨Nat.zero_le _, Nat.zero_le _⟩ eW_wall_1 ?_
  refine v_if_eq X (pc := 4) (tgt := 21) h eW_wall_4 (by decide) (fun h => ?_) (fun h => ?_)
  · refine v_aload_n X (pc := 21) 0 rfl eW_wall_21 rfl ?_
    refine v_ldc X (pc := 22) qw_135 eW_wall_22 ?_
    obtain ⟨r2, m2, hc2, h⟩ := bd_some h
    refine v_callV X (pc := 24) [_] [] ok_V_W_52 (cW_finding  hc2) rfl (Nat.le_of_ble_eq_true rfl) ⟨Nat.le_of_ble_eq_true rfl, Nat.le_of_ble_eq_true rfl⟩ ⟨Nat.zero_le _, Nat.zero_le _⟩ (by decide) (by decide) rfl rfl eW_wall_24 ?_
    exact v_iret X (pc := 27) h hr eW_wall_27
  · refine v_iload_n X (pc := 7) 2 rfl eW_wall_7 rfl ?_
    obtain ⟨r3, m3, hc3, h⟩ := bd_some h
    refine v_callS X (pc := 8) [_] [] ok_S_W_63 (cW_isRoom  hc3) rfl (Nat.le_of_ble_eq_true rfl) ⟨Nat.le_of_ble_eq_true rfl, Nat.le_of_ble_eq_true rfl⟩ ⟨Nat.zero_le _, Nat.zero_le _⟩ eW_wall_8 ?_
    refine v_if_eq X (pc := 11) (tgt := 21) h eW_wall_11 (by decide) (fun h => ?_) (fun h => ?_)
    · refine v_aload_n X (pc := 21) 0 rfl eW_wall_21 rfl ?_
      refine v_ldc X (pc := 22) qw_135 eW_wall_22 ?_
      obtain ⟨r4, m4, hc4, h⟩ := bd_some h
      refine v_callV X (pc := 24) [_] [] ok_V_W_52 (cW_finding  hc4) rfl (Nat.le_of_ble_eq_true rfl) ⟨Nat.le_of_ble_eq_true rfl, Nat.le_of_ble_eq_true rfl⟩ ⟨Nat.zero_le _, Nat.zero_le _⟩ (by decide) (by decide) rfl rfl eW_wall_24 ?_
      exact v_iret X (pc := 27) h hr eW_wall_27
    · refine v_iload_n X (pc := 14) 3 rfl eW_wall_14 rfl ?_
      obtain ⟨r5, m5, hc5, h⟩ := bd_some h
      refine v_callS X (pc := 15) [_] [] ok_S_W_63 (cW_isRoom  hc5) rfl (Nat.le_of_ble_eq_true rfl) ⟨Nat.le_of_ble_eq_true rfl, Nat.le_of_ble_eq_true rfl⟩ ⟨Nat.zero_le _, Nat.zero_le _⟩ eW_wall_15 ?_
      refine v_if_ne X (pc := 18) (tgt := 28) h eW_wall_18 (by decide) (fun h => ?_) (fun h => ?_)
      · refine v_aload_n X (pc := 21) 0 rfl eW_wall_21 rfl ?_
        refine v_ldc X (pc := 22) qw_135 eW_wall_22 ?_
        obtain ⟨r6, m6, hc6, h⟩ := bd_some h
        refine v_callV X (pc := 24) [_] [] ok_V_W_52 (cW_finding  hc6) rfl (Nat.le_of_ble_eq_true rfl) ⟨Nat.le_of_ble_eq_true rfl, Nat.le_of_ble_eq_true rfl⟩ ⟨Nat.zero_le _, Nat.zero_le _⟩ (by decide) (by decide) rfl rfl eW_wall_24 ?_
        exact v_iret X (pc := 27) h hr eW_wall_27
      · refine v_aload_n X (pc := 28) 0 rfl eW_wall_28 rfl ?_
        refine v_get X (pc := 29) 0 (a := aR 1 0) (by decide) (by decide) rfl rfl rfl in_WallShifts (by decide) qw_96 rfl eW_wall_29 ?_
        obtain ⟨r7, m7, hc7, h⟩ := bd_some h
        refine v_callV X (pc := 32) [] [] ok_V_W_66 (cP_isBuiltUp (by decide) hc7) rfl (Nat.le_of_ble_eq_true rfl) ⟨Nat.le_of_ble_eq_true rfl, Nat.le_of_ble_eq_true rfl⟩ ⟨Nat.zero_le _, Nat.zero_le _⟩ (by decide) (by decide) rfl rfl eW_wall_32 ?_
        refine v_if_eq X (pc := 35) (tgt := 45) h eW_wall_35 (by decide) (fun h => ?_) (fun h => ?_)
        · refine v_aload_n X (pc := 45) 0 rfl eW_wall_45 rfl ?_
          refine v_get X (pc := 46) 0 (a := aR 1 0) (by decide) (by decide) rfl rfl rfl in_WallShifts (by decide) qw_96 rfl eW_wall_46 ?_
          refine v_iload_n X (pc := 49) 1 rfl eW_wall_49 rfl ?_
          refine v_iload_n X (pc := 50) 2 rfl eW_wall_50 rfl ?_
          refine v_iload_n X (pc := 51) 3 rfl eW_wall_51 rfl ?_
          refine v_iconst X (pc := 52) (v := (0 : Int32)) eW_wall_52 (by decide) ?_
          obtain ⟨r8, m8, hc8, h⟩ := bd_some h
          refine v_callV X (pc := 53) [_, _, _, _] [] ok_V_W_71 (cP_build (by decide) hc8) rfl (Nat.le_of_ble_eq_true rfl) ⟨Nat.le_of_ble_eq_true rfl, Nat.le_of_ble_eq_true rfl⟩ ⟨Nat.zero_le _, Nat.zero_le _⟩ (by decide) (by decide) rfl rfl eW_wall_53 ?_
          exact v_iret X (pc := 56) h hr eW_wall_56
        · refine v_aload_n X (pc := 38) 0 rfl eW_wall_38 rfl ?_
          refine v_ldc X (pc := 39) qw_354 eW_wall_39 ?_
          obtain ⟨r9, m9, hc9, h⟩ := bd_some h
          refine v_callV X (pc := 41) [_] [] ok_V_W_52 (cW_finding  hc9) rfl (Nat.le_of_ble_eq_true rfl) ⟨Nat.le_of_ble_eq_true rfl, Nat.le_of_ble_eq_true rfl⟩ ⟨Nat.zero_le _, Nat.zero_le _⟩ (by decide) (by decide) rfl rfl eW_wall_41 ?_
          exact v_iret X (pc := 44) h hr eW_wall_44
set_option maxHeartbeats 4000000 in
set_option maxRecDepth 100000 in
theorem cP_dutyOf {f : Nat} {q0 : Nat} {a1 : Int32} {a2 : Int32} {mem : Mem} {o : Int32} {mem' : Mem} (hq0 : q0 < 3) (h : dP_dutyOf f q0 a1 a2 mem = some (o, mem')) : RT yP_dutyOf prog_2_method_8_code 3 (Option.some Jvm.ClassFile.FieldType.boolean) (rmM 2 53) [aR 1 q0, aI a1, aI a2] mem (some (aI o)) mem' := by
  refine RT.of (by decide +kernel) (Nat.le_of_ble_eq_true rfl) (fun p l e s m args below meth c k X hr => ?_)
  replace X : CX p s m args meth c k prog_2_method_8_code 3 "WallShifts$Palace" := X
  unfold dP_dutyOf at h
  refine v_sub (lv' := [(0, _), (1, _), (2, _)]) [0, 1, 2] rfl ?_
  refine v_aload_n X (pc := 0) 0 rfl eP_dutyOf_0 rfl ?_
  refine v_iload_n X (pc := 1) 2 rfl eP_dutyOf_1 rfl ?_
  refine v_aload_n X (pc := 2) 0 rfl eP_dutyOf_2 rfl ?_
  refine v_get X (pc := 3) 1 (a := aR 2 q0) (by decide) hq0 rfl rfl rfl in_Palace (by decide) qw_32 rfl eP_dutyOf_3 ?_
  refine v_iconst X (pc := 6) (v := (0 : Int32)) eP_dutyOf_6 (by decide) ?_
  refine v_ialdK X (pc := 7) (n := 4) 0 (by decide) (by decide) (by decide) hq0 rfl eP_dutyOf_7 ?_
  obtain ⟨r1, m1, hc1, h⟩ := bd_some h
  refine v_callV X (pc := 8) [_, _] [] ok_V_P_36 (cP_onDuty hq0 hc1) rfl (Nat.le_of_ble_eq_true rfl) ⟨Nat.le_of_ble_eq_true rfl, Nat.le_of_ble_eq_true rfl⟩ ⟨Nat.zero_le _, Nat.zero_le _⟩ (by decide) hq0 rfl rfl eP_dutyOf_8 ?_
  refine v_iload_n X (pc := 11) 1 rfl eP_dutyOf_11 rfl ?_
  refine v_ishr X (pc := 12) eP_dutyOf_12 ?_
  refine v_iconst X (pc := 13) (v := (1 : Int32)) eP_dutyOf_13 (by decide) ?_
  refine v_iand X (pc := 14) eP_dutyOf_14 ?_
  refine v_iconst X (pc := 15) (v := (1 : Int32)) eP_dutyOf_15 (by decide) ?_
  refine v_icmp_ne X (pc := 16) (tgt := 23) h eP_dutyOf_16 (by decide) (fun h => ?_) (fun h => ?_)
  · refine v_iconst X (pc := 19) (v := (1 : Int32)) eP_dutyOf_19 (by decide) ?_
    refine v_goto X (pc := 20) (tgt := 24) eP_dutyOf_20 (by decide) ?_
    exact v_zret X (pc := 24) h hr rfl eP_dutyOf_24
  · refine v_iconst X (pc := 23) (v := (0 : Int32)) eP_dutyOf_23 (by decide) ?_
    exact v_zret X (pc := 24) h hr rfl eP_dutyOf_24
set_option maxHeartbeats 4000000 in
set_option maxRecDepth 100000 in
theorem cW_of {f : Nat} {a1 : Int32} {a2 : Int32} {mem : Mem} {o : Int32} {mem' : Mem}  (h : dW_of f a1 a2 mem = some (o, mem')) : RT yW_of prog_1_method_4_code 4 (Option.some Jvm.ClassFile.FieldType.int) (rmM 3 75) [aR 0 0, aI a1, aI a2] mem (some (aI o)) mem' := by
  refine RT.of (by decide +kernel) (Nat.le_of_ble_eq_true rfl) (fun p l e s m args below meth c k X hr => ?_)
  replace X : CX p s m args meth c k prog_1_method_4_code 4 "WallShifts" := X
  unfold dW_of at h
  refine v_sub (lv' := [(0, _), (1, _), (2, _)]) [0, 1, 2] rfl ?_
  refine v_aload_n X (pc := 0) 0 rfl eW_of_0 rfl ?_
  refine v_iload_n X (pc := 1) 1 rfl eW_of_1 rfl ?_
  obtain ⟨r1, m1, hc1, h⟩ := bd_some h
  refine v_callV X (pc := 2) [_] [] ok_V_W_75 (cW_isWall  hc1) rfl (Nat.le_of_ble_eq_true rfl) ⟨Nat.le_of_ble_eq_true rfl, Nat.le_of_ble_eq_true rfl⟩ ⟨Nat.zero_le _, Nat.zero_le _⟩ (by decide) (by decide) rfl rfl eW_of_2 ?_
  refine v_if_ne X (pc := 5) (tgt := 15) h eW_of_5 (by decide) (fun h => ?_) (fun h => ?_)
  · refine v_aload_n X (pc := 8) 0 rfl eW_of_8 rfl ?_
    refine v_ldc X (pc := 9) qw_135 eW_of_9 ?_
    obtain ⟨r2, m2, hc2, h⟩ := bd_some h
    refine v_callV X (pc := 11) [_] [] ok_V_W_52 (cW_finding  hc2) rfl (Nat.le_of_ble_eq_true rfl) ⟨Nat.le_of_ble_eq_true rfl, Nat.le_of_ble_eq_true rfl⟩ ⟨Nat.zero_le _, Nat.zero_le _⟩ (by decide) (by decide) rfl rfl eW_of_11 ?_
    exact v_iret X (pc := 14) h hr eW_of_14
  · refine v_aload_n X (pc := 15) 0 rfl eW_of_15 rfl ?_
    refine v_get X (pc := 16) 0 (a := aR 1 0) (by decide) (by decide) rfl rfl rfl in_WallShifts (by decide) qw_96 rfl eW_of_16 ?_
    refine v_get X (pc := 19) 3 (a := aR 3 0) (by decide) (by decide) rfl rfl rfl in_Palace (by decide) qw_37 rfl eW_of_19 ?_
    refine v_iload_n X (pc := 22) 1 rfl eW_of_22 rfl ?_
    refine v_aaldW X (pc := 23) h (by decide) eW_of_23 (fun hb3 h => ?_)
    refine v_astore_n X (pc := 24) (lv' := [(3, _), (0, _), (1, _), (2, _)]) eW_of_24 rfl (Nat.le_of_ble_eq_true rfl) rfl ?_
    refine v_iload_n X (pc := 25) 3 rfl eW_of_25 rfl ?_
    refine v_iconst X (pc := 26) (v := (0 : Int32)) eW_of_26 (by decide) ?_
    refine v_iconst X (pc := 27) (v := (5 : Int32)) eW_of_27 (by decide) ?_
    obtain ⟨r4, m4, hc4, h⟩ := bd_some h
    refine v_callS X (pc := 28) [_, _, _] [] ok_S_W_82 (cW_isIn  hc4) rfl (Nat.le_of_ble_eq_true rfl) ⟨Nat.le_of_ble_eq_true rfl, Nat.le_of_ble_eq_true rfl⟩ ⟨Nat.zero_le _, Nat.zero_le _⟩ eW_of_28 ?_
    refine v_if_eq X (pc := 31) (tgt := 38) h eW_of_31 (by decide) (fun h => ?_) (fun h => ?_)
    · refine v_iload_n X (pc := 38) 3 rfl eW_of_38 rfl ?_
      by_cases g6 : a2 = (6 : Int32)
      · have h := it_t h g6
        refine v_tsw X (pc := 39) (tgt := 64) (6 : Int32) g6 eW_of_39 (by decide) (by decide) rfl (by decide) ?_
        refine v_aload_n X (pc := 64) 1 rfl eW_of_64 rfl ?_
        refine v_get X (pc := 65) 0 (a := aR 1 0) (by decide) (by decide) rfl rfl rfl in_WallShifts (by decide) qw_96 rfl eW_of_65 ?_
        refine v_iload_n X (pc := 68) 2 rfl eW_of_68 rfl ?_
        refine v_aload_n X (pc := 69) 1 rfl eW_of_69 rfl ?_
        refine v_get X (pc := 70) 0 (a := aR 1 0) (by decide) (by decide) rfl rfl rfl in_WallShifts (by decide) qw_96 rfl eW_of_70 ?_
        refine v_get X (pc := 73) 0 (a := aI (gI m4 1 0 0)) (by decide) (by decide) rfl rfl rfl in_Palace (by decide) qw_31 rfl eW_of_73 ?_
        obtain ⟨r5, m5, hc5, h⟩ := bd_some h
        refine v_callV X (pc := 76) [_, _] [] ok_V_W_90 (cP_dutyOf (by decide) hc5) rfl (Nat.le_of_ble_eq_true rfl) ⟨Nat.le_of_ble_eq_true rfl, Nat.le_of_ble_eq_true rfl⟩ ⟨Nat.zero_le _, Nat.zero_le _⟩ (by decide) (by decide) rfl rfl eW_of_76 ?_
        refine v_if_eq X (pc := 79) (tgt := 86) h eW_of_79 (by decide) (fun h => ?_) (fun h => ?_)
        · refine v_iconst X (pc := 86) (v := (0 : Int32)) eW_of_86 (by decide) ?_
          exact v_iret X (pc := 87) h hr eW_of_87
        · refine v_iconst X (pc := 82) (v := (1 : Int32)) eW_of_82 (by decide) ?_
          refine v_goto X (pc := 83) (tgt := 87) eW_of_83 (by decide) ?_
          exact v_iret X (pc := 87) h hr eW_of_87
      have h := it_f h g6
      by_cases g7 : a2 = (7 : Int32)
      · have h := it_t h g7
        refine v_tsw X (pc := 39) (tgt := 88) (7 : Int32) g7 eW_of_39 (by decide) (by decide) rfl (by decide) ?_
        refine v_aload_n X (pc := 88) 1 rfl eW_of_88 rfl ?_
        refine v_get X (pc := 89) 0 (a := aR 1 0) (by decide) (by decide) rfl rfl rfl in_WallShifts (by decide) qw_96 rfl eW_of_89 ?_
        refine v_aload_n X (pc := 92) 0 rfl eW_of_92 rfl ?_
        obtain ⟨r6, m6, hc6, h⟩ := bd_some h
        refine v_callV X (pc := 93) [_] [] ok_V_W_93 (cP_isAwake (by decide) hb3 hc6) rfl (Nat.le_of_ble_eq_true rfl) ⟨Nat.le_of_ble_eq_true rfl, Nat.le_of_ble_eq_true rfl⟩ ⟨Nat.zero_le _, Nat.zero_le _⟩ (by decide) (by decide) rfl rfl eW_of_93 ?_
        refine v_if_eq X (pc := 96) (tgt := 103) h eW_of_96 (by decide) (fun h => ?_) (fun h => ?_)
        · refine v_iconst X (pc := 103) (v := (0 : Int32)) eW_of_103 (by decide) ?_
          exact v_iret X (pc := 104) h hr eW_of_104
        · refine v_iconst X (pc := 99) (v := (1 : Int32)) eW_of_99 (by decide) ?_
          refine v_goto X (pc := 100) (tgt := 104) eW_of_100 (by decide) ?_
          exact v_iret X (pc := 104) h hr eW_of_104
      have h := it_f h g7
      by_cases g8 : a2 = (8 : Int32)
      · have h := it_t h g8
        refine v_tsw X (pc := 39) (tgt := 105) (8 : Int32) g8 eW_of_39 (by decide) (by decide) rfl (by decide) ?_
        refine v_aload_n X (pc := 105) 0 rfl eW_of_105 rfl ?_
        refine v_iconst X (pc := 106) (v := (0 : Int32)) eW_of_106 (by decide) ?_
        refine v_ialdK X (pc := 107) (n := 6) 0 (by decide) (by decide) (by decide) hb3 rfl eW_of_107 ?_
        obtain ⟨r7, m7, hc7, h⟩ := bd_some h
        refine v_callS X (pc := 108) [_] [] ok_S_W_97 (cW_tires  hc7) rfl (Nat.le_of_ble_eq_true rfl) ⟨Nat.le_of_ble_eq_true rfl, Nat.le_of_ble_eq_true rfl⟩ ⟨Nat.zero_le _, Nat.zero_le _⟩ eW_of_108 ?_
        exact v_iret X (pc := 111) h hr eW_of_111
      have h := it_f h g8
      refine v_tswD X (pc := 39) (tgt := 112) (tsw_out_6_8 g6 g7 g8) eW_of_39 (by decide) ?_
      refine v_aload_n X (pc := 112) 1 rfl eW_of_112 rfl ?_
      refine v_ldc X (pc := 113) qw_135 eW_of_113 ?_
      obtain ⟨r8, m8, hc8, h⟩ := bd_some h
      refine v_callV X (pc := 115) [_] [] ok_V_W_52 (cW_finding  hc8) rfl (Nat.le_of_ble_eq_true rfl) ⟨Nat.le_of_ble_eq_true rfl, Nat.le_of_ble_eq_true rfl⟩ ⟨Nat.zero_le _, Nat.zero_le _⟩ (by decide) (by decide) rfl rfl eW_of_115 ?_
      exact v_iret X (pc := 118) h hr eW_of_118
    · refine v_aload_n X (pc := 34) 0 rfl eW_of_34 rfl ?_
      refine v_iload_n X (pc := 35) 3 rfl eW_of_35 rfl ?_
      refine v_iald X (pc := 36) h (by decide) hb3 rfl eW_of_36 (fun h => ?_)
      exact v_iret X (pc := 37) h hr eW_of_37
set_option maxHeartbeats 4000000 in
set_option maxRecDepth 100000 in
theorem cW_reach {f : Nat} {a1 : Int32} {mem : Mem} {o : Int32} {mem' : Mem}  (h : dW_reach f a1 mem = some (o, mem')) : RT yW_reach prog_1_method_12_code 2 (Option.some Jvm.ClassFile.FieldType.int) (rmM 2 46) [aR 0 0, aI a1] mem (some (aI o)) mem' := by
  refine RT.of (by decide +kernel) (Nat.le_of_ble_eq_true rfl) (fun p l e s m args below meth c k X hr => ?_)
  replace X : CX p s m args meth c k prog_1_method_12_code 2 "WallShifts" := X
  unfold dW_reach at h
  refine v_sub (lv' := [(0, _), (1, _)]) [0, 1] rfl ?_
  refine v_iload_n X (pc := 0) 1 rfl eW_reach_0 rfl ?_
  obtain ⟨r1, m1, hc1, h⟩ := bd_some h
  refine v_callS X (pc := 1) [_] [] ok_S_W_63 (cW_isRoom  hc1) rfl (Nat.le_of_ble_eq_true rfl) ⟨Nat.le_of_ble_eq_true rfl, Nat.le_of_ble_eq_true rfl⟩ ⟨Nat.zero_le _, Nat.zero_le _⟩ eW_reach_1 ?_
  refine v_if_eq X (pc := 4) (tgt := 18) h eW_reach_4 (by decide) (fun h => ?_) (fun h => ?_)
  · refine v_aload_n X (pc := 18) 0 rfl eW_reach_18 rfl ?_
    refine v_ldc X (pc := 19) qw_135 eW_reach_19 ?_
    obtain ⟨r2, m2, hc2, h⟩ := bd_some h
    refine v_callV X (pc := 21) [_] [] ok_V_W_52 (cW_finding  hc2) rfl (Nat.le_of_ble_eq_true rfl) ⟨Nat.le_of_ble_eq_true rfl, Nat.le_of_ble_eq_true rfl⟩ ⟨Nat.zero_le _, Nat.zero_le _⟩ (by decide) (by decide) rfl rfl eW_reach_21 ?_
    exact v_iret X (pc := 24) h hr eW_reach_24
  · refine v_aload_n X (pc := 7) 0 rfl eW_reach_7 rfl ?_
    refine v_get X (pc := 8) 0 (a := aR 1 0) (by decide) (by decide) rfl rfl rfl in_WallShifts (by decide) qw_96 rfl eW_reach_8 ?_
    refine v_iload_n X (pc := 11) 1 rfl eW_reach_11 rfl ?_
    obtain ⟨r3, m3, hc3, h⟩ := bd_some h
    refine v_callV X (pc := 12) [_] [] ok_V_W_142 (cP_leaks (by decide) hc3) rfl (Nat.le_of_ble_eq_true rfl) ⟨Nat.le_of_ble_eq_true rfl, Nat.le_of_ble_eq_true rfl⟩ ⟨Nat.zero_le _, Nat.zero_le _⟩ (by decide) (by decide) rfl rfl eW_reach_12 ?_
    refine v_goto X (pc := 15) (tgt := 24) eW_reach_15 (by decide) ?_
    exact v_iret X (pc := 24) h hr eW_reach_24
set_option maxHeartbeats 4000000 in
set_option maxRecDepth 100000 in
theorem cP_wordsCountedEach_4 {p : Program} {l : Launch} {e : Env} {s : State} {m : MethodId} {args : Array Value} {below : List Frame} {meth : Method} {c : Code} {k : KK} {f : Nat} {o : Int32} {mem' : Mem} (X : CX p s m args meth c k prog_2_method_18_code 3 "WallShifts$Palace") (hr : meth.sig.returnType = (Option.some Jvm.ClassFile.FieldType.int)) : ∀ (n : Nat) (q0 : Nat) (x1 : Int32) (x2 : Int32) (mem : Mem), q0 < 3 → dP_wordsCountedEach_4 f n q0 x1 x2 mem = some (o, mem') → V p l e (rmM 1 20) s m args below meth c 0 0 (MQ below (RQc k (some (aI o)) mem') args s 0 0 (kA k)) k 3 mem 4 [(0, aR 1 q0), (1, aI x1), (2, aI x2)] [] := by
  intro n
  induction n with
  | zero =>
    intro q0 x1 x2 mem hq0 h
    exact nomatch (show (none : Option (Int32 × Mem)) = some _ from h)
  | succ n ih =>
    intro q0 x1 x2 mem hq0 h
    rw [dP_wordsCountedEach_4] at h
    refine v_iload_n X (pc := 4) 2 rfl eP_wordsCountedEach_4 rfl ?_
    refine v_aload_n X (pc := 5) 0 rfl eP_wordsCountedEach_5 rfl ?_
    refine v_get X (pc := 6) 2 (a := aI (gI mem 1 q0 2)) (by decide) hq0 rfl rfl rfl in_Palace (by decide) qw_34 rfl eP_wordsCountedEach_6 ?_
    refine v_icmp_ge X (pc := 9) (tgt := 32) h eP_wordsCountedEach_9 (by decide) (fun h => ?_) (fun h => ?_)
    · refine v_iload_n X (pc := 12) 1 rfl eP_wordsCountedEach_12 rfl ?_
      refine v_aload_n X (pc := 13) 0 rfl eP_wordsCountedEach_13 rfl ?_
      refine v_get X (pc := 14) 3 (a := aR 3 q0) (by decide) hq0 rfl rfl rfl in_Palace (by decide) qw_36 rfl eP_wordsCountedEach_14 ?_
      refine v_iload_n X (pc := 17) 2 rfl eP_wordsCountedEach_17 rfl ?_
      refine v_aaldW X (pc := 18) h hq0 eP_wordsCountedEach_18 (fun hb1 h => ?_)
      refine v_iconst X (pc := 19) (v := (4 : Int32)) eP_wordsCountedEach_19 (by decide) ?_
      refine v_ialdK X (pc := 20) (n := 6) 4 (by decide) (by decide) (by decide) hb1 rfl eP_wordsCountedEach_20 ?_
      obtain ⟨r2, m2, hc2, h⟩ := bd_some h
      refine v_callS X (pc := 21) [_] [_] ok_S_P_80 (cJInt_bitCount  hc2) rfl (Nat.le_of_ble_eq_true rfl) ⟨Nat.le_of_ble_eq_true rfl, Nat.le_of_ble_eq_true rfl⟩ ⟨Nat.zero_le _, Nat.zero_le _⟩ eP_wordsCountedEach_21 ?_
      refine v_iadd X (pc := 24) eP_wordsCountedEach_24 ?_
      refine v_istore_n X (pc := 25) (lv' := [(1, _), (0, _), (2, _)]) eP_wordsCountedEach_25 rfl (Nat.le_of_ble_eq_true rfl) rfl ?_
      refine v_iinc X (pc := 26) (v := (x2 + (1 : Int32))) (lv' := [(2, _), (1, _), (0, _)]) 2 rfl (by rfl) eP_wordsCountedEach_26 (Nat.le_of_ble_eq_true rfl) rfl ?_
      refine v_goto X (pc := 29) (tgt := 4) eP_wordsCountedEach_29 (by decide) ?_
      exact v_sub [2, 1, 0] rfl (ih _ _ _ _ hq0 h)
    · refine v_iload_n X (pc := 32) 1 rfl eP_wordsCountedEach_32 rfl ?_
      exact v_iret X (pc := 33) h hr eP_wordsCountedEach_33
set_option maxHeartbeats 4000000 in
set_option maxRecDepth 100000 in
theorem cP_wordsCountedEach {f : Nat} {q0 : Nat} {mem : Mem} {o : Int32} {mem' : Mem} (hq0 : q0 < 3) (h : dP_wordsCountedEach f q0 mem = some (o, mem')) : RT yP_wordsCountedEach prog_2_method_18_code 3 (Option.some Jvm.ClassFile.FieldType.int) (rmM 1 20) [aR 1 q0] mem (some (aI o)) mem' := by
  refine RT.of (by decide +kernel) (Nat.le_of_ble_eq_true rfl) (fun p l e s m args below meth c k X hr => ?_)
  replace X : CX p s m args meth c k prog_2_method_18_code 3 "WallShifts$Palace" := X
  unfold dP_wordsCountedEach at h
  refine v_sub (lv' := [(0, _)]) [0] rfl ?_
  refine v_iconst X (pc := 0) (v := (0 : Int32)) eP_wordsCountedEach_0 (by decide) ?_
  refine v_istore_n X (pc := 1) (lv' := [(1, _), (0, _)]) eP_wordsCountedEach_1 rfl (Nat.le_of_ble_eq_true rfl) rfl ?_
  refine v_iconst X (pc := 2) (v := (0 : Int32)) eP_wordsCountedEach_2 (by decide) ?_
  refine v_istore_n X (pc := 3) (lv' := [(2, _), (1, _), (0, _)]) eP_wordsCountedEach_3 rfl (Nat.le_of_ble_eq_true rfl) rfl ?_
  exact v_sub [2, 1, 0] rfl (cP_wordsCountedEach_4 X hr _ _ _ _ _ hq0 h)
set_option maxHeartbeats 4000000 in
set_option maxRecDepth 100000 in
theorem cP_howManyAwake_4 {p : Program} {l : Launch} {e : Env} {s : State} {m : MethodId} {args : Array Value} {below : List Frame} {meth : Method} {c : Code} {k : KK} {f : Nat} {o : Int32} {mem' : Mem} (X : CX p s m args meth c k prog_2_method_21_code 3 "WallShifts$Palace") (hr : meth.sig.returnType = (Option.some Jvm.ClassFile.FieldType.int)) : ∀ (n : Nat) (q0 : Nat) (x1 : Int32) (x2 : Int32) (mem : Mem), q0 < 3 → dP_howManyAwake_4 f n q0 x1 x2 mem = some (o, mem') → V p l e (rmM 1 21) s m args below meth c 0 0 (MQ below (RQc k (some (aI o)) mem') args s 0 0 (kA k)) k 3 mem 4 [(0, aR 1 q0), (1, aI x1), (2, aI x2)] [] := by
  intro n
  induction n with
  | zero =>
    intro q0 x1 x2 mem hq0 h
    exact nomatch (show (none : Option (Int32 × Mem)) = some _ from h)
  | succ n ih =>
    intro q0 x1 x2 mem hq0 h
    rw [dP_howManyAwake_4] at h
    refine v_iload_n X (pc := 4) 2 rfl eP_howManyAwake_4 rfl ?_
    refine v_aload_n X (pc := 5) 0 rfl eP_howManyAwake_5 rfl ?_
    refine v_get X (pc := 6) 2 (a := aI (gI mem 1 q0 2)) (by decide) hq0 rfl rfl rfl in_Palace (by decide) qw_34 rfl eP_howManyAwake_6 ?_
    refine v_icmp_ge X (pc := 9) (tgt := 39) h eP_howManyAwake_9 (by decide) (fun h => ?_) (fun h => ?_)
    · refine v_iload_n X (pc := 12) 1 rfl eP_howManyAwake_12 rfl ?_
      refine v_aload_n X (pc := 13) 0 rfl eP_howManyAwake_13 rfl ?_
      refine v_aload_n X (pc := 14) 0 rfl eP_howManyAwake_14 rfl ?_
      refine v_get X (pc := 15) 3 (a := aR 3 q0) (by decide) hq0 rfl rfl rfl in_Palace (by decide) qw_36 rfl eP_howManyAwake_15 ?_
      refine v_iload_n X (pc := 18) 2 rfl eP_howManyAwake_18 rfl ?_
      refine v_aaldW X (pc := 19) h hq0 eP_howManyAwake_19 (fun hb1 h => ?_)
      obtain ⟨r2, m2, hc2, h⟩ := bd_some h
      refine v_callV X (pc := 20) [_] [_] ok_V_P_62 (cP_isAwake hq0 hb1 hc2) rfl (Nat.le_of_ble_eq_true rfl) ⟨Nat.le_of_ble_eq_true rfl, Nat.le_of_ble_eq_true rfl⟩ ⟨Nat.zero_le _, Nat.zero_le _⟩ (by decide) hq0 rfl rfl eP_howManyAwake_20 ?_
      refine v_if_eq X (pc := 23) (tgt := 30) h eP_howManyAwake_23 (by decide) (fun h => ?_) (fun h => ?_)
      · refine v_iconst X (pc := 30) (v := (0 : Int32)) eP_howManyAwake_30 (by decide) ?_
        refine v_iadd X (pc := 31) eP_howManyAwake_31 ?_
        refine v_istore_n X (pc := 32) (lv' := [(1, _), (0, _), (2, _)]) eP_howManyAwake_32 rfl (Nat.le_of_ble_eq_true rfl) rfl ?_
        refine v_iinc X (pc := 33) (v := (x2 + (1 : Int32))) (lv' := [(2, _), (1, _), (0, _)]) 2 rfl (by rfl) eP_howManyAwake_33 (Nat.le_of_ble_eq_true rfl) rfl ?_
        refine v_goto X (pc := 36) (tgt := 4) eP_howManyAwake_36 (by decide) ?_
        exact v_sub [2, 1, 0] rfl (ih _ _ _ _ hq0 h)
      · refine v_iconst X (pc := 26) (v := (1 : Int32)) eP_howManyAwake_26 (by decide) ?_
        refine v_goto X (pc := 27) (tgt := 31) eP_howManyAwake_27 (by decide) ?_
        refine v_iadd X (pc := 31) eP_howManyAwake_31 ?_
        refine v_istore_n X (pc := 32) (lv' := [(1, _), (0, _), (2, _)]) eP_howManyAwake_32 rfl (Nat.le_of_ble_eq_true rfl) rfl ?_
        refine v_iinc X (pc := 33) (v := (x2 + (1 : Int32))) (lv' := [(2, _), (1, _), (0, _)]) 2 rfl (by rfl) eP_howManyAwake_33 (Nat.le_of_ble_eq_true rfl) rfl ?_
        refine v_goto X (pc := 36) (tgt := 4) eP_howManyAwake_36 (by decide) ?_
        exact v_sub [2, 1, 0] rfl (ih _ _ _ _ hq0 h)
    · refine v_iload_n X (pc := 39) 1 rfl eP_howManyAwake_39 rfl ?_
      exact v_iret X (pc := 40) h hr eP_howManyAwake_40
set_option maxHeartbeats 4000000 in
set_option maxRecDepth 100000 in
theorem cP_howManyAwake {f : Nat} {q0 : Nat} {mem : Mem} {o : Int32} {mem' : Mem} (hq0 : q0 < 3) (h : dP_howManyAwake f q0 mem = some (o, mem')) : RT yP_howManyAwake prog_2_method_21_code 3 (Option.some Jvm.ClassFile.FieldType.int) (rmM 1 21) [aR 1 q0] mem (some (aI o)) mem' := by
  refine RT.of (by decide +kernel) (Nat.le_of_ble_eq_true rfl) (fun p l e s m args below meth c k X hr => ?_)
  replace X : CX p s m args meth c k prog_2_method_21_code 3 "WallShifts$Palace" := X
  unfold dP_howManyAwake at h
  refine v_sub (lv' := [(0, _)]) [0] rfl ?_
  refine v_iconst X (pc := 0) (v := (0 : Int32)) eP_howManyAwake_0 (by decide) ?_
  refine v_istore_n X (pc := 1) (lv' := [(1, _), (0, _)]) eP_howManyAwake_1 rfl (Nat.le_of_ble_eq_true rfl) rfl ?_
  refine v_iconst X (pc := 2) (v := (0 : Int32)) eP_howManyAwake_2 (by decide) ?_
  refine v_istore_n X (pc := 3) (lv' := [(2, _), (1, _), (0, _)]) eP_howManyAwake_3 rfl (Nat.le_of_ble_eq_true rfl) rfl ?_
  exact v_sub [2, 1, 0] rfl (cP_howManyAwake_4 X hr _ _ _ _ _ hq0 h)
set_option maxHeartbeats 4000000 in
set_option maxRecDepth 100000 in
theorem cW_count {f : Nat} {a1 : Int32} {mem : Mem} {o : Int32} {mem' : Mem}  (h : dW_count f a1 mem = some (o, mem')) : RT yW_count prog_1_method_37_code 2 (Option.some Jvm.ClassFile.FieldType.int) (rmM 2 44) [aR 0 0, aI a1] mem (some (aI o)) mem' := by
  refine RT.of (by decide +kernel) (Nat.le_of_ble_eq_true rfl) (fun p l e s m args below meth c k X hr => ?_)
  replace X : CX p s m args meth c k prog_1_method_37_code 2 "WallShifts" := X
  unfold dW_count at h
  refine v_sub (lv' := [(0, _), (1, _)]) [0, 1] rfl ?_
  refine v_iload_n X (pc := 0) 1 rfl eW_count_0 rfl ?_
  by_cases g0 : a1 = (0 : Int32)
  · have h := it_t h g0
    refine v_tsw X (pc := 1) (tgt := 32) (0 : Int32) g0 eW_count_1 (by decide) (by decide) rfl (by decide) ?_
    refine v_aload_n X (pc := 32) 0 rfl eW_count_32 rfl ?_
    refine v_get X (pc := 33) 0 (a := aR 1 0) (by decide) (by decide) rfl rfl rfl in_WallShifts (by decide) qw_96 rfl eW_count_33 ?_
    refine v_get X (pc := 36) 2 (a := aI (gI mem 1 0 2)) (by decide) (by decide) rfl rfl rfl in_Palace (by decide) qw_35 rfl eW_count_36 ?_
    exact v_iret X (pc := 39) h hr eW_count_39
  have h := it_f h g0
  by_cases g1 : a1 = (1 : Int32)
  · have h := it_t h g1
    refine v_tsw X (pc := 1) (tgt := 40) (1 : Int32) g1 eW_count_1 (by decide) (by decide) rfl (by decide) ?_
    refine v_aload_n X (pc := 40) 0 rfl eW_count_40 rfl ?_
    refine v_get X (pc := 41) 4 (a := aR 5 0) (by decide) (by decide) rfl rfl rfl in_WallShifts (by decide) qw_100 rfl eW_count_41 ?_
    refine v_get X (pc := 44) 1 (a := aI (gI mem 5 0 1)) (by decide) (by decide) rfl rfl rfl in_Tape (by decide) qw_60 rfl eW_count_44 ?_
    exact v_iret X (pc := 47) h hr eW_count_47
  have h := it_f h g1
  by_cases g2 : a1 = (2 : Int32)
  · have h := it_t h g2
    refine v_tsw X (pc := 1) (tgt := 48) (2 : Int32) g2 eW_count_1 (by decide) (by decide) rfl (by decide) ?_
    refine v_aload_n X (pc := 48) 0 rfl eW_count_48 rfl ?_
    refine v_get X (pc := 49) 0 (a := aR 1 0) (by decide) (by decide) rfl rfl rfl in_WallShifts (by decide) qw_96 rfl eW_count_49 ?_
    obtain ⟨r1, m1, hc1, h⟩ := bd_some h
    refine v_callV X (pc := 52) [] [] ok_V_W_241 (cP_wordsCountedEach (by decide) hc1) rfl (Nat.le_of_ble_eq_true rfl) ⟨Nat.le_of_ble_eq_true rfl, Nat.le_of_ble_eq_true rfl⟩ ⟨Nat.zero_le _, Nat.zero_le _⟩ (by decide) (by decide) rfl rfl eW_count_52 ?_
    exact v_iret X (pc := 55) h hr eW_count_55
  have h := it_f h g2
  by_cases g3 : a1 = (3 : Int32)
  · have h := it_t h g3
    refine v_tsw X (pc := 1) (tgt := 56) (3 : Int32) g3 eW_count_1 (by decide) (by decide) rfl (by decide) ?_
    refine v_aload_n X (pc := 56) 0 rfl eW_count_56 rfl ?_
    refine v_get X (pc := 57) 0 (a := aR 1 0) (by decide) (by decide) rfl rfl rfl in_WallShifts (by decide) qw_96 rfl eW_count_57 ?_
    obtain ⟨r2, m2, hc2, h⟩ := bd_some h
    refine v_callV X (pc := 60) [] [] ok_V_W_244 (cP_howManyAwake (by decide) hc2) rfl (Nat.le_of_ble_eq_true rfl) ⟨Nat.le_of_ble_eq_true rfl, Nat.le_of_ble_eq_true rfl⟩ ⟨Nat.zero_le _, Nat.zero_le _⟩ (by decide) (by decide) rfl rfl eW_count_60 ?_
    exact v_iret X (pc := 63) h hr eW_count_63
  have h := it_f h g3
  refine v_tswD X (pc := 1) (tgt := 64) (tsw_out_0_3 g0 g1 g2 g3) eW_count_1 (by decide) ?_
  refine v_aload_n X (pc := 64) 0 rfl eW_count_64 rfl ?_
  refine v_ldc X (pc := 65) qw_135 eW_count_65 ?_
  obtain ⟨r3, m3, hc3, h⟩ := bd_some h
  refine v_callV X (pc := 67) [_] [] ok_V_W_52 (cW_finding  hc3) rfl (Nat.le_of_ble_eq_true rfl) ⟨Nat.le_of_ble_eq_true rfl, Nat.le_of_ble_eq_true rfl⟩ ⟨Nat.zero_le _, Nat.zero_le _⟩ (by decide) (by decide) rfl rfl eW_count_67 ?_
  exact v_iret X (pc := 70) h hr eW_count_70
