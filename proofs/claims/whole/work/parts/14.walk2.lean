/-! GENERATED: the walks. -/
set_option maxHeartbeats 4000000 in
set_option maxRecDepth 100000 in
theorem cW_cover_60 {p : Program} {l : Launch} {e : Env} {s : State} {m : MethodId} {args : Array Value} {below : List Frame} {meth : Method} {c : Code} {k : KK} {f : Nat} {o : Int32} {mem' : Mem} (X : CX p s m args meth c k prog_1_method_20_code 7 "WallShifts") (hr : meth.sig.returnType = (Option.some Jvm.ClassFile.FieldType.int)) : ∀ (n : Nat) (x2 : Int32) (x3 : Int32) (x4 : Int32) (x5 : Int32) (mem : Mem), dW_cover_60 f n x2 x3 x4 x5 mem = some (o, mem') → V p l e (rmM 3 75) s m args below meth c 0 0 (MQ below (RQc k (some (aI o)) mem') args s 0 0 (kA k)) k 7 mem 60 [(0, aR 0 0), (2, aI x2), (3, aI x3), (4, aI x4), (5, aI x5)] [] := by
  intro n
  induction n with
  | zero =>
    intro x2 x3 x4 x5 mem  h
    exact nomatch (show (none : Option (Int32 × Mem)) = some _ from h)
  | succ n ih =>
    intro x2 x3 x4 x5 mem  h
    rw [dW_cover_60] at h
    refine v_iload X (pc := 60) 4 rfl eW_cover_60 ?_
    refine v_iload_n X (pc := 62) 2 rfl eW_cover_62 rfl ?_
    refine v_icmp_ge X (pc := 63) (tgt := 120) h eW_cover_63 (by decide) (fun h => ?_) (fun h => ?_)
    · refine v_iload X (pc := 66) 4 rfl eW_cover_66 ?_
      refine v_iload_n X (pc := 68) 2 rfl eW_cover_68 rfl ?_
      refine v_iconst X (pc := 69) (v := (-1 : Int32)) eW_cover_69 (by decide) ?_
      refine v_ixor X (pc := 70) eW_cover_70 ?_
      refine v_iand X (pc := 71) eW_cover_71 ?_
      refine v_if_ne X (pc := 72) (tgt := 79) h eW_cover_72 (by decide) (fun h => ?_) (fun h => ?_)
      · refine v_iconst X (pc := 75) (v := (1 : Int32)) eW_cover_75 (by decide) ?_
        refine v_goto X (pc := 76) (tgt := 80) eW_cover_76 (by decide) ?_
        exact v_sub [0, 1, 2, 3, 4] rfl (cW_cover_80 X hr ih _ _ _ _ _ _  h)
      · refine v_iconst X (pc := 79) (v := (0 : Int32)) eW_cover_79 (by decide) ?_
        exact v_sub [0, 1, 2, 3, 4] rfl (cW_cover_80 X hr ih _ _ _ _ _ _  h)
    · refine v_iload X (pc := 120) 3 rfl eW_cover_120 ?_
      exact v_iret X (pc := 122) h hr eW_cover_122
set_option maxHeartbeats 4000000 in
set_option maxRecDepth 100000 in
theorem cW_cover {f : Nat} {a1 : Int32} {a2 : Int32} {mem : Mem} {o : Int32} {mem' : Mem}  (h : dW_cover f a1 a2 mem = some (o, mem')) : RT yW_cover prog_1_method_20_code 7 (Option.some Jvm.ClassFile.FieldType.int) (rmM 3 75) [aR 0 0, aI a1, aI a2] mem (some (aI o)) mem' := by
  refine RT.of (by decide +kernel) (Nat.le_of_ble_eq_true rfl) (fun p l e s m args below meth c k X hr => ?_)
  replace X : CX p s m args meth c k prog_1_method_20_code 7 "WallShifts" := X
  unfold dW_cover at h
  refine v_sub (lv' := [(0, _), (1, _), (2, _)]) [0, 1, 2] rfl ?_
  refine v_iload_n X (pc := 0) 1 rfl eW_cover_0 rfl ?_
  obtain ⟨r1, m1, hc1, h⟩ := bd_some h
  refine v_callS X (pc := 1) [_] [] ok_S_W_63 (cW_isRoom  hc1) rfl (Nat.le_of_ble_eq_true rfl) ⟨Nat.le_of_ble_eq_true rfl, Nat.le_of_ble_eq_true rfl⟩ ⟨Nat.zero_le _, Nat.zero_le _⟩ eW_cover_1 ?_
  refine v_if_eq X (pc := 4) (tgt := 17) h eW_cover_4 (by decide) (fun h => ?_) (fun h => ?_)
  · refine v_aload_n X (pc := 17) 0 rfl eW_cover_17 rfl ?_
    refine v_ldc X (pc := 18) qw_179 eW_cover_18 ?_
    obtain ⟨r2, m2, hc2, h⟩ := bd_some h
    refine v_callV X (pc := 20) [_] [] ok_V_W_52 (cW_finding  hc2) rfl (Nat.le_of_ble_eq_true rfl) ⟨Nat.le_of_ble_eq_true rfl, Nat.le_of_ble_eq_true rfl⟩ ⟨Nat.zero_le _, Nat.zero_le _⟩ (by decide) (by decide) rfl rfl eW_cover_20 ?_
    exact v_iret X (pc := 23) h hr eW_cover_23
  · refine v_iload_n X (pc := 7) 2 rfl eW_cover_7 rfl ?_
    refine v_iconst X (pc := 8) (v := (1 : Int32)) eW_cover_8 (by decide) ?_
    refine v_bipush X (pc := 9) (v := (60 : Int32)) eW_cover_9 (by decide) ?_
    obtain ⟨r3, m3, hc3, h⟩ := bd_some h
    refine v_callS X (pc := 11) [_, _, _] [] ok_S_W_82 (cW_isIn  hc3) rfl (Nat.le_of_ble_eq_true rfl) ⟨Nat.le_of_ble_eq_true rfl, Nat.le_of_ble_eq_true rfl⟩ ⟨Nat.zero_le _, Nat.zero_le _⟩ eW_cover_11 ?_
    refine v_if_ne X (pc := 14) (tgt := 24) h eW_cover_14 (by decide) (fun h => ?_) (fun h => ?_)
    · refine v_aload_n X (pc := 17) 0 rfl eW_cover_17 rfl ?_
      refine v_ldc X (pc := 18) qw_179 eW_cover_18 ?_
      obtain ⟨r4, m4, hc4, h⟩ := bd_some h
      refine v_callV X (pc := 20) [_] [] ok_V_W_52 (cW_finding  hc4) rfl (Nat.le_of_ble_eq_true rfl) ⟨Nat.le_of_ble_eq_true rfl, Nat.le_of_ble_eq_true rfl⟩ ⟨Nat.zero_le _, Nat.zero_le _⟩ (by decide) (by decide) rfl rfl eW_cover_20 ?_
      exact v_iret X (pc := 23) h hr eW_cover_23
    · refine v_aload_n X (pc := 24) 0 rfl eW_cover_24 rfl ?_
      refine v_iload_n X (pc := 25) 2 rfl eW_cover_25 rfl ?_
      obtain ⟨r5, m5, hc5, h⟩ := bd_some h
      refine v_callV X (pc := 26) [_] [] ok_V_W_158 (cW_foresee  hc5) rfl (Nat.le_of_ble_eq_true rfl) ⟨Nat.le_of_ble_eq_true rfl, Nat.le_of_ble_eq_true rfl⟩ ⟨Nat.zero_le _, Nat.zero_le _⟩ (by decide) (by decide) rfl rfl eW_cover_26 ?_
      refine v_aload_n X (pc := 29) 0 rfl eW_cover_29 rfl ?_
      refine v_get X (pc := 30) 0 (a := aR 1 0) (by decide) (by decide) rfl rfl rfl in_WallShifts (by decide) qw_140 rfl eW_cover_30 ?_
      refine v_iload_n X (pc := 33) 1 rfl eW_cover_33 rfl ?_
      obtain ⟨r6, m6, hc6, h⟩ := bd_some h
      refine v_callV X (pc := 34) [_] [] ok_V_W_119 (cP_near (by decide) hc6) rfl (Nat.le_of_ble_eq_true rfl) ⟨Nat.le_of_ble_eq_true rfl, Nat.le_of_ble_eq_true rfl⟩ ⟨Nat.zero_le _, Nat.zero_le _⟩ (by decide) (by decide) rfl rfl eW_cover_34 ?_
      refine v_istore_n X (pc := 37) (lv' := [(3, _), (0, _), (1, _), (2, _)]) eW_cover_37 rfl (Nat.le_of_ble_eq_true rfl) rfl ?_
      refine v_aload_n X (pc := 38) 1 rfl eW_cover_38 rfl ?_
      refine v_iload_n X (pc := 39) 0 rfl eW_cover_39 rfl ?_
      refine v_iload_n X (pc := 40) 3 rfl eW_cover_40 rfl ?_
      obtain ⟨r7, m7, hc7, h⟩ := bd_some h
      refine v_callV X (pc := 41) [_, _] [] ok_V_W_174 (cW_hearsAlways  hc7) rfl (Nat.le_of_ble_eq_true rfl) ⟨Nat.le_of_ble_eq_true rfl, Nat.le_of_ble_eq_true rfl⟩ ⟨Nat.zero_le _, Nat.zero_le _⟩ (by decide) (by decide) rfl rfl eW_cover_41 ?_
      refine v_if_ne X (pc := 44) (tgt := 54) h eW_cover_44 (by decide) (fun h => ?_) (fun h => ?_)
      · refine v_aload_n X (pc := 47) 1 rfl eW_cover_47 rfl ?_
        refine v_ldc X (pc := 48) qw_270 eW_cover_48 ?_
        obtain ⟨r8, m8, hc8, h⟩ := bd_some h
        refine v_callV X (pc := 50) [_] [] ok_V_W_52 (cW_finding  hc8) rfl (Nat.le_of_ble_eq_true rfl) ⟨Nat.le_of_ble_eq_true rfl, Nat.le_of_ble_eq_true rfl⟩ ⟨Nat.zero_le _, Nat.zero_le _⟩ (by decide) (by decide) rfl rfl eW_cover_50 ?_
        exact v_iret X (pc := 53) h hr eW_cover_53
      · refine v_iload_n X (pc := 54) 0 rfl eW_cover_54 rfl ?_
        refine v_istore X (pc := 55) (lv' := [(4, _), (3, _), (0, _), (1, _), (2, _)]) eW_cover_55 (Nat.le_of_ble_eq_true rfl) rfl ?_
        refine v_iconst X (pc := 57) (v := (0 : Int32)) eW_cover_57 (by decide) ?_
        refine v_istore X (pc := 58) (lv' := [(5, _), (4, _), (3, _), (0, _), (1, _), (2, _)]) eW_cover_58 (Nat.le_of_ble_eq_true rfl) rfl ?_
        exact v_sub [3, 5, 2, 1, 0] rfl (cW_cover_60 X hr _ _ _ _ _ _  h)
set_option maxHeartbeats 4000000 in
set_option maxRecDepth 100000 in
theorem cW_shift_48 {p : Program} {l : Launch} {e : Env} {s : State} {m : MethodId} {args : Array Value} {below : List Frame} {meth : Method} {c : Code} {k : KK} {f : Nat} {o : Int32} {mem' : Mem} (X : CX p s m args meth c k prog_1_method_21_code 8 "WallShifts") (hr : meth.sig.returnType = (Option.some Jvm.ClassFile.FieldType.int)) : ∀ (n : Nat) (x2 : Int32) (x3 : Int32) (x4 : Int32) (x5 : Int32) (x6 : Int32) (mem : Mem), dW_shift_48 f n x2 x3 x4 x5 x6 mem = some (o, mem') → V p l e (rmM 3 78) s m args below meth c 0 0 (MQ below (RQc k (some (aI o)) mem') args s 0 0 (kA k)) k 8 mem 48 [(0, aR 0 0), (2, aI x2), (3, aI x3), (4, aI x4), (5, aI x5), (6, aI x6)] [] := by
  intro n
  induction n with
  | zero =>
    intro x2 x3 x4 x5 x6 mem  h
    exact nomatch (show (none : Option (Int32 × Mem)) = some _ from h)
  | succ n ih =>
    intro x2 x3 x4 x5 x6 mem  h
    rw [dW_shift_48] at h
    refine v_iload X (pc := 48) 5 rfl eW_shift_48 ?_
    refine v_gets X (pc := 50) 3 (by decide) qw_177 eW_shift_50 ?_
    refine v_iconst X (pc := 53) (v := (0 : Int32)) eW_shift_53 (by decide) ?_
    refine v_stld X (pc := 54) h (by decide) eW_shift_54 (fun h => ?_)
    refine v_icmp_gt X (pc := 55) (tgt := 92) h eW_shift_55 (by decide) (fun h => ?_) (fun h => ?_)
    · refine v_iload X (pc := 92) 4 rfl eW_shift_92 ?_
      exact v_iret X (pc := 94) h hr eW_shift_94
    · refine v_aload_n X (pc := 58) 0 rfl eW_shift_58 rfl ?_
      refine v_get X (pc := 59) 0 (a := aR 1 0) (by decide) (by decide) rfl rfl rfl in_WallShifts (by decide) qw_140 rfl eW_shift_59 ?_
      refine v_iload_n X (pc := 62) 2 rfl eW_shift_62 rfl ?_
      refine v_iload_n X (pc := 63) 1 rfl eW_shift_63 rfl ?_
      refine v_iload X (pc := 64) 5 rfl eW_shift_64 ?_
      obtain ⟨r1, m1, hc1, h⟩ := bd_some h
      refine v_callV X (pc := 66) [_, _, _] [] ok_V_W_165 (cP_silentMinutes (by decide) hc1) rfl (Nat.le_of_ble_eq_true rfl) ⟨Nat.le_of_ble_eq_true rfl, Nat.le_of_ble_eq_true rfl⟩ ⟨Nat.zero_le _, Nat.zero_le _⟩ (by decide) (by decide) rfl rfl eW_shift_66 ?_
      refine v_istore X (pc := 69) (lv' := [(7, _), (0, _), (2, _), (3, _), (4, _), (5, _), (6, _)]) eW_shift_69 (Nat.le_of_ble_eq_true rfl) rfl ?_
      refine v_iload X (pc := 71) 0 rfl eW_shift_71 ?_
      refine v_iload X (pc := 73) 4 rfl eW_shift_73 ?_
      refine v_icmp_ge X (pc := 75) (tgt := 86) h eW_shift_75 (by decide) (fun h => ?_) (fun h => ?_)
      · refine v_iload X (pc := 78) 0 rfl eW_shift_78 ?_
        refine v_istore X (pc := 80) (lv' := [(4, _), (7, _), (0, _), (2, _), (3, _), (5, _), (6, _)]) eW_shift_80 (Nat.le_of_ble_eq_true rfl) rfl ?_
        refine v_iload X (pc := 82) 6 rfl eW_shift_82 ?_
        refine v_istore X (pc := 84) (lv' := [(5, _), (4, _), (7, _), (0, _), (2, _), (3, _), (6, _)]) eW_shift_84 (Nat.le_of_ble_eq_true rfl) rfl ?_
        refine v_iinc X (pc := 86) (v := (x6 + (1 : Int32))) (lv' := [(6, _), (5, _), (4, _), (7, _), (0, _), (2, _), (3, _)]) 6 rfl (by rfl) eW_shift_86 (Nat.le_of_ble_eq_true rfl) rfl ?_
        refine v_goto X (pc := 89) (tgt := 48) eW_shift_89 (by decide) ?_
        exact v_sub [4, 5, 6, 2, 1, 0] rfl (ih _ _ _ _ _ _  h)
      · refine v_iinc X (pc := 86) (v := (x6 + (1 : Int32))) (lv' := [(6, _), (7, _), (0, _), (2, _), (3, _), (4, _), (5, _)]) 6 rfl (by rfl) eW_shift_86 (Nat.le_of_ble_eq_true rfl) rfl ?_
        refine v_goto X (pc := 89) (tgt := 48) eW_shift_89 (by decide) ?_
        exact v_sub [2, 3, 4, 5, 6, 0] rfl (ih _ _ _ _ _ _  h)
set_option maxHeartbeats 4000000 in
set_option maxRecDepth 100000 in
theorem cW_shift {f : Nat} {a1 : Int32} {a2 : Int32} {mem : Mem} {o : Int32} {mem' : Mem}  (h : dW_shift f a1 a2 mem = some (o, mem')) : RT yW_shift prog_1_method_21_code 8 (Option.some Jvm.ClassFile.FieldType.int) (rmM 3 78) [aR 0 0, aI a1, aI a2] mem (some (aI o)) mem' := by
  refine RT.of (by decide +kernel) (Nat.le_of_ble_eq_true rfl) (fun p l e s m args below meth c k X hr => ?_)
  replace X : CX p s m args meth c k prog_1_method_21_code 8 "WallShifts" := X
  unfold dW_shift at h
  refine v_sub (lv' := [(0, _), (1, _), (2, _)]) [0, 1, 2] rfl ?_
  refine v_iload_n X (pc := 0) 1 rfl eW_shift_0 rfl ?_
  obtain ⟨r1, m1, hc1, h⟩ := bd_some h
  refine v_callS X (pc := 1) [_] [] ok_S_W_63 (cW_isRoom  hc1) rfl (Nat.le_of_ble_eq_true rfl) ⟨Nat.le_of_ble_eq_true rfl, Nat.le_of_ble_eq_true rfl⟩ ⟨Nat.zero_le _, Nat.zero_le _⟩ eW_shift_1 ?_
  refine v_if_eq X (pc := 4) (tgt := 17) h eW_shift_4 (by decide) (fun h => ?_) (fun h => ?_)
  · refine v_aload_n X (pc := 17) 0 rfl eW_shift_17 rfl ?_
    refine v_ldc X (pc := 18) qw_179 eW_shift_18 ?_
    obtain ⟨r2, m2, hc2, h⟩ := bd_some h
    refine v_callV X (pc := 20) [_] [] ok_V_W_52 (cW_finding  hc2) rfl (Nat.le_of_ble_eq_true rfl) ⟨Nat.le_of_ble_eq_true rfl, Nat.le_of_ble_eq_true rfl⟩ ⟨Nat.zero_le _, Nat.zero_le _⟩ (by decide) (by decide) rfl rfl eW_shift_20 ?_
    exact v_iret X (pc := 23) h hr eW_shift_23
  · refine v_iload_n X (pc := 7) 2 rfl eW_shift_7 rfl ?_
    refine v_iconst X (pc := 8) (v := (1 : Int32)) eW_shift_8 (by decide) ?_
    refine v_bipush X (pc := 9) (v := (60 : Int32)) eW_shift_9 (by decide) ?_
    obtain ⟨r3, m3, hc3, h⟩ := bd_some h
    refine v_callS X (pc := 11) [_, _, _] [] ok_S_W_82 (cW_isIn  hc3) rfl (Nat.le_of_ble_eq_true rfl) ⟨Nat.le_of_ble_eq_true rfl, Nat.le_of_ble_eq_true rfl⟩ ⟨Nat.zero_le _, Nat.zero_le _⟩ eW_shift_11 ?_
    refine v_if_ne X (pc := 14) (tgt := 24) h eW_shift_14 (by decide) (fun h => ?_) (fun h => ?_)
    · refine v_aload_n X (pc := 17) 0 rfl eW_shift_17 rfl ?_
      refine v_ldc X (pc := 18) qw_179 eW_shift_18 ?_
      obtain ⟨r4, m4, hc4, h⟩ := bd_some h
      refine v_callV X (pc := 20) [_] [] ok_V_W_52 (cW_finding  hc4) rfl (Nat.le_of_ble_eq_true rfl) ⟨Nat.le_of_ble_eq_true rfl, Nat.le_of_ble_eq_true rfl⟩ ⟨Nat.zero_le _, Nat.zero_le _⟩ (by decide) (by decide) rfl rfl eW_shift_20 ?_
      exact v_iret X (pc := 23) h hr eW_shift_23
    · refine v_aload_n X (pc := 24) 0 rfl eW_shift_24 rfl ?_
      refine v_get X (pc := 25) 0 (a := aR 1 0) (by decide) (by decide) rfl rfl rfl in_WallShifts (by decide) qw_140 rfl eW_shift_25 ?_
      refine v_iload_n X (pc := 28) 1 rfl eW_shift_28 rfl ?_
      obtain ⟨r5, m5, hc5, h⟩ := bd_some h
      refine v_callV X (pc := 29) [_] [] ok_V_W_119 (cP_near (by decide) hc5) rfl (Nat.le_of_ble_eq_true rfl) ⟨Nat.le_of_ble_eq_true rfl, Nat.le_of_ble_eq_true rfl⟩ ⟨Nat.zero_le _, Nat.zero_le _⟩ (by decide) (by decide) rfl rfl eW_shift_29 ?_
      refine v_istore_n X (pc := 32) (lv' := [(3, _), (0, _), (1, _), (2, _)]) eW_shift_32 rfl (Nat.le_of_ble_eq_true rfl) rfl ?_
      refine v_iload_n X (pc := 33) 3 rfl eW_shift_33 rfl ?_
      refine v_iconst X (pc := 34) (v := (1 : Int32)) eW_shift_34 (by decide) ?_
      refine v_iadd X (pc := 35) eW_shift_35 ?_
      refine v_istore X (pc := 36) (lv' := [(4, _), (3, _), (0, _), (1, _), (2, _)]) eW_shift_36 (Nat.le_of_ble_eq_true rfl) rfl ?_
      refine v_iconst X (pc := 38) (v := (1 : Int32)) eW_shift_38 (by decide) ?_
      refine v_istore X (pc := 39) (lv' := [(5, _), (4, _), (3, _), (0, _), (1, _), (2, _)]) eW_shift_39 (Nat.le_of_ble_eq_true rfl) rfl ?_
      refine v_gets X (pc := 41) 2 (by decide) qw_175 eW_shift_41 ?_
      refine v_iconst X (pc := 44) (v := (0 : Int32)) eW_shift_44 (by decide) ?_
      refine v_stld X (pc := 45) h (by decide) eW_shift_45 (fun h => ?_)
      refine v_istore X (pc := 46) (lv' := [(6, _), (5, _), (4, _), (3, _), (0, _), (1, _), (2, _)]) eW_shift_46 (Nat.le_of_ble_eq_true rfl) rfl ?_
      exact v_sub [4, 6, 3, 2, 1, 0] rfl (cW_shift_48 X hr _ _ _ _ _ _ _  h)
set_option maxHeartbeats 4000000 in
set_option maxRecDepth 100000 in
theorem cP_become_32 {p : Program} {l : Launch} {e : Env} {s : State} {m : MethodId} {args : Array Value} {below : List Frame} {meth : Method} {c : Code} {k : KK} {f : Nat} {o : Unit} {mem' : Mem} (X : CX p s m args meth c k prog_2_method_2_code 3 "WallShifts$Palace") (hr : meth.sig.returnType = (Option.none : Option Jvm.ClassFile.FieldType)) : ∀ (n : Nat) (q0 : Nat) (q1 : Nat) (x2 : Int32) (mem : Mem), q0 < 3 → q1 < 3 → dP_become_32 f n q0 q1 x2 mem = some (o, mem') → V p l e (rmM 1 60) s m args below meth c 0 0 (MQ below (RQc k none mem') args s 0 0 (kA k)) k 3 mem 32 [(0, aR 1 q0), (1, aR 1 q1), (2, aI x2)] [] := by
  intro n
  induction n with
  | zero =>
    intro q0 q1 x2 mem hq0 hq1 h
    exact nomatch (show (none : Option (Unit × Mem)) = some _ from h)
  | succ n ih =>
    intro q0 q1 x2 mem hq0 hq1 h
    rw [dP_become_32] at h
    refine v_iload_n X (pc := 32) 2 rfl eP_become_32 rfl ?_
    refine v_aload_n X (pc := 33) 0 rfl eP_become_33 rfl ?_
    refine v_get X (pc := 34) 2 (a := aI (gI mem 1 q0 2)) (by decide) hq0 rfl rfl rfl in_Palace (by decide) qw_75 rfl eP_become_34 ?_
    refine v_icmp_ge X (pc := 37) (tgt := 65) h eP_become_37 (by decide) (fun h => ?_) (fun h => ?_)
    · refine v_aload_n X (pc := 40) 1 rfl eP_become_40 rfl ?_
      refine v_get X (pc := 41) 3 (a := aR 3 q1) (by decide) hq1 rfl rfl rfl in_Palace (by decide) qw_77 rfl eP_become_41 ?_
      refine v_iload_n X (pc := 44) 2 rfl eP_become_44 rfl ?_
      refine v_aaldW X (pc := 45) h hq1 eP_become_45 (fun hb1 h => ?_)
      refine v_iconst X (pc := 46) (v := (0 : Int32)) eP_become_46 (by decide) ?_
      refine v_aload_n X (pc := 47) 0 rfl eP_become_47 rfl ?_
      refine v_get X (pc := 48) 3 (a := aR 3 q0) (by decide) hq0 rfl rfl rfl in_Palace (by decide) qw_77 rfl eP_become_48 ?_
      refine v_iload_n X (pc := 51) 2 rfl eP_become_51 rfl ?_
      refine v_aaldW X (pc := 52) h hq0 eP_become_52 (fun hb2 h => ?_)
      refine v_iconst X (pc := 53) (v := (0 : Int32)) eP_become_53 (by decide) ?_
      refine v_bipush X (pc := 54) (v := (6 : Int32)) eP_become_54 (by decide) ?_
      refine v_copyI X (pc := 56) h okC_P_30 (by decide) hb1 (by decide) hb2 rfl (fun _ => rfl) [] (Nat.le_of_ble_eq_true rfl) (Nat.le_of_ble_eq_true rfl) eP_become_56 (fun h => ?_)
      refine v_iinc X (pc := 59) (v := (x2 + (1 : Int32))) (lv' := [(2, _), (0, _), (1, _)]) 2 rfl (by rfl) eP_become_59 (Nat.le_of_ble_eq_true rfl) rfl ?_
      refine v_goto X (pc := 62) (tgt := 32) eP_become_62 (by decide) ?_
      exact v_sub [1, 2, 0] rfl (ih _ _ _ _ hq0 hq1 h)
    · exact v_vret X (pc := 65) h hr eP_become_65
set_option maxHeartbeats 4000000 in
set_option maxRecDepth 100000 in
theorem cP_become {f : Nat} {q0 : Nat} {q1 : Nat} {mem : Mem} {o : Unit} {mem' : Mem} (hq0 : q0 < 3) (hq1 : q1 < 3) (h : dP_become f q0 q1 mem = some (o, mem')) : RT yP_become prog_2_method_2_code 3 (Option.none : Option Jvm.ClassFile.FieldType) (rmM 1 60) [aR 1 q0, aR 1 q1] mem none mem' := by
  refine RT.of (by decide +kernel) (Nat.le_of_ble_eq_true rfl) (fun p l e s m args below meth c k X hr => ?_)
  replace X : CX p s m args meth c k prog_2_method_2_code 3 "WallShifts$Palace" := X
  unfold dP_become at h
  refine v_sub (lv' := [(0, _), (1, _)]) [0, 1] rfl ?_
  refine v_aload_n X (pc := 0) 0 rfl eP_become_0 rfl ?_
  refine v_aload_n X (pc := 1) 1 rfl eP_become_1 rfl ?_
  refine v_get X (pc := 2) 0 (a := aI (gI mem 1 q1 0)) (by decide) hq1 rfl rfl rfl in_Palace (by decide) qw_70 rfl eP_become_2 ?_
  refine v_put X (pc := 5) 0 (mem' := (sI mem 1 q0 0 (gI mem 1 q1 0))) (by decide) hq0 rfl (pf_1_0 _ _ _ _ _) rowI_ne rfl in_Palace ty_Palace_ok nm_Palace (by decide) qw_70 rfl rfl rfl (Nat.le_of_ble_eq_true rfl) eP_become_5 ?_
  refine v_aload_n X (pc := 8) 1 rfl eP_become_8 rfl ?_
  refine v_get X (pc := 9) 1 (a := aR 2 q1) (by decide) hq1 rfl rfl rfl in_Palace (by decide) qw_72 rfl eP_become_9 ?_
  refine v_iconst X (pc := 12) (v := (0 : Int32)) eP_become_12 (by decide) ?_
  refine v_aload_n X (pc := 13) 0 rfl eP_become_13 rfl ?_
  refine v_get X (pc := 14) 1 (a := aR 2 q0) (by decide) hq0 rfl rfl rfl in_Palace (by decide) qw_72 rfl eP_become_14 ?_
  refine v_iconst X (pc := 17) (v := (0 : Int32)) eP_become_17 (by decide) ?_
  refine v_iconst X (pc := 18) (v := (4 : Int32)) eP_become_18 (by decide) ?_
  refine v_copyI X (pc := 19) h okC_P_30 (by decide) hq1 (by decide) hq0 rfl (fun _ => rfl) [] (Nat.le_of_ble_eq_true rfl) (Nat.le_of_ble_eq_true rfl) eP_become_19 (fun h => ?_)
  refine v_aload_n X (pc := 22) 0 rfl eP_become_22 rfl ?_
  refine v_aload_n X (pc := 23) 1 rfl eP_become_23 rfl ?_
  refine v_get X (pc := 24) 2 (a := aI (gI (sIr (sI mem 1 q0 0 (gI mem 1 q1 0)) 2 q0 (va_cpy (gI (sI mem 1 q0 0 (gI mem 1 q1 0)) 2 q1) (gI (sI mem 1 q0 0 (gI mem 1 q1 0)) 2 q0) (0 : Int32).toNatClampNeg (0 : Int32).toNatClampNeg (4 : Int32).toNatClampNeg)) 1 q1 2)) (by decide) hq1 rfl rfl rfl in_Palace (by decide) qw_75 rfl eP_become_24 ?_
  refine v_put X (pc := 27) 2 (mem' := (sI (sIr (sI mem 1 q0 0 (gI mem 1 q1 0)) 2 q0 (va_cpy (gI (sI mem 1 q0 0 (gI mem 1 q1 0)) 2 q1) (gI (sI mem 1 q0 0 (gI mem 1 q1 0)) 2 q0) (0 : Int32).toNatClampNeg (0 : Int32).toNatClampNeg (4 : Int32).toNatClampNeg)) 1 q0 2 (gI (sIr (sI mem 1 q0 0 (gI mem 1 q1 0)) 2 q0 (va_cpy (gI (sI mem 1 q0 0 (gI mem 1 q1 0)) 2 q1) (gI (sI mem 1 q0 0 (gI mem 1 q1 0)) 2 q0) (0 : Int32).toNatClampNeg (0 : Int32).toNatClampNeg (4 : Int32).toNatClampNeg)) 1 q1 2))) (by decide) hq0 rfl (pf_1_2 _ _ _ _ _) rowI_ne rfl in_Palace ty_Palace_ok nm_Palace (by decide) qw_75 rfl rfl rfl (Nat.le_of_ble_eq_true rfl) eP_become_27 ?_
  refine v_iconst X (pc := 30) (v := (0 : Int32)) eP_become_30 (by decide) ?_
  refine v_istore_n X (pc := 31) (lv' := [(2, _), (0, _), (1, _)]) eP_become_31 rfl (Nat.le_of_ble_eq_true rfl) rfl ?_
  exact v_sub [1, 2, 0] rfl (cP_become_32 X hr _ _ _ _ _ hq0 hq1 h)
set_option maxHeartbeats 4000000 in
set_option maxRecDepth 100000 in
theorem cW_side_65 {p : Program} {l : Launch} {e : Env} {s : State} {m : MethodId} {args : Array Value} {below : List Frame} {meth : Method} {c : Code} {k : KK} {f : Nat} {o : Int32} {mem' : Mem} (X : CX p s m args meth c k prog_1_method_22_code 9 "WallShifts") (hr : meth.sig.returnType = (Option.some Jvm.ClassFile.FieldType.int)) : ∀ (n : Nat) (x1 : Int32) (x3 : Int32) (x4 : Int32) (x5 : Int32) (x6 : Int32) (x7 : Int32) (mem : Mem), dW_side_65 f n x1 x3 x4 x5 x6 x7 mem = some (o, mem') → V p l e (rmM 3 82) s m args below meth c 0 0 (MQ below (RQc k (some (aI o)) mem') args s 0 0 (kA k)) k 9 mem 65 [(0, aR 0 0), (1, aI x1), (3, aI x3), (4, aI x4), (5, aI x5), (6, aI x6), (7, aI x7)] [] := by
  intro n
  induction n with
  | zero =>
    intro x1 x3 x4 x5 x6 x7 mem  h
    exact nomatch (show (none : Option (Int32 × Mem)) = some _ from h)
  | succ n ih =>
    intro x1 x3 x4 x5 x6 x7 mem  h
    rw [dW_side_65] at h
    refine v_iload X (pc := 65) 6 rfl eW_side_65 ?_
    refine v_iconst X (pc := 67) (v := (4 : Int32)) eW_side_67 (by decide) ?_
    refine v_icmp_ge X (pc := 68) (tgt := 125) h eW_side_68 (by decide) (fun h => ?_) (fun h => ?_)
    · refine v_aload_n X (pc := 71) 0 rfl eW_side_71 rfl ?_
      refine v_get X (pc := 72) 3 (a := aR 1 2) (by decide) (by decide) rfl rfl rfl in_WallShifts (by decide) qw_143 rfl eW_side_72 ?_
      refine v_iload_n X (pc := 75) 1 rfl eW_side_75 rfl ?_
      refine v_iconst X (pc := 76) (v := (3 : Int32)) eW_side_76 (by decide) ?_
      refine v_iload X (pc := 77) 6 rfl eW_side_77 ?_
      obtain ⟨r1, m1, hc1, h⟩ := bd_some h
      refine v_callV X (pc := 79) [_, _, _] [] ok_V_W_103 (cP_replace (by decide) hc1) rfl (Nat.le_of_ble_eq_true rfl) ⟨Nat.le_of_ble_eq_true rfl, Nat.le_of_ble_eq_true rfl⟩ ⟨Nat.zero_le _, Nat.zero_le _⟩ (by decide) (by decide) rfl rfl eW_side_79 ?_
      refine v_pop X (pc := 82) rfl eW_side_82 ?_
      refine v_aload_n X (pc := 83) 0 rfl eW_side_83 rfl ?_
      refine v_get X (pc := 84) 3 (a := aR 1 2) (by decide) (by decide) rfl rfl rfl in_WallShifts (by decide) qw_143 rfl eW_side_84 ?_
      refine v_iload X (pc := 87) 3 rfl eW_side_87 ?_
      refine v_iload_n X (pc := 89) 2 rfl eW_side_89 rfl ?_
      refine v_aload_n X (pc := 90) 0 rfl eW_side_90 rfl ?_
      refine v_get X (pc := 91) 3 (a := aR 1 2) (by decide) (by decide) rfl rfl rfl in_WallShifts (by decide) qw_143 rfl eW_side_91 ?_
      refine v_get X (pc := 94) 1 (a := aR 2 2) (by decide) (by decide) rfl rfl rfl in_Palace (by decide) qw_73 rfl eW_side_94 ?_
      refine v_iconst X (pc := 97) (v := (0 : Int32)) eW_side_97 (by decide) ?_
      refine v_ialdK X (pc := 98) (n := 4) 0 (by decide) (by decide) (by decide) (by decide) rfl eW_side_98 ?_
      obtain ⟨r2, m2, hc2, h⟩ := bd_some h
      refine v_callV X (pc := 99) [_, _, _] [] ok_V_W_165 (cP_silentMinutes (by decide) hc2) rfl (Nat.le_of_ble_eq_true rfl) ⟨Nat.le_of_ble_eq_true rfl, Nat.le_of_ble_eq_true rfl⟩ ⟨Nat.zero_le _, Nat.zero_le _⟩ (by decide) (by decide) rfl rfl eW_side_99 ?_
      refine v_istore X (pc := 102) (lv' := [(8, _), (0, _), (1, _), (3, _), (4, _), (5, _), (6, _), (7, _)]) eW_side_102 (Nat.le_of_ble_eq_true rfl) rfl ?_
      refine v_iload X (pc := 104) 0 rfl eW_side_104 ?_
      refine v_iload X (pc := 106) 5 rfl eW_side_106 ?_
      refine v_icmp_ge X (pc := 108) (tgt := 119) h eW_side_108 (by decide) (fun h => ?_) (fun h => ?_)
      · refine v_iload X (pc := 111) 0 rfl eW_side_111 ?_
        refine v_istore X (pc := 113) (lv' := [(5, _), (8, _), (0, _), (1, _), (3, _), (4, _), (6, _), (7, _)]) eW_side_113 (Nat.le_of_ble_eq_true rfl) rfl ?_
        refine v_iload X (pc := 115) 7 rfl eW_side_115 ?_
        refine v_istore X (pc := 117) (lv' := [(6, _), (5, _), (8, _), (0, _), (1, _), (3, _), (4, _), (7, _)]) eW_side_117 (Nat.le_of_ble_eq_true rfl) rfl ?_
        refine v_iinc X (pc := 119) (v := (x7 + (1 : Int32))) (lv' := [(7, _), (6, _), (5, _), (8, _), (0, _), (1, _), (3, _), (4, _)]) 7 rfl (by rfl) eW_side_119 (Nat.le_of_ble_eq_true rfl) rfl ?_
        refine v_goto X (pc := 122) (tgt := 65) eW_side_122 (by decide) ?_
        exact v_sub [4, 5, 6, 7, 2, 1, 0] rfl (ih _ _ _ _ _ _ _  h)
      · refine v_iinc X (pc := 119) (v := (x7 + (1 : Int32))) (lv' := [(7, _), (8, _), (0, _), (1, _), (3, _), (4, _), (5, _), (6, _)]) 7 rfl (by rfl) eW_side_119 (Nat.le_of_ble_eq_true rfl) rfl ?_
        refine v_goto X (pc := 122) (tgt := 65) eW_side_122 (by decide) ?_
        exact v_sub [2, 3, 4, 5, 6, 7, 0] rfl (ih _ _ _ _ _ _ _  h)
    · refine v_iload X (pc := 125) 5 rfl eW_side_125 ?_
      exact v_iret X (pc := 127) h hr eW_side_127
set_option maxHeartbeats 4000000 in
set_option maxRecDepth 100000 in
theorem cW_side {f : Nat} {a1 : Int32} {a2 : Int32} {a3 : Int32} {mem : Mem} {o : Int32} {mem' : Mem}  (h : dW_side f a1 a2 a3 mem = some (o, mem')) : RT yW_side prog_1_method_22_code 9 (Option.some Jvm.ClassFile.FieldType.int) (rmM 3 82) [aR 0 0, aI a1, aI a2, aI a3] mem (some (aI o)) mem' := by
  refine RT.of (by decide +kernel) (Nat.le_of_ble_eq_true rfl) (fun p l e s m args below meth c k X hr => ?_)
  replace X : CX p s m args meth c k prog_1_method_22_code 9 "WallShifts" := X
  unfold dW_side at h
  refine v_sub (lv' := [(0, _), (1, _), (2, _), (3, _)]) [0, 1, 2, 3] rfl ?_
  refine v_aload_n X (pc := 0) 0 rfl eW_side_0 rfl ?_
  refine v_iload_n X (pc := 1) 1 rfl eW_side_1 rfl ?_
  obtain ⟨r1, m1, hc1, h⟩ := bd_some h
  refine v_callV X (pc := 2) [_] [] ok_V_W_75 (cW_isWall  hc1) rfl (Nat.le_of_ble_eq_true rfl) ⟨Nat.le_of_ble_eq_true rfl, Nat.le_of_ble_eq_true rfl⟩ ⟨Nat.zero_le _, Nat.zero_le _⟩ (by decide) (by decide) rfl rfl eW_side_2 ?_
  refine v_if_eq X (pc := 5) (tgt := 26) h eW_side_5 (by decide) (fun h => ?_) (fun h => ?_)
  · refine v_aload_n X (pc := 26) 0 rfl eW_side_26 rfl ?_
    refine v_ldc X (pc := 27) qw_179 eW_side_27 ?_
    obtain ⟨r2, m2, hc2, h⟩ := bd_some h
    refine v_callV X (pc := 29) [_] [] ok_V_W_52 (cW_finding  hc2) rfl (Nat.le_of_ble_eq_true rfl) ⟨Nat.le_of_ble_eq_true rfl, Nat.le_of_ble_eq_true rfl⟩ ⟨Nat.zero_le _, Nat.zero_le _⟩ (by decide) (by decide) rfl rfl eW_side_29 ?_
    exact v_iret X (pc := 32) h hr eW_side_32
  · refine v_iload_n X (pc := 8) 2 rfl eW_side_8 rfl ?_
    obtain ⟨r3, m3, hc3, h⟩ := bd_some h
    refine v_callS X (pc := 9) [_] [] ok_S_W_63 (cW_isRoom  hc3) rfl (Nat.le_of_ble_eq_true rfl) ⟨Nat.le_of_ble_eq_true rfl, Nat.le_of_ble_eq_true rfl⟩ ⟨Nat.zero_le _, Nat.zero_le _⟩ eW_side_9 ?_
    refine v_if_eq X (pc := 12) (tgt := 26) h eW_side_12 (by decide) (fun h => ?_) (fun h => ?_)
    · refine v_aload_n X (pc := 26) 0 rfl eW_side_26 rfl ?_
      refine v_ldc X (pc := 27) qw_179 eW_side_27 ?_
      obtain ⟨r4, m4, hc4, h⟩ := bd_some h
      refine v_callV X (pc := 29) [_] [] ok_V_W_52 (cW_finding  hc4) rfl (Nat.le_of_ble_eq_true rfl) ⟨Nat.le_of_ble_eq_true rfl, Nat.le_of_ble_eq_true rfl⟩ ⟨Nat.zero_le _, Nat.zero_le _⟩ (by decide) (by decide) rfl rfl eW_side_29 ?_
      exact v_iret X (pc := 32) h hr eW_side_32
    · refine v_iload_n X (pc := 15) 3 rfl eW_side_15 rfl ?_
      refine v_iconst X (pc := 16) (v := (1 : Int32)) eW_side_16 (by decide) ?_
      refine v_sipush X (pc := 17) (v := (240 : Int32)) eW_side_17 (by decide) ?_
      obtain ⟨r5, m5, hc5, h⟩ := bd_some h
      refine v_callS X (pc := 20) [_, _, _] [] ok_S_W_82 (cW_isIn  hc5) rfl (Nat.le_of_ble_eq_true rfl) ⟨Nat.le_of_ble_eq_true rfl, Nat.le_of_ble_eq_true rfl⟩ ⟨Nat.zero_le _, Nat.zero_le _⟩ eW_side_20 ?_
      refine v_if_ne X (pc := 23) (tgt := 33) h eW_side_23 (by decide) (fun h => ?_) (fun h => ?_)
      · refine v_aload_n X (pc := 26) 0 rfl eW_side_26 rfl ?_
        refine v_ldc X (pc := 27) qw_179 eW_side_27 ?_
        obtain ⟨r6, m6, hc6, h⟩ := bd_some h
        refine v_callV X (pc := 29) [_] [] ok_V_W_52 (cW_finding  hc6) rfl (Nat.le_of_ble_eq_true rfl) ⟨Nat.le_of_ble_eq_true rfl, Nat.le_of_ble_eq_true rfl⟩ ⟨Nat.zero_le _, Nat.zero_le _⟩ (by decide) (by decide) rfl rfl eW_side_29 ?_
        exact v_iret X (pc := 32) h hr eW_side_32
      · refine v_aload_n X (pc := 33) 0 rfl eW_side_33 rfl ?_
        refine v_get X (pc := 34) 0 (a := aR 1 0) (by decide) (by decide) rfl rfl rfl in_WallShifts (by decide) qw_140 rfl eW_side_34 ?_
        refine v_iload_n X (pc := 37) 2 rfl eW_side_37 rfl ?_
        obtain ⟨r7, m7, hc7, h⟩ := bd_some h
        refine v_callV X (pc := 38) [_] [] ok_V_W_119 (cP_near (by decide) hc7) rfl (Nat.le_of_ble_eq_true rfl) ⟨Nat.le_of_ble_eq_true rfl, Nat.le_of_ble_eq_true rfl⟩ ⟨Nat.zero_le _, Nat.zero_le _⟩ (by decide) (by decide) rfl rfl eW_side_38 ?_
        refine v_istore X (pc := 41) (lv' := [(4, _), (0, _), (1, _), (2, _), (3, _)]) eW_side_41 (Nat.le_of_ble_eq_true rfl) rfl ?_
        refine v_iload_n X (pc := 43) 4 rfl eW_side_43 rfl ?_
        refine v_iconst X (pc := 44) (v := (1 : Int32)) eW_side_44 (by decide) ?_
        refine v_iadd X (pc := 45) eW_side_45 ?_
        refine v_istore X (pc := 46) (lv' := [(5, _), (4, _), (0, _), (1, _), (2, _), (3, _)]) eW_side_46 (Nat.le_of_ble_eq_true rfl) rfl ?_
        refine v_iconst X (pc := 48) (v := (0 : Int32)) eW_side_48 (by decide) ?_
        refine v_istore X (pc := 49) (lv' := [(6, _), (5, _), (4, _), (0, _), (1, _), (2, _), (3, _)]) eW_side_49 (Nat.le_of_ble_eq_true rfl) rfl ?_
        refine v_aload_n X (pc := 51) 3 rfl eW_side_51 rfl ?_
        refine v_get X (pc := 52) 3 (a := aR 1 2) (by decide) (by decide) rfl rfl rfl in_WallShifts (by decide) qw_143 rfl eW_side_52 ?_
        refine v_aload_n X (pc := 55) 3 rfl eW_side_55 rfl ?_
        refine v_get X (pc := 56) 0 (a := aR 1 0) (by decide) (by decide) rfl rfl rfl in_WallShifts (by decide) qw_140 rfl eW_side_56 ?_
        obtain ⟨r8, m8, hc8, h⟩ := bd_some h
        refine v_callV X (pc := 59) [_] [] ok_V_W_183 (cP_become (by decide) (by decide) hc8) rfl (Nat.le_of_ble_eq_true rfl) ⟨Nat.le_of_ble_eq_true rfl, Nat.le_of_ble_eq_true rfl⟩ ⟨Nat.zero_le _, Nat.zero_le _⟩ (by decide) (by decide) rfl rfl eW_side_59 ?_
        refine v_iconst X (pc := 62) (v := (0 : Int32)) eW_side_62 (by decide) ?_
        refine v_istore X (pc := 63) (lv' := [(7, _), (6, _), (5, _), (4, _), (0, _), (1, _), (2, _), (3, _)]) eW_side_63 (Nat.le_of_ble_eq_true rfl) rfl ?_
        exact v_sub [4, 5, 7, 3, 2, 1, 0] rfl (cW_side_65 X hr _ _ _ _ _ _ _ _  h)
set_option maxHeartbeats 4000000 in
set_option maxRecDepth 100000 in
theorem cW_lost {f : Nat} {a1 : Int32} {a2 : Int32} {mem : Mem} {o : Int32} {mem' : Mem}  (h : dW_lost f a1 a2 mem = some (o, mem')) : RT yW_lost prog_1_method_23_code 3 (Option.some Jvm.ClassFile.FieldType.int) (rmM 4 106) [aR 0 0, aI a1, aI a2] mem (some (aI o)) mem' := by
  refine RT.of (by decide +kernel) (Nat.le_of_ble_eq_true rfl) (fun p l e s m args below meth c k X hr => ?_)
  replace X : CX p s m args meth c k prog_1_method_23_code 3 "WallShifts" := X
  unfold dW_lost at h
  refine v_sub (lv' := [(0, _), (1, _), (2, _)]) [0, 1, 2] rfl ?_
  refine v_iload_n X (pc := 0) 1 rfl eW_lost_0 rfl ?_
  obtain ⟨r1, m1, hc1, h⟩ := bd_some h
  refine v_callS X (pc := 1) [_] [] ok_S_W_63 (cW_isRoom  hc1) rfl (Nat.le_of_ble_eq_true rfl) ⟨Nat.le_of_ble_eq_true rfl, Nat.le_of_ble_eq_true rfl⟩ ⟨Nat.zero_le _, Nat.zero_le _⟩ eW_lost_1 ?_
  refine v_if_eq X (pc := 4) (tgt := 14) h eW_lost_4 (by decide) (fun h => ?_) (fun h => ?_)
  · refine v_aload_n X (pc := 14) 0 rfl eW_lost_14 rfl ?_
    refine v_ldc X (pc := 15) qw_179 eW_lost_15 ?_
    obtain ⟨r2, m2, hc2, h⟩ := bd_some h
    refine v_callV X (pc := 17) [_] [] ok_V_W_52 (cW_finding  hc2) rfl (Nat.le_of_ble_eq_true rfl) ⟨Nat.le_of_ble_eq_true rfl, Nat.le_of_ble_eq_true rfl⟩ ⟨Nat.zero_le _, Nat.zero_le _⟩ (by decide) (by decide) rfl rfl eW_lost_17 ?_
    exact v_iret X (pc := 20) h hr eW_lost_20
  · refine v_iload_n X (pc := 7) 2 rfl eW_lost_7 rfl ?_
    obtain ⟨r3, m3, hc3, h⟩ := bd_some h
    refine v_callS X (pc := 8) [_] [] ok_S_W_131 (cW_isSetOfWords  hc3) rfl (Nat.le_of_ble_eq_true rfl) ⟨Nat.le_of_ble_eq_true rfl, Nat.le_of_ble_eq_true rfl⟩ ⟨Nat.zero_le _, Nat.zero_le _⟩ eW_lost_8 ?_
    refine v_if_ne X (pc := 11) (tgt := 21) h eW_lost_11 (by decide) (fun h => ?_) (fun h => ?_)
    · refine v_aload_n X (pc := 14) 0 rfl eW_lost_14 rfl ?_
      refine v_ldc X (pc := 15) qw_179 eW_lost_15 ?_
      obtain ⟨r4, m4, hc4, h⟩ := bd_some h
      refine v_callV X (pc := 17) [_] [] ok_V_W_52 (cW_finding  hc4) rfl (Nat.le_of_ble_eq_true rfl) ⟨Nat.le_of_ble_eq_true rfl, Nat.le_of_ble_eq_true rfl⟩ ⟨Nat.zero_le _, Nat.zero_le _⟩ (by decide) (by decide) rfl rfl eW_lost_17 ?_
      exact v_iret X (pc := 20) h hr eW_lost_20
    · refine v_aload_n X (pc := 21) 0 rfl eW_lost_21 rfl ?_
      refine v_get X (pc := 22) 3 (a := aR 1 2) (by decide) (by decide) rfl rfl rfl in_WallShifts (by decide) qw_143 rfl eW_lost_22 ?_
      refine v_aload_n X (pc := 25) 0 rfl eW_lost_25 rfl ?_
      refine v_get X (pc := 26) 0 (a := aR 1 0) (by decide) (by decide) rfl rfl rfl in_WallShifts (by decide) qw_140 rfl eW_lost_26 ?_
      obtain ⟨r5, m5, hc5, h⟩ := bd_some h
      refine v_callV X (pc := 29) [_] [] ok_V_W_183 (cP_become (by decide) (by decide) hc5) rfl (Nat.le_of_ble_eq_true rfl) ⟨Nat.le_of_ble_eq_true rfl, Nat.le_of_ble_eq_true rfl⟩ ⟨Nat.zero_le _, Nat.zero_le _⟩ (by decide) (by decide) rfl rfl eW_lost_29 ?_
      refine v_aload_n X (pc := 32) 0 rfl eW_lost_32 rfl ?_
      refine v_get X (pc := 33) 3 (a := aR 1 2) (by decide) (by decide) rfl rfl rfl in_WallShifts (by decide) qw_143 rfl eW_lost_33 ?_
      refine v_iload_n X (pc := 36) 1 rfl eW_lost_36 rfl ?_
      refine v_iload_n X (pc := 37) 2 rfl eW_lost_37 rfl ?_
      obtain ⟨r6, m6, hc6, h⟩ := bd_some h
      refine v_callV X (pc := 38) [_, _] [] ok_V_W_139 (cP_utterAll (by decide) hc6) rfl (Nat.le_of_ble_eq_true rfl) ⟨Nat.le_of_ble_eq_true rfl, Nat.le_of_ble_eq_true rfl⟩ ⟨Nat.zero_le _, Nat.zero_le _⟩ (by decide) (by decide) rfl rfl eW_lost_38 ?_
      refine v_pop X (pc := 41) rfl eW_lost_41 ?_
      refine v_aload_n X (pc := 42) 0 rfl eW_lost_42 rfl ?_
      refine v_get X (pc := 43) 3 (a := aR 1 2) (by decide) (by decide) rfl rfl rfl in_WallShifts (by decide) qw_143 rfl eW_lost_43 ?_
      refine v_get X (pc := 46) 4 (a := aI (gI m6 1 2 4)) (by decide) (by decide) rfl rfl rfl in_Palace (by decide) qw_80 rfl eW_lost_46 ?_
      exact v_iret X (pc := 49) h hr eW_lost_49
set_option maxHeartbeats 4000000 in
set_option maxRecDepth 100000 in
theorem cW_best_23 {p : Program} {l : Launch} {e : Env} {s : State} {m : MethodId} {args : Array Value} {below : List Frame} {meth : Method} {c : Code} {k : KK} {f : Nat} {o : Int32} {mem' : Mem} (X : CX p s m args meth c k prog_1_method_24_code 6 "WallShifts") (hr : meth.sig.returnType = (Option.some Jvm.ClassFile.FieldType.int)) : ∀ (n : Nat) (x1 : Int32) (x2 : Int32) (x3 : Int32) (x4 : Int32) (mem : Mem), dW_best_23 f n x1 x2 x3 x4 mem = some (o, mem') → V p l e (rmM 4 106) s m args below meth c 0 0 (MQ below (RQc k (some (aI o)) mem') args s 0 0 (kA k)) k 6 mem 23 [(0, aR 0 0), (1, aI x1), (2, aI x2), (3, aI x3), (4, aI x4)] [] := by
  intro n
  induction n with
  | zero =>
    intro x1 x2 x3 x4 mem  h
    exact nomatch (show (none : Option (Int32 × Mem)) = some _ from h)
  | succ n ih =>
    intro x1 x2 x3 x4 mem  h
    rw [dW_best_23] at h
    refine v_iload X (pc := 23) 4 rfl eW_best_23 ?_
    refine v_bipush X (pc := 25) (v := (10 : Int32)) eW_best_25 (by decide) ?_
    refine v_icmp_ge X (pc := 27) (tgt := 71) h eW_best_27 (by decide) (fun h => ?_) (fun h => ?_)
    · refine v_aload_n X (pc := 30) 0 rfl eW_best_30 rfl ?_
      refine v_get X (pc := 31) 3 (a := aR 1 2) (by decide) (by decide) rfl rfl rfl in_WallShifts (by decide) qw_143 rfl eW_best_31 ?_
      refine v_aload_n X (pc := 34) 0 rfl eW_best_34 rfl ?_
      refine v_get X (pc := 35) 0 (a := aR 1 0) (by decide) (by decide) rfl rfl rfl in_WallShifts (by decide) qw_140 rfl eW_best_35 ?_
      obtain ⟨r1, m1, hc1, h⟩ := bd_some h
      refine v_callV X (pc := 38) [_] [] ok_V_W_183 (cP_become (by decide) (by decide) hc1) rfl (Nat.le_of_ble_eq_true rfl) ⟨Nat.le_of_ble_eq_true rfl, Nat.le_of_ble_eq_true rfl⟩ ⟨Nat.zero_le _, Nat.zero_le _⟩ (by decide) (by decide) rfl rfl eW_best_38 ?_
      refine v_aload_n X (pc := 41) 0 rfl eW_best_41 rfl ?_
      refine v_get X (pc := 42) 3 (a := aR 1 2) (by decide) (by decide) rfl rfl rfl in_WallShifts (by decide) qw_143 rfl eW_best_42 ?_
      refine v_iload X (pc := 45) 4 rfl eW_best_45 ?_
      refine v_iload_n X (pc := 47) 1 rfl eW_best_47 rfl ?_
      obtain ⟨r2, m2, hc2, h⟩ := bd_some h
      refine v_callV X (pc := 48) [_, _] [] ok_V_W_139 (cP_utterAll (by decide) hc2) rfl (Nat.le_of_ble_eq_true rfl) ⟨Nat.le_of_ble_eq_true rfl, Nat.le_of_ble_eq_true rfl⟩ ⟨Nat.zero_le _, Nat.zero_le _⟩ (by decide) (by decide) rfl rfl eW_best_48 ?_
      refine v_istore X (pc := 51) (lv' := [(5, _), (0, _), (1, _), (2, _), (3, _), (4, _)]) eW_best_51 (Nat.le_of_ble_eq_true rfl) rfl ?_
      refine v_iload X (pc := 53) 0 rfl eW_best_53 ?_
      refine v_iload_n X (pc := 55) 3 rfl eW_best_55 rfl ?_
      refine v_icmp_ge X (pc := 56) (tgt := 65) h eW_best_56 (by decide) (fun h => ?_) (fun h => ?_)
      · refine v_iload X (pc := 59) 0 rfl eW_best_59 ?_
        refine v_istore_n X (pc := 61) (lv' := [(2, _), (5, _), (0, _), (1, _), (3, _), (4, _)]) eW_best_61 rfl (Nat.le_of_ble_eq_true rfl) rfl ?_
        refine v_iload X (pc := 62) 5 rfl eW_best_62 ?_
        refine v_istore_n X (pc := 64) (lv' := [(3, _), (2, _), (5, _), (0, _), (1, _), (4, _)]) eW_best_64 rfl (Nat.le_of_ble_eq_true rfl) rfl ?_
        refine v_iinc X (pc := 65) (v := (x4 + (1 : Int32))) (lv' := [(4, _), (3, _), (2, _), (5, _), (0, _), (1, _)]) 5 rfl (by rfl) eW_best_65 (Nat.le_of_ble_eq_true rfl) rfl ?_
        refine v_goto X (pc := 68) (tgt := 23) eW_best_68 (by decide) ?_
        exact v_sub [4, 5, 2, 1, 0] rfl (ih _ _ _ _ _  h)
      · refine v_iinc X (pc := 65) (v := (x4 + (1 : Int32))) (lv' := [(4, _), (5, _), (0, _), (1, _), (2, _), (3, _)]) 5 rfl (by rfl) eW_best_65 (Nat.le_of_ble_eq_true rfl) rfl ?_
        refine v_goto X (pc := 68) (tgt := 23) eW_best_68 (by decide) ?_
        exact v_sub [2, 3, 4, 5, 0] rfl (ih _ _ _ _ _  h)
    · refine v_iload_n X (pc := 71) 3 rfl eW_best_71 rfl ?_
      exact v_iret X (pc := 72) h hr eW_best_72
set_option maxHeartbeats 4000000 in
set_option maxRecDepth 100000 in
theorem cW_best {f : Nat} {a1 : Int32} {mem : Mem} {o : Int32} {mem' : Mem}  (h : dW_best f a1 mem = some (o, mem')) : RT yW_best prog_1_method_24_code 6 (Option.some Jvm.ClassFile.FieldType.int) (rmM 4 106) [aR 0 0, aI a1] mem (some (aI o)) mem' := by
  refine RT.of (by decide +kernel) (Nat.le_of_ble_eq_true rfl) (fun p l e s m args below meth c k X hr => ?_)
  replace X : CX p s m args meth c k prog_1_method_24_code 6 "WallShifts" := X
  unfold dW_best at h
  refine v_sub (lv' := [(0, _), (1, _)]) [0, 1] rfl ?_
  refine v_iload_n X (pc := 0) 1 rfl eW_best_0 rfl ?_
  obtain ⟨r1, m1, hc1, h⟩ := bd_some h
  refine v_callS X (pc := 1) [_] [] ok_S_W_131 (cW_isSetOfWords  hc1) rfl (Nat.le_of_ble_eq_true rfl) ⟨Nat.le_of_ble_eq_true rfl, Nat.le_of_ble_eq_true rfl⟩ ⟨Nat.zero_le _, Nat.zero_le _⟩ eW_best_1 ?_
  refine v_if_ne X (pc := 4) (tgt := 14) h eW_best_4 (by decide) (fun h => ?_) (fun h => ?_)
  · refine v_aload_n X (pc := 7) 0 rfl eW_best_7 rfl ?_
    refine v_ldc X (pc := 8) qw_179 eW_best_8 ?_
    obtain ⟨r2, m2, hc2, h⟩ := bd_some h
    refine v_callV X (pc := 10) [_] [] ok_V_W_52 (cW_finding  hc2) rfl (Nat.le_of_ble_eq_true rfl) ⟨Nat.le_of_ble_eq_true rfl, Nat.le_of_ble_eq_true rfl⟩ ⟨Nat.zero_le _, Nat.zero_le _⟩ (by decide) (by decide) rfl rfl eW_best_10 ?_
    exact v_iret X (pc := 13) h hr eW_best_13
  · refine v_sipush X (pc := 14) (v := (161 : Int32)) eW_best_14 (by decide) ?_
    refine v_istore_n X (pc := 17) (lv' := [(2, _), (0, _), (1, _)]) eW_best_17 rfl (Nat.le_of_ble_eq_true rfl) rfl ?_
    refine v_iconst X (pc := 18) (v := (0 : Int32)) eW_best_18 (by decide) ?_
    refine v_istore_n X (pc := 19) (lv' := [(3, _), (2, _), (0, _), (1, _)]) eW_best_19 rfl (Nat.le_of_ble_eq_true rfl) rfl ?_
    refine v_iconst X (pc := 20) (v := (0 : Int32)) eW_best_20 (by decide) ?_
    refine v_istore X (pc := 21) (lv' := [(4, _), (3, _), (2, _), (0, _), (1, _)]) eW_best_21 (Nat.le_of_ble_eq_true rfl) rfl ?_
    exact v_sub [3, 4, 2, 1, 0] rfl (cW_best_23 X hr _ _ _ _ _ _  h)
set_option maxHeartbeats 4000000 in
set_option maxRecDepth 100000 in
theorem cT_append {f : Nat} {a1 : Int32} {mem : Mem} {o : Unit} {mem' : Mem}  (h : dT_append f a1 mem = some (o, mem')) : RT yT_append prog_4_method_2_code 2 (Option.none : Option Jvm.ClassFile.FieldType) (rmM 0 0) [aR 5 0, aI a1] mem none mem' := by
  refine RT.of (by decide +kernel) (Nat.le_of_ble_eq_true rfl) (fun p l e s m args below meth c k X hr => ?_)
  replace X : CX p s m args meth c k prog_4_method_2_code 2 "WallShifts$Tape" := X
  unfold dT_append at h
  refine v_sub (lv' := [(0, _), (1, _)]) [0, 1] rfl ?_
  refine v_aload_n X (pc := 0) 0 rfl eT_append_0 rfl ?_
  refine v_get X (pc := 1) 1 (a := aI (gI mem 5 0 1)) (by decide) (by decide) rfl rfl rfl in_Tape (by decide) qw_100 rfl eT_append_1 ?_
  refine v_bipush X (pc := 4) (v := (120 : Int32)) eT_append_4 (by decide) ?_
  refine v_icmp_ge X (pc := 6) (tgt := 29) h eT_append_6 (by decide) (fun h => ?_) (fun h => ?_)
  · refine v_aload_n X (pc := 9) 0 rfl eT_append_9 rfl ?_
    refine v_get X (pc := 10) 0 (a := aR 6 0) (by decide) (by decide) rfl rfl rfl in_Tape (by decide) qw_99 rfl eT_append_10 ?_
    refine v_aload_n X (pc := 13) 0 rfl eT_append_13 rfl ?_
    refine v_get X (pc := 14) 1 (a := aI (gI mem 5 0 1)) (by decide) (by decide) rfl rfl rfl in_Tape (by decide) qw_100 rfl eT_append_14 ?_
    refine v_iload_n X (pc := 17) 1 rfl eT_append_17 rfl ?_
    refine v_iast X (pc := 18) h (by decide) (by decide) (fun _ => rfl) eT_append_18 (fun h => ?_)
    refine v_aload_n X (pc := 19) 0 rfl eT_append_19 rfl ?_
    refine v_dup X (pc := 20) rfl eT_append_20 ?_
    refine v_get X (pc := 21) 1 (a := aI (gI (sI mem 6 0 (gI mem 5 0 1).toNatClampNeg a1) 5 0 1)) (by decide) (by decide) rfl rfl rfl in_Tape (by decide) qw_100 rfl eT_append_21 ?_
    refine v_iconst X (pc := 24) (v := (1 : Int32)) eT_append_24 (by decide) ?_
    refine v_iadd X (pc := 25) eT_append_25 ?_
    refine v_put X (pc := 26) 1 (mem' := (sI (sI mem 6 0 (gI mem 5 0 1).toNatClampNeg a1) 5 0 1 ((gI (sI mem 6 0 (gI mem 5 0 1).toNatClampNeg a1) 5 0 1) + (1 : Int32)))) (by decide) (by decide) rfl (pf_5_1 _ _ _ _ _) rowI_ne rfl in_Tape ty_Tape_ok nm_Tape (by decide) qw_100 rfl rfl rfl (Nat.le_of_ble_eq_true rfl) eT_append_26 ?_
    exact v_vret X (pc := 29) h hr eT_append_29
  · exact v_vret X (pc := 29) h hr eT_append_29
set_option maxHeartbeats 4000000 in
set_option maxRecDepth 100000 in
theorem cW_feed_41 {p : Program} {l : Launch} {e : Env} {s : State} {m : MethodId} {args : Array Value} {below : List Frame} {meth : Method} {c : Code} {k : KK} {f : Nat} {o : Int32} {mem' : Mem} (X : CX p s m args meth c k prog_1_method_25_code 4 "WallShifts") (hr : meth.sig.returnType = (Option.some Jvm.ClassFile.FieldType.int)) : ∀ (n : Nat) (x1 : Int32) (x3 : Int32) (mem : Mem), dW_feed_41 f n x1 x3 mem = some (o, mem') → V p l e (rmM 2 44) s m args below meth c 0 0 (MQ below (RQc k (some (aI o)) mem') args s 0 0 (kA k)) k 4 mem 41 [(0, aR 0 0), (1, aI x1), (3, aI x3)] [] := by
  intro n
  induction n with
  | zero =>
    intro x1 x3 mem  h
    exact nomatch (show (none : Option (Int32 × Mem)) = some _ from h)
  | succ n ih =>
    intro x1 x3 mem  h
    rw [dW_feed_41] at h
    refine v_iload_n X (pc := 41) 2 rfl eW_feed_41 rfl ?_
    refine v_if_lt X (pc := 42) (tgt := 68) h eW_feed_42 (by decide) (fun h => ?_) (fun h => ?_)
    · refine v_aload_n X (pc := 68) 0 rfl eW_feed_68 rfl ?_
      refine v_get X (pc := 69) 4 (a := aR 5 0) (by decide) (by decide) rfl rfl rfl in_WallShifts (by decide) qw_144 rfl eW_feed_69 ?_
      refine v_get X (pc := 72) 1 (a := aI (gI mem 5 0 1)) (by decide) (by decide) rfl rfl rfl in_Tape (by decide) qw_101 rfl eW_feed_72 ?_
      exact v_iret X (pc := 75) h hr eW_feed_75
    · refine v_aload_n X (pc := 45) 0 rfl eW_feed_45 rfl ?_
      refine v_get X (pc := 46) 4 (a := aR 5 0) (by decide) (by decide) rfl rfl rfl in_WallShifts (by decide) qw_144 rfl eW_feed_46 ?_
      refine v_iload_n X (pc := 49) 1 rfl eW_feed_49 rfl ?_
      refine v_bipush X (pc := 50) (v := (8 : Int32)) eW_feed_50 (by decide) ?_
      refine v_iload_n X (pc := 52) 2 rfl eW_feed_52 rfl ?_
      refine v_imul X (pc := 53) eW_feed_53 ?_
      refine v_ishr X (pc := 54) eW_feed_54 ?_
      refine v_sipush X (pc := 55) (v := (255 : Int32)) eW_feed_55 (by decide) ?_
      refine v_iand X (pc := 58) eW_feed_58 ?_
      obtain ⟨r1, m1, hc1, h⟩ := bd_some h
      refine v_callV X (pc := 59) [_] [] ok_V_W_193 (cT_append  hc1) rfl (Nat.le_of_ble_eq_true rfl) ⟨Nat.le_of_ble_eq_true rfl, Nat.le_of_ble_eq_true rfl⟩ ⟨Nat.zero_le _, Nat.zero_le _⟩ (by decide) (by decide) rfl rfl eW_feed_59 ?_
      refine v_iinc X (pc := 62) (v := (x3 + (-1 : Int32))) (lv' := [(3, _), (0, _), (1, _)]) 2 rfl (by rfl) eW_feed_62 (Nat.le_of_ble_eq_true rfl) rfl ?_
      refine v_goto X (pc := 65) (tgt := 41) eW_feed_65 (by decide) ?_
      exact v_sub [1, 2, 0] rfl (ih _ _ _  h)
set_option maxHeartbeats 4000000 in
set_option maxRecDepth 100000 in
theorem cW_feed {f : Nat} {a1 : Int32} {a2 : Int32} {mem : Mem} {o : Int32} {mem' : Mem}  (h : dW_feed f a1 a2 mem = some (o, mem')) : RT yW_feed prog_1_method_25_code 4 (Option.some Jvm.ClassFile.FieldType.int) (rmM 2 44) [aR 0 0, aI a1, aI a2] mem (some (aI o)) mem' := by
  refine RT.of (by decide +kernel) (Nat.le_of_ble_eq_true rfl) (fun p l e s m args below meth c k X hr => ?_)
  replace X : CX p s m args meth c k prog_1_method_25_code 4 "WallShifts" := X
  unfold dW_feed at h
  refine v_sub (lv' := [(0, _), (1, _), (2, _)]) [0, 1, 2] rfl ?_
  refine v_iload_n X (pc := 0) 2 rfl eW_feed_0 rfl ?_
  refine v_iconst X (pc := 1) (v := (1 : Int32)) eW_feed_1 (by decide) ?_
  refine v_iconst X (pc := 2) (v := (4 : Int32)) eW_feed_2 (by decide) ?_
  obtain ⟨r1, m1, hc1, h⟩ := bd_some h
  refine v_callS X (pc := 3) [_, _, _] [] ok_S_W_82 (cW_isIn  hc1) rfl (Nat.le_of_ble_eq_true rfl) ⟨Nat.le_of_ble_eq_true rfl, Nat.le_of_ble_eq_true rfl⟩ ⟨Nat.zero_le _, Nat.zero_le _⟩ eW_feed_3 ?_
  refine v_if_ne X (pc := 6) (tgt := 16) h eW_feed_6 (by decide) (fun h => ?_) (fun h => ?_)
  · refine v_aload_n X (pc := 9) 0 rfl eW_feed_9 rfl ?_
    refine v_ldc X (pc := 10) qw_179 eW_feed_10 ?_
    obtain ⟨r2, m2, hc2, h⟩ := bd_some h
    refine v_callV X (pc := 12) [_] [] ok_V_W_52 (cW_finding  hc2) rfl (Nat.le_of_ble_eq_true rfl) ⟨Nat.le_of_ble_eq_true rfl, Nat.le_of_ble_eq_true rfl⟩ ⟨Nat.zero_le _, Nat.zero_le _⟩ (by decide) (by decide) rfl rfl eW_feed_12 ?_
    exact v_iret X (pc := 15) h hr eW_feed_15
  · refine v_aload_n X (pc := 16) 0 rfl eW_feed_16 rfl ?_
    refine v_get X (pc := 17) 4 (a := aR 5 0) (by decide) (by decide) rfl rfl rfl in_WallShifts (by decide) qw_144 rfl eW_feed_17 ?_
    refine v_get X (pc := 20) 1 (a := aI (gI m1 5 0 1)) (by decide) (by decide) rfl rfl rfl in_Tape (by decide) qw_101 rfl eW_feed_20 ?_
    refine v_bipush X (pc := 23) (v := (120 : Int32)) eW_feed_23 (by decide) ?_
    refine v_iload_n X (pc := 25) 2 rfl eW_feed_25 rfl ?_
    refine v_isub X (pc := 26) eW_feed_26 ?_
    refine v_icmp_le X (pc := 27) (tgt := 37) h eW_feed_27 (by decide) (fun h => ?_) (fun h => ?_)
    · refine v_aload_n X (pc := 30) 0 rfl eW_feed_30 rfl ?_
      refine v_ldc X (pc := 31) qw_198 eW_feed_31 ?_
      obtain ⟨r3, m3, hc3, h⟩ := bd_some h
      refine v_callV X (pc := 33) [_] [] ok_V_W_52 (cW_finding  hc3) rfl (Nat.le_of_ble_eq_true rfl) ⟨Nat.le_of_ble_eq_true rfl, Nat.le_of_ble_eq_true rfl⟩ ⟨Nat.zero_le _, Nat.zero_le _⟩ (by decide) (by decide) rfl rfl eW_feed_33 ?_
      exact v_iret X (pc := 36) h hr eW_feed_36
    · refine v_iload_n X (pc := 37) 2 rfl eW_feed_37 rfl ?_
      refine v_iconst X (pc := 38) (v := (1 : Int32)) eW_feed_38 (by decide) ?_
      refine v_isub X (pc := 39) eW_feed_39 ?_
      refine v_istore_n X (pc := 40) (lv' := [(3, _), (0, _), (1, _), (2, _)]) eW_feed_40 rfl (Nat.le_of_ble_eq_true rfl) rfl ?_
      exact v_sub [1, 2, 0] rfl (cW_feed_41 X hr _ _ _ _  h)
set_option maxHeartbeats 4000000 in
set_option maxRecDepth 100000 in
theorem cT_clear {f : Nat}  {mem : Mem} {o : Int32} {mem' : Mem}  (h : dT_clear f  mem = some (o, mem')) : RT yT_clear prog_4_method_3_code 2 (Option.some Jvm.ClassFile.FieldType.int) (rmM 0 0) [aR 5 0] mem (some (aI o)) mem' := by
  refine RT.of (by decide +kernel) (Nat.le_of_ble_eq_true rfl) (fun p l e s m args below meth c k X hr => ?_)
  replace X : CX p s m args meth c k prog_4_method_3_code 2 "WallShifts$Tape" := X
  unfold dT_clear at h
  refine v_sub (lv' := [(0, _)]) [0] rfl ?_
  refine v_aload_n X (pc := 0) 0 rfl eT_clear_0 rfl ?_
  refine v_get X (pc := 1) 1 (a := aI (gI mem 5 0 1)) (by decide) (by decide) rfl rfl rfl in_Tape (by decide) qw_100 rfl eT_clear_1 ?_
  refine v_istore_n X (pc := 4) (lv' := [(1, _), (0, _)]) eT_clear_4 rfl (Nat.le_of_ble_eq_true rfl) rfl ?_
  refine v_aload_n X (pc := 5) 1 rfl eT_clear_5 rfl ?_
  refine v_iconst X (pc := 6) (v := (0 : Int32)) eT_clear_6 (by decide) ?_
  refine v_put X (pc := 7) 1 (mem' := (sI mem 5 0 1 (0 : Int32))) (by decide) (by decide) rfl (pf_5_1 _ _ _ _ _) rowI_ne rfl in_Tape ty_Tape_ok nm_Tape (by decide) qw_100 rfl rfl rfl (Nat.le_of_ble_eq_true rfl) eT_clear_7 ?_
  refine v_iload_n X (pc := 10) 0 rfl eT_clear_10 rfl ?_
  exact v_iret X (pc := 11) h hr eT_clear_11
set_option maxHeartbeats 4000000 in
set_option maxRecDepth 100000 in
theorem cW_wipe {f : Nat}  {mem : Mem} {o : Int32} {mem' : Mem}  (h : dW_wipe f  mem = some (o, mem')) : RT yW_wipe prog_1_method_26_code 1 (Option.some Jvm.ClassFile.FieldType.int) (rmM 1 21) [aR 0 0] mem (some (aI o)) mem' := by
  refine RT.of (by decide +kernel) (Nat.le_of_ble_eq_true rfl) (fun p l e s m args below meth c k X hr => ?_)
  replace X : CX p s m args meth c k prog_1_method_26_code 1 "WallShifts" := X
  unfold dW_wipe at h
  refine v_sub (lv' := [(0, _)]) [0] rfl ?_
  refine v_aload_n X (pc := 0) 0 rfl eW_wipe_0 rfl ?_
  refine v_get X (pc := 1) 4 (a := aR 5 0) (by decide) (by decide) rfl rfl rfl in_WallShifts (by decide) qw_144 rfl eW_wipe_1 ?_
  obtain ⟨r1, m1, hc1, h⟩ := bd_some h
  refine v_callV X (pc := 4) [] [] ok_V_W_196 (cT_clear  hc1) rfl (Nat.le_of_ble_eq_true rfl) ⟨Nat.le_of_ble_eq_true rfl, Nat.le_of_ble_eq_true rfl⟩ ⟨Nat.zero_le _, Nat.zero_le _⟩ (by decide) (by decide) rfl rfl eW_wipe_4 ?_
  exact v_iret X (pc := 7) h hr eW_wipe_7
set_option maxHeartbeats 4000000 in
set_option maxRecDepth 100000 in
theorem cT_byteAt {f : Nat} {a1 : Int32} {mem : Mem} {o : Int32} {mem' : Mem}  (h : dT_byteAt f a1 mem = some (o, mem')) : RT yT_byteAt prog_4_method_14_code 2 (Option.some Jvm.ClassFile.FieldType.int) (rmM 0 0) [aR 5 0, aI a1] mem (some (aI o)) mem' := by
  refine RT.of (by decide +kernel) (Nat.le_of_ble_eq_true rfl) (fun p l e s m args below meth c k X hr => ?_)
  replace X : CX p s m args meth c k prog_4_method_14_code 2 "WallShifts$Tape" := X
  unfold dT_byteAt at h
  refine v_sub (lv' := [(0, _), (1, _)]) [0, 1] rfl ?_
  refine v_iload_n X (pc := 0) 1 rfl eT_byteAt_0 rfl ?_
  refine v_if_lt X (pc := 1) (tgt := 21) h eT_byteAt_1 (by decide) (fun h => ?_) (fun h => ?_)
  · refine v_iconst X (pc := 21) (v := (-1 : Int32)) eT_byteAt_21 (by decide) ?_
    exact v_iret X (pc := 22) h hr eT_byteAt_22
  · refine v_iload_n X (pc := 4) 1 rfl eT_byteAt_4 rfl ?_
    refine v_aload_n X (pc := 5) 0 rfl eT_byteAt_5 rfl ?_
    refine v_get X (pc := 6) 1 (a := aI (gI mem 5 0 1)) (by decide) (by decide) rfl rfl rfl in_Tape (by decide) qw_100 rfl eT_byteAt_6 ?_
    refine v_icmp_ge X (pc := 9) (tgt := 21) h eT_byteAt_9 (by decide) (fun h => ?_) (fun h => ?_)
    · refine v_aload_n X (pc := 12) 0 rfl eT_byteAt_12 rfl ?_
      refine v_get X (pc := 13) 0 (a := aR 6 0) (by decide) (by decide) rfl rfl rfl in_Tape (by decide) qw_99 rfl eT_byteAt_13 ?_
      refine v_iload_n X (pc := 16) 1 rfl eT_byteAt_16 rfl ?_
      refine v_iald X (pc := 17) h (by decide) (by decide) rfl eT_byteAt_17 (fun h => ?_)
      refine v_goto X (pc := 18) (tgt := 22) eT_byteAt_18 (by decide) ?_
      exact v_iret X (pc := 22) h hr eT_byteAt_22
    · refine v_iconst X (pc := 21) (v := (-1 : Int32)) eT_byteAt_21 (by decide) ?_
      exact v_iret X (pc := 22) h hr eT_byteAt_22
set_option maxHeartbeats 4000000 in
set_option maxRecDepth 100000 in
theorem cT_sortOf_28 {p : Program} {l : Launch} {e : Env} {s : State} {m : MethodId} {args : Array Value} {below : List Frame} {meth : Method} {c : Code} {k : KK} {f : Nat} {o : Int32} {mem' : Mem} (X : CX p s m args meth c k prog_4_method_13_code 2 "WallShifts$Tape") (hr : meth.sig.returnType = (Option.some Jvm.ClassFile.FieldType.int)) : ∀ (x1 : Int32) (mem : Mem), dT_sortOf_28 f x1 mem = some (o, mem') → V p l e (rmM 0 0) s m args below meth c 0 0 (MQ below (RQc k (some (aI o)) mem') args s 0 0 (kA k)) k 2 mem 28 [(1, aI x1)] [] := by
  intro x1 mem  h
  unfold dT_sortOf_28 at h
  refine v_iload_n X (pc := 28) 0 rfl eT_sortOf_28 rfl ?_
  refine v_bipush X (pc := 29) (v := (48 : Int32)) eT_sortOf_29 (by decide) ?_
  refine v_icmp_lt X (pc := 31) (tgt := 44) h eT_sortOf_31 (by decide) (fun h => ?_) (fun h => ?_)
  · refine v_iconst X (pc := 44) (v := (1 : Int32)) eT_sortOf_44 (by decide) ?_
    exact v_iret X (pc := 45) h hr eT_sortOf_45
  · refine v_iload_n X (pc := 34) 0 rfl eT_sortOf_34 rfl ?_
    refine v_bipush X (pc := 35) (v := (57 : Int32)) eT_sortOf_35 (by decide) ?_
    refine v_icmp_gt X (pc := 37) (tgt := 44) h eT_sortOf_37 (by decide) (fun h => ?_) (fun h => ?_)
    · refine v_iconst X (pc := 44) (v := (1 : Int32)) eT_sortOf_44 (by decide) ?_
      exact v_iret X (pc := 45) h hr eT_sortOf_45
    · refine v_iconst X (pc := 40) (v := (3 : Int32)) eT_sortOf_40 (by decide) ?_
      refine v_goto X (pc := 41) (tgt := 45) eT_sortOf_41 (by decide) ?_
      exact v_iret X (pc := 45) h hr eT_sortOf_45
set_option maxHeartbeats 4000000 in
set_option maxRecDepth 100000 in
theorem cT_sortOf {f : Nat} {a1 : Int32} {mem : Mem} {o : Int32} {mem' : Mem}  (h : dT_sortOf f a1 mem = some (o, mem')) : RT yT_sortOf prog_4_method_13_code 2 (Option.some Jvm.ClassFile.FieldType.int) (rmM 0 0) [aR 5 0, aI a1] mem (some (aI o)) mem' := by
  refine RT.of (by decide +kernel) (Nat.le_of_ble_eq_true rfl) (fun p l e s m args below meth c k X hr => ?_)
  replace X : CX p s m args meth c k prog_4_method_13_code 2 "WallShifts$Tape" := X
  unfold dT_sortOf at h
  refine v_sub (lv' := [(0, _), (1, _)]) [0, 1] rfl ?_
  refine v_iload_n X (pc := 0) 1 rfl eT_sortOf_0 rfl ?_
  refine v_if_ge X (pc := 1) (tgt := 6) h eT_sortOf_1 (by decide) (fun h => ?_) (fun h => ?_)
  · refine v_iconst X (pc := 4) (v := (0 : Int32)) eT_sortOf_4 (by decide) ?_
    exact v_iret X (pc := 5) h hr eT_sortOf_5
  · refine v_iload_n X (pc := 6) 1 rfl eT_sortOf_6 rfl ?_
    refine v_bipush X (pc := 7) (v := (59 : Int32)) eT_sortOf_7 (by decide) ?_
    refine v_icmp_ne X (pc := 9) (tgt := 14) h eT_sortOf_9 (by decide) (fun h => ?_) (fun h => ?_)
    · refine v_iconst X (pc := 12) (v := (4 : Int32)) eT_sortOf_12 (by decide) ?_
      exact v_iret X (pc := 13) h hr eT_sortOf_13
    · refine v_iload_n X (pc := 14) 1 rfl eT_sortOf_14 rfl ?_
      refine v_bipush X (pc := 15) (v := (97 : Int32)) eT_sortOf_15 (by decide) ?_
      refine v_icmp_lt X (pc := 17) (tgt := 28) h eT_sortOf_17 (by decide) (fun h => ?_) (fun h => ?_)
      · exact v_sub [1] rfl (cT_sortOf_28 X hr _ _  h)
      · refine v_iload_n X (pc := 20) 1 rfl eT_sortOf_20 rfl ?_
        refine v_bipush X (pc := 21) (v := (122 : Int32)) eT_sortOf_21 (by decide) ?_
        refine v_icmp_gt X (pc := 23) (tgt := 28) h eT_sortOf_23 (by decide) (fun h => ?_) (fun h => ?_)
        · exact v_sub [1] rfl (cT_sortOf_28 X hr _ _  h)
        · refine v_iconst X (pc := 26) (v := (2 : Int32)) eT_sortOf_26 (by decide) ?_
          exact v_iret X (pc := 27) h hr eT_sortOf_27
set_option maxHeartbeats 4000000 in
set_option maxRecDepth 100000 in
theorem cT_numberAtHand_7 {p : Program} {l : Launch} {e : Env} {s : State} {m : MethodId} {args : Array Value} {below : List Frame} {meth : Method} {c : Code} {k : KK} {f : Nat} {o : Int32} {mem' : Mem} (X : CX p s m args meth c k prog_4_method_15_code 3 "WallShifts$Tape") (hr : meth.sig.returnType = (Option.some Jvm.ClassFile.FieldType.int)) : ∀ (n : Nat) (x1 : Int32) (x2 : Int32) (mem : Mem), dT_numberAtHand_7 f n x1 x2 mem = some (o, mem') → V p l e (rmM 1 40) s m args below meth c 0 0 (MQ below (RQc k (some (aI o)) mem') args s 0 0 (kA k)) k 3 mem 7 [(0, aR 5 0), (1, aI x1), (2, aI x2)] [] := by
  intro n
  induction n with
  | zero =>
    intro x1 x2 mem  h
    exact nomatch (show (none : Option (Int32 × Mem)) = some _ from h)
  | succ n ih =>
    intro x1 x2 mem  h
    rw [dT_numberAtHand_7] at h
    refine v_iload_n X (pc := 7) 2 rfl eT_numberAtHand_7 rfl ?_
    refine v_aload_n X (pc := 8) 0 rfl eT_numberAtHand_8 rfl ?_
    refine v_get X (pc := 9) 3 (a := aI (gI mem 5 0 3)) (by decide) (by decide) rfl rfl rfl in_Tape (by decide) qw_103 rfl eT_numberAtHand_9 ?_
    refine v_icmp_ge X (pc := 12) (tgt := 41) h eT_numberAtHand_12 (by decide) (fun h => ?_) (fun h => ?_)
    · refine v_sipush X (pc := 15) (v := (1000 : Int32)) eT_numberAtHand_15 (by decide) ?_
      refine v_iload_n X (pc := 18) 1 rfl eT_numberAtHand_18 rfl ?_
      refine v_bipush X (pc := 19) (v := (10 : Int32)) eT_numberAtHand_19 (by decide) ?_
      refine v_imul X (pc := 21) eT_numberAtHand_21 ?_
      refine v_aload_n X (pc := 22) 0 rfl eT_numberAtHand_22 rfl ?_
      refine v_iload_n X (pc := 23) 2 rfl eT_numberAtHand_23 rfl ?_
      obtain ⟨r1, m1, hc1, h⟩ := bd_some h
      refine v_callV X (pc := 24) [_] [_, _] ok_V_T_109 (cT_byteAt  hc1) rfl (Nat.le_of_ble_eq_true rfl) ⟨Nat.le_of_ble_eq_true rfl, Nat.le_of_ble_eq_true rfl⟩ ⟨Nat.zero_le _, Nat.zero_le _⟩ (by decide) (by decide) rfl rfl eT_numberAtHand_24 ?_
      refine v_iadd X (pc := 27) eT_numberAtHand_27 ?_
      refine v_bipush X (pc := 28) (v := (48 : Int32)) eT_numberAtHand_28 (by decide) ?_
      refine v_isub X (pc := 30) eT_numberAtHand_30 ?_
      refine v_mmin X (pc := 31) okM_T_127 [] (Nat.le_of_ble_eq_true rfl) (Nat.le_of_ble_eq_true rfl) ⟨Nat.zero_le _, Nat.zero_le _⟩ eT_numberAtHand_31 ?_
      refine v_istore_n X (pc := 34) (lv' := [(1, _), (0, _), (2, _)]) eT_numberAtHand_34 rfl (Nat.le_of_ble_eq_true rfl) rfl ?_
      refine v_iinc X (pc := 35) (v := (x2 + (1 : Int32))) (lv' := [(2, _), (1, _), (0, _)]) 2 rfl (by rfl) eT_numberAtHand_35 (Nat.le_of_ble_eq_true rfl) rfl ?_
      refine v_goto X (pc := 38) (tgt := 7) eT_numberAtHand_38 (by decide) ?_
      exact v_sub [2, 1, 0] rfl (ih _ _ _  h)
    · refine v_iload_n X (pc := 41) 1 rfl eT_numberAtHand_41 rfl ?_
      exact v_iret X (pc := 42) h hr eT_numberAtHand_42
set_option maxHeartbeats 4000000 in
set_option maxRecDepth 100000 in
theorem cT_numberAtHand {f : Nat}  {mem : Mem} {o : Int32} {mem' : Mem}  (h : dT_numberAtHand f  mem = some (o, mem')) : RT yT_numberAtHand prog_4_method_15_code 3 (Option.some Jvm.ClassFile.FieldType.int) (rmM 1 40) [aR 5 0] mem (some (aI o)) mem' := by
  refine RT.of (by decide +kernel) (Nat.le_of_ble_eq_true rfl) (fun p l e s m args below meth c k X hr => ?_)
  replace X : CX p s m args meth c k prog_4_method_15_code 3 "WallShifts$Tape" := X
  unfold dT_numberAtHand at h
  refine v_sub (lv' := [(0, _)]) [0] rfl ?_
  refine v_iconst X (pc := 0) (v := (0 : Int32)) eT_numberAtHand_0 (by decide) ?_
  refine v_istore_n X (pc := 1) (lv' := [(1, _), (0, _)]) eT_numberAtHand_1 rfl (Nat.le_of_ble_eq_true rfl) rfl ?_
  refine v_aload_n X (pc := 2) 1 rfl eT_numberAtHand_2 rfl ?_
  refine v_get X (pc := 3) 2 (a := aI (gI mem 5 0 2)) (by decide) (by decide) rfl rfl rfl in_Tape (by decide) qw_102 rfl eT_numberAtHand_3 ?_
  refine v_istore_n X (pc := 6) (lv' := [(2, _), (1, _), (0, _)]) eT_numberAtHand_6 rfl (Nat.le_of_ble_eq_true rfl) rfl ?_
  exact v_sub [2, 1, 0] rfl (cT_numberAtHand_7 X hr _ _ _ _  h)
set_option maxHeartbeats 4000000 in
set_option maxRecDepth 100000 in
theorem cT_next_146 {p : Program} {l : Launch} {e : Env} {s : State} {m : MethodId} {args : Array Value} {below : List Frame} {meth : Method} {c : Code} {k : KK} {f : Nat} {o : Unit} {mem' : Mem} (X : CX p s m args meth c k prog_4_method_12_code 1 "WallShifts$Tape") (hr : meth.sig.returnType = (Option.none : Option Jvm.ClassFile.FieldType)) : ∀  (mem : Mem), dT_next_146 f  mem = some (o, mem') → V p l e (rmM 2 62) s m args below meth c 0 0 (MQ below (RQc k none mem') args s 0 0 (kA k)) k 1 mem 146 [(0, aR 5 0)] [] := by
  intro  mem  h
  unfold dT_next_146 at h
  refine v_aload_n X (pc := 146) 0 rfl eT_next_146 rfl ?_
  refine v_aload_n X (pc := 147) 0 rfl eT_next_147 rfl ?_
  refine v_get X (pc := 148) 4 (a := aI (gI mem 5 0 4)) (by decide) (by decide) rfl rfl rfl in_Tape (by decide) qw_104 rfl eT_next_148 ?_
  refine v_iconst X (pc := 151) (v := (3 : Int32)) eT_next_151 (by decide) ?_
  refine v_icmp_ne X (pc := 152) (tgt := 162) h eT_next_152 (by decide) (fun h => ?_) (fun h => ?_)
  · refine v_aload_n X (pc := 155) 0 rfl eT_next_155 rfl ?_
    obtain ⟨r1, m1, hc1, h⟩ := bd_some h
    refine v_callV X (pc := 156) [] [_] ok_V_T_124 (cT_numberAtHand  hc1) rfl (Nat.le_of_ble_eq_true rfl) ⟨Nat.le_of_ble_eq_true rfl, Nat.le_of_ble_eq_true rfl⟩ ⟨Nat.zero_le _, Nat.zero_le _⟩ (by decide) (by decide) rfl rfl eT_next_156 ?_
    refine v_goto X (pc := 159) (tgt := 163) eT_next_159 (by decide) ?_
    refine v_put X (pc := 163) 5 (mem' := (sI m1 5 0 5 r1)) (by decide) (by decide) rfl (pf_5_5 _ _ _ _ _) rowI_ne rfl in_Tape ty_Tape_ok nm_Tape (by decide) qw_105 rfl rfl rfl (Nat.le_of_ble_eq_true rfl) eT_next_163 ?_
    exact v_vret X (pc := 166) h hr eT_next_166
  · refine v_iconst X (pc := 162) (v := (0 : Int32)) eT_next_162 (by decide) ?_
    refine v_put X (pc := 163) 5 (mem' := (sI mem 5 0 5 (0 : Int32))) (by decide) (by decide) rfl (pf_5_5 _ _ _ _ _) rowI_ne rfl in_Tape ty_Tape_ok nm_Tape (by decide) qw_105 rfl rfl rfl (Nat.le_of_ble_eq_true rfl) eT_next_163 ?_
    exact v_vret X (pc := 166) h hr eT_next_166
set_option maxHeartbeats 4000000 in
set_option maxRecDepth 100000 in
theorem cT_next_85 {p : Program} {l : Launch} {e : Env} {s : State} {m : MethodId} {args : Array Value} {below : List Frame} {meth : Method} {c : Code} {k : KK} {f : Nat} {o : Unit} {mem' : Mem} (X : CX p s m args meth c k prog_4_method_12_code 1 "WallShifts$Tape") (hr : meth.sig.returnType = (Option.none : Option Jvm.ClassFile.FieldType)) : ∀ (n : Nat)  (mem : Mem), dT_next_85 f n  mem = some (o, mem') → V p l e (rmM 2 62) s m args below meth c 0 0 (MQ below (RQc k none mem') args s 0 0 (kA k)) k 1 mem 85 [(0, aR 5 0)] [] := by
  intro n
  induction n with
  | zero =>
    intro  mem  h
    exact nomatch (show (none : Option (Unit × Mem)) = some _ from h)
  | succ n ih =>
    intro  mem  h
    rw [dT_next_85] at h
    refine v_aload_n X (pc := 85) 0 rfl eT_next_85 rfl ?_
    refine v_get X (pc := 86) 3 (a := aI (gI mem 5 0 3)) (by decide) (by decide) rfl rfl rfl in_Tape (by decide) qw_103 rfl eT_next_86 ?_
    refine v_aload_n X (pc := 89) 0 rfl eT_next_89 rfl ?_
    refine v_get X (pc := 90) 1 (a := aI (gI mem 5 0 1)) (by decide) (by decide) rfl rfl rfl in_Tape (by decide) qw_100 rfl eT_next_90 ?_
    refine v_icmp_ge X (pc := 93) (tgt := 146) h eT_next_93 (by decide) (fun h => ?_) (fun h => ?_)
    · refine v_aload_n X (pc := 96) 0 rfl eT_next_96 rfl ?_
      refine v_aload_n X (pc := 97) 0 rfl eT_next_97 rfl ?_
      refine v_aload_n X (pc := 98) 0 rfl eT_next_98 rfl ?_
      refine v_get X (pc := 99) 3 (a := aI (gI mem 5 0 3)) (by decide) (by decide) rfl rfl rfl in_Tape (by decide) qw_103 rfl eT_next_99 ?_
      obtain ⟨r1, m1, hc1, h⟩ := bd_some h
      refine v_callV X (pc := 102) [_] [_] ok_V_T_109 (cT_byteAt  hc1) rfl (Nat.le_of_ble_eq_true rfl) ⟨Nat.le_of_ble_eq_true rfl, Nat.le_of_ble_eq_true rfl⟩ ⟨Nat.zero_le _, Nat.zero_le _⟩ (by decide) (by decide) rfl rfl eT_next_102 ?_
      obtain ⟨r2, m2, hc2, h⟩ := bd_some h
      refine v_callV X (pc := 105) [_] [] ok_V_T_121 (cT_sortOf  hc2) rfl (Nat.le_of_ble_eq_true rfl) ⟨Nat.le_of_ble_eq_true rfl, Nat.le_of_ble_eq_true rfl⟩ ⟨Nat.zero_le _, Nat.zero_le _⟩ (by decide) (by decide) rfl rfl eT_next_105 ?_
      refine v_aload_n X (pc := 108) 0 rfl eT_next_108 rfl ?_
      refine v_get X (pc := 109) 4 (a := aI (gI m2 5 0 4)) (by decide) (by decide) rfl rfl rfl in_Tape (by decide) qw_104 rfl eT_next_109 ?_
      refine v_icmp_ne X (pc := 112) (tgt := 146) h eT_next_112 (by decide) (fun h => ?_) (fun h => ?_)
      · refine v_aload_n X (pc := 115) 0 rfl eT_next_115 rfl ?_
        refine v_dup X (pc := 116) rfl eT_next_116 ?_
        refine v_get X (pc := 117) 3 (a := aI (gI m2 5 0 3)) (by decide) (by decide) rfl rfl rfl in_Tape (by decide) qw_103 rfl eT_next_117 ?_
        refine v_iconst X (pc := 120) (v := (1 : Int32)) eT_next_120 (by decide) ?_
        refine v_iadd X (pc := 121) eT_next_121 ?_
        refine v_put X (pc := 122) 3 (mem' := (sI m2 5 0 3 ((gI m2 5 0 3) + (1 : Int32)))) (by decide) (by decide) rfl (pf_5_3 _ _ _ _ _) rowI_ne rfl in_Tape ty_Tape_ok nm_Tape (by decide) qw_103 rfl rfl rfl (Nat.le_of_ble_eq_true rfl) eT_next_122 ?_
        refine v_goto X (pc := 125) (tgt := 85) eT_next_125 (by decide) ?_
        exact v_sub [0] rfl (ih  _  h)
      · exact v_sub [0] rfl (cT_next_146 X hr  _  h)
    · exact v_sub [0] rfl (cT_next_146 X hr  _  h)
set_option maxHeartbeats 4000000 in
set_option maxRecDepth 100000 in
theorem cT_next_45 {p : Program} {l : Launch} {e : Env} {s : State} {m : MethodId} {args : Array Value} {below : List Frame} {meth : Method} {c : Code} {k : KK} {f : Nat} {o : Unit} {mem' : Mem} (X : CX p s m args meth c k prog_4_method_12_code 1 "WallShifts$Tape") (hr : meth.sig.returnType = (Option.none : Option Jvm.ClassFile.FieldType)) : ∀  (mem : Mem), dT_next_45 f  mem = some (o, mem') → V p l e (rmM 2 62) s m args below meth c 0 0 (MQ below (RQc k none mem') args s 0 0 (kA k)) k 1 mem 45 [(0, aR 5 0)] [] := by
  intro  mem  h
  unfold dT_next_45 at h
  refine v_aload_n X (pc := 45) 0 rfl eT_next_45 rfl ?_
  refine v_aload_n X (pc := 46) 0 rfl eT_next_46 rfl ?_
  refine v_get X (pc := 47) 2 (a := aI (gI mem 5 0 2)) (by decide) (by decide) rfl rfl rfl in_Tape (by decide) qw_102 rfl eT_next_47 ?_
  refine v_put X (pc := 50) 3 (mem' := (sI mem 5 0 3 (gI mem 5 0 2))) (by decide) (by decide) rfl (pf_5_3 _ _ _ _ _) rowI_ne rfl in_Tape ty_Tape_ok nm_Tape (by decide) qw_103 rfl rfl rfl (Nat.le_of_ble_eq_true rfl) eT_next_50 ?_
  refine v_aload_n X (pc := 53) 0 rfl eT_next_53 rfl ?_
  refine v_aload_n X (pc := 54) 0 rfl eT_next_54 rfl ?_
  refine v_aload_n X (pc := 55) 0 rfl eT_next_55 rfl ?_
  refine v_aload_n X (pc := 56) 0 rfl eT_next_56 rfl ?_
  refine v_get X (pc := 57) 2 (a := aI (gI (sI mem 5 0 3 (gI mem 5 0 2)) 5 0 2)) (by decide) (by decide) rfl rfl rfl in_Tape (by decide) qw_102 rfl eT_next_57 ?_
  obtain ⟨r1, m1, hc1, h⟩ := bd_some h
  refine v_callV X (pc := 60) [_] [_, _] ok_V_T_109 (cT_byteAt  hc1) rfl (Nat.le_of_ble_eq_true rfl) ⟨Nat.le_of_ble_eq_true rfl, Nat.le_of_ble_eq_true rfl⟩ ⟨Nat.zero_le _, Nat.zero_le _⟩ (by decide) (by decide) rfl rfl eT_next_60 ?_
  obtain ⟨r2, m2, hc2, h⟩ := bd_some h
  refine v_callV X (pc := 63) [_] [_] ok_V_T_121 (cT_sortOf  hc2) rfl (Nat.le_of_ble_eq_true rfl) ⟨Nat.le_of_ble_eq_true rfl, Nat.le_of_ble_eq_true rfl⟩ ⟨Nat.zero_le _, Nat.zero_le _⟩ (by decide) (by decide) rfl rfl eT_next_63 ?_
  refine v_put X (pc := 66) 4 (mem' := (sI m2 5 0 4 r2)) (by decide) (by decide) rfl (pf_5_4 _ _ _ _ _) rowI_ne rfl in_Tape ty_Tape_ok nm_Tape (by decide) qw_104 rfl rfl rfl (Nat.le_of_ble_eq_true rfl) eT_next_66 ?_
  refine v_aload_n X (pc := 69) 0 rfl eT_next_69 rfl ?_
  refine v_get X (pc := 70) 4 (a := aI (gI (sI m2 5 0 4 r2) 5 0 4)) (by decide) (by decide) rfl rfl rfl in_Tape (by decide) qw_104 rfl eT_next_70 ?_
  refine v_iconst X (pc := 73) (v := (2 : Int32)) eT_next_73 (by decide) ?_
  refine v_icmp_eq X (pc := 74) (tgt := 85) h eT_next_74 (by decide) (fun h => ?_) (fun h => ?_)
  · exact v_sub [0] rfl (cT_next_85 X hr _  _  h)
  · refine v_aload_n X (pc := 77) 0 rfl eT_next_77 rfl ?_
    refine v_get X (pc := 78) 4 (a := aI (gI (sI m2 5 0 4 r2) 5 0 4)) (by decide) (by decide) rfl rfl rfl in_Tape (by decide) qw_104 rfl eT_next_78 ?_
    refine v_iconst X (pc := 81) (v := (3 : Int32)) eT_next_81 (by decide) ?_
    refine v_icmp_ne X (pc := 82) (tgt := 128) h eT_next_82 (by decide) (fun h => ?_) (fun h => ?_)
    · exact v_sub [0] rfl (cT_next_85 X hr _  _  h)
    · refine v_aload_n X (pc := 128) 0 rfl eT_next_128 rfl ?_
      refine v_get X (pc := 129) 4 (a := aI (gI (sI m2 5 0 4 r2) 5 0 4)) (by decide) (by decide) rfl rfl rfl in_Tape (by decide) qw_104 rfl eT_next_129 ?_
      refine v_iconst X (pc := 132) (v := (4 : Int32)) eT_next_132 (by decide) ?_
      refine v_icmp_ne X (pc := 133) (tgt := 146) h eT_next_133 (by decide) (fun h => ?_) (fun h => ?_)
      · refine v_aload_n X (pc := 136) 0 rfl eT_next_136 rfl ?_
        refine v_dup X (pc := 137) rfl eT_next_137 ?_
        refine v_get X (pc := 138) 3 (a := aI (gI (sI m2 5 0 4 r2) 5 0 3)) (by decide) (by decide) rfl rfl rfl in_Tape (by decide) qw_103 rfl eT_next_138 ?_
        refine v_iconst X (pc := 141) (v := (1 : Int32)) eT_next_141 (by decide) ?_
        refine v_iadd X (pc := 142) eT_next_142 ?_
        refine v_put X (pc := 143) 3 (mem' := (sI (sI m2 5 0 4 r2) 5 0 3 ((gI (sI m2 5 0 4 r2) 5 0 3) + (1 : Int32)))) (by decide) (by decide) rfl (pf_5_3 _ _ _ _ _) rowI_ne rfl in_Tape ty_Tape_ok nm_Tape (by decide) qw_103 rfl rfl rfl (Nat.le_of_ble_eq_true rfl) eT_next_143 ?_
        exact v_sub [0] rfl (cT_next_146 X hr  _  h)
      · exact v_sub [0] rfl (cT_next_146 X hr  _  h)
set_option maxHeartbeats 4000000 in
set_option maxRecDepth 100000 in
theorem cT_next_8 {p : Program} {l : Launch} {e : Env} {s : State} {m : MethodId} {args : Array Value} {below : List Frame} {meth : Method} {c : Code} {k : KK} {f : Nat} {o : Unit} {mem' : Mem} (X : CX p s m args meth c k prog_4_method_12_code 1 "WallShifts$Tape") (hr : meth.sig.returnType = (Option.none : Option Jvm.ClassFile.FieldType)) : ∀ (n : Nat)  (mem : Mem), dT_next_8 f n  mem = some (o, mem') → V p l e (rmM 2 62) s m args below meth c 0 0 (MQ below (RQc k none mem') args s 0 0 (kA k)) k 1 mem 8 [(0, aR 5 0)] [] := by
  intro n
  induction n with
  | zero =>
    intro  mem  h
    exact nomatch (show (none : Option (Unit × Mem)) = some _ from h)
  | succ n ih =>
    intro  mem  h
    rw [dT_next_8] at h
    refine v_aload_n X (pc := 8) 0 rfl eT_next_8 rfl ?_
    refine v_get X (pc := 9) 2 (a := aI (gI mem 5 0 2)) (by decide) (by decide) rfl rfl rfl in_Tape (by decide) qw_102 rfl eT_next_9 ?_
    refine v_aload_n X (pc := 12) 0 rfl eT_next_12 rfl ?_
    refine v_get X (pc := 13) 1 (a := aI (gI mem 5 0 1)) (by decide) (by decide) rfl rfl rfl in_Tape (by decide) qw_100 rfl eT_next_13 ?_
    refine v_icmp_ge X (pc := 16) (tgt := 45) h eT_next_16 (by decide) (fun h => ?_) (fun h => ?_)
    · refine v_aload_n X (pc := 19) 0 rfl eT_next_19 rfl ?_
      refine v_aload_n X (pc := 20) 0 rfl eT_next_20 rfl ?_
      refine v_get X (pc := 21) 2 (a := aI (gI mem 5 0 2)) (by decide) (by decide) rfl rfl rfl in_Tape (by decide) qw_102 rfl eT_next_21 ?_
      obtain ⟨r1, m1, hc1, h⟩ := bd_some h
      refine v_callV X (pc := 24) [_] [] ok_V_T_109 (cT_byteAt  hc1) rfl (Nat.le_of_ble_eq_true rfl) ⟨Nat.le_of_ble_eq_true rfl, Nat.le_of_ble_eq_true rfl⟩ ⟨Nat.zero_le _, Nat.zero_le _⟩ (by decide) (by decide) rfl rfl eT_next_24 ?_
      refine v_bipush X (pc := 27) (v := (32 : Int32)) eT_next_27 (by decide) ?_
      refine v_icmp_ne X (pc := 29) (tgt := 45) h eT_next_29 (by decide) (fun h => ?_) (fun h => ?_)
      · refine v_aload_n X (pc := 32) 0 rfl eT_next_32 rfl ?_
        refine v_dup X (pc := 33) rfl eT_next_33 ?_
        refine v_get X (pc := 34) 2 (a := aI (gI m1 5 0 2)) (by decide) (by decide) rfl rfl rfl in_Tape (by decide) qw_102 rfl eT_next_34 ?_
        refine v_iconst X (pc := 37) (v := (1 : Int32)) eT_next_37 (by decide) ?_
        refine v_iadd X (pc := 38) eT_next_38 ?_
        refine v_put X (pc := 39) 2 (mem' := (sI m1 5 0 2 ((gI m1 5 0 2) + (1 : Int32)))) (by decide) (by decide) rfl (pf_5_2 _ _ _ _ _) rowI_ne rfl in_Tape ty_Tape_ok nm_Tape (by decide) qw_102 rfl rfl rfl (Nat.le_of_ble_eq_true rfl) eT_next_39 ?_
        refine v_goto X (pc := 42) (tgt := 8) eT_next_42 (by decide) ?_
        exact v_sub [0] rfl (ih  _  h)
      · exact v_sub [0] rfl (cT_next_45 X hr  _  h)
    · exact v_sub [0] rfl (cT_next_45 X hr  _  h)
set_option maxHeartbeats 4000000 in
set_option maxRecDepth 100000 in
theorem cT_next {f : Nat}  {mem : Mem} {o : Unit} {mem' : Mem}  (h : dT_next f  mem = some (o, mem')) : RT yT_next prog_4_method_12_code 1 (Option.none : Option Jvm.ClassFile.FieldType) (rmM 2 62) [aR 5 0] mem none mem' := by
  refine RT.of (by decide +kernel) (Nat.le_of_ble_eq_true rfl) (fun p l e s m args below meth c k X hr => ?_)
  replace X : CX p s m args meth c k prog_4_method_12_code 1 "WallShifts$Tape" := X
  unfold dT_next at h
  refine v_sub (lv' := [(0, _)]) [0] rfl ?_
  refine v_aload_n X (pc := 0) 0 rfl eT_next_0 rfl ?_
  refine v_aload_n X (pc := 1) 0 rfl eT_next_1 rfl ?_
  refine v_get X (pc := 2) 3 (a := aI (gI mem 5 0 3)) (by decide) (by decide) rfl rfl rfl in_Tape (by decide) qw_103 rfl eT_next_2 ?_
  refine v_put X (pc := 5) 2 (mem' := (sI mem 5 0 2 (gI mem 5 0 3))) (by decide) (by decide) rfl (pf_5_2 _ _ _ _ _) rowI_ne rfl in_Tape ty_Tape_ok nm_Tape (by decide) qw_102 rfl rfl rfl (Nat.le_of_ble_eq_true rfl) eT_next_5 ?_
  exact v_sub [0] rfl (cT_next_8 X hr _  _  h)
set_option maxHeartbeats 4000000 in
set_option maxRecDepth 100000 in
theorem cT_nameOfKind {f : Nat} {a1 : Int32} {mem : Mem} {o : Nat} {mem' : Mem}  (h : dT_nameOfKind f a1 mem = some (o, mem')) : RT yT_nameOfKind prog_4_method_9_code 2 (Option.some (Jvm.ClassFile.FieldType.object "java/lang/String")) (rmM 0 0) [aR 5 0, aI a1] mem (some (aR 25 o)) mem' := by
  refine RT.of (by decide +kernel) (Nat.le_of_ble_eq_true rfl) (fun p l e s m args below meth c k X hr => ?_)
  replace X : CX p s m args meth c k prog_4_method_9_code 2 "WallShifts$Tape" := X
  unfold dT_nameOfKind at h
  refine v_sub (lv' := [(0, _), (1, _)]) [0, 1] rfl ?_
  refine v_iload_n X (pc := 0) 1 rfl eT_nameOfKind_0 rfl ?_
  by_cases g1 : a1 = (1 : Int32)
  · have h := it_t h g1
    refine v_tsw X (pc := 1) (tgt := 36) (1 : Int32) g1 eT_nameOfKind_1 (by decide) (by decide) rfl (by decide) ?_
    refine v_ldcS X (pc := 36) 0 (by decide) rfl eT_nameOfKind_36 ?_
    exact v_aret X (pc := 38) h hr eT_nameOfKind_38
  have h := it_f h g1
  by_cases g2 : a1 = (2 : Int32)
  · have h := it_t h g2
    refine v_tsw X (pc := 1) (tgt := 39) (2 : Int32) g2 eT_nameOfKind_1 (by decide) (by decide) rfl (by decide) ?_
    refine v_ldcS X (pc := 39) 1 (by decide) rfl eT_nameOfKind_39 ?_
    exact v_aret X (pc := 41) h hr eT_nameOfKind_41
  have h := it_f h g2
  by_cases g3 : a1 = (3 : Int32)
  · have h := it_t h g3
    refine v_tsw X (pc := 1) (tgt := 42) (3 : Int32) g3 eT_nameOfKind_1 (by decide) (by decide) rfl (by decide) ?_
    refine v_ldcS X (pc := 42) 2 (by decide) rfl eT_nameOfKind_42 ?_
    exact v_aret X (pc := 44) h hr eT_nameOfKind_44
  have h := it_f h g3
  by_cases g4 : a1 = (4 : Int32)
  · have h := it_t h g4
    refine v_tsw X (pc := 1) (tgt := 45) (4 : Int32) g4 eT_nameOfKind_1 (by decide) (by decide) rfl (by decide) ?_
    refine v_ldcS X (pc := 45) 3 (by decide) rfl eT_nameOfKind_45 ?_
    exact v_aret X (pc := 47) h hr eT_nameOfKind_47
  have h := it_f h g4
  by_cases g5 : a1 = (5 : Int32)
  · have h := it_t h g5
    refine v_tsw X (pc := 1) (tgt := 48) (5 : Int32) g5 eT_nameOfKind_1 (by decide) (by decide) rfl (by decide) ?_
    refine v_ldcS X (pc := 48) 4 (by decide) rfl eT_nameOfKind_48 ?_
    exact v_aret X (pc := 50) h hr eT_nameOfKind_50
  have h := it_f h g5
  refine v_tswD X (pc := 1) (tgt := 51) (tsw_out_1_5 g1 g2 g3 g4 g5) eT_nameOfKind_1 (by decide) ?_
  refine v_ldcS X (pc := 51) 5 (by decide) rfl eT_nameOfKind_51 ?_
  exact v_aret X (pc := 53) h hr eT_nameOfKind_53
set_option maxHeartbeats 4000000 in
set_option maxRecDepth 100000 in
theorem cJStr_coder {f : Nat} {q0 : Nat} {mem : Mem} {o : Int32} {mem' : Mem} (hq0 : q0 < 12) (h : dJStr_coder f q0 mem = some (o, mem')) : RT yJStr_coder prog_9_method_152_code 1 (Option.some Jvm.ClassFile.FieldType.byte) (rmM 0 0) [aR 25 q0] mem (some (aI o)) mem' := by
  refine RT.of (by decide +kernel) (Nat.le_of_ble_eq_true rfl) (fun p l e s m args below meth c k X hr => ?_)
  replace X : CX p s m args meth c k prog_9_method_152_code 1 "java/lang/String" := X
  unfold dJStr_coder at h
  refine v_sub (lv' := [(0, _)]) [0] rfl ?_
  refine v_getsC X (pc := 0) qw_493 eJStr_coder_0 ?_
  refine v_if_eq X (pc := 3) (tgt := 13) h eJStr_coder_3 (by decide) (fun h => ?_) (fun h => ?_)
  · refine v_iconst X (pc := 13) (v := (1 : Int32)) eJStr_coder_13 (by decide) ?_
    exact v_zret X (pc := 14) h hr rfl eJStr_coder_14
  · refine v_aload_n X (pc := 6) 0 rfl eJStr_coder_6 rfl ?_
    refine v_getSc X (pc := 7) hq0 qw_1046 eJStr_coder_7 ?_
    refine v_goto X (pc := 10) (tgt := 14) eJStr_coder_10 (by decide) ?_
    exact v_zret X (pc := 14) h hr rfl eJStr_coder_14
set_option maxHeartbeats 4000000 in
set_option maxRecDepth 100000 in
theorem cJStr_length {f : Nat} {q0 : Nat} {mem : Mem} {o : Int32} {mem' : Mem} (hq0 : q0 < 12) (h : dJStr_length f q0 mem = some (o, mem')) : RT yJStr_length prog_9_method_54_code 1 (Option.some Jvm.ClassFile.FieldType.int) (rmM 1 20) [aR 25 q0] mem (some (aI o)) mem' := by
  refine RT.of (by decide +kernel) (Nat.le_of_ble_eq_true rfl) (fun p l e s m args below meth c k X hr => ?_)
  replace X : CX p s m args meth c k prog_9_method_54_code 1 "java/lang/String" := X
  unfold dJStr_length at h
  refine v_sub (lv' := [(0, _)]) [0] rfl ?_
  refine v_aload_n X (pc := 0) 0 rfl eJStr_length_0 rfl ?_
  refine v_getSv X (pc := 1) hq0 qw_1045 eJStr_length_1 ?_
  refine v_slenB X (pc := 4) hq0 eJStr_length_4 ?_
  refine v_aload_n X (pc := 5) 0 rfl eJStr_length_5 rfl ?_
  obtain ⟨r1, m1, hc1, h⟩ := bd_some h
  refine v_callT X (pc := 6) [] [_] ok_V_Str_335 (cJStr_coder hq0 hc1) rfl (Nat.le_of_ble_eq_true rfl) ⟨Nat.le_of_ble_eq_true rfl, Nat.le_of_ble_eq_true rfl⟩ ⟨Nat.zero_le _, Nat.zero_le _⟩ hq0 rfl eJStr_length_6 ?_
  refine v_ishr X (pc := 9) eJStr_length_9 ?_
  exact v_iret X (pc := 10) h hr eJStr_length_10
set_option maxHeartbeats 4000000 in
set_option maxRecDepth 100000 in
theorem cJStr_isLatin1 {f : Nat} {q0 : Nat} {mem : Mem} {o : Int32} {mem' : Mem} (hq0 : q0 < 12) (h : dJStr_isLatin1 f q0 mem = some (o, mem')) : RT yJStr_isLatin1 prog_9_method_154_code 1 (Option.some Jvm.ClassFile.FieldType.boolean) (rmM 0 0) [aR 25 q0] mem (some (aI o)) mem' := by
  refine RT.of (by decide +kernel) (Nat.le_of_ble_eq_true rfl) (fun p l e s m args below meth c k X hr => ?_)
  replace X : CX p s m args meth c k prog_9_method_154_code 1 "java/lang/String" := X
  unfold dJStr_isLatin1 at h
  refine v_sub (lv' := [(0, _)]) [0] rfl ?_
  refine v_getsC X (pc := 0) qw_493 eJStr_isLatin1_0 ?_
  refine v_if_eq X (pc := 3) (tgt := 17) h eJStr_isLatin1_3 (by decide) (fun h => ?_) (fun h => ?_)
  · refine v_iconst X (pc := 17) (v := (0 : Int32)) eJStr_isLatin1_17 (by decide) ?_
    exact v_zret X (pc := 18) h hr rfl eJStr_isLatin1_18
  · refine v_aload_n X (pc := 6) 0 rfl eJStr_isLatin1_6 rfl ?_
    refine v_getSc X (pc := 7) hq0 qw_1046 eJStr_isLatin1_7 ?_
    refine v_if_ne X (pc := 10) (tgt := 17) h eJStr_isLatin1_10 (by decide) (fun h => ?_) (fun h => ?_)
    · refine v_iconst X (pc := 13) (v := (1 : Int32)) eJStr_isLatin1_13 (by decide) ?_
      refine v_goto X (pc := 14) (tgt := 18) eJStr_isLatin1_14 (by decide) ?_
      exact v_zret X (pc := 18) h hr rfl eJStr_isLatin1_18
    · refine v_iconst X (pc := 17) (v := (0 : Int32)) eJStr_isLatin1_17 (by decide) ?_
      exact v_zret X (pc := 18) h hr rfl eJStr_isLatin1_18
set_option maxHeartbeats 4000000 in
set_option maxRecDepth 100000 in
theorem cJPre_checkIndex {f : Nat} {a0 : Int32} {a1 : Int32} {mem : Mem} {o : Int32} {mem' : Mem}  (h : dJPre_checkIndex f a0 a1 mem = some (o, mem')) : RT yJPre_checkIndex prog_14_method_11_code 3 (Option.some Jvm.ClassFile.FieldType.int) (rmM 0 0) [aI a0, aI a1, aQ] mem (some (aI o)) mem' := by
  refine RT.of (by decide +kernel) (Nat.le_of_ble_eq_true rfl) (fun p l e s m args below meth c k X hr => ?_)
  replace X : CX p s m args meth c k prog_14_method_11_code 3 "jdk/internal/util/Preconditions" := X
  unfold dJPre_checkIndex at h
  refine v_sub (lv' := [(0, _), (1, _), (2, _)]) [0, 1, 2] rfl ?_
  refine v_iload_n X (pc := 0) 0 rfl eJPre_checkIndex_0 rfl ?_
  refine v_if_lt X (pc := 1) (tgt := 9) h eJPre_checkIndex_1 (by decide) (fun h => ?_) (fun h => ?_)
  · exact nomatch h
  · refine v_iload_n X (pc := 4) 0 rfl eJPre_checkIndex_4 rfl ?_
    refine v_iload_n X (pc := 5) 1 rfl eJPre_checkIndex_5 rfl ?_
    refine v_icmp_lt X (pc := 6) (tgt := 16) h eJPre_checkIndex_6 (by decide) (fun h => ?_) (fun h => ?_)
    · refine v_iload_n X (pc := 16) 0 rfl eJPre_checkIndex_16 rfl ?_
      exact v_iret X (pc := 17) h hr eJPre_checkIndex_17
    · exact nomatch h
set_option maxHeartbeats 4000000 in
set_option maxRecDepth 100000 in
theorem cJStr_checkIndex {f : Nat} {a0 : Int32} {a1 : Int32} {mem : Mem} {o : Unit} {mem' : Mem}  (h : dJStr_checkIndex f a0 a1 mem = some (o, mem')) : RT yJStr_checkIndex prog_9_method_155_code 2 (Option.none : Option Jvm.ClassFile.FieldType) (rmM 1 22) [aI a0, aI a1] mem none mem' := by
  refine RT.of (by decide +kernel) (Nat.le_of_ble_eq_true rfl) (fun p l e s m args below meth c k X hr => ?_)
  replace X : CX p s m args meth c k prog_9_method_155_code 2 "java/lang/String" := X
  unfold dJStr_checkIndex at h
  refine v_sub (lv' := [(0, _), (1, _)]) [0, 1] rfl ?_
  refine v_iload_n X (pc := 0) 0 rfl eJStr_checkIndex_0 rfl ?_
  refine v_iload_n X (pc := 1) 1 rfl eJStr_checkIndex_1 rfl ?_
  refine v_getsQ X (pc := 2) qw_509 eJStr_checkIndex_2 ?_
  obtain ⟨r1, m1, hc1, h⟩ := bd_some h
  refine v_callS X (pc := 5) [_, _, _] [] ok_S_Str_1059 (cJPre_checkIndex  hc1) rfl (Nat.le_of_ble_eq_true rfl) ⟨Nat.le_of_ble_eq_true rfl, Nat.le_of_ble_eq_true rfl⟩ ⟨Nat.zero_le _, Nat.zero_le _⟩ eJStr_checkIndex_5 ?_
  refine v_pop X (pc := 8) rfl eJStr_checkIndex_8 ?_
  exact v_vret X (pc := 9) h hr eJStr_checkIndex_9
set_option maxHeartbeats 4000000 in
set_option maxRecDepth 100000 in
theorem cJLat_charAt {f : Nat} {q0 : Nat} {a1 : Int32} {mem : Mem} {o : Int32} {mem' : Mem} (hq0 : q0 < 12) (h : dJLat_charAt f q0 a1 mem = some (o, mem')) : RT yJLat_charAt prog_10_method_2_code 2 (Option.some Jvm.ClassFile.FieldType.char) (rmM 2 43) [aR 26 q0, aI a1] mem (some (aI o)) mem' := by
  refine RT.of (by decide +kernel) (Nat.le_of_ble_eq_true rfl) (fun p l e s m args below meth c k X hr => ?_)
  replace X : CX p s m args meth c k prog_10_method_2_code 2 "java/lang/StringLatin1" := X
  unfold dJLat_charAt at h
  refine v_sub (lv' := [(0, _), (1, _)]) [0, 1] rfl ?_
  refine v_iload_n X (pc := 0) 1 rfl eJLat_charAt_0 rfl ?_
  refine v_aload_n X (pc := 1) 0 rfl eJLat_charAt_1 rfl ?_
  refine v_slenB X (pc := 2) hq0 eJLat_charAt_2 ?_
  obtain ⟨r1, m1, hc1, h⟩ := bd_some h
  refine v_callS X (pc := 3) [_, _] [] ok_S_Lat_9 (cJStr_checkIndex  hc1) rfl (Nat.le_of_ble_eq_true rfl) ⟨Nat.le_of_ble_eq_true rfl, Nat.le_of_ble_eq_true rfl⟩ ⟨Nat.zero_le _, Nat.zero_le _⟩ eJLat_charAt_3 ?_
  refine v_aload_n X (pc := 6) 0 rfl eJLat_charAt_6 rfl ?_
  refine v_iload_n X (pc := 7) 1 rfl eJLat_charAt_7 rfl ?_
  refine v_bald X (pc := 8) h hq0 eJLat_charAt_8 (fun h => ?_)
  refine v_sipush X (pc := 9) (v := (255 : Int32)) eJLat_charAt_9 (by decide) ?_
  refine v_iand X (pc := 12) eJLat_charAt_12 ?_
  refine v_i2c X (pc := 13) eJLat_charAt_13 ?_
  obtain ⟨hz, h⟩ := nz_some h
  exact v_zret X (pc := 14) h hr (nz_char hz) eJLat_charAt_14
set_option maxHeartbeats 4000000 in
set_option maxRecDepth 100000 in
theorem cJStr_charAt {f : Nat} {q0 : Nat} {a1 : Int32} {mem : Mem} {o : Int32} {mem' : Mem} (hq0 : q0 < 12) (h : dJStr_charAt f q0 a1 mem = some (o, mem')) : RT yJStr_charAt prog_9_method_56_code 2 (Option.some Jvm.ClassFile.FieldType.char) (rmM 3 64) [aR 25 q0, aI a1] mem (some (aI o)) mem' := by
  refine RT.of (by decide +kernel) (Nat.le_of_ble_eq_true rfl) (fun p l e s m args below meth c k X hr => ?_)
  replace X : CX p s m args meth c k prog_9_method_56_code 2 "java/lang/String" := X
  unfold dJStr_charAt at h
  refine v_sub (lv' := [(0, _), (1, _)]) [0, 1] rfl ?_
  refine v_aload_n X (pc := 0) 0 rfl eJStr_charAt_0 rfl ?_
  obtain ⟨r1, m1, hc1, h⟩ := bd_some h
  refine v_callT X (pc := 1) [] [] ok_V_Str_492 (cJStr_isLatin1 hq0 hc1) rfl (Nat.le_of_ble_eq_true rfl) ⟨Nat.le_of_ble_eq_true rfl, Nat.le_of_ble_eq_true rfl⟩ ⟨Nat.zero_le _, Nat.zero_le _⟩ hq0 rfl eJStr_charAt_1 ?_
  refine v_if_eq X (pc := 4) (tgt := 16) h eJStr_charAt_4 (by decide) (fun h => ?_) (fun h => ?_)
  · exact nomatch h
  · refine v_aload_n X (pc := 7) 0 rfl eJStr_charAt_7 rfl ?_
    refine v_getSv X (pc := 8) hq0 qw_1045 eJStr_charAt_8 ?_
    refine v_iload_n X (pc := 11) 1 rfl eJStr_charAt_11 rfl ?_
    obtain ⟨r2, m2, hc2, h⟩ := bd_some h
    refine v_callS X (pc := 12) [_, _] [] ok_S_Str_495 (cJLat_charAt hq0 hc2) rfl (Nat.le_of_ble_eq_true rfl) ⟨Nat.le_of_ble_eq_true rfl, Nat.le_of_ble_eq_true rfl⟩ ⟨Nat.zero_le _, Nat.zero_le _⟩ eJStr_charAt_12 ?_
    obtain ⟨hz, h⟩ := nz_some h
    exact v_zret X (pc := 15) h hr (nz_char hz) eJStr_charAt_15
set_option maxHeartbeats 4000000 in
set_option maxRecDepth 100000 in
theorem cT_isNamed_28 {p : Program} {l : Launch} {e : Env} {s : State} {m : MethodId} {args : Array Value} {below : List Frame} {meth : Method} {c : Code} {k : KK} {f : Nat} {o : Int32} {mem' : Mem} (X : CX p s m args meth c k prog_4_method_10_code 3 "WallShifts$Tape") (hr : meth.sig.returnType = (Option.some Jvm.ClassFile.FieldType.boolean)) : ∀ (n : Nat) (q1 : Nat) (x2 : Int32) (mem : Mem), q1 < 12 → dT_isNamed_28 f n q1 x2 mem = some (o, mem') → V p l e (rmM 4 85) s m args below meth c 0 0 (MQ below (RQc k (some (aI o)) mem') args s 0 0 (kA k)) k 3 mem 28 [(0, aR 5 0), (1, aR 25 q1), (2, aI x2)] [] := by
  intro n
  induction n with
  | zero =>
    intro q1 x2 mem hq1 h
    exact nomatch (show (none : Option (Int32 × Mem)) = some _ from h)
  | succ n ih =>
    intro q1 x2 mem hq1 h
    rw [dT_isNamed_28] at h
    refine v_iload_n X (pc := 28) 2 rfl eT_isNamed_28 rfl ?_
    refine v_aload_n X (pc := 29) 1 rfl eT_isNamed_29 rfl ?_
    obtain ⟨r1, m1, hc1, h⟩ := bd_some h
    refine v_callT X (pc := 30) [] [_] ok_V_T_104 (cJStr_length hq1 hc1) rfl (Nat.le_of_ble_eq_true rfl) ⟨Nat.le_of_ble_eq_true rfl, Nat.le_of_ble_eq_true rfl⟩ ⟨Nat.zero_le _, Nat.zero_le _⟩ hq1 rfl eT_isNamed_30 ?_
    refine v_icmp_ge X (pc := 33) (tgt := 62) h eT_isNamed_33 (by decide) (fun h => ?_) (fun h => ?_)
    · refine v_aload_n X (pc := 36) 0 rfl eT_isNamed_36 rfl ?_
      refine v_aload_n X (pc := 37) 0 rfl eT_isNamed_37 rfl ?_
      refine v_get X (pc := 38) 2 (a := aI (gI m1 5 0 2)) (by decide) (by decide) rfl rfl rfl in_Tape (by decide) qw_102 rfl eT_isNamed_38 ?_
      refine v_iload_n X (pc := 41) 2 rfl eT_isNamed_41 rfl ?_
      refine v_iadd X (pc := 42) eT_isNamed_42 ?_
      obtain ⟨r2, m2, hc2, h⟩ := bd_some h
      refine v_callV X (pc := 43) [_] [] ok_V_T_109 (cT_byteAt  hc2) rfl (Nat.le_of_ble_eq_true rfl) ⟨Nat.le_of_ble_eq_true rfl, Nat.le_of_ble_eq_true rfl⟩ ⟨Nat.zero_le _, Nat.zero_le _⟩ (by decide) (by decide) rfl rfl eT_isNamed_43 ?_
      refine v_aload_n X (pc := 46) 1 rfl eT_isNamed_46 rfl ?_
      refine v_iload_n X (pc := 47) 2 rfl eT_isNamed_47 rfl ?_
      obtain ⟨r3, m3, hc3, h⟩ := bd_some h
      refine v_callT X (pc := 48) [_] [_] ok_V_T_113 (cJStr_charAt hq1 hc3) rfl (Nat.le_of_ble_eq_true rfl) ⟨Nat.le_of_ble_eq_true rfl, Nat.le_of_ble_eq_true rfl⟩ ⟨Nat.zero_le _, Nat.zero_le _⟩ hq1 rfl eT_isNamed_48 ?_
      refine v_icmp_eq X (pc := 51) (tgt := 56) h eT_isNamed_51 (by decide) (fun h => ?_) (fun h => ?_)
      · refine v_iinc X (pc := 56) (v := (x2 + (1 : Int32))) (lv' := [(2, _), (0, _), (1, _)]) 2 rfl (by rfl) eT_isNamed_56 (Nat.le_of_ble_eq_true rfl) rfl ?_
        refine v_goto X (pc := 59) (tgt := 28) eT_isNamed_59 (by decide) ?_
        exact v_sub [1, 2, 0] rfl (ih _ _ _ hq1 h)
      · refine v_iconst X (pc := 54) (v := (0 : Int32)) eT_isNamed_54 (by decide) ?_
        exact v_zret X (pc := 55) h hr rfl eT_isNamed_55
    · refine v_iconst X (pc := 62) (v := (1 : Int32)) eT_isNamed_62 (by decide) ?_
      exact v_zret X (pc := 63) h hr rfl eT_isNamed_63
set_option maxHeartbeats 4000000 in
set_option maxRecDepth 100000 in
theorem cT_isNamed {f : Nat} {q1 : Nat} {mem : Mem} {o : Int32} {mem' : Mem} (hq1 : q1 < 12) (h : dT_isNamed f q1 mem = some (o, mem')) : RT yT_isNamed prog_4_method_10_code 3 (Option.some Jvm.ClassFile.FieldType.boolean) (rmM 4 85) [aR 5 0, aR 25 q1] mem (some (aI o)) mem' := by
  refine RT.of (by decide +kernel) (Nat.le_of_ble_eq_true rfl) (fun p l e s m args below meth c k X hr => ?_)
  replace X : CX p s m args meth c k prog_4_method_10_code 3 "WallShifts$Tape" := X
  unfold dT_isNamed at h
  refine v_sub (lv' := [(0, _), (1, _)]) [0, 1] rfl ?_
  refine v_aload_n X (pc := 0) 0 rfl eT_isNamed_0 rfl ?_
  refine v_get X (pc := 1) 4 (a := aI (gI mem 5 0 4)) (by decide) (by decide) rfl rfl rfl in_Tape (by decide) qw_104 rfl eT_isNamed_1 ?_
  refine v_iconst X (pc := 4) (v := (2 : Int32)) eT_isNamed_4 (by decide) ?_
  refine v_icmp_ne X (pc := 5) (tgt := 24) h eT_isNamed_5 (by decide) (fun h => ?_) (fun h => ?_)
  · refine v_aload_n X (pc := 8) 0 rfl eT_isNamed_8 rfl ?_
    refine v_get X (pc := 9) 3 (a := aI (gI mem 5 0 3)) (by decide) (by decide) rfl rfl rfl in_Tape (by decide) qw_103 rfl eT_isNamed_9 ?_
    refine v_aload_n X (pc := 12) 0 rfl eT_isNamed_12 rfl ?_
    refine v_get X (pc := 13) 2 (a := aI (gI mem 5 0 2)) (by decide) (by decide) rfl rfl rfl in_Tape (by decide) qw_102 rfl eT_isNamed_13 ?_
    refine v_isub X (pc := 16) eT_isNamed_16 ?_
    refine v_aload_n X (pc := 17) 1 rfl eT_isNamed_17 rfl ?_
    obtain ⟨r1, m1, hc1, h⟩ := bd_some h
    refine v_callT X (pc := 18) [] [_] ok_V_T_104 (cJStr_length hq1 hc1) rfl (Nat.le_of_ble_eq_true rfl) ⟨Nat.le_of_ble_eq_true rfl, Nat.le_of_ble_eq_true rfl⟩ ⟨Nat.zero_le _, Nat.zero_le _⟩ hq1 rfl eT_isNamed_18 ?_
    refine v_icmp_eq X (pc := 21) (tgt := 26) h eT_isNamed_21 (by decide) (fun h => ?_) (fun h => ?_)
    · refine v_iconst X (pc := 26) (v := (0 : Int32)) eT_isNamed_26 (by decide) ?_
      refine v_istore_n X (pc := 27) (lv' := [(2, _), (0, _), (1, _)]) eT_isNamed_27 rfl (Nat.le_of_ble_eq_true rfl) rfl ?_
      exact v_sub [1, 2, 0] rfl (cT_isNamed_28 X hr _ _ _ _ hq1 h)
    · refine v_iconst X (pc := 24) (v := (0 : Int32)) eT_isNamed_24 (by decide) ?_
      exact v_zret X (pc := 25) h hr rfl eT_isNamed_25
  · refine v_iconst X (pc := 24) (v := (0 : Int32)) eT_isNamed_24 (by decide) ?_
    exact v_zret X (pc := 25) h hr rfl eT_isNamed_25
set_option maxHeartbeats 4000000 in
set_option maxRecDepth 100000 in
theorem cT_kindNamed_2 {p : Program} {l : Launch} {e : Env} {s : State} {m : MethodId} {args : Array Value} {below : List Frame} {meth : Method} {c : Code} {k : KK} {f : Nat} {o : Int32} {mem' : Mem} (X : CX p s m args meth c k prog_4_method_7_code 2 "WallShifts$Tape") (hr : meth.sig.returnType = (Option.some Jvm.ClassFile.FieldType.int)) : ∀ (n : Nat) (x1 : Int32) (mem : Mem), dT_kindNamed_2 f n x1 mem = some (o, mem') → V p l e (rmM 5 107) s m args below meth c 0 0 (MQ below (RQc k (some (aI o)) mem') args s 0 0 (kA k)) k 2 mem 2 [(0, aR 5 0), (1, aI x1)] [] := by
  intro n
  induction n with
  | zero =>
    intro x1 mem  h
    exact nomatch (show (none : Option (Int32 × Mem)) = some _ from h)
  | succ n ih =>
    intro x1 mem  h
    rw [dT_kindNamed_2] at h
    refine v_iload_n X (pc := 2) 1 rfl eT_kindNamed_2 rfl ?_
    refine v_bipush X (pc := 3) (v := (6 : Int32)) eT_kindNamed_3 (by decide) ?_
    refine v_icmp_ge X (pc := 5) (tgt := 28) h eT_kindNamed_5 (by decide) (fun h => ?_) (fun h => ?_)
    · refine v_aload_n X (pc := 8) 0 rfl eT_kindNamed_8 rfl ?_
      refine v_aload_n X (pc := 9) 0 rfl eT_kindNamed_9 rfl ?_
      refine v_iload_n X (pc := 10) 1 rfl eT_kindNamed_10 rfl ?_
      obtain ⟨r1, m1, hc1, h⟩ := bd_some h
      refine v_callV X (pc := 11) [_] [_] ok_V_T_82 (cT_nameOfKind  hc1) rfl (Nat.le_of_ble_eq_true rfl) ⟨Nat.le_of_ble_eq_true rfl, Nat.le_of_ble_eq_true rfl⟩ ⟨Nat.zero_le _, Nat.zero_le _⟩ (by decide) (by decide) rfl rfl eT_kindNamed_11 ?_
      have hlit1 : r1 < 12 := Nat.lt_of_not_le (fun hh => by rw [if_pos hh] at h; cases h)
      rw [if_neg (Nat.not_le.mpr hlit1)] at h
      obtain ⟨r2, m2, hc2, h⟩ := bd_some h
      refine v_callV X (pc := 14) [_] [] ok_V_T_70 (cT_isNamed hlit1 hc2) rfl (Nat.le_of_ble_eq_true rfl) ⟨Nat.le_of_ble_eq_true rfl, Nat.le_of_ble_eq_true rfl⟩ ⟨Nat.zero_le _, Nat.zero_le _⟩ (by decide) (by decide) rfl rfl eT_kindNamed_14 ?_
      refine v_if_eq X (pc := 17) (tgt := 22) h eT_kindNamed_17 (by decide) (fun h => ?_) (fun h => ?_)
      · refine v_iinc X (pc := 22) (v := (x1 + (1 : Int32))) (lv' := [(1, _), (0, _)]) 1 rfl (by rfl) eT_kindNamed_22 (Nat.le_of_ble_eq_true rfl) rfl ?_
        refine v_goto X (pc := 25) (tgt := 2) eT_kindNamed_25 (by decide) ?_
        exact v_sub [1, 0] rfl (ih _ _  h)
      · refine v_iload_n X (pc := 20) 1 rfl eT_kindNamed_20 rfl ?_
        exact v_iret X (pc := 21) h hr eT_kindNamed_21
    · refine v_iconst X (pc := 28) (v := (-1 : Int32)) eT_kindNamed_28 (by decide) ?_
      exact v_iret X (pc := 29) h hr eT_kindNamed_29
set_option maxHeartbeats 4000000 in
set_option maxRecDepth 100000 in
theorem cT_kindNamed {f : Nat}  {mem : Mem} {o : Int32} {mem' : Mem}  (h : dT_kindNamed f  mem = some (o, mem')) : RT yT_kindNamed prog_4_method_7_code 2 (Option.some Jvm.ClassFile.FieldType.int) (rmM 5 107) [aR 5 0] mem (some (aI o)) mem' := by
  refine RT.of (by decide +kernel) (Nat.le_of_ble_eq_true rfl) (fun p l e s m args below meth c k X hr => ?_)
  replace X : CX p s m args meth c k prog_4_method_7_code 2 "WallShifts$Tape" := X
  unfold dT_kindNamed at h
  refine v_sub (lv' := [(0, _)]) [0] rfl ?_
  refine v_iconst X (pc := 0) (v := (0 : Int32)) eT_kindNamed_0 (by decide) ?_
  refine v_istore_n X (pc := 1) (lv' := [(1, _), (0, _)]) eT_kindNamed_1 rfl (Nat.le_of_ble_eq_true rfl) rfl ?_
  exact v_sub [1, 0] rfl (cT_kindNamed_2 X hr _ _ _  h)
set_option maxHeartbeats 4000000 in
set_option maxRecDepth 100000 in
theorem cT_rotaNamed {f : Nat}  {mem : Mem} {o : Int32} {mem' : Mem}  (h : dT_rotaNamed f  mem = some (o, mem')) : RT yT_rotaNamed prog_4_method_8_code 1 (Option.some Jvm.ClassFile.FieldType.int) (rmM 5 107) [aR 5 0] mem (some (aI o)) mem' := by
  refine RT.of (by decide +kernel) (Nat.le_of_ble_eq_true rfl) (fun p l e s m args below meth c k X hr => ?_)
  replace X : CX p s m args meth c k prog_4_method_8_code 1 "WallShifts$Tape" := X
  unfold dT_rotaNamed at h
  refine v_sub (lv' := [(0, _)]) [0] rfl ?_
  refine v_aload_n X (pc := 0) 0 rfl eT_rotaNamed_0 rfl ?_
  refine v_ldcS X (pc := 1) 9 (by decide) rfl eT_rotaNamed_1 ?_
  obtain ⟨r1, m1, hc1, h⟩ := bd_some h
  refine v_callV X (pc := 3) [_] [] ok_V_T_70 (cT_isNamed (by decide) hc1) rfl (Nat.le_of_ble_eq_true rfl) ⟨Nat.le_of_ble_eq_true rfl, Nat.le_of_ble_eq_true rfl⟩ ⟨Nat.zero_le _, Nat.zero_le _⟩ (by decide) (by decide) rfl rfl eT_rotaNamed_3 ?_
  refine v_if_eq X (pc := 6) (tgt := 11) h eT_rotaNamed_6 (by decide) (fun h => ?_) (fun h => ?_)
  · refine v_aload_n X (pc := 11) 0 rfl eT_rotaNamed_11 rfl ?_
    refine v_ldcS X (pc := 12) 10 (by decide) rfl eT_rotaNamed_12 ?_
    obtain ⟨r2, m2, hc2, h⟩ := bd_some h
    refine v_callV X (pc := 14) [_] [] ok_V_T_70 (cT_isNamed (by decide) hc2) rfl (Nat.le_of_ble_eq_true rfl) ⟨Nat.le_of_ble_eq_true rfl, Nat.le_of_ble_eq_true rfl⟩ ⟨Nat.zero_le _, Nat.zero_le _⟩ (by decide) (by decide) rfl rfl eT_rotaNamed_14 ?_
    refine v_if_eq X (pc := 17) (tgt := 22) h eT_rotaNamed_17 (by decide) (fun h => ?_) (fun h => ?_)
    · refine v_aload_n X (pc := 22) 0 rfl eT_rotaNamed_22 rfl ?_
      refine v_ldcS X (pc := 23) 11 (by decide) rfl eT_rotaNamed_23 ?_
      obtain ⟨r3, m3, hc3, h⟩ := bd_some h
      refine v_callV X (pc := 25) [_] [] ok_V_T_70 (cT_isNamed (by decide) hc3) rfl (Nat.le_of_ble_eq_true rfl) ⟨Nat.le_of_ble_eq_true rfl, Nat.le_of_ble_eq_true rfl⟩ ⟨Nat.zero_le _, Nat.zero_le _⟩ (by decide) (by decide) rfl rfl eT_rotaNamed_25 ?_
      refine v_if_eq X (pc := 28) (tgt := 35) h eT_rotaNamed_28 (by decide) (fun h => ?_) (fun h => ?_)
      · refine v_iconst X (pc := 35) (v := (-1 : Int32)) eT_rotaNamed_35 (by decide) ?_
        exact v_iret X (pc := 36) h hr eT_rotaNamed_36
      · refine v_iconst X (pc := 31) (v := (2 : Int32)) eT_rotaNamed_31 (by decide) ?_
        refine v_goto X (pc := 32) (tgt := 36) eT_rotaNamed_32 (by decide) ?_
        exact v_iret X (pc := 36) h hr eT_rotaNamed_36
    · refine v_iconst X (pc := 20) (v := (1 : Int32)) eT_rotaNamed_20 (by decide) ?_
      exact v_iret X (pc := 21) h hr eT_rotaNamed_21
  · refine v_iconst X (pc := 9) (v := (0 : Int32)) eT_rotaNamed_9 (by decide) ?_
    exact v_iret X (pc := 10) h hr eT_rotaNamed_10
set_option maxHeartbeats 4000000 in
set_option maxRecDepth 100000 in
theorem cT_isNumber {f : Nat} {a1 : Int32} {a2 : Int32} {mem : Mem} {o : Int32} {mem' : Mem}  (h : dT_isNumber f a1 a2 mem = some (o, mem')) : RT yT_isNumber prog_4_method_11_code 3 (Option.some Jvm.ClassFile.FieldType.boolean) (rmM 1 22) [aR 5 0, aI a1, aI a2] mem (some (aI o)) mem' := by
  refine RT.of (by decide +kernel) (Nat.le_of_ble_eq_true rfl) (fun p l e s m args below meth c k X hr => ?_)
  replace X : CX p s m args meth c k prog_4_method_11_code 3 "WallShifts$Tape" := X
  unfold dT_isNumber at h
  refine v_sub (lv' := [(0, _), (1, _), (2, _)]) [0, 1, 2] rfl ?_
  refine v_aload_n X (pc := 0) 0 rfl eT_isNumber_0 rfl ?_
  refine v_get X (pc := 1) 4 (a := aI (gI mem 5 0 4)) (by decide) (by decide) rfl rfl rfl in_Tape (by decide) qw_104 rfl eT_isNumber_1 ?_
  refine v_iconst X (pc := 4) (v := (3 : Int32)) eT_isNumber_4 (by decide) ?_
  refine v_icmp_ne X (pc := 5) (tgt := 24) h eT_isNumber_5 (by decide) (fun h => ?_) (fun h => ?_)
  · refine v_aload_n X (pc := 8) 0 rfl eT_isNumber_8 rfl ?_
    refine v_get X (pc := 9) 5 (a := aI (gI mem 5 0 5)) (by decide) (by decide) rfl rfl rfl in_Tape (by decide) qw_105 rfl eT_isNumber_9 ?_
    refine v_iload_n X (pc := 12) 1 rfl eT_isNumber_12 rfl ?_
    refine v_iload_n X (pc := 13) 2 rfl eT_isNumber_13 rfl ?_
    obtain ⟨r1, m1, hc1, h⟩ := bd_some h
    refine v_callN X (pc := 14) [_, _, _] [] ok_N_T_117 (cW_isIn  hc1) rfl (Nat.le_of_ble_eq_true rfl) ⟨Nat.le_of_ble_eq_true rfl, Nat.le_of_ble_eq_true rfl⟩ ⟨Nat.zero_le _, Nat.zero_le _⟩ eT_isNumber_14 ?_
    refine v_if_eq X (pc := 17) (tgt := 24) h eT_isNumber_17 (by decide) (fun h => ?_) (fun h => ?_)
    · refine v_iconst X (pc := 24) (v := (0 : Int32)) eT_isNumber_24 (by decide) ?_
      exact v_zret X (pc := 25) h hr rfl eT_isNumber_25
    · refine v_iconst X (pc := 20) (v := (1 : Int32)) eT_isNumber_20 (by decide) ?_
      refine v_goto X (pc := 21) (tgt := 25) eT_isNumber_21 (by decide) ?_
      exact v_zret X (pc := 25) h hr rfl eT_isNumber_25
  · refine v_iconst X (pc := 24) (v := (0 : Int32)) eT_isNumber_24 (by decide) ?_
    exact v_zret X (pc := 25) h hr rfl eT_isNumber_25
set_option maxHeartbeats 4000000 in
set_option maxRecDepth 100000 in
theorem cT_takesWall_124 {p : Program} {l : Launch} {e : Env} {s : State} {m : MethodId} {args : Array Value} {below : List Frame} {meth : Method} {c : Code} {k : KK} {f : Nat} {o : Int32} {mem' : Mem} (X : CX p s m args meth c k prog_4_method_6_code 6 "WallShifts$Tape") (hr : meth.sig.returnType = (Option.some Jvm.ClassFile.FieldType.boolean)) : ∀ (q1 : Nat) (x2 : Int32) (x3 : Int32) (x4 : Int32) (x5 : Int32) (mem : Mem), q1 < 3 → dT_takesWall_124 f q1 x2 x3 x4 x5 mem = some (o, mem') → V p l e (rmM 5 107) s m args below meth c 0 0 (MQ below (RQc k (some (aI o)) mem') args s 0 0 (kA k)) k 6 mem 124 [(1, aR 1 q1), (2, aI x2), (3, aI x3), (4, aI x4), (5, aI x5)] [] := by
  intro q1 x2 x3 x4 x5 mem hq1 h
  unfold dT_takesWall_124 at h
  refine v_aload_n X (pc := 124) 0 rfl eT_takesWall_124 rfl ?_
  refine v_iload_n X (pc := 125) 1 rfl eT_takesWall_125 rfl ?_
  refine v_iload_n X (pc := 126) 2 rfl eT_takesWall_126 rfl ?_
  refine v_iload X (pc := 127) 3 rfl eT_takesWall_127 ?_
  refine v_iload X (pc := 129) 4 rfl eT_takesWall_129 ?_
  obtain ⟨r1, m1, hc1, h⟩ := bd_some h
  refine v_callV X (pc := 131) [_, _, _, _] [] ok_V_T_78 (cP_build hq1 hc1) rfl (Nat.le_of_ble_eq_true rfl) ⟨Nat.le_of_ble_eq_true rfl, Nat.le_of_ble_eq_true rfl⟩ ⟨Nat.zero_le _, Nat.zero_le _⟩ (by decide) hq1 rfl rfl eT_takesWall_131 ?_
  refine v_pop X (pc := 134) rfl eT_takesWall_134 ?_
  refine v_iconst X (pc := 135) (v := (1 : Int32)) eT_takesWall_135 (by decide) ?_
  exact v_zret X (pc := 136) h hr rfl eT_takesWall_136
set_option maxHeartbeats 4000000 in
set_option maxRecDepth 100000 in
theorem cT_takesWall_87 {p : Program} {l : Launch} {e : Env} {s : State} {m : MethodId} {args : Array Value} {below : List Frame} {meth : Method} {c : Code} {k : KK} {f : Nat} {o : Int32} {mem' : Mem} (X : CX p s m args meth c k prog_4_method_6_code 6 "WallShifts$Tape") (hr : meth.sig.returnType = (Option.some Jvm.ClassFile.FieldType.boolean)) : ∀ (q1 : Nat) (x2 : Int32) (x3 : Int32) (x4 : Int32) (mem : Mem), q1 < 3 → dT_takesWall_87 f q1 x2 x3 x4 mem = some (o, mem') → V p l e (rmM 5 107) s m args below meth c 0 0 (MQ below (RQc k (some (aI o)) mem') args s 0 0 (kA k)) k 6 mem 87 [(0, aR 5 0), (1, aR 1 q1), (2, aI x2), (3, aI x3), (4, aI x4)] [] := by
  intro q1 x2 x3 x4 mem hq1 h
  unfold dT_takesWall_87 at h
  refine v_iconst X (pc := 87) (v := (0 : Int32)) eT_takesWall_87 (by decide) ?_
  refine v_istore X (pc := 88) (lv' := [(5, _), (0, _), (1, _), (2, _), (3, _), (4, _)]) eT_takesWall_88 (Nat.le_of_ble_eq_true rfl) rfl ?_
  refine v_aload_n X (pc := 90) 1 rfl eT_takesWall_90 rfl ?_
  refine v_ldcS X (pc := 91) 8 (by decide) rfl eT_takesWall_91 ?_
  obtain ⟨r1, m1, hc1, h⟩ := bd_some h
  refine v_callV X (pc := 93) [_] [] ok_V_T_70 (cT_isNamed (by decide) hc1) rfl (Nat.le_of_ble_eq_true rfl) ⟨Nat.le_of_ble_eq_true rfl, Nat.le_of_ble_eq_true rfl⟩ ⟨Nat.zero_le _, Nat.zero_le _⟩ (by decide) (by decide) rfl rfl eT_takesWall_93 ?_
  refine v_if_eq X (pc := 96) (tgt := 124) h eT_takesWall_96 (by decide) (fun h => ?_) (fun h => ?_)
  · exact v_sub [2, 3, 4, 5, 0] rfl (cT_takesWall_124 X hr _ _ _ _ _ _ hq1 h)
  · refine v_aload_n X (pc := 99) 1 rfl eT_takesWall_99 rfl ?_
    obtain ⟨r2, m2, hc2, h⟩ := bd_some h
    refine v_callV X (pc := 100) [] [] ok_V_T_31 (cT_next  hc2) rfl (Nat.le_of_ble_eq_true rfl) ⟨Nat.le_of_ble_eq_true rfl, Nat.le_of_ble_eq_true rfl⟩ ⟨Nat.zero_le _, Nat.zero_le _⟩ (by decide) (by decide) rfl rfl eT_takesWall_100 ?_
    refine v_aload_n X (pc := 103) 1 rfl eT_takesWall_103 rfl ?_
    refine v_iconst X (pc := 104) (v := (0 : Int32)) eT_takesWall_104 (by decide) ?_
    refine v_iconst X (pc := 105) (v := (3 : Int32)) eT_takesWall_105 (by decide) ?_
    obtain ⟨r3, m3, hc3, h⟩ := bd_some h
    refine v_callV X (pc := 106) [_, _] [] ok_V_T_55 (cT_isNumber  hc3) rfl (Nat.le_of_ble_eq_true rfl) ⟨Nat.le_of_ble_eq_true rfl, Nat.le_of_ble_eq_true rfl⟩ ⟨Nat.zero_le _, Nat.zero_le _⟩ (by decide) (by decide) rfl rfl eT_takesWall_106 ?_
    refine v_if_ne X (pc := 109) (tgt := 114) h eT_takesWall_109 (by decide) (fun h => ?_) (fun h => ?_)
    · refine v_iconst X (pc := 112) (v := (0 : Int32)) eT_takesWall_112 (by decide) ?_
      exact v_zret X (pc := 113) h hr rfl eT_takesWall_113
    · refine v_aload_n X (pc := 114) 1 rfl eT_takesWall_114 rfl ?_
      refine v_get X (pc := 115) 5 (a := aI (gI m3 5 0 5)) (by decide) (by decide) rfl rfl rfl in_Tape (by decide) qw_105 rfl eT_takesWall_115 ?_
      refine v_istore X (pc := 118) (lv' := [(5, _), (0, _), (1, _), (2, _), (3, _), (4, _)]) eT_takesWall_118 (Nat.le_of_ble_eq_true rfl) rfl ?_
      refine v_aload_n X (pc := 120) 1 rfl eT_takesWall_120 rfl ?_
      obtain ⟨r4, m4, hc4, h⟩ := bd_some h
      refine v_callV X (pc := 121) [] [] ok_V_T_31 (cT_next  hc4) rfl (Nat.le_of_ble_eq_true rfl) ⟨Nat.le_of_ble_eq_true rfl, Nat.le_of_ble_eq_true rfl⟩ ⟨Nat.zero_le _, Nat.zero_le _⟩ (by decide) (by decide) rfl rfl eT_takesWall_121 ?_
      exact v_sub [2, 3, 4, 5, 0] rfl (cT_takesWall_124 X hr _ _ _ _ _ _ hq1 h)
set_option maxHeartbeats 4000000 in
set_option maxRecDepth 100000 in
theorem cT_takesWall {f : Nat} {q1 : Nat} {a2 : Int32} {mem : Mem} {o : Int32} {mem' : Mem} (hq1 : q1 < 3) (h : dT_takesWall f q1 a2 mem = some (o, mem')) : RT yT_takesWall prog_4_method_6_code 6 (Option.some Jvm.ClassFile.FieldType.boolean) (rmM 5 107) [aR 5 0, aR 1 q1, aI a2] mem (some (aI o)) mem' := by
  refine RT.of (by decide +kernel) (Nat.le_of_ble_eq_true rfl) (fun p l e s m args below meth c k X hr => ?_)
  replace X : CX p s m args meth c k prog_4_method_6_code 6 "WallShifts$Tape" := X
  unfold dT_takesWall at h
  refine v_sub (lv' := [(0, _), (1, _), (2, _)]) [0, 1, 2] rfl ?_
  refine v_aload_n X (pc := 0) 1 rfl eT_takesWall_0 rfl ?_
  obtain ⟨r1, m1, hc1, h⟩ := bd_some h
  refine v_callV X (pc := 1) [] [] ok_V_T_64 (cP_isBuiltUp hq1 hc1) rfl (Nat.le_of_ble_eq_true rfl) ⟨Nat.le_of_ble_eq_true rfl, Nat.le_of_ble_eq_true rfl⟩ ⟨Nat.zero_le _, Nat.zero_le _⟩ (by decide) hq1 rfl rfl eT_takesWall_1 ?_
  refine v_if_eq X (pc := 4) (tgt := 9) h eT_takesWall_4 (by decide) (fun h => ?_) (fun h => ?_)
  · refine v_aload_n X (pc := 9) 0 rfl eT_takesWall_9 rfl ?_
    obtain ⟨r2, m2, hc2, h⟩ := bd_some h
    refine v_callV X (pc := 10) [] [] ok_V_T_31 (cT_next  hc2) rfl (Nat.le_of_ble_eq_true rfl) ⟨Nat.le_of_ble_eq_true rfl, Nat.le_of_ble_eq_true rfl⟩ ⟨Nat.zero_le _, Nat.zero_le _⟩ (by decide) (by decide) rfl rfl eT_takesWall_10 ?_
    refine v_aload_n X (pc := 13) 0 rfl eT_takesWall_13 rfl ?_
    refine v_ldcS X (pc := 14) 6 (by decide) rfl eT_takesWall_14 ?_
    obtain ⟨r3, m3, hc3, h⟩ := bd_some h
    refine v_callV X (pc := 16) [_] [] ok_V_T_70 (cT_isNamed (by decide) hc3) rfl (Nat.le_of_ble_eq_true rfl) ⟨Nat.le_of_ble_eq_true rfl, Nat.le_of_ble_eq_true rfl⟩ ⟨Nat.zero_le _, Nat.zero_le _⟩ (by decide) (by decide) rfl rfl eT_takesWall_16 ?_
    refine v_if_ne X (pc := 19) (tgt := 24) h eT_takesWall_19 (by decide) (fun h => ?_) (fun h => ?_)
    · refine v_iconst X (pc := 22) (v := (0 : Int32)) eT_takesWall_22 (by decide) ?_
      exact v_zret X (pc := 23) h hr rfl eT_takesWall_23
    · refine v_aload_n X (pc := 24) 0 rfl eT_takesWall_24 rfl ?_
      obtain ⟨r4, m4, hc4, h⟩ := bd_some h
      refine v_callV X (pc := 25) [] [] ok_V_T_31 (cT_next  hc4) rfl (Nat.le_of_ble_eq_true rfl) ⟨Nat.le_of_ble_eq_true rfl, Nat.le_of_ble_eq_true rfl⟩ ⟨Nat.zero_le _, Nat.zero_le _⟩ (by decide) (by decide) rfl rfl eT_takesWall_25 ?_
      refine v_aload_n X (pc := 28) 0 rfl eT_takesWall_28 rfl ?_
      refine v_iconst X (pc := 29) (v := (0 : Int32)) eT_takesWall_29 (by decide) ?_
      refine v_bipush X (pc := 30) (v := (9 : Int32)) eT_takesWall_30 (by decide) ?_
      obtain ⟨r5, m5, hc5, h⟩ := bd_some h
      refine v_callV X (pc := 32) [_, _] [] ok_V_T_55 (cT_isNumber  hc5) rfl (Nat.le_of_ble_eq_true rfl) ⟨Nat.le_of_ble_eq_true rfl, Nat.le_of_ble_eq_true rfl⟩ ⟨Nat.zero_le _, Nat.zero_le _⟩ (by decide) (by decide) rfl rfl eT_takesWall_32 ?_
      refine v_if_ne X (pc := 35) (tgt := 40) h eT_takesWall_35 (by decide) (fun h => ?_) (fun h => ?_)
      · refine v_iconst X (pc := 38) (v := (0 : Int32)) eT_takesWall_38 (by decide) ?_
        exact v_zret X (pc := 39) h hr rfl eT_takesWall_39
      · refine v_aload_n X (pc := 40) 0 rfl eT_takesWall_40 rfl ?_
        refine v_get X (pc := 41) 5 (a := aI (gI m5 5 0 5)) (by decide) (by decide) rfl rfl rfl in_Tape (by decide) qw_105 rfl eT_takesWall_41 ?_
        refine v_istore_n X (pc := 44) (lv' := [(3, _), (0, _), (1, _), (2, _)]) eT_takesWall_44 rfl (Nat.le_of_ble_eq_true rfl) rfl ?_
        refine v_aload_n X (pc := 45) 1 rfl eT_takesWall_45 rfl ?_
        obtain ⟨r6, m6, hc6, h⟩ := bd_some h
        refine v_callV X (pc := 46) [] [] ok_V_T_31 (cT_next  hc6) rfl (Nat.le_of_ble_eq_true rfl) ⟨Nat.le_of_ble_eq_true rfl, Nat.le_of_ble_eq_true rfl⟩ ⟨Nat.zero_le _, Nat.zero_le _⟩ (by decide) (by decide) rfl rfl eT_takesWall_46 ?_
        refine v_iload_n X (pc := 49) 0 rfl eT_takesWall_49 rfl ?_
        refine v_istore X (pc := 50) (lv' := [(4, _), (3, _), (0, _), (1, _), (2, _)]) eT_takesWall_50 (Nat.le_of_ble_eq_true rfl) rfl ?_
        refine v_aload_n X (pc := 52) 2 rfl eT_takesWall_52 rfl ?_
        refine v_ldcS X (pc := 53) 7 (by decide) rfl eT_takesWall_53 ?_
        obtain ⟨r7, m7, hc7, h⟩ := bd_some h
        refine v_callV X (pc := 55) [_] [] ok_V_T_70 (cT_isNamed (by decide) hc7) rfl (Nat.le_of_ble_eq_true rfl) ⟨Nat.le_of_ble_eq_true rfl, Nat.le_of_ble_eq_true rfl⟩ ⟨Nat.zero_le _, Nat.zero_le _⟩ (by decide) (by decide) rfl rfl eT_takesWall_55 ?_
        refine v_if_eq X (pc := 58) (tgt := 87) h eT_takesWall_58 (by decide) (fun h => ?_) (fun h => ?_)
        · exact v_sub [2, 3, 4, 1, 0] rfl (cT_takesWall_87 X hr _ _ _ _ _ hq1 h)
        · refine v_aload_n X (pc := 61) 2 rfl eT_takesWall_61 rfl ?_
          obtain ⟨r8, m8, hc8, h⟩ := bd_some h
          refine v_callV X (pc := 62) [] [] ok_V_T_31 (cT_next  hc8) rfl (Nat.le_of_ble_eq_true rfl) ⟨Nat.le_of_ble_eq_true rfl, Nat.le_of_ble_eq_true rfl⟩ ⟨Nat.zero_le _, Nat.zero_le _⟩ (by decide) (by decide) rfl rfl eT_takesWall_62 ?_
          refine v_aload_n X (pc := 65) 2 rfl eT_takesWall_65 rfl ?_
          refine v_iconst X (pc := 66) (v := (0 : Int32)) eT_takesWall_66 (by decide) ?_
          refine v_bipush X (pc := 67) (v := (9 : Int32)) eT_takesWall_67 (by decide) ?_
          obtain ⟨r9, m9, hc9, h⟩ := bd_some h
          refine v_callV X (pc := 69) [_, _] [] ok_V_T_55 (cT_isNumber  hc9) rfl (Nat.le_of_ble_eq_true rfl) ⟨Nat.le_of_ble_eq_true rfl, Nat.le_of_ble_eq_true rfl⟩ ⟨Nat.zero_le _, Nat.zero_le _⟩ (by decide) (by decide) rfl rfl eT_takesWall_69 ?_
          refine v_if_ne X (pc := 72) (tgt := 77) h eT_takesWall_72 (by decide) (fun h => ?_) (fun h => ?_)
          · refine v_iconst X (pc := 75) (v := (0 : Int32)) eT_takesWall_75 (by decide) ?_
            exact v_zret X (pc := 76) h hr rfl eT_takesWall_76
          · refine v_aload_n X (pc := 77) 2 rfl eT_takesWall_77 rfl ?_
            refine v_get X (pc := 78) 5 (a := aI (gI m9 5 0 5)) (by decide) (by decide) rfl rfl rfl in_Tape (by decide) qw_105 rfl eT_takesWall_78 ?_
            refine v_istore X (pc := 81) (lv' := [(4, _), (3, _), (0, _), (1, _), (2, _)]) eT_takesWall_81 (Nat.le_of_ble_eq_true rfl) rfl ?_
            refine v_aload_n X (pc := 83) 2 rfl eT_takesWall_83 rfl ?_
            obtain ⟨r10, m10, hc10, h⟩ := bd_some h
            refine v_callV X (pc := 84) [] [] ok_V_T_31 (cT_next  hc10) rfl (Nat.le_of_ble_eq_true rfl) ⟨Nat.le_of_ble_eq_true rfl, Nat.le_of_ble_eq_true rfl⟩ ⟨Nat.zero_le _, Nat.zero_le _⟩ (by decide) (by decide) rfl rfl eT_takesWall_84 ?_
            exact v_sub [2, 3, 4, 1, 0] rfl (cT_takesWall_87 X hr _ _ _ _ _ hq1 h)
  · refine v_iconst X (pc := 7) (v := (0 : Int32)) eT_takesWall_7 (by decide) ?_
    exact v_zret X (pc := 8) h hr rfl eT_takesWall_8
set_option maxHeartbeats 4000000 in
set_option maxRecDepth 100000 in
theorem cT_takesItem {f : Nat} {q1 : Nat} {mem : Mem} {o : Int32} {mem' : Mem} (hq1 : q1 < 3) (h : dT_takesItem f q1 mem = some (o, mem')) : RT yT_takesItem prog_4_method_5_code 4 (Option.some Jvm.ClassFile.FieldType.boolean) (rmM 6 132) [aR 5 0, aR 1 q1] mem (some (aI o)) mem' := by
  refine RT.of (by decide +kernel) (Nat.le_of_ble_eq_true rfl) (fun p l e s m args below meth c k X hr => ?_)
  replace X : CX p s m args meth c k prog_4_method_5_code 4 "WallShifts$Tape" := X
  unfold dT_takesItem at h
  refine v_sub (lv' := [(0, _), (1, _)]) [0, 1] rfl ?_
  refine v_aload_n X (pc := 0) 0 rfl eT_takesItem_0 rfl ?_
  obtain ⟨r1, m1, hc1, h⟩ := bd_some h
  refine v_callV X (pc := 1) [] [] ok_V_T_38 (cT_kindNamed  hc1) rfl (Nat.le_of_ble_eq_true rfl) ⟨Nat.le_of_ble_eq_true rfl, Nat.le_of_ble_eq_true rfl⟩ ⟨Nat.zero_le _, Nat.zero_le _⟩ (by decide) (by decide) rfl rfl eT_takesItem_1 ?_
  refine v_istore_n X (pc := 4) (lv' := [(2, _), (0, _), (1, _)]) eT_takesItem_4 rfl (Nat.le_of_ble_eq_true rfl) rfl ?_
  refine v_iload_n X (pc := 5) 0 rfl eT_takesItem_5 rfl ?_
  refine v_if_lt X (pc := 6) (tgt := 16) h eT_takesItem_6 (by decide) (fun h => ?_) (fun h => ?_)
  · refine v_aload_n X (pc := 16) 1 rfl eT_takesItem_16 rfl ?_
    obtain ⟨r2, m2, hc2, h⟩ := bd_some h
    refine v_callV X (pc := 17) [] [] ok_V_T_46 (cT_rotaNamed  hc2) rfl (Nat.le_of_ble_eq_true rfl) ⟨Nat.le_of_ble_eq_true rfl, Nat.le_of_ble_eq_true rfl⟩ ⟨Nat.zero_le _, Nat.zero_le _⟩ (by decide) (by decide) rfl rfl eT_takesItem_17 ?_
    refine v_istore_n X (pc := 20) (lv' := [(3, _), (2, _), (0, _), (1, _)]) eT_takesItem_20 rfl (Nat.le_of_ble_eq_true rfl) rfl ?_
    refine v_iload_n X (pc := 21) 0 rfl eT_takesItem_21 rfl ?_
    refine v_if_ge X (pc := 22) (tgt := 27) h eT_takesItem_22 (by decide) (fun h => ?_) (fun h => ?_)
    · refine v_iconst X (pc := 25) (v := (0 : Int32)) eT_takesItem_25 (by decide) ?_
      exact v_zret X (pc := 26) h hr rfl eT_takesItem_26
    · refine v_aload_n X (pc := 27) 2 rfl eT_takesItem_27 rfl ?_
      obtain ⟨r3, m3, hc3, h⟩ := bd_some h
      refine v_callV X (pc := 28) [] [] ok_V_T_31 (cT_next  hc3) rfl (Nat.le_of_ble_eq_true rfl) ⟨Nat.le_of_ble_eq_true rfl, Nat.le_of_ble_eq_true rfl⟩ ⟨Nat.zero_le _, Nat.zero_le _⟩ (by decide) (by decide) rfl rfl eT_takesItem_28 ?_
      refine v_aload_n X (pc := 31) 2 rfl eT_takesItem_31 rfl ?_
      refine v_getsN X (pc := 32) 2 (by decide) (by decide +kernel) eT_takesItem_32 ?_
      refine v_iload_n X (pc := 35) 0 rfl eT_takesItem_35 rfl ?_
      refine v_stld X (pc := 36) h (by decide) eT_takesItem_36 (fun h => ?_)
      refine v_getsN X (pc := 37) 3 (by decide) (by decide +kernel) eT_takesItem_37 ?_
      refine v_iload_n X (pc := 40) 0 rfl eT_takesItem_40 rfl ?_
      refine v_stld X (pc := 41) h (by decide) eT_takesItem_41 (fun h => ?_)
      obtain ⟨r4, m4, hc4, h⟩ := bd_some h
      refine v_callV X (pc := 42) [_, _] [] ok_V_T_55 (cT_isNumber  hc4) rfl (Nat.le_of_ble_eq_true rfl) ⟨Nat.le_of_ble_eq_true rfl, Nat.le_of_ble_eq_true rfl⟩ ⟨Nat.zero_le _, Nat.zero_le _⟩ (by decide) (by decide) rfl rfl eT_takesItem_42 ?_
      refine v_if_ne X (pc := 45) (tgt := 50) h eT_takesItem_45 (by decide) (fun h => ?_) (fun h => ?_)
      · refine v_iconst X (pc := 48) (v := (0 : Int32)) eT_takesItem_48 (by decide) ?_
        exact v_zret X (pc := 49) h hr rfl eT_takesItem_49
      · refine v_aload_n X (pc := 50) 3 rfl eT_takesItem_50 rfl ?_
        refine v_get X (pc := 51) 1 (a := aR 2 q1) (by decide) hq1 rfl rfl rfl in_Palace (by decide) qw_74 rfl eT_takesItem_51 ?_
        refine v_iload_n X (pc := 54) 0 rfl eT_takesItem_54 rfl ?_
        refine v_aload_n X (pc := 55) 2 rfl eT_takesItem_55 rfl ?_
        refine v_get X (pc := 56) 5 (a := aI (gI m4 5 0 5)) (by decide) (by decide) rfl rfl rfl in_Tape (by decide) qw_105 rfl eT_takesItem_56 ?_
        refine v_iast X (pc := 59) h (by decide) hq1 (fun _ => rfl) eT_takesItem_59 (fun h => ?_)
        refine v_aload_n X (pc := 60) 2 rfl eT_takesItem_60 rfl ?_
        obtain ⟨r5, m5, hc5, h⟩ := bd_some h
        refine v_callV X (pc := 61) [] [] ok_V_T_31 (cT_next  hc5) rfl (Nat.le_of_ble_eq_true rfl) ⟨Nat.le_of_ble_eq_true rfl, Nat.le_of_ble_eq_true rfl⟩ ⟨Nat.zero_le _, Nat.zero_le _⟩ (by decide) (by decide) rfl rfl eT_takesItem_61 ?_
        refine v_iconst X (pc := 64) (v := (1 : Int32)) eT_takesItem_64 (by decide) ?_
        exact v_zret X (pc := 65) h hr rfl eT_takesItem_65
  · refine v_aload_n X (pc := 9) 1 rfl eT_takesItem_9 rfl ?_
    refine v_aload_n X (pc := 10) 2 rfl eT_takesItem_10 rfl ?_
    refine v_iload_n X (pc := 11) 0 rfl eT_takesItem_11 rfl ?_
    obtain ⟨r6, m6, hc6, h⟩ := bd_some h
    refine v_callV X (pc := 12) [_, _] [] ok_V_T_42 (cT_takesWall hq1 hc6) rfl (Nat.le_of_ble_eq_true rfl) ⟨Nat.le_of_ble_eq_true rfl, Nat.le_of_ble_eq_true rfl⟩ ⟨Nat.zero_le _, Nat.zero_le _⟩ (by decide) (by decide) rfl rfl eT_takesItem_12 ?_
    obtain ⟨hz, h⟩ := zb_some h
    exact v_zret X (pc := 15) h hr (zb_n hz) eT_takesItem_15
set_option maxHeartbeats 4000000 in
set_option maxRecDepth 100000 in
theorem cT_tell_11 {p : Program} {l : Launch} {e : Env} {s : State} {m : MethodId} {args : Array Value} {below : List Frame} {meth : Method} {c : Code} {k : KK} {f : Nat} {o : Int32} {mem' : Mem} (X : CX p s m args meth c k prog_4_method_4_code 3 "WallShifts$Tape") (hr : meth.sig.returnType = (Option.some Jvm.ClassFile.FieldType.int)) : ∀ (n : Nat) (q1 : Nat) (x2 : Int32) (mem : Mem), q1 < 3 → dT_tell_11 f n q1 x2 mem = some (o, mem') → V p l e (rmM 7 155) s m args below meth c 0 0 (MQ below (RQc k (some (aI o)) mem') args s 0 0 (kA k)) k 3 mem 11 [(0, aR 5 0), (1, aR 1 q1), (2, aI x2)] [] := by
  intro n
  induction n with
  | zero =>
    intro q1 x2 mem hq1 h
    exact nomatch (show (none : Option (Int32 × Mem)) = some _ from h)
  | succ n ih =>
    intro q1 x2 mem hq1 h
    rw [dT_tell_11] at h
    refine v_iload_n X (pc := 11) 2 rfl eT_tell_11 rfl ?_
    refine v_bipush X (pc := 12) (v := (120 : Int32)) eT_tell_12 (by decide) ?_
    refine v_icmp_gt X (pc := 14) (tgt := 66) h eT_tell_14 (by decide) (fun h => ?_) (fun h => ?_)
    · refine v_iconst X (pc := 66) (v := (-1 : Int32)) eT_tell_66 (by decide) ?_
      refine v_aload_n X (pc := 67) 0 rfl eT_tell_67 rfl ?_
      refine v_get X (pc := 68) 2 (a := aI (gI mem 5 0 2)) (by decide) (by decide) rfl rfl rfl in_Tape (by decide) qw_102 rfl eT_tell_68 ?_
      refine v_isub X (pc := 71) eT_tell_71 ?_
      exact v_iret X (pc := 72) h hr eT_tell_72
    · refine v_aload_n X (pc := 17) 0 rfl eT_tell_17 rfl ?_
      refine v_aload_n X (pc := 18) 1 rfl eT_tell_18 rfl ?_
      obtain ⟨r1, m1, hc1, h⟩ := bd_some h
      refine v_callV X (pc := 19) [_] [] ok_V_T_34 (cT_takesItem hq1 hc1) rfl (Nat.le_of_ble_eq_true rfl) ⟨Nat.le_of_ble_eq_true rfl, Nat.le_of_ble_eq_true rfl⟩ ⟨Nat.zero_le _, Nat.zero_le _⟩ (by decide) (by decide) rfl rfl eT_tell_19 ?_
      refine v_if_ne X (pc := 22) (tgt := 32) h eT_tell_22 (by decide) (fun h => ?_) (fun h => ?_)
      · refine v_iconst X (pc := 25) (v := (-1 : Int32)) eT_tell_25 (by decide) ?_
        refine v_aload_n X (pc := 26) 0 rfl eT_tell_26 rfl ?_
        refine v_get X (pc := 27) 2 (a := aI (gI m1 5 0 2)) (by decide) (by decide) rfl rfl rfl in_Tape (by decide) qw_102 rfl eT_tell_27 ?_
        refine v_isub X (pc := 30) eT_tell_30 ?_
        exact v_iret X (pc := 31) h hr eT_tell_31
      · refine v_aload_n X (pc := 32) 0 rfl eT_tell_32 rfl ?_
        refine v_get X (pc := 33) 4 (a := aI (gI m1 5 0 4)) (by decide) (by decide) rfl rfl rfl in_Tape (by decide) qw_104 rfl eT_tell_33 ?_
        refine v_if_ne X (pc := 36) (tgt := 41) h eT_tell_36 (by decide) (fun h => ?_) (fun h => ?_)
        · refine v_iload_n X (pc := 39) 2 rfl eT_tell_39 rfl ?_
          exact v_iret X (pc := 40) h hr eT_tell_40
        · refine v_aload_n X (pc := 41) 0 rfl eT_tell_41 rfl ?_
          refine v_get X (pc := 42) 4 (a := aI (gI m1 5 0 4)) (by decide) (by decide) rfl rfl rfl in_Tape (by decide) qw_104 rfl eT_tell_42 ?_
          refine v_iconst X (pc := 45) (v := (4 : Int32)) eT_tell_45 (by decide) ?_
          refine v_icmp_eq X (pc := 46) (tgt := 56) h eT_tell_46 (by decide) (fun h => ?_) (fun h => ?_)
          · refine v_aload_n X (pc := 56) 0 rfl eT_tell_56 rfl ?_
            obtain ⟨r2, m2, hc2, h⟩ := bd_some h
            refine v_callV X (pc := 57) [] [] ok_V_T_31 (cT_next  hc2) rfl (Nat.le_of_ble_eq_true rfl) ⟨Nat.le_of_ble_eq_true rfl, Nat.le_of_ble_eq_true rfl⟩ ⟨Nat.zero_le _, Nat.zero_le _⟩ (by decide) (by decide) rfl rfl eT_tell_57 ?_
            refine v_iinc X (pc := 60) (v := (x2 + (1 : Int32))) (lv' := [(2, _), (0, _), (1, _)]) 2 rfl (by rfl) eT_tell_60 (Nat.le_of_ble_eq_true rfl) rfl ?_
            refine v_goto X (pc := 63) (tgt := 11) eT_tell_63 (by decide) ?_
            exact v_sub [1, 2, 0] rfl (ih _ _ _ hq1 h)
          · refine v_iconst X (pc := 49) (v := (-1 : Int32)) eT_tell_49 (by decide) ?_
            refine v_aload_n X (pc := 50) 0 rfl eT_tell_50 rfl ?_
            refine v_get X (pc := 51) 2 (a := aI (gI m1 5 0 2)) (by decide) (by decide) rfl rfl rfl in_Tape (by decide) qw_102 rfl eT_tell_51 ?_
            refine v_isub X (pc := 54) eT_tell_54 ?_
            exact v_iret X (pc := 55) h hr eT_tell_55
set_option maxHeartbeats 4000000 in
set_option maxRecDepth 100000 in
theorem cT_tell {f : Nat} {q1 : Nat} {mem : Mem} {o : Int32} {mem' : Mem} (hq1 : q1 < 3) (h : dT_tell f q1 mem = some (o, mem')) : RT yT_tell prog_4_method_4_code 3 (Option.some Jvm.ClassFile.FieldType.int) (rmM 7 155) [aR 5 0, aR 1 q1] mem (some (aI o)) mem' := by
  refine RT.of (by decide +kernel) (Nat.le_of_ble_eq_true rfl) (fun p l e s m args below meth c k X hr => ?_)
  replace X : CX p s m args meth c k prog_4_method_4_code 3 "WallShifts$Tape" := X
  unfold dT_tell at h
  refine v_sub (lv' := [(0, _), (1, _)]) [0, 1] rfl ?_
  refine v_aload_n X (pc := 0) 0 rfl eT_tell_0 rfl ?_
  refine v_iconst X (pc := 1) (v := (0 : Int32)) eT_tell_1 (by decide) ?_
  refine v_put X (pc := 2) 3 (mem' := (sI mem 5 0 3 (0 : Int32))) (by decide) (by decide) rfl (pf_5_3 _ _ _ _ _) rowI_ne rfl in_Tape ty_Tape_ok nm_Tape (by decide) qw_103 rfl rfl rfl (Nat.le_of_ble_eq_true rfl) eT_tell_2 ?_
  refine v_aload_n X (pc := 5) 0 rfl eT_tell_5 rfl ?_
  obtain ⟨r1, m1, hc1, h⟩ := bd_some h
  refine v_callV X (pc := 6) [] [] ok_V_T_31 (cT_next  hc1) rfl (Nat.le_of_ble_eq_true rfl) ⟨Nat.le_of_ble_eq_true rfl, Nat.le_of_ble_eq_true rfl⟩ ⟨Nat.zero_le _, Nat.zero_le _⟩ (by decide) (by decide) rfl rfl eT_tell_6 ?_
  refine v_iconst X (pc := 9) (v := (1 : Int32)) eT_tell_9 (by decide) ?_
  refine v_istore_n X (pc := 10) (lv' := [(2, _), (0, _), (1, _)]) eT_tell_10 rfl (Nat.le_of_ble_eq_true rfl) rfl ?_
  exact v_sub [1, 2, 0] rfl (cT_tell_11 X hr _ _ _ _ hq1 h)
set_option maxHeartbeats 4000000 in
set_option maxRecDepth 100000 in
theorem cW_palace {f : Nat}  {mem : Mem} {o : Int32} {mem' : Mem}  (h : dW_palace f  mem = some (o, mem')) : RT yW_palace prog_1_method_27_code 2 (Option.some Jvm.ClassFile.FieldType.int) (rmM 8 177) [aR 0 0] mem (some (aI o)) mem' := by
  refine RT.of (by decide +kernel) (Nat.le_of_ble_eq_true rfl) (fun p l e s m args below meth c k X hr => ?_)
  replace X : CX p s m args meth c k prog_1_method_27_code 2 "WallShifts" := X
  unfold dW_palace at h
  refine v_sub (lv' := [(0, _)]) [0] rfl ?_
  refine v_aload_n X (pc := 0) 0 rfl eW_palace_0 rfl ?_
  refine v_get X (pc := 1) 3 (a := aR 1 2) (by decide) (by decide) rfl rfl rfl in_WallShifts (by decide) qw_143 rfl eW_palace_1 ?_
  refine v_aload_n X (pc := 4) 0 rfl eW_palace_4 rfl ?_
  refine v_get X (pc := 5) 0 (a := aR 1 0) (by decide) (by decide) rfl rfl rfl in_WallShifts (by decide) qw_140 rfl eW_palace_5 ?_
  obtain ⟨r1, m1, hc1, h⟩ := bd_some h
  refine v_callV X (pc := 8) [_] [] ok_V_W_183 (cP_become (by decide) (by decide) hc1) rfl (Nat.le_of_ble_eq_true rfl) ⟨Nat.le_of_ble_eq_true rfl, Nat.le_of_ble_eq_true rfl⟩ ⟨Nat.zero_le _, Nat.zero_le _⟩ (by decide) (by decide) rfl rfl eW_palace_8 ?_
  refine v_aload_n X (pc := 11) 0 rfl eW_palace_11 rfl ?_
  refine v_get X (pc := 12) 4 (a := aR 5 0) (by decide) (by decide) rfl rfl rfl in_WallShifts (by decide) qw_144 rfl eW_palace_12 ?_
  refine v_aload_n X (pc := 15) 0 rfl eW_palace_15 rfl ?_
  refine v_get X (pc := 16) 3 (a := aR 1 2) (by decide) (by decide) rfl rfl rfl in_WallShifts (by decide) qw_143 rfl eW_palace_16 ?_
  obtain ⟨r2, m2, hc2, h⟩ := bd_some h
  refine v_callV X (pc := 19) [_] [] ok_V_W_199 (cT_tell (by decide) hc2) rfl (Nat.le_of_ble_eq_true rfl) ⟨Nat.le_of_ble_eq_true rfl, Nat.le_of_ble_eq_true rfl⟩ ⟨Nat.zero_le _, Nat.zero_le _⟩ (by decide) (by decide) rfl rfl eW_palace_19 ?_
  refine v_istore_n X (pc := 22) (lv' := [(1, _), (0, _)]) eW_palace_22 rfl (Nat.le_of_ble_eq_true rfl) rfl ?_
  refine v_iload_n X (pc := 23) 0 rfl eW_palace_23 rfl ?_
  refine v_if_lt X (pc := 24) (tgt := 38) h eW_palace_24 (by decide) (fun h => ?_) (fun h => ?_)
  · refine v_aload_n X (pc := 38) 1 rfl eW_palace_38 rfl ?_
    refine v_get X (pc := 39) 4 (a := aR 5 0) (by decide) (by decide) rfl rfl rfl in_WallShifts (by decide) qw_144 rfl eW_palace_39 ?_
    obtain ⟨r3, m3, hc3, h⟩ := bd_some h
    refine v_callV X (pc := 42) [] [] ok_V_W_196 (cT_clear  hc3) rfl (Nat.le_of_ble_eq_true rfl) ⟨Nat.le_of_ble_eq_true rfl, Nat.le_of_ble_eq_true rfl⟩ ⟨Nat.zero_le _, Nat.zero_le _⟩ (by decide) (by decide) rfl rfl eW_palace_42 ?_
    refine v_pop X (pc := 45) rfl eW_palace_45 ?_
    refine v_iload_n X (pc := 46) 0 rfl eW_palace_46 rfl ?_
    exact v_iret X (pc := 47) h hr eW_palace_47
  · refine v_aload_n X (pc := 27) 1 rfl eW_palace_27 rfl ?_
    refine v_get X (pc := 28) 0 (a := aR 1 0) (by decide) (by decide) rfl rfl rfl in_WallShifts (by decide) qw_140 rfl eW_palace_28 ?_
    refine v_aload_n X (pc := 31) 1 rfl eW_palace_31 rfl ?_
    refine v_get X (pc := 32) 3 (a := aR 1 2) (by decide) (by decide) rfl rfl rfl in_WallShifts (by decide) qw_143 rfl eW_palace_32 ?_
    obtain ⟨r4, m4, hc4, h⟩ := bd_some h
    refine v_callV X (pc := 35) [_] [] ok_V_W_183 (cP_become (by decide) (by decide) hc4) rfl (Nat.le_of_ble_eq_true rfl) ⟨Nat.le_of_ble_eq_true rfl, Nat.le_of_ble_eq_true rfl⟩ ⟨Nat.zero_le _, Nat.zero_le _⟩ (by decide) (by decide) rfl rfl eW_palace_35 ?_
    refine v_aload_n X (pc := 38) 1 rfl eW_palace_38 rfl ?_
    refine v_get X (pc := 39) 4 (a := aR 5 0) (by decide) (by decide) rfl rfl rfl in_WallShifts (by decide) qw_144 rfl eW_palace_39 ?_
    obtain ⟨r5, m5, hc5, h⟩ := bd_some h
    refine v_callV X (pc := 42) [] [] ok_V_W_196 (cT_clear  hc5) rfl (Nat.le_of_ble_eq_true rfl) ⟨Nat.le_of_ble_eq_true rfl, Nat.le_of_ble_eq_true rfl⟩ ⟨Nat.zero_le _, Nat.zero_le _⟩ (by decide) (by decide) rfl rfl eW_palace_42 ?_
    refine v_pop X (pc := 45) rfl eW_palace_45 ?_
    refine v_iload_n X (pc := 46) 0 rfl eW_palace_46 rfl ?_
    exact v_iret X (pc := 47) h hr eW_palace_47
set_option maxHeartbeats 4000000 in
set_option maxRecDepth 100000 in
theorem cW_isSheet {f : Nat} {a0 : Int32} {mem : Mem} {o : Int32} {mem' : Mem}  (h : dW_isSheet f a0 mem = some (o, mem')) : RT yW_isSheet prog_1_method_51_code 1 (Option.some Jvm.ClassFile.FieldType.boolean) (rmM 1 22) [aI a0] mem (some (aI o)) mem' := by
  refine RT.of (by decide +kernel) (Nat.le_of_ble_eq_true rfl) (fun p l e s m args below meth c k X hr => ?_)
  replace X : CX p s m args meth c k prog_1_method_51_code 1 "WallShifts" := X
  unfold dW_isSheet at h
  refine v_sub (lv' := [(0, _)]) [0] rfl ?_
  refine v_iload_n X (pc := 0) 0 rfl eW_isSheet_0 rfl ?_
  refine v_iconst X (pc := 1) (v := (0 : Int32)) eW_isSheet_1 (by decide) ?_
  refine v_iconst X (pc := 2) (v := (3 : Int32)) eW_isSheet_2 (by decide) ?_
  obtain ⟨r1, m1, hc1, h⟩ := bd_some h
  refine v_callS X (pc := 3) [_, _, _] [] ok_S_W_82 (cW_isIn  hc1) rfl (Nat.le_of_ble_eq_true rfl) ⟨Nat.le_of_ble_eq_true rfl, Nat.le_of_ble_eq_true rfl⟩ ⟨Nat.zero_le _, Nat.zero_le _⟩ eW_isSheet_3 ?_
  obtain ⟨hz, h⟩ := zb_some h
  exact v_zret X (pc := 6) h hr (zb_n hz) eW_isSheet_6
set_option maxHeartbeats 4000000 in
set_option maxRecDepth 100000 in
theorem cJArr_fill_6 {p : Program} {l : Launch} {e : Env} {s : State} {m : MethodId} {args : Array Value} {below : List Frame} {meth : Method} {c : Code} {k : KK} {f : Nat} {o : Unit} {mem' : Mem} (X : CX p s m args meth c k prog_13_method_101_code 5 "java/util/Arrays") (hr : meth.sig.returnType = (Option.none : Option Jvm.ClassFile.FieldType)) : ∀ (n : Nat) (q0 : Nat) (x1 : Int64) (x3 : Int32) (x4 : Int32) (mem : Mem), q0 < 4 → dJArr_fill_6 f n q0 x1 x3 x4 mem = some (o, mem') → V p l e (rmM 0 0) s m args below meth c 0 0 (MQ below (RQc k none mem') args s 0 0 (kA k)) k 5 mem 6 [(0, aR 9 q0), (1, aL x1), (3, aI x3), (4, aI x4)] [] := by
  intro n
  induction n with
  | zero =>
    intro q0 x1 x3 x4 mem hq0 h
    exact nomatch (show (none : Option (Unit × Mem)) = some _ from h)
  | succ n ih =>
    intro q0 x1 x3 x4 mem hq0 h
    rw [dJArr_fill_6] at h
    refine v_iload_n X (pc := 6) 2 rfl eJArr_fill_6 rfl ?_
    refine v_iload X (pc := 7) 3 rfl eJArr_fill_7 ?_
    refine v_icmp_ge X (pc := 9) (tgt := 22) h eJArr_fill_9 (by decide) (fun h => ?_) (fun h => ?_)
    · refine v_aload_n X (pc := 12) 0 rfl eJArr_fill_12 rfl ?_
      refine v_iload_n X (pc := 13) 2 rfl eJArr_fill_13 rfl ?_
      refine v_lload_n X (pc := 14) 1 rfl eJArr_fill_14 rfl ?_
      refine v_last X (pc := 15) h (by decide) hq0 (fun _ => rfl) eJArr_fill_15 (fun h => ?_)
      refine v_iinc X (pc := 16) (v := (x3 + (1 : Int32))) (lv' := [(3, _), (0, _), (1, _), (4, _)]) 2 rfl (by rfl) eJArr_fill_16 (Nat.le_of_ble_eq_true rfl) rfl ?_
      refine v_goto X (pc := 19) (tgt := 6) eJArr_fill_19 (by decide) ?_
      exact v_sub [1, 2, 0, 3] rfl (ih _ _ _ _ _ hq0 h)
    · exact v_vret X (pc := 22) h hr eJArr_fill_22
set_option maxHeartbeats 4000000 in
set_option maxRecDepth 100000 in
theorem cJArr_fill {f : Nat} {q0 : Nat} {a1 : Int64} {mem : Mem} {o : Unit} {mem' : Mem} (hq0 : q0 < 4) (h : dJArr_fill f q0 a1 mem = some (o, mem')) : RT yJArr_fill prog_13_method_101_code 5 (Option.none : Option Jvm.ClassFile.FieldType) (rmM 0 0) [aR 9 q0, aL a1] mem none mem' := by
  refine RT.of (by decide +kernel) (Nat.le_of_ble_eq_true rfl) (fun p l e s m args below meth c k X hr => ?_)
  replace X : CX p s m args meth c k prog_13_method_101_code 5 "java/util/Arrays" := X
  unfold dJArr_fill at h
  refine v_sub (lv' := [(0, _), (1, _)]) [0, 1] rfl ?_
  refine v_iconst X (pc := 0) (v := (0 : Int32)) eJArr_fill_0 (by decide) ?_
  refine v_istore_n X (pc := 1) (lv' := [(3, _), (0, _), (1, _)]) eJArr_fill_1 rfl (Nat.le_of_ble_eq_true rfl) rfl ?_
  refine v_aload_n X (pc := 2) 1 rfl eJArr_fill_2 rfl ?_
  refine v_alenL X (pc := 3) (v := (40 : Int32)) rfl (by decide) hq0 rfl eJArr_fill_3 ?_
  refine v_istore X (pc := 4) (lv' := [(4, _), (3, _), (0, _), (1, _)]) eJArr_fill_4 (Nat.le_of_ble_eq_true rfl) rfl ?_
  exact v_sub [2, 3, 1, 0] rfl (cJArr_fill_6 X hr _ _ _ _ _ _ hq0 h)
set_option maxHeartbeats 4000000 in
set_option maxRecDepth 100000 in
theorem cS_renew_15 {p : Program} {l : Launch} {e : Env} {s : State} {m : MethodId} {args : Array Value} {below : List Frame} {meth : Method} {c : Code} {k : KK} {f : Nat} {o : Int32} {mem' : Mem} (X : CX p s m args meth c k prog_3_method_3_code 3 "WallShifts$Sheet") (hr : meth.sig.returnType = (Option.some Jvm.ClassFile.FieldType.int)) : ∀ (q0 : Nat) (sq0 : Nat) (s1 : Int32) (mem : Mem), q0 < 4 → sq0 < 4 → dS_renew_15 f q0 sq0 s1 mem = some (o, mem') → V p l e (rmM 1 24) s m args below meth c 0 0 (MQ below (RQc k (some (aI o)) mem') args s 0 0 (kA k)) k 3 mem 15 [(0, aR 8 q0)] [aI s1, aR 8 sq0] := by
  intro q0 sq0 s1 mem hq0 hsq0 h
  unfold dS_renew_15 at h
  refine v_put X (pc := 15) 1 (mem' := (sI mem 8 sq0 1 s1)) (by decide) hsq0 rfl (pf_8_1 _ _ _ _ _) rowI_ne rfl in_Sheet ty_Sheet_ok nm_Sheet (by decide) qw_128 rfl rfl rfl (Nat.le_of_ble_eq_true rfl) eS_renew_15 ?_
  refine v_aload_n X (pc := 18) 0 rfl eS_renew_18 rfl ?_
  refine v_get X (pc := 19) 2 (a := aR 9 q0) (by decide) hq0 rfl rfl rfl in_Sheet (by decide) qw_130 rfl eS_renew_19 ?_
  refine v_lconst X (pc := 22) (v := (0 : Int64)) eS_renew_22 (by decide) ?_
  obtain ⟨r1, m1, hc1, h⟩ := bd_some h
  refine v_callS X (pc := 23) [_, _] [] ok_S_S_22 (cJArr_fill hq0 hc1) rfl (Nat.le_of_ble_eq_true rfl) ⟨Nat.le_of_ble_eq_true rfl, Nat.le_of_ble_eq_true rfl⟩ ⟨Nat.zero_le _, Nat.zero_le _⟩ eS_renew_23 ?_
  refine v_aload_n X (pc := 26) 0 rfl eS_renew_26 rfl ?_
  refine v_get X (pc := 27) 1 (a := aI (gI m1 8 q0 1)) (by decide) hq0 rfl rfl rfl in_Sheet (by decide) qw_128 rfl eS_renew_27 ?_
  exact v_iret X (pc := 30) h hr eS_renew_30
set_option maxHeartbeats 4000000 in
set_option maxRecDepth 100000 in
theorem cS_renew {f : Nat} {q0 : Nat} {a1 : Int32} {a2 : Int32} {mem : Mem} {o : Int32} {mem' : Mem} (hq0 : q0 < 4) (h : dS_renew f q0 a1 a2 mem = some (o, mem')) : RT yS_renew prog_3_method_3_code 3 (Option.some Jvm.ClassFile.FieldType.int) (rmM 1 24) [aR 8 q0, aI a1, aI a2] mem (some (aI o)) mem' := by
  refine RT.of (by decide +kernel) (Nat.le_of_ble_eq_true rfl) (fun p l e s m args below meth c k X hr => ?_)
  replace X : CX p s m args meth c k prog_3_method_3_code 3 "WallShifts$Sheet" := X
  unfold dS_renew at h
  refine v_sub (lv' := [(0, _), (1, _), (2, _)]) [0, 1, 2] rfl ?_
  refine v_aload_n X (pc := 0) 0 rfl eS_renew_0 rfl ?_
  refine v_iload_n X (pc := 1) 1 rfl eS_renew_1 rfl ?_
  refine v_put X (pc := 2) 0 (mem' := (sI mem 8 q0 0 a1)) (by decide) hq0 rfl (pf_8_0 _ _ _ _ _) rowI_ne rfl in_Sheet ty_Sheet_ok nm_Sheet (by decide) qw_126 rfl rfl rfl (Nat.le_of_ble_eq_true rfl) eS_renew_2 ?_
  refine v_aload_n X (pc := 5) 0 rfl eS_renew_5 rfl ?_
  refine v_iload_n X (pc := 6) 1 rfl eS_renew_6 rfl ?_
  refine v_if_ne X (pc := 7) (tgt := 14) h eS_renew_7 (by decide) (fun h => ?_) (fun h => ?_)
  · refine v_iconst X (pc := 10) (v := (0 : Int32)) eS_renew_10 (by decide) ?_
    refine v_goto X (pc := 11) (tgt := 15) eS_renew_11 (by decide) ?_
    exact v_sub [0] rfl (cS_renew_15 X hr _ _ _ _ hq0 hq0 h)
  · refine v_iload_n X (pc := 14) 2 rfl eS_renew_14 rfl ?_
    exact v_sub [0] rfl (cS_renew_15 X hr _ _ _ _ hq0 hq0 h)
set_option maxHeartbeats 4000000 in
set_option maxRecDepth 100000 in
theorem cW_sheet_36 {p : Program} {l : Launch} {e : Env} {s : State} {m : MethodId} {args : Array Value} {below : List Frame} {meth : Method} {c : Code} {k : KK} {f : Nat} {o : Int32} {mem' : Mem} (X : CX p s m args meth c k prog_1_method_28_code 4 "WallShifts") (hr : meth.sig.returnType = (Option.some Jvm.ClassFile.FieldType.int)) : ∀ (x1 : Int32) (x2 : Int32) (x3 : Int32) (mem : Mem), dW_sheet_36 f x1 x2 x3 mem = some (o, mem') → V p l e (rmM 2 46) s m args below meth c 0 0 (MQ below (RQc k (some (aI o)) mem') args s 0 0 (kA k)) k 4 mem 36 [(0, aR 0 0), (1, aI x1), (2, aI x2), (3, aI x3)] [] := by
  intro x1 x2 x3 mem  h
  unfold dW_sheet_36 at h
  refine v_iload_n X (pc := 36) 3 rfl eW_sheet_36 rfl ?_
  refine v_if_ge X (pc := 37) (tgt := 47) h eW_sheet_37 (by decide) (fun h => ?_) (fun h => ?_)
  · refine v_aload_n X (pc := 40) 0 rfl eW_sheet_40 rfl ?_
    refine v_ldc X (pc := 41) qw_564 eW_sheet_41 ?_
    obtain ⟨r1, m1, hc1, h⟩ := bd_some h
    refine v_callV X (pc := 43) [_] [] ok_V_W_52 (cW_finding  hc1) rfl (Nat.le_of_ble_eq_true rfl) ⟨Nat.le_of_ble_eq_true rfl, Nat.le_of_ble_eq_true rfl⟩ ⟨Nat.zero_le _, Nat.zero_le _⟩ (by decide) (by decide) rfl rfl eW_sheet_43 ?_
    exact v_iret X (pc := 46) h hr eW_sheet_46
  · refine v_iload_n X (pc := 47) 3 rfl eW_sheet_47 rfl ?_
    refine v_bipush X (pc := 48) (v := (40 : Int32)) eW_sheet_48 (by decide) ?_
    refine v_icmp_le X (pc := 50) (tgt := 60) h eW_sheet_50 (by decide) (fun h => ?_) (fun h => ?_)
    · refine v_aload_n X (pc := 53) 0 rfl eW_sheet_53 rfl ?_
      refine v_ldc X (pc := 54) qw_179 eW_sheet_54 ?_
      obtain ⟨r2, m2, hc2, h⟩ := bd_some h
      refine v_callV X (pc := 56) [_] [] ok_V_W_52 (cW_finding  hc2) rfl (Nat.le_of_ble_eq_true rfl) ⟨Nat.le_of_ble_eq_true rfl, Nat.le_of_ble_eq_true rfl⟩ ⟨Nat.zero_le _, Nat.zero_le _⟩ (by decide) (by decide) rfl rfl eW_sheet_56 ?_
      exact v_iret X (pc := 59) h hr eW_sheet_59
    · refine v_aload_n X (pc := 60) 0 rfl eW_sheet_60 rfl ?_
      refine v_get X (pc := 61) 5 (a := aR 7 0) (by decide) (by decide) rfl rfl rfl in_WallShifts (by decide) qw_145 rfl eW_sheet_61 ?_
      refine v_iload_n X (pc := 64) 1 rfl eW_sheet_64 rfl ?_
      refine v_aaldS X (pc := 65) h (by decide) eW_sheet_65 (fun hb3 h => ?_)
      refine v_iload_n X (pc := 66) 2 rfl eW_sheet_66 rfl ?_
      refine v_iload_n X (pc := 67) 3 rfl eW_sheet_67 rfl ?_
      obtain ⟨r4, m4, hc4, h⟩ := bd_some h
      refine v_callV X (pc := 68) [_, _] [] ok_V_W_207 (cS_renew hb3 hc4) rfl (Nat.le_of_ble_eq_true rfl) ⟨Nat.le_of_ble_eq_true rfl, Nat.le_of_ble_eq_true rfl⟩ ⟨Nat.zero_le _, Nat.zero_le _⟩ (by decide) hb3 rfl rfl eW_sheet_68 ?_
      exact v_iret X (pc := 71) h hr eW_sheet_71
set_option maxHeartbeats 4000000 in
set_option maxRecDepth 100000 in
theorem cW_sheet {f : Nat} {a1 : Int32} {a2 : Int32} {a3 : Int32} {mem : Mem} {o : Int32} {mem' : Mem}  (h : dW_sheet f a1 a2 a3 mem = some (o, mem')) : RT yW_sheet prog_1_method_28_code 4 (Option.some Jvm.ClassFile.FieldType.int) (rmM 2 46) [aR 0 0, aI a1, aI a2, aI a3] mem (some (aI o)) mem' := by
  refine RT.of (by decide +kernel) (Nat.le_of_ble_eq_true rfl) (fun p l e s m args below meth c k X hr => ?_)
  replace X : CX p s m args meth c k prog_1_method_28_code 4 "WallShifts" := X
  unfold dW_sheet at h
  refine v_sub (lv' := [(0, _), (1, _), (2, _), (3, _)]) [0, 1, 2, 3] rfl ?_
  refine v_iload_n X (pc := 0) 1 rfl eW_sheet_0 rfl ?_
  obtain ⟨r1, m1, hc1, h⟩ := bd_some h
  refine v_callS X (pc := 1) [_] [] ok_S_W_203 (cW_isSheet  hc1) rfl (Nat.le_of_ble_eq_true rfl) ⟨Nat.le_of_ble_eq_true rfl, Nat.le_of_ble_eq_true rfl⟩ ⟨Nat.zero_le _, Nat.zero_le _⟩ eW_sheet_1 ?_
  refine v_if_eq X (pc := 4) (tgt := 29) h eW_sheet_4 (by decide) (fun h => ?_) (fun h => ?_)
  · refine v_aload_n X (pc := 29) 0 rfl eW_sheet_29 rfl ?_
    refine v_ldc X (pc := 30) qw_179 eW_sheet_30 ?_
    obtain ⟨r2, m2, hc2, h⟩ := bd_some h
    refine v_callV X (pc := 32) [_] [] ok_V_W_52 (cW_finding  hc2) rfl (Nat.le_of_ble_eq_true rfl) ⟨Nat.le_of_ble_eq_true rfl, Nat.le_of_ble_eq_true rfl⟩ ⟨Nat.zero_le _, Nat.zero_le _⟩ (by decide) (by decide) rfl rfl eW_sheet_32 ?_
    exact v_iret X (pc := 35) h hr eW_sheet_35
  · refine v_iload_n X (pc := 7) 2 rfl eW_sheet_7 rfl ?_
    refine v_if_eq X (pc := 8) (tgt := 36) h eW_sheet_8 (by decide) (fun h => ?_) (fun h => ?_)
    · exact v_sub [0, 1, 2, 3] rfl (cW_sheet_36 X hr _ _ _ _  h)
    · refine v_iload_n X (pc := 11) 2 rfl eW_sheet_11 rfl ?_
      refine v_bipush X (pc := 12) (v := (8 : Int32)) eW_sheet_12 (by decide) ?_
      refine v_icmp_eq X (pc := 14) (tgt := 36) h eW_sheet_14 (by decide) (fun h => ?_) (fun h => ?_)
      · exact v_sub [0, 1, 2, 3] rfl (cW_sheet_36 X hr _ _ _ _  h)
      · refine v_iload_n X (pc := 17) 2 rfl eW_sheet_17 rfl ?_
        refine v_bipush X (pc := 18) (v := (16 : Int32)) eW_sheet_18 (by decide) ?_
        refine v_icmp_eq X (pc := 20) (tgt := 36) h eW_sheet_20 (by decide) (fun h => ?_) (fun h => ?_)
        · exact v_sub [0, 1, 2, 3] rfl (cW_sheet_36 X hr _ _ _ _  h)
        · refine v_iload_n X (pc := 23) 2 rfl eW_sheet_23 rfl ?_
          refine v_bipush X (pc := 24) (v := (64 : Int32)) eW_sheet_24 (by decide) ?_
          refine v_icmp_eq X (pc := 26) (tgt := 36) h eW_sheet_26 (by decide) (fun h => ?_) (fun h => ?_)
          · exact v_sub [0, 1, 2, 3] rfl (cW_sheet_36 X hr _ _ _ _  h)
          · refine v_aload_n X (pc := 29) 0 rfl eW_sheet_29 rfl ?_
            refine v_ldc X (pc := 30) qw_179 eW_sheet_30 ?_
            obtain ⟨r3, m3, hc3, h⟩ := bd_some h
            refine v_callV X (pc := 32) [_] [] ok_V_W_52 (cW_finding  hc3) rfl (Nat.le_of_ble_eq_true rfl) ⟨Nat.le_of_ble_eq_true rfl, Nat.le_of_ble_eq_true rfl⟩ ⟨Nat.zero_le _, Nat.zero_le _⟩ (by decide) (by decide) rfl rfl eW_sheet_32 ?_
            exact v_iret X (pc := 35) h hr eW_sheet_35
set_option maxHeartbeats 4000000 in
set_option maxRecDepth 100000 in
theorem cS_isMissing {f : Nat} {q0 : Nat} {mem : Mem} {o : Int32} {mem' : Mem} (hq0 : q0 < 4) (h : dS_isMissing f q0 mem = some (o, mem')) : RT yS_isMissing prog_3_method_2_code 1 (Option.some Jvm.ClassFile.FieldType.boolean) (rmM 0 0) [aR 8 q0] mem (some (aI o)) mem' := by
  refine RT.of (by decide +kernel) (Nat.le_of_ble_eq_true rfl) (fun p l e s m args below meth c k X hr => ?_)
  replace X : CX p s m args meth c k prog_3_method_2_code 1 "WallShifts$Sheet" := X
  unfold dS_isMissing at h
  refine v_sub (lv' := [(0, _)]) [0] rfl ?_
  refine v_aload_n X (pc := 0) 0 rfl eS_isMissing_0 rfl ?_
  refine v_get X (pc := 1) 0 (a := aI (gI mem 8 q0 0)) (by decide) hq0 rfl rfl rfl in_Sheet (by decide) qw_126 rfl eS_isMissing_1 ?_
  refine v_if_ne X (pc := 4) (tgt := 11) h eS_isMissing_4 (by decide) (fun h => ?_) (fun h => ?_)
  · refine v_iconst X (pc := 7) (v := (1 : Int32)) eS_isMissing_7 (by decide) ?_
    refine v_goto X (pc := 8) (tgt := 12) eS_isMissing_8 (by decide) ?_
    exact v_zret X (pc := 12) h hr rfl eS_isMissing_12
  · refine v_iconst X (pc := 11) (v := (0 : Int32)) eS_isMissing_11 (by decide) ?_
    exact v_zret X (pc := 12) h hr rfl eS_isMissing_12
set_option maxHeartbeats 4000000 in
set_option maxRecDepth 100000 in
theorem cS_put {f : Nat} {q0 : Nat} {a1 : Int32} {a2 : Int64} {mem : Mem} {o : Unit} {mem' : Mem} (hq0 : q0 < 4) (h : dS_put f q0 a1 a2 mem = some (o, mem')) : RT yS_put prog_3_method_4_code 4 (Option.none : Option Jvm.ClassFile.FieldType) (rmM 0 0) [aR 8 q0, aI a1, aL a2] mem none mem' := by
  refine RT.of (by decide +kernel) (Nat.le_of_ble_eq_true rfl) (fun p l e s m args below meth c k X hr => ?_)
  replace X : CX p s m args meth c k prog_3_method_4_code 4 "WallShifts$Sheet" := X
  unfold dS_put at h
  refine v_sub (lv' := [(0, _), (1, _), (2, _)]) [0, 1, 2] rfl ?_
  refine v_aload_n X (pc := 0) 0 rfl eS_put_0 rfl ?_
  refine v_get X (pc := 1) 0 (a := aI (gI mem 8 q0 0)) (by decide) hq0 rfl rfl rfl in_Sheet (by decide) qw_126 rfl eS_put_1 ?_
  refine v_bipush X (pc := 4) (v := (8 : Int32)) eS_put_4 (by decide) ?_
  refine v_icmp_ne X (pc := 6) (tgt := 22) h eS_put_6 (by decide) (fun h => ?_) (fun h => ?_)
  · refine v_aload_n X (pc := 9) 0 rfl eS_put_9 rfl ?_
    refine v_get X (pc := 10) 2 (a := aR 9 q0) (by decide) hq0 rfl rfl rfl in_Sheet (by decide) qw_130 rfl eS_put_10 ?_
    refine v_iload_n X (pc := 13) 1 rfl eS_put_13 rfl ?_
    refine v_lload_n X (pc := 14) 2 rfl eS_put_14 rfl ?_
    refine v_l2i X (pc := 15) eS_put_15 ?_
    refine v_i2b X (pc := 16) eS_put_16 ?_
    refine v_i2l X (pc := 17) eS_put_17 ?_
    refine v_last X (pc := 18) h (by decide) hq0 (fun _ => rfl) eS_put_18 (fun h => ?_)
    refine v_goto X (pc := 19) (tgt := 45) eS_put_19 (by decide) ?_
    exact v_vret X (pc := 45) h hr eS_put_45
  · refine v_aload_n X (pc := 22) 0 rfl eS_put_22 rfl ?_
    refine v_get X (pc := 23) 2 (a := aR 9 q0) (by decide) hq0 rfl rfl rfl in_Sheet (by decide) qw_130 rfl eS_put_23 ?_
    refine v_iload_n X (pc := 26) 1 rfl eS_put_26 rfl ?_
    refine v_aload_n X (pc := 27) 0 rfl eS_put_27 rfl ?_
    refine v_get X (pc := 28) 0 (a := aI (gI mem 8 q0 0)) (by decide) hq0 rfl rfl rfl in_Sheet (by decide) qw_126 rfl eS_put_28 ?_
    refine v_bipush X (pc := 31) (v := (16 : Int32)) eS_put_31 (by decide) ?_
    refine v_icmp_ne X (pc := 33) (tgt := 43) h eS_put_33 (by decide) (fun h => ?_) (fun h => ?_)
    · refine v_lload_n X (pc := 36) 2 rfl eS_put_36 rfl ?_
      refine v_l2i X (pc := 37) eS_put_37 ?_
      refine v_i2s X (pc := 38) eS_put_38 ?_
      refine v_i2l X (pc := 39) eS_put_39 ?_
      refine v_goto X (pc := 40) (tgt := 44) eS_put_40 (by decide) ?_
      refine v_last X (pc := 44) h (by decide) hq0 (fun _ => rfl) eS_put_44 (fun h => ?_)
      exact v_vret X (pc := 45) h hr eS_put_45
    · refine v_lload_n X (pc := 43) 2 rfl eS_put_43 rfl ?_
      refine v_last X (pc := 44) h (by decide) hq0 (fun _ => rfl) eS_put_44 (fun h => ?_)
      exact v_vret X (pc := 45) h hr eS_put_45
set_option maxHeartbeats 4000000 in
set_option maxRecDepth 100000 in
theorem cW_write {f : Nat} {a1 : Int32} {a2 : Int32} {a3 : Int64} {mem : Mem} {o : Int64} {mem' : Mem}  (h : dW_write f a1 a2 a3 mem = some (o, mem')) : RT yW_write prog_1_method_29_code 7 (Option.some Jvm.ClassFile.FieldType.long) (rmM 2 44) [aR 0 0, aI a1, aI a2, aL a3] mem (some (aL o)) mem' := by
  refine RT.of (by decide +kernel) (Nat.le_of_ble_eq_true rfl) (fun p l e s m args below meth c k X hr => ?_)
  replace X : CX p s m args meth c k prog_1_method_29_code 7 "WallShifts" := X
  unfold dW_write at h
  refine v_sub (lv' := [(0, _), (1, _), (2, _), (3, _)]) [0, 1, 2, 3] rfl ?_
  refine v_iload_n X (pc := 0) 1 rfl eW_write_0 rfl ?_
  obtain ⟨r1, m1, hc1, h⟩ := bd_some h
  refine v_callS X (pc := 1) [_] [] ok_S_W_203 (cW_isSheet  hc1) rfl (Nat.le_of_ble_eq_true rfl) ⟨Nat.le_of_ble_eq_true rfl, Nat.le_of_ble_eq_true rfl⟩ ⟨Nat.zero_le _, Nat.zero_le _⟩ eW_write_1 ?_
  refine v_if_ne X (pc := 4) (tgt := 15) h eW_write_4 (by decide) (fun h => ?_) (fun h => ?_)
  · refine v_aload_n X (pc := 7) 0 rfl eW_write_7 rfl ?_
    refine v_ldc X (pc := 8) qw_179 eW_write_8 ?_
    obtain ⟨r2, m2, hc2, h⟩ := bd_some h
    refine v_callV X (pc := 10) [_] [] ok_V_W_52 (cW_finding  hc2) rfl (Nat.le_of_ble_eq_true rfl) ⟨Nat.le_of_ble_eq_true rfl, Nat.le_of_ble_eq_true rfl⟩ ⟨Nat.zero_le _, Nat.zero_le _⟩ (by decide) (by decide) rfl rfl eW_write_10 ?_
    refine v_i2l X (pc := 13) eW_write_13 ?_
    exact v_lret X (pc := 14) h hr eW_write_14
  · refine v_aload_n X (pc := 15) 0 rfl eW_write_15 rfl ?_
    refine v_get X (pc := 16) 5 (a := aR 7 0) (by decide) (by decide) rfl rfl rfl in_WallShifts (by decide) qw_145 rfl eW_write_16 ?_
    refine v_iload_n X (pc := 19) 1 rfl eW_write_19 rfl ?_
    refine v_aaldS X (pc := 20) h (by decide) eW_write_20 (fun hb3 h => ?_)
    obtain ⟨r4, m4, hc4, h⟩ := bd_some h
    refine v_callV X (pc := 21) [] [] ok_V_W_210 (cS_isMissing hb3 hc4) rfl (Nat.le_of_ble_eq_true rfl) ⟨Nat.le_of_ble_eq_true rfl, Nat.le_of_ble_eq_true rfl⟩ ⟨Nat.zero_le _, Nat.zero_le _⟩ (by decide) hb3 rfl rfl eW_write_21 ?_
    refine v_if_eq X (pc := 24) (tgt := 35) h eW_write_24 (by decide) (fun h => ?_) (fun h => ?_)
    · refine v_iload_n X (pc := 35) 2 rfl eW_write_35 rfl ?_
      refine v_iconst X (pc := 36) (v := (0 : Int32)) eW_write_36 (by decide) ?_
      refine v_aload_n X (pc := 37) 0 rfl eW_write_37 rfl ?_
      refine v_get X (pc := 38) 5 (a := aR 7 0) (by decide) (by decide) rfl rfl rfl in_WallShifts (by decide) qw_145 rfl eW_write_38 ?_
      refine v_iload_n X (pc := 41) 1 rfl eW_write_41 rfl ?_
      refine v_aaldS X (pc := 42) h (by decide) eW_write_42 (fun hb5 h => ?_)
      refine v_get X (pc := 43) 1 (a := aI (gI m4 8 a1.toNatClampNeg 1)) (by decide) hb5 rfl rfl rfl in_Sheet (by decide) qw_129 rfl eW_write_43 ?_
      refine v_iconst X (pc := 46) (v := (1 : Int32)) eW_write_46 (by decide) ?_
      refine v_isub X (pc := 47) eW_write_47 ?_
      obtain ⟨r6, m6, hc6, h⟩ := bd_some h
      refine v_callS X (pc := 48) [_, _, _] [] ok_S_W_82 (cW_isIn  hc6) rfl (Nat.le_of_ble_eq_true rfl) ⟨Nat.le_of_ble_eq_true rfl, Nat.le_of_ble_eq_true rfl⟩ ⟨Nat.zero_le _, Nat.zero_le _⟩ eW_write_48 ?_
      refine v_if_ne X (pc := 51) (tgt := 62) h eW_write_51 (by decide) (fun h => ?_) (fun h => ?_)
      · refine v_aload_n X (pc := 54) 0 rfl eW_write_54 rfl ?_
        refine v_ldc X (pc := 55) qw_179 eW_write_55 ?_
        obtain ⟨r7, m7, hc7, h⟩ := bd_some h
        refine v_callV X (pc := 57) [_] [] ok_V_W_52 (cW_finding  hc7) rfl (Nat.le_of_ble_eq_true rfl) ⟨Nat.le_of_ble_eq_true rfl, Nat.le_of_ble_eq_true rfl⟩ ⟨Nat.zero_le _, Nat.zero_le _⟩ (by decide) (by decide) rfl rfl eW_write_57 ?_
        refine v_i2l X (pc := 60) eW_write_60 ?_
        exact v_lret X (pc := 61) h hr eW_write_61
      · refine v_aload_n X (pc := 62) 0 rfl eW_write_62 rfl ?_
        refine v_get X (pc := 63) 5 (a := aR 7 0) (by decide) (by decide) rfl rfl rfl in_WallShifts (by decide) qw_145 rfl eW_write_63 ?_
        refine v_iload_n X (pc := 66) 1 rfl eW_write_66 rfl ?_
        refine v_aaldS X (pc := 67) h (by decide) eW_write_67 (fun hb8 h => ?_)
        refine v_get X (pc := 68) 2 (a := aR 9 a1.toNatClampNeg) (by decide) hb8 rfl rfl rfl in_Sheet (by decide) qw_131 rfl eW_write_68 ?_
        refine v_iload_n X (pc := 71) 2 rfl eW_write_71 rfl ?_
        refine v_lald X (pc := 72) h (by decide) hb8 rfl eW_write_72 (fun h => ?_)
        refine v_lstore X (pc := 73) (lv' := [(5, _), (0, _), (1, _), (2, _), (3, _)]) eW_write_73 (Nat.le_of_ble_eq_true rfl) rfl ?_
        refine v_aload_n X (pc := 75) 1 rfl eW_write_75 rfl ?_
        refine v_get X (pc := 76) 5 (a := aR 7 0) (by decide) (by decide) rfl rfl rfl in_WallShifts (by decide) qw_145 rfl eW_write_76 ?_
        refine v_iload_n X (pc := 79) 2 rfl eW_write_79 rfl ?_
        refine v_aaldS X (pc := 80) h (by decide) eW_write_80 (fun hb9 h => ?_)
        refine v_iload_n X (pc := 81) 3 rfl eW_write_81 rfl ?_
        refine v_lload_n X (pc := 82) 4 rfl eW_write_82 rfl ?_
        obtain ⟨r10, m10, hc10, h⟩ := bd_some h
        refine v_callV X (pc := 83) [_, _] [] ok_V_W_219 (cS_put hb9 hc10) rfl (Nat.le_of_ble_eq_true rfl) ⟨Nat.le_of_ble_eq_true rfl, Nat.le_of_ble_eq_true rfl⟩ ⟨Nat.zero_le _, Nat.zero_le _⟩ (by decide) hb9 rfl rfl eW_write_83 ?_
        refine v_lload X (pc := 86) 0 rfl eW_write_86 ?_
        exact v_lret X (pc := 88) h hr eW_write_88
    · refine v_aload_n X (pc := 27) 0 rfl eW_write_27 rfl ?_
      refine v_ldc X (pc := 28) qw_580 eW_write_28 ?_
      obtain ⟨r11, m11, hc11, h⟩ := bd_some h
      refine v_callV X (pc := 30) [_] [] ok_V_W_52 (cW_finding  hc11) rfl (Nat.le_of_ble_eq_true rfl) ⟨Nat.le_of_ble_eq_true rfl, Nat.le_of_ble_eq_true rfl⟩ ⟨Nat.zero_le _, Nat.zero_le _⟩ (by decide) (by decide) rfl rfl eW_write_30 ?_
      refine v_i2l X (pc := 33) eW_write_33 ?_
      exact v_lret X (pc := 34) h hr eW_write_34
set_option maxHeartbeats 4000000 in
set_option maxRecDepth 100000 in
theorem cS_hasPart {f : Nat} {q0 : Nat} {a1 : Int32} {a2 : Int32} {mem : Mem} {o : Int32} {mem' : Mem} (hq0 : q0 < 4) (h : dS_hasPart f q0 a1 a2 mem = some (o, mem')) : RT yS_hasPart prog_3_method_5_code 3 (Option.some Jvm.ClassFile.FieldType.boolean) (rmM 0 0) [aR 8 q0, aI a1, aI a2] mem (some (aI o)) mem' := by
  refine RT.of (by decide +kernel) (Nat.le_of_ble_eq_true rfl) (fun p l e s m args below meth c k X hr => ?_)
  replace X : CX p s m args meth c k prog_3_method_5_code 3 "WallShifts$Sheet" := X
  unfold dS_hasPart at h
  refine v_sub (lv' := [(0, _), (1, _), (2, _)]) [0, 1, 2] rfl ?_
  refine v_iload_n X (pc := 0) 1 rfl eS_hasPart_0 rfl ?_
  refine v_if_lt X (pc := 1) (tgt := 22) h eS_hasPart_1 (by decide) (fun h => ?_) (fun h => ?_)
  · refine v_iconst X (pc := 22) (v := (0 : Int32)) eS_hasPart_22 (by decide) ?_
    exact v_zret X (pc := 23) h hr rfl eS_hasPart_23
  · refine v_iload_n X (pc := 4) 2 rfl eS_hasPart_4 rfl ?_
    refine v_if_lt X (pc := 5) (tgt := 22) h eS_hasPart_5 (by decide) (fun h => ?_) (fun h => ?_)
    · refine v_iconst X (pc := 22) (v := (0 : Int32)) eS_hasPart_22 (by decide) ?_
      exact v_zret X (pc := 23) h hr rfl eS_hasPart_23
    · refine v_iload_n X (pc := 8) 1 rfl eS_hasPart_8 rfl ?_
      refine v_aload_n X (pc := 9) 0 rfl eS_hasPart_9 rfl ?_
      refine v_get X (pc := 10) 1 (a := aI (gI mem 8 q0 1)) (by decide) hq0 rfl rfl rfl in_Sheet (by decide) qw_128 rfl eS_hasPart_10 ?_
      refine v_iload_n X (pc := 13) 2 rfl eS_hasPart_13 rfl ?_
      refine v_isub X (pc := 14) eS_hasPart_14 ?_
      refine v_icmp_gt X (pc := 15) (tgt := 22) h eS_hasPart_15 (by decide) (fun h => ?_) (fun h => ?_)
      · refine v_iconst X (pc := 22) (v := (0 : Int32)) eS_hasPart_22 (by decide) ?_
        exact v_zret X (pc := 23) h hr rfl eS_hasPart_23
      · refine v_iconst X (pc := 18) (v := (1 : Int32)) eS_hasPart_18 (by decide) ?_
        refine v_goto X (pc := 19) (tgt := 23) eS_hasPart_19 (by decide) ?_
        exact v_zret X (pc := 23) h hr rfl eS_hasPart_23
set_option maxHeartbeats 4000000 in
set_option maxRecDepth 100000 in
theorem cW_copy {f : Nat} {a1 : Int32} {a2 : Int32} {a3 : Int32} {a4 : Int32} {a5 : Int32} {mem : Mem} {o : Int32} {mem' : Mem}  (h : dW_copy f a1 a2 a3 a4 a5 mem = some (o, mem')) : RT yW_copy prog_1_method_30_code 8 (Option.some Jvm.ClassFile.FieldType.int) (rmM 2 60) [aR 0 0, aI a1, aI a2, aI a3, aI a4, aI a5] mem (some (aI o)) mem' := by
  refine RT.of (by decide +kernel) (Nat.le_of_ble_eq_true rfl) (fun p l e s m args below meth c k X hr => ?_)
  replace X : CX p s m args meth c k prog_1_method_30_code 8 "WallShifts" := X
  unfold dW_copy at h
  refine v_sub (lv' := [(0, _), (1, _), (2, _), (3, _), (4, _), (5, _)]) [0, 1, 2, 3, 4, 5] rfl ?_
  refine v_iload_n X (pc := 0) 1 rfl eW_copy_0 rfl ?_
  obtain ⟨r1, m1, hc1, h⟩ := bd_some h
  refine v_callS X (pc := 1) [_] [] ok_S_W_203 (cW_isSheet  hc1) rfl (Nat.le_of_ble_eq_true rfl) ⟨Nat.le_of_ble_eq_true rfl, Nat.le_of_ble_eq_true rfl⟩ ⟨Nat.zero_le _, Nat.zero_le _⟩ eW_copy_1 ?_
  refine v_if_eq X (pc := 4) (tgt := 14) h eW_copy_4 (by decide) (fun h => ?_) (fun h => ?_)
  · refine v_aload_n X (pc := 14) 0 rfl eW_copy_14 rfl ?_
    refine v_ldc X (pc := 15) qw_179 eW_copy_15 ?_
    obtain ⟨r2, m2, hc2, h⟩ := bd_some h
    refine v_callV X (pc := 17) [_] [] ok_V_W_52 (cW_finding  hc2) rfl (Nat.le_of_ble_eq_true rfl) ⟨Nat.le_of_ble_eq_true rfl, Nat.le_of_ble_eq_true rfl⟩ ⟨Nat.zero_le _, Nat.zero_le _⟩ (by decide) (by decide) rfl rfl eW_copy_17 ?_
    exact v_iret X (pc := 20) h hr eW_copy_20
  · refine v_iload_n X (pc := 7) 3 rfl eW_copy_7 rfl ?_
    obtain ⟨r3, m3, hc3, h⟩ := bd_some h
    refine v_callS X (pc := 8) [_] [] ok_S_W_203 (cW_isSheet  hc3) rfl (Nat.le_of_ble_eq_true rfl) ⟨Nat.le_of_ble_eq_true rfl, Nat.le_of_ble_eq_true rfl⟩ ⟨Nat.zero_le _, Nat.zero_le _⟩ eW_copy_8 ?_
    refine v_if_ne X (pc := 11) (tgt := 21) h eW_copy_11 (by decide) (fun h => ?_) (fun h => ?_)
    · refine v_aload_n X (pc := 14) 0 rfl eW_copy_14 rfl ?_
      refine v_ldc X (pc := 15) qw_179 eW_copy_15 ?_
      obtain ⟨r4, m4, hc4, h⟩ := bd_some h
      refine v_callV X (pc := 17) [_] [] ok_V_W_52 (cW_finding  hc4) rfl (Nat.le_of_ble_eq_true rfl) ⟨Nat.le_of_ble_eq_true rfl, Nat.le_of_ble_eq_true rfl⟩ ⟨Nat.zero_le _, Nat.zero_le _⟩ (by decide) (by decide) rfl rfl eW_copy_17 ?_
      exact v_iret X (pc := 20) h hr eW_copy_20
    · refine v_aload_n X (pc := 21) 0 rfl eW_copy_21 rfl ?_
      refine v_get X (pc := 22) 5 (a := aR 7 0) (by decide) (by decide) rfl rfl rfl in_WallShifts (by decide) qw_145 rfl eW_copy_22 ?_
      refine v_iload_n X (pc := 25) 1 rfl eW_copy_25 rfl ?_
      refine v_aaldS X (pc := 26) h (by decide) eW_copy_26 (fun hb5 h => ?_)
      refine v_astore X (pc := 27) (lv' := [(6, _), (0, _), (1, _), (2, _), (3, _), (4, _), (5, _)]) eW_copy_27 (Nat.le_of_ble_eq_true rfl) rfl ?_
      refine v_aload_n X (pc := 29) 1 rfl eW_copy_29 rfl ?_
      refine v_get X (pc := 30) 5 (a := aR 7 0) (by decide) (by decide) rfl rfl rfl in_WallShifts (by decide) qw_145 rfl eW_copy_30 ?_
      refine v_iload_n X (pc := 33) 4 rfl eW_copy_33 rfl ?_
      refine v_aaldS X (pc := 34) h (by decide) eW_copy_34 (fun hb6 h => ?_)
      refine v_astore X (pc := 35) (lv' := [(7, _), (6, _), (0, _), (1, _), (2, _), (3, _), (4, _), (5, _)]) eW_copy_35 (Nat.le_of_ble_eq_true rfl) rfl ?_
      refine v_aload X (pc := 37) 1 rfl eW_copy_37 ?_
      obtain ⟨r7, m7, hc7, h⟩ := bd_some h
      refine v_callV X (pc := 39) [] [] ok_V_W_210 (cS_isMissing hb5 hc7) rfl (Nat.le_of_ble_eq_true rfl) ⟨Nat.le_of_ble_eq_true rfl, Nat.le_of_ble_eq_true rfl⟩ ⟨Nat.zero_le _, Nat.zero_le _⟩ (by decide) hb5 rfl rfl eW_copy_39 ?_
      refine v_if_ne X (pc := 42) (tgt := 53) h eW_copy_42 (by decide) (fun h => ?_) (fun h => ?_)
      · refine v_aload X (pc := 45) 0 rfl eW_copy_45 ?_
        obtain ⟨r8, m8, hc8, h⟩ := bd_some h
        refine v_callV X (pc := 47) [] [] ok_V_W_210 (cS_isMissing hb6 hc8) rfl (Nat.le_of_ble_eq_true rfl) ⟨Nat.le_of_ble_eq_true rfl, Nat.le_of_ble_eq_true rfl⟩ ⟨Nat.zero_le _, Nat.zero_le _⟩ (by decide) hb6 rfl rfl eW_copy_47 ?_
        refine v_if_eq X (pc := 50) (tgt := 60) h eW_copy_50 (by decide) (fun h => ?_) (fun h => ?_)
        · refine v_aload X (pc := 60) 1 rfl eW_copy_60 ?_
          refine v_get X (pc := 62) 0 (a := aI (gI m8 8 a1.toNatClampNeg 0)) (by decide) hb5 rfl rfl rfl in_Sheet (by decide) qw_127 rfl eW_copy_62 ?_
          refine v_aload X (pc := 65) 0 rfl eW_copy_65 ?_
          refine v_get X (pc := 67) 0 (a := aI (gI m8 8 a3.toNatClampNeg 0)) (by decide) hb6 rfl rfl rfl in_Sheet (by decide) qw_127 rfl eW_copy_67 ?_
          refine v_icmp_eq X (pc := 70) (tgt := 80) h eW_copy_70 (by decide) (fun h => ?_) (fun h => ?_)
          · refine v_aload X (pc := 80) 1 rfl eW_copy_80 ?_
            refine v_iload_n X (pc := 82) 4 rfl eW_copy_82 rfl ?_
            refine v_iload X (pc := 83) 7 rfl eW_copy_83 ?_
            obtain ⟨r9, m9, hc9, h⟩ := bd_some h
            refine v_callV X (pc := 85) [_, _] [] ok_V_W_226 (cS_hasPart hb5 hc9) rfl (Nat.le_of_ble_eq_true rfl) ⟨Nat.le_of_ble_eq_true rfl, Nat.le_of_ble_eq_true rfl⟩ ⟨Nat.zero_le _, Nat.zero_le _⟩ (by decide) hb5 rfl rfl eW_copy_85 ?_
            refine v_if_eq X (pc := 88) (tgt := 103) h eW_copy_88 (by decide) (fun h => ?_) (fun h => ?_)
            · refine v_aload_n X (pc := 103) 2 rfl eW_copy_103 rfl ?_
              refine v_ldc X (pc := 104) qw_179 eW_copy_104 ?_
              obtain ⟨r10, m10, hc10, h⟩ := bd_some h
              refine v_callV X (pc := 106) [_] [] ok_V_W_52 (cW_finding  hc10) rfl (Nat.le_of_ble_eq_true rfl) ⟨Nat.le_of_ble_eq_true rfl, Nat.le_of_ble_eq_true rfl⟩ ⟨Nat.zero_le _, Nat.zero_le _⟩ (by decide) (by decide) rfl rfl eW_copy_106 ?_
              exact v_iret X (pc := 109) h hr eW_copy_109
            · refine v_aload X (pc := 91) 0 rfl eW_copy_91 ?_
              refine v_iload X (pc := 93) 6 rfl eW_copy_93 ?_
              refine v_iload X (pc := 95) 7 rfl eW_copy_95 ?_
              obtain ⟨r11, m11, hc11, h⟩ := bd_some h
              refine v_callV X (pc := 97) [_, _] [] ok_V_W_226 (cS_hasPart hb6 hc11) rfl (Nat.le_of_ble_eq_true rfl) ⟨Nat.le_of_ble_eq_true rfl, Nat.le_of_ble_eq_true rfl⟩ ⟨Nat.zero_le _, Nat.zero_le _⟩ (by decide) hb6 rfl rfl eW_copy_97 ?_
              refine v_if_ne X (pc := 100) (tgt := 110) h eW_copy_100 (by decide) (fun h => ?_) (fun h => ?_)
              · refine v_aload_n X (pc := 103) 2 rfl eW_copy_103 rfl ?_
                refine v_ldc X (pc := 104) qw_179 eW_copy_104 ?_
                obtain ⟨r12, m12, hc12, h⟩ := bd_some h
                refine v_callV X (pc := 106) [_] [] ok_V_W_52 (cW_finding  hc12) rfl (Nat.le_of_ble_eq_true rfl) ⟨Nat.le_of_ble_eq_true rfl, Nat.le_of_ble_eq_true rfl⟩ ⟨Nat.zero_le _, Nat.zero_le _⟩ (by decide) (by decide) rfl rfl eW_copy_106 ?_
                exact v_iret X (pc := 109) h hr eW_copy_109
              · refine v_aload X (pc := 110) 1 rfl eW_copy_110 ?_
                refine v_get X (pc := 112) 2 (a := aR 9 a1.toNatClampNeg) (by decide) hb5 rfl rfl rfl in_Sheet (by decide) qw_131 rfl eW_copy_112 ?_
                refine v_iload_n X (pc := 115) 4 rfl eW_copy_115 rfl ?_
                refine v_aload X (pc := 116) 0 rfl eW_copy_116 ?_
                refine v_get X (pc := 118) 2 (a := aR 9 a3.toNatClampNeg) (by decide) hb6 rfl rfl rfl in_Sheet (by decide) qw_131 rfl eW_copy_118 ?_
                refine v_iload X (pc := 121) 6 rfl eW_copy_121 ?_
                refine v_iload X (pc := 123) 7 rfl eW_copy_123 ?_
                refine v_copyL X (pc := 125) h okC_W_229 (by decide) hb5 (by decide) hb6 rfl (fun _ => rfl) [] (Nat.le_of_ble_eq_true rfl) (Nat.le_of_ble_eq_true rfl) eW_copy_125 (fun h => ?_)
                refine v_iload X (pc := 128) 7 rfl eW_copy_128 ?_
                exact v_iret X (pc := 130) h hr eW_copy_130
          · refine v_aload_n X (pc := 73) 2 rfl eW_copy_73 rfl ?_
            refine v_ldc X (pc := 74) qw_259 eW_copy_74 ?_
            obtain ⟨r13, m13, hc13, h⟩ := bd_some h
            refine v_callV X (pc := 76) [_] [] ok_V_W_52 (cW_finding  hc13) rfl (Nat.le_of_ble_eq_true rfl) ⟨Nat.le_of_ble_eq_true rfl, Nat.le_of_ble_eq_true rfl⟩ ⟨Nat.zero_le _, Nat.zero_le _⟩ (by decide) (by decide) rfl rfl eW_copy_76 ?_
            exact v_iret X (pc := 79) h hr eW_copy_79
        · refine v_aload_n X (pc := 53) 2 rfl eW_copy_53 rfl ?_
          refine v_ldc X (pc := 54) qw_580 eW_copy_54 ?_
          obtain ⟨r14, m14, hc14, h⟩ := bd_some h
          refine v_callV X (pc := 56) [_] [] ok_V_W_52 (cW_finding  hc14) rfl (Nat.le_of_ble_eq_true rfl) ⟨Nat.le_of_ble_eq_true rfl, Nat.le_of_ble_eq_true rfl⟩ ⟨Nat.zero_le _, Nat.zero_le _⟩ (by decide) (by decide) rfl rfl eW_copy_56 ?_
          exact v_iret X (pc := 59) h hr eW_copy_59
      · refine v_aload_n X (pc := 53) 2 rfl eW_copy_53 rfl ?_
        refine v_ldc X (pc := 54) qw_580 eW_copy_54 ?_
        obtain ⟨r15, m15, hc15, h⟩ := bd_some h
        refine v_callV X (pc := 56) [_] [] ok_V_W_52 (cW_finding  hc15) rfl (Nat.le_of_ble_eq_true rfl) ⟨Nat.le_of_ble_eq_true rfl, Nat.le_of_ble_eq_true rfl⟩ ⟨Nat.zero_le _, Nat.zero_le _⟩ (by decide) (by decide) rfl rfl eW_copy_56 ?_
        exact v_iret X (pc := 59) h hr eW_copy_59
set_option maxHeartbeats 4000000 in
set_option maxRecDepth 100000 in
theorem cW_lays_40 {p : Program} {l : Launch} {e : Env} {s : State} {m : MethodId} {args : Array Value} {below : List Frame} {meth : Method} {c : Code} {k : KK} {f : Nat} {o : Int32} {mem' : Mem} (X : CX p s m args meth c k prog_1_method_31_code 7 "WallShifts") (hr : meth.sig.returnType = (Option.some Jvm.ClassFile.FieldType.int)) : ∀ (n : Nat) (q2 : Nat) (x3 : Int32) (x4 : Int32) (mem : Mem), q2 < 4 → dW_lays_40 f n q2 x3 x4 mem = some (o, mem') → V p l e (rmM 2 44) s m args below meth c 0 0 (MQ below (RQc k (some (aI o)) mem') args s 0 0 (kA k)) k 7 mem 40 [(0, aR 0 0), (2, aR 8 q2), (3, aI x3), (4, aI x4)] [] := by
  intro n
  induction n with
  | zero =>
    intro q2 x3 x4 mem hq2 h
    exact nomatch (show (none : Option (Int32 × Mem)) = some _ from h)
  | succ n ih =>
    intro q2 x3 x4 mem hq2 h
    rw [dW_lays_40] at h
    refine v_iload X (pc := 40) 3 rfl eW_lays_40 ?_
    refine v_aload_n X (pc := 42) 1 rfl eW_lays_42 rfl ?_
    refine v_get X (pc := 43) 1 (a := aI (gI mem 8 q2 1)) (by decide) hq2 rfl rfl rfl in_Sheet (by decide) qw_129 rfl eW_lays_43 ?_
    refine v_icmp_ge X (pc := 46) (tgt := 109) h eW_lays_46 (by decide) (fun h => ?_) (fun h => ?_)
    · refine v_iload X (pc := 49) 3 rfl eW_lays_49 ?_
      refine v_aload_n X (pc := 51) 0 rfl eW_lays_51 rfl ?_
      refine v_get X (pc := 52) 0 (a := aR 1 0) (by decide) (by decide) rfl rfl rfl in_WallShifts (by decide) qw_140 rfl eW_lays_52 ?_
      refine v_get X (pc := 55) 2 (a := aI (gI mem 1 0 2)) (by decide) (by decide) rfl rfl rfl in_Palace (by decide) qw_76 rfl eW_lays_55 ?_
      refine v_icmp_ge X (pc := 58) (tgt := 109) h eW_lays_58 (by decide) (fun h => ?_) (fun h => ?_)
      · refine v_aload_n X (pc := 61) 1 rfl eW_lays_61 rfl ?_
        refine v_get X (pc := 62) 2 (a := aR 9 q2) (by decide) hq2 rfl rfl rfl in_Sheet (by decide) qw_131 rfl eW_lays_62 ?_
        refine v_iload X (pc := 65) 3 rfl eW_lays_65 ?_
        refine v_lald X (pc := 67) h (by decide) hq2 rfl eW_lays_67 (fun h => ?_)
        refine v_lstore X (pc := 68) (lv' := [(5, _), (0, _), (2, _), (3, _), (4, _)]) eW_lays_68 (Nat.le_of_ble_eq_true rfl) rfl ?_
        refine v_lload X (pc := 70) 0 rfl eW_lays_70 ?_
        refine v_lconst X (pc := 72) (v := (0 : Int64)) eW_lays_72 (by decide) ?_
        refine v_lcmp X (pc := 73) eW_lays_73 ?_
        refine v_if_lt X (pc := 74) (tgt := 103) h eW_lays_74 (by decide) (fun h => ?_) (fun h => ?_)
        · refine v_iinc X (pc := 103) (v := (x4 + (1 : Int32))) (lv' := [(4, _), (5, _), (0, _), (2, _), (3, _)]) 4 rfl (by rfl) eW_lays_103 (Nat.le_of_ble_eq_true rfl) rfl ?_
          refine v_goto X (pc := 106) (tgt := 40) eW_lays_106 (by decide) ?_
          exact v_sub [2, 3, 4, 0] rfl (ih _ _ _ _ hq2 h)
        · refine v_lload X (pc := 77) 0 rfl eW_lays_77 ?_
          refine v_ldc2 X (pc := 79) qw_598 eW_lays_79 ?_
          refine v_lcmp X (pc := 82) eW_lays_82 ?_
          refine v_if_gt X (pc := 83) (tgt := 103) h eW_lays_83 (by decide) (fun h => ?_) (fun h => ?_)
          · refine v_iinc X (pc := 103) (v := (x4 + (1 : Int32))) (lv' := [(4, _), (5, _), (0, _), (2, _), (3, _)]) 4 rfl (by rfl) eW_lays_103 (Nat.le_of_ble_eq_true rfl) rfl ?_
            refine v_goto X (pc := 106) (tgt := 40) eW_lays_106 (by decide) ?_
            exact v_sub [2, 3, 4, 0] rfl (ih _ _ _ _ hq2 h)
          · refine v_aload_n X (pc := 86) 1 rfl eW_lays_86 rfl ?_
            refine v_get X (pc := 87) 0 (a := aR 1 0) (by decide) (by decide) rfl rfl rfl in_WallShifts (by decide) qw_140 rfl eW_lays_87 ?_
            refine v_iload X (pc := 90) 4 rfl eW_lays_90 ?_
            refine v_iconst X (pc := 92) (v := (4 : Int32)) eW_lays_92 (by decide) ?_
            refine v_lload X (pc := 93) 0 rfl eW_lays_93 ?_
            refine v_l2i X (pc := 95) eW_lays_95 ?_
            obtain ⟨r1, m1, hc1, h⟩ := bd_some h
            refine v_callV X (pc := 96) [_, _, _] [] ok_V_W_103 (cP_replace (by decide) hc1) rfl (Nat.le_of_ble_eq_true rfl) ⟨Nat.le_of_ble_eq_true rfl, Nat.le_of_ble_eq_true rfl⟩ ⟨Nat.zero_le _, Nat.zero_le _⟩ (by decide) (by decide) rfl rfl eW_lays_96 ?_
            refine v_pop X (pc := 99) rfl eW_lays_99 ?_
            refine v_iinc X (pc := 100) (v := (x3 + (1 : Int32))) (lv' := [(3, _), (5, _), (0, _), (2, _), (4, _)]) 3 rfl (by rfl) eW_lays_100 (Nat.le_of_ble_eq_true rfl) rfl ?_
            refine v_iinc X (pc := 103) (v := (x4 + (1 : Int32))) (lv' := [(4, _), (3, _), (5, _), (0, _), (2, _)]) 4 rfl (by rfl) eW_lays_103 (Nat.le_of_ble_eq_true rfl) rfl ?_
            refine v_goto X (pc := 106) (tgt := 40) eW_lays_106 (by decide) ?_
            exact v_sub [3, 4, 1, 0] rfl (ih _ _ _ _ hq2 h)
      · refine v_iload_n X (pc := 109) 2 rfl eW_lays_109 rfl ?_
        exact v_iret X (pc := 110) h hr eW_lays_110
    · refine v_iload_n X (pc := 109) 2 rfl eW_lays_109 rfl ?_
      exact v_iret X (pc := 110) h hr eW_lays_110
set_option maxHeartbeats 4000000 in
set_option maxRecDepth 100000 in
theorem cW_lays {f : Nat} {a1 : Int32} {mem : Mem} {o : Int32} {mem' : Mem}  (h : dW_lays f a1 mem = some (o, mem')) : RT yW_lays prog_1_method_31_code 7 (Option.some Jvm.ClassFile.FieldType.int) (rmM 2 44) [aR 0 0, aI a1] mem (some (aI o)) mem' := by
  refine RT.of (by decide +kernel) (Nat.le_of_ble_eq_true rfl) (fun p l e s m args below meth c k X hr => ?_)
  replace X : CX p s m args meth c k prog_1_method_31_code 7 "WallShifts" := X
  unfold dW_lays at h
  refine v_sub (lv' := [(0, _), (1, _)]) [0, 1] rfl ?_
  refine v_iload_n X (pc := 0) 1 rfl eW_lays_0 rfl ?_
  obtain ⟨r1, m1, hc1, h⟩ := bd_some h
  refine v_callS X (pc := 1) [_] [] ok_S_W_203 (cW_isSheet  hc1) rfl (Nat.le_of_ble_eq_true rfl) ⟨Nat.le_of_ble_eq_true rfl, Nat.le_of_ble_eq_true rfl⟩ ⟨Nat.zero_le _, Nat.zero_le _⟩ eW_lays_1 ?_
  refine v_if_ne X (pc := 4) (tgt := 14) h eW_lays_4 (by decide) (fun h => ?_) (fun h => ?_)
  · refine v_aload_n X (pc := 7) 0 rfl eW_lays_7 rfl ?_
    refine v_ldc X (pc := 8) qw_179 eW_lays_8 ?_
    obtain ⟨r2, m2, hc2, h⟩ := bd_some h
    refine v_callV X (pc := 10) [_] [] ok_V_W_52 (cW_finding  hc2) rfl (Nat.le_of_ble_eq_true rfl) ⟨Nat.le_of_ble_eq_true rfl, Nat.le_of_ble_eq_true rfl⟩ ⟨Nat.zero_le _, Nat.zero_le _⟩ (by decide) (by decide) rfl rfl eW_lays_10 ?_
    exact v_iret X (pc := 13) h hr eW_lays_13
  · refine v_aload_n X (pc := 14) 0 rfl eW_lays_14 rfl ?_
    refine v_get X (pc := 15) 5 (a := aR 7 0) (by decide) (by decide) rfl rfl rfl in_WallShifts (by decide) qw_145 rfl eW_lays_15 ?_
    refine v_iload_n X (pc := 18) 1 rfl eW_lays_18 rfl ?_
    refine v_aaldS X (pc := 19) h (by decide) eW_lays_19 (fun hb3 h => ?_)
    refine v_astore_n X (pc := 20) (lv' := [(2, _), (0, _), (1, _)]) eW_lays_20 rfl (Nat.le_of_ble_eq_true rfl) rfl ?_
    refine v_aload_n X (pc := 21) 0 rfl eW_lays_21 rfl ?_
    obtain ⟨r4, m4, hc4, h⟩ := bd_some h
    refine v_callV X (pc := 22) [] [] ok_V_W_210 (cS_isMissing hb3 hc4) rfl (Nat.le_of_ble_eq_true rfl) ⟨Nat.le_of_ble_eq_true rfl, Nat.le_of_ble_eq_true rfl⟩ ⟨Nat.zero_le _, Nat.zero_le _⟩ (by decide) hb3 rfl rfl eW_lays_22 ?_
    refine v_if_eq X (pc := 25) (tgt := 35) h eW_lays_25 (by decide) (fun h => ?_) (fun h => ?_)
    · refine v_iconst X (pc := 35) (v := (0 : Int32)) eW_lays_35 (by decide) ?_
      refine v_istore_n X (pc := 36) (lv' := [(3, _), (2, _), (0, _), (1, _)]) eW_lays_36 rfl (Nat.le_of_ble_eq_true rfl) rfl ?_
      refine v_iconst X (pc := 37) (v := (0 : Int32)) eW_lays_37 (by decide) ?_
      refine v_istore X (pc := 38) (lv' := [(4, _), (3, _), (2, _), (0, _), (1, _)]) eW_lays_38 (Nat.le_of_ble_eq_true rfl) rfl ?_
      exact v_sub [3, 2, 1, 0] rfl (cW_lays_40 X hr _ _ _ _ _ hb3 h)
    · refine v_aload_n X (pc := 28) 1 rfl eW_lays_28 rfl ?_
      refine v_ldc X (pc := 29) qw_580 eW_lays_29 ?_
      obtain ⟨r5, m5, hc5, h⟩ := bd_some h
      refine v_callV X (pc := 31) [_] [] ok_V_W_52 (cW_finding  hc5) rfl (Nat.le_of_ble_eq_true rfl) ⟨Nat.le_of_ble_eq_true rfl, Nat.le_of_ble_eq_true rfl⟩ ⟨Nat.zero_le _, Nat.zero_le _⟩ (by decide) (by decide) rfl rfl eW_lays_31 ?_
      exact v_iret X (pc := 34) h hr eW_lays_34
set_option maxHeartbeats 4000000 in
set_option maxRecDepth 100000 in
theorem cW_book_53 {p : Program} {l : Launch} {e : Env} {s : State} {m : MethodId} {args : Array Value} {below : List Frame} {meth : Method} {c : Code} {k : KK} {f : Nat} {o : Int32} {mem' : Mem} (X : CX p s m args meth c k prog_1_method_32_code 5 "WallShifts") (hr : meth.sig.returnType = (Option.some Jvm.ClassFile.FieldType.int)) : ∀ (n : Nat) (x2 : Int32) (q3 : Nat) (x4 : Int32) (mem : Mem), q3 < 4 → dW_book_53 f n x2 q3 x4 mem = some (o, mem') → V p l e (rmM 3 75) s m args below meth c 0 0 (MQ below (RQc k (some (aI o)) mem') args s 0 0 (kA k)) k 5 mem 53 [(0, aR 0 0), (2, aI x2), (3, aR 8 q3), (4, aI x4)] [] := by
  intro n
  induction n with
  | zero =>
    intro x2 q3 x4 mem hq3 h
    exact nomatch (show (none : Option (Int32 × Mem)) = some _ from h)
  | succ n ih =>
    intro x2 q3 x4 mem hq3 h
    rw [dW_book_53] at h
    refine v_iload X (pc := 53) 3 rfl eW_book_53 ?_
    refine v_aload_n X (pc := 55) 2 rfl eW_book_55 rfl ?_
    refine v_get X (pc := 56) 1 (a := aI (gI mem 8 q3 1)) (by decide) hq3 rfl rfl rfl in_Sheet (by decide) qw_129 rfl eW_book_56 ?_
    refine v_icmp_ge X (pc := 59) (tgt := 100) h eW_book_59 (by decide) (fun h => ?_) (fun h => ?_)
    · refine v_aload_n X (pc := 62) 2 rfl eW_book_62 rfl ?_
      refine v_iload X (pc := 63) 3 rfl eW_book_63 ?_
      refine v_aload_n X (pc := 65) 0 rfl eW_book_65 rfl ?_
      refine v_get X (pc := 66) 0 (a := aR 1 0) (by decide) (by decide) rfl rfl rfl in_WallShifts (by decide) qw_140 rfl eW_book_66 ?_
      refine v_iload_n X (pc := 69) 1 rfl eW_book_69 rfl ?_
      refine v_aload_n X (pc := 70) 0 rfl eW_book_70 rfl ?_
      refine v_get X (pc := 71) 0 (a := aR 1 0) (by decide) (by decide) rfl rfl rfl in_WallShifts (by decide) qw_140 rfl eW_book_71 ?_
      refine v_get X (pc := 74) 0 (a := aI (gI mem 1 0 0)) (by decide) (by decide) rfl rfl rfl in_Palace (by decide) qw_71 rfl eW_book_74 ?_
      refine v_iload X (pc := 77) 3 rfl eW_book_77 ?_
      refine v_iadd X (pc := 79) eW_book_79 ?_
      obtain ⟨r1, m1, hc1, h⟩ := bd_some h
      refine v_callV X (pc := 80) [_, _] [_, _] ok_V_W_90 (cP_dutyOf (by decide) hc1) rfl (Nat.le_of_ble_eq_true rfl) ⟨Nat.le_of_ble_eq_true rfl, Nat.le_of_ble_eq_true rfl⟩ ⟨Nat.zero_le _, Nat.zero_le _⟩ (by decide) (by decide) rfl rfl eW_book_80 ?_
      refine v_if_eq X (pc := 83) (tgt := 90) h eW_book_83 (by decide) (fun h => ?_) (fun h => ?_)
      · refine v_lconst X (pc := 90) (v := (0 : Int64)) eW_book_90 (by decide) ?_
        obtain ⟨r2, m2, hc2, h⟩ := bd_some h
        refine v_callV X (pc := 91) [_, _] [] ok_V_W_219 (cS_put hq3 hc2) rfl (Nat.le_of_ble_eq_true rfl) ⟨Nat.le_of_ble_eq_true rfl, Nat.le_of_ble_eq_true rfl⟩ ⟨Nat.zero_le _, Nat.zero_le _⟩ (by decide) hq3 rfl rfl eW_book_91 ?_
        refine v_iinc X (pc := 94) (v := (x4 + (1 : Int32))) (lv' := [(4, _), (0, _), (2, _), (3, _)]) 3 rfl (by rfl) eW_book_94 (Nat.le_of_ble_eq_true rfl) rfl ?_
        refine v_goto X (pc := 97) (tgt := 53) eW_book_97 (by decide) ?_
        exact v_sub [1, 2, 3, 0] rfl (ih _ _ _ _ hq3 h)
      · refine v_lconst X (pc := 86) (v := (1 : Int64)) eW_book_86 (by decide) ?_
        refine v_goto X (pc := 87) (tgt := 91) eW_book_87 (by decide) ?_
        obtain ⟨r3, m3, hc3, h⟩ := bd_some h
        refine v_callV X (pc := 91) [_, _] [] ok_V_W_219 (cS_put hq3 hc3) rfl (Nat.le_of_ble_eq_true rfl) ⟨Nat.le_of_ble_eq_true rfl, Nat.le_of_ble_eq_true rfl⟩ ⟨Nat.zero_le _, Nat.zero_le _⟩ (by decide) hq3 rfl rfl eW_book_91 ?_
        refine v_iinc X (pc := 94) (v := (x4 + (1 : Int32))) (lv' := [(4, _), (0, _), (2, _), (3, _)]) 3 rfl (by rfl) eW_book_94 (Nat.le_of_ble_eq_true rfl) rfl ?_
        refine v_goto X (pc := 97) (tgt := 53) eW_book_97 (by decide) ?_
        exact v_sub [1, 2, 3, 0] rfl (ih _ _ _ _ hq3 h)
    · refine v_aload_n X (pc := 100) 2 rfl eW_book_100 rfl ?_
      refine v_get X (pc := 101) 1 (a := aI (gI mem 8 q3 1)) (by decide) hq3 rfl rfl rfl in_Sheet (by decide) qw_129 rfl eW_book_101 ?_
      exact v_iret X (pc := 104) h hr eW_book_104
set_option maxHeartbeats 4000000 in
set_option maxRecDepth 100000 in
theorem cW_book {f : Nat} {a1 : Int32} {a2 : Int32} {mem : Mem} {o : Int32} {mem' : Mem}  (h : dW_book f a1 a2 mem = some (o, mem')) : RT yW_book prog_1_method_32_code 5 (Option.some Jvm.ClassFile.FieldType.int) (rmM 3 75) [aR 0 0, aI a1, aI a2] mem (some (aI o)) mem' := by
  refine RT.of (by decide +kernel) (Nat.le_of_ble_eq_true rfl) (fun p l e s m args below meth c k X hr => ?_)
  replace X : CX p s m args meth c k prog_1_method_32_code 5 "WallShifts" := X
  unfold dW_book at h
  refine v_sub (lv' := [(0, _), (1, _), (2, _)]) [0, 1, 2] rfl ?_
  refine v_iload_n X (pc := 0) 1 rfl eW_book_0 rfl ?_
  obtain ⟨r1, m1, hc1, h⟩ := bd_some h
  refine v_callS X (pc := 1) [_] [] ok_S_W_203 (cW_isSheet  hc1) rfl (Nat.le_of_ble_eq_true rfl) ⟨Nat.le_of_ble_eq_true rfl, Nat.le_of_ble_eq_true rfl⟩ ⟨Nat.zero_le _, Nat.zero_le _⟩ eW_book_1 ?_
  refine v_if_ne X (pc := 4) (tgt := 14) h eW_book_4 (by decide) (fun h => ?_) (fun h => ?_)
  · refine v_aload_n X (pc := 7) 0 rfl eW_book_7 rfl ?_
    refine v_ldc X (pc := 8) qw_179 eW_book_8 ?_
    obtain ⟨r2, m2, hc2, h⟩ := bd_some h
    refine v_callV X (pc := 10) [_] [] ok_V_W_52 (cW_finding  hc2) rfl (Nat.le_of_ble_eq_true rfl) ⟨Nat.le_of_ble_eq_true rfl, Nat.le_of_ble_eq_true rfl⟩ ⟨Nat.zero_le _, Nat.zero_le _⟩ (by decide) (by decide) rfl rfl eW_book_10 ?_
    exact v_iret X (pc := 13) h hr eW_book_13
  · refine v_aload_n X (pc := 14) 0 rfl eW_book_14 rfl ?_
    refine v_get X (pc := 15) 5 (a := aR 7 0) (by decide) (by decide) rfl rfl rfl in_WallShifts (by decide) qw_145 rfl eW_book_15 ?_
    refine v_iload_n X (pc := 18) 1 rfl eW_book_18 rfl ?_
    refine v_aaldS X (pc := 19) h (by decide) eW_book_19 (fun hb3 h => ?_)
    refine v_astore_n X (pc := 20) (lv' := [(3, _), (0, _), (1, _), (2, _)]) eW_book_20 rfl (Nat.le_of_ble_eq_true rfl) rfl ?_
    refine v_aload_n X (pc := 21) 0 rfl eW_book_21 rfl ?_
    obtain ⟨r4, m4, hc4, h⟩ := bd_some h
    refine v_callV X (pc := 22) [] [] ok_V_W_210 (cS_isMissing hb3 hc4) rfl (Nat.le_of_ble_eq_true rfl) ⟨Nat.le_of_ble_eq_true rfl, Nat.le_of_ble_eq_true rfl⟩ ⟨Nat.zero_le _, Nat.zero_le _⟩ (by decide) hb3 rfl rfl eW_book_22 ?_
    refine v_if_eq X (pc := 25) (tgt := 35) h eW_book_25 (by decide) (fun h => ?_) (fun h => ?_)
    · refine v_aload_n X (pc := 35) 1 rfl eW_book_35 rfl ?_
      refine v_iload_n X (pc := 36) 3 rfl eW_book_36 rfl ?_
      obtain ⟨r5, m5, hc5, h⟩ := bd_some h
      refine v_callV X (pc := 37) [_] [] ok_V_W_75 (cW_isWall  hc5) rfl (Nat.le_of_ble_eq_true rfl) ⟨Nat.le_of_ble_eq_true rfl, Nat.le_of_ble_eq_true rfl⟩ ⟨Nat.zero_le _, Nat.zero_le _⟩ (by decide) (by decide) rfl rfl eW_book_37 ?_
      refine v_if_ne X (pc := 40) (tgt := 50) h eW_book_40 (by decide) (fun h => ?_) (fun h => ?_)
      · refine v_aload_n X (pc := 43) 1 rfl eW_book_43 rfl ?_
        refine v_ldc X (pc := 44) qw_179 eW_book_44 ?_
        obtain ⟨r6, m6, hc6, h⟩ := bd_some h
        refine v_callV X (pc := 46) [_] [] ok_V_W_52 (cW_finding  hc6) rfl (Nat.le_of_ble_eq_true rfl) ⟨Nat.le_of_ble_eq_true rfl, Nat.le_of_ble_eq_true rfl⟩ ⟨Nat.zero_le _, Nat.zero_le _⟩ (by decide) (by decide) rfl rfl eW_book_46 ?_
        exact v_iret X (pc := 49) h hr eW_book_49
      · refine v_iconst X (pc := 50) (v := (0 : Int32)) eW_book_50 (by decide) ?_
        refine v_istore X (pc := 51) (lv' := [(4, _), (3, _), (0, _), (1, _), (2, _)]) eW_book_51 (Nat.le_of_ble_eq_true rfl) rfl ?_
        exact v_sub [2, 4, 1, 0] rfl (cW_book_53 X hr _ _ _ _ _ hb3 h)
    · refine v_aload_n X (pc := 28) 1 rfl eW_book_28 rfl ?_
      refine v_ldc X (pc := 29) qw_580 eW_book_29 ?_
      obtain ⟨r7, m7, hc7, h⟩ := bd_some h
      refine v_callV X (pc := 31) [_] [] ok_V_W_52 (cW_finding  hc7) rfl (Nat.le_of_ble_eq_true rfl) ⟨Nat.le_of_ble_eq_true rfl, Nat.le_of_ble_eq_true rfl⟩ ⟨Nat.zero_le _, Nat.zero_le _⟩ (by decide) (by decide) rfl rfl eW_book_31 ?_
      exact v_iret X (pc := 34) h hr eW_book_34
set_option maxHeartbeats 4000000 in
set_option maxRecDepth 100000 in
theorem cW_isBookOf_77 {p : Program} {l : Launch} {e : Env} {s : State} {m : MethodId} {args : Array Value} {below : List Frame} {meth : Method} {c : Code} {k : KK} {f : Nat} {o : Int32} {mem' : Mem} (X : CX p s m args meth c k prog_1_method_45_code 8 "WallShifts") (hr : meth.sig.returnType = (Option.some Jvm.ClassFile.FieldType.boolean)) {k3 : Nat → Int32 → Int32 → Int32 → Mem → Option (Int32 × Mem)} (hk3 : ∀ (q1 : Nat) (x2 : Int32) (x3 : Int32) (x4 : Int32) (mem : Mem), q1 < 4 → k3 q1 x2 x3 x4 mem = some (o, mem') → V p l e (rmM 1 27) s m args below meth c 0 0 (MQ below (RQc k (some (aI o)) mem') args s 0 0 (kA k)) k 8 mem 3 [(0, aR 0 0), (1, aR 8 q1), (2, aI x2), (3, aI x3), (4, aI x4)] []) : ∀ (q1 : Nat) (x2 : Int32) (x3 : Int32) (x4 : Int32) (s0 : Int64) (s1 : Int32) (mem : Mem), q1 < 4 → dW_isBookOf_77 f k3 q1 x2 x3 x4 s0 s1 mem = some (o, mem') → V p l e (rmM 1 27) s m args below meth c 0 0 (MQ below (RQc k (some (aI o)) mem') args s 0 0 (kA k)) k 8 mem 77 [(0, aR 0 0), (1, aR 8 q1), (2, aI x2), (3, aI x3), (4, aI x4)] [aI s1, aL s0] := by
  intro q1 x2 x3 x4 s0 s1 mem hq1 h
  unfold dW_isBookOf_77 at h
  refine v_i2l X (pc := 77) eW_isBookOf_77 ?_
  refine v_lcmp X (pc := 78) eW_isBookOf_78 ?_
  refine v_if_eq X (pc := 79) (tgt := 84) h eW_isBookOf_79 (by decide) (fun h => ?_) (fun h => ?_)
  · refine v_iinc X (pc := 84) (v := (x4 + (1 : Int32))) (lv' := [(4, _), (0, _), (1, _), (2, _), (3, _)]) 4 rfl (by rfl) eW_isBookOf_84 (Nat.le_of_ble_eq_true rfl) rfl ?_
    refine v_goto X (pc := 87) (tgt := 3) eW_isBookOf_87 (by decide) ?_
    exact v_sub [1, 2, 3, 4, 0] rfl (hk3 _ _ _ _ _ hq1 h)
  · refine v_iconst X (pc := 82) (v := (0 : Int32)) eW_isBookOf_82 (by decide) ?_
    exact v_zret X (pc := 83) h hr rfl eW_isBookOf_83
set_option maxHeartbeats 4000000 in
set_option maxRecDepth 100000 in
theorem cW_isBookOf_3 {p : Program} {l : Launch} {e : Env} {s : State} {m : MethodId} {args : Array Value} {below : List Frame} {meth : Method} {c : Code} {k : KK} {f : Nat} {o : Int32} {mem' : Mem} (X : CX p s m args meth c k prog_1_method_45_code 8 "WallShifts") (hr : meth.sig.returnType = (Option.some Jvm.ClassFile.FieldType.boolean)) : ∀ (n : Nat) (q1 : Nat) (x2 : Int32) (x3 : Int32) (x4 : Int32) (mem : Mem), q1 < 4 → dW_isBookOf_3 f n q1 x2 x3 x4 mem = some (o, mem') → V p l e (rmM 1 27) s m args below meth c 0 0 (MQ below (RQc k (some (aI o)) mem') args s 0 0 (kA k)) k 8 mem 3 [(0, aR 0 0), (1, aR 8 q1), (2, aI x2), (3, aI x3), (4, aI x4)] [] := by
  intro n
  induction n with
  | zero =>
    intro q1 x2 x3 x4 mem hq1 h
    exact nomatch (show (none : Option (Int32 × Mem)) = some _ from h)
  | succ n ih =>
    intro q1 x2 x3 x4 mem hq1 h
    rw [dW_isBookOf_3] at h
    refine v_iload X (pc := 3) 4 rfl eW_isBookOf_3 ?_
    refine v_aload_n X (pc := 5) 1 rfl eW_isBookOf_5 rfl ?_
    refine v_get X (pc := 6) 1 (a := aI (gI mem 8 q1 1)) (by decide) hq1 rfl rfl rfl in_Sheet (by decide) qw_129 rfl eW_isBookOf_6 ?_
    refine v_icmp_ge X (pc := 9) (tgt := 90) h eW_isBookOf_9 (by decide) (fun h => ?_) (fun h => ?_)
    · refine v_aload_n X (pc := 12) 0 rfl eW_isBookOf_12 rfl ?_
      refine v_get X (pc := 13) 0 (a := aR 1 0) (by decide) (by decide) rfl rfl rfl in_WallShifts (by decide) qw_140 rfl eW_isBookOf_13 ?_
      refine v_get X (pc := 16) 0 (a := aI (gI mem 1 0 0)) (by decide) (by decide) rfl rfl rfl in_Palace (by decide) qw_71 rfl eW_isBookOf_16 ?_
      refine v_iload X (pc := 19) 4 rfl eW_isBookOf_19 ?_
      refine v_iadd X (pc := 21) eW_isBookOf_21 ?_
      refine v_istore X (pc := 22) (lv' := [(5, _), (0, _), (1, _), (2, _), (3, _), (4, _)]) eW_isBookOf_22 (Nat.le_of_ble_eq_true rfl) rfl ?_
      refine v_aload_n X (pc := 24) 1 rfl eW_isBookOf_24 rfl ?_
      refine v_get X (pc := 25) 0 (a := aR 1 0) (by decide) (by decide) rfl rfl rfl in_WallShifts (by decide) qw_140 rfl eW_isBookOf_25 ?_
      refine v_get X (pc := 28) 1 (a := aR 2 0) (by decide) (by decide) rfl rfl rfl in_Palace (by decide) qw_73 rfl eW_isBookOf_28 ?_
      refine v_iconst X (pc := 31) (v := (0 : Int32)) eW_isBookOf_31 (by decide) ?_
      refine v_ialdK X (pc := 32) (n := 4) 0 (by decide) (by decide) (by decide) (by decide) rfl eW_isBookOf_32 ?_
      refine v_istore X (pc := 33) (lv' := [(6, _), (5, _), (0, _), (1, _), (2, _), (3, _), (4, _)]) eW_isBookOf_33 (Nat.le_of_ble_eq_true rfl) rfl ?_
      refine v_aload_n X (pc := 35) 2 rfl eW_isBookOf_35 rfl ?_
      refine v_get X (pc := 36) 0 (a := aR 1 0) (by decide) (by decide) rfl rfl rfl in_WallShifts (by decide) qw_140 rfl eW_isBookOf_36 ?_
      refine v_iload_n X (pc := 39) 4 rfl eW_isBookOf_39 rfl ?_
      refine v_iload_n X (pc := 40) 5 rfl eW_isBookOf_40 rfl ?_
      refine v_iload X (pc := 41) 1 rfl eW_isBookOf_41 ?_
      refine v_iload X (pc := 43) 0 rfl eW_isBookOf_43 ?_
      obtain ⟨r1, m1, hc1, h⟩ := bd_some h
      refine v_callS X (pc := 45) [_, _] [_, _, _] ok_S_W_247 (cW_quarterOf  hc1) rfl (Nat.le_of_ble_eq_true rfl) ⟨Nat.le_of_ble_eq_true rfl, Nat.le_of_ble_eq_true rfl⟩ ⟨Nat.zero_le _, Nat.zero_le _⟩ eW_isBookOf_45 ?_
      refine v_iload X (pc := 48) 1 rfl eW_isBookOf_48 ?_
      refine v_iload X (pc := 50) 0 rfl eW_isBookOf_50 ?_
      obtain ⟨r2, m2, hc2, h⟩ := bd_some h
      refine v_callS X (pc := 52) [_, _] [_, _, _, _] ok_S_W_250 (cW_restOf  hc2) rfl (Nat.le_of_ble_eq_true rfl) ⟨Nat.le_of_ble_eq_true rfl, Nat.le_of_ble_eq_true rfl⟩ ⟨Nat.zero_le _, Nat.zero_le _⟩ eW_isBookOf_52 ?_
      obtain ⟨r3, m3, hc3, h⟩ := bd_some h
      refine v_callV X (pc := 55) [_, _, _, _] [] ok_V_W_253 (cP_listens (by decide) hc3) rfl (Nat.le_of_ble_eq_true rfl) ⟨Nat.le_of_ble_eq_true rfl, Nat.le_of_ble_eq_true rfl⟩ ⟨Nat.zero_le _, Nat.zero_le _⟩ (by decide) (by decide) rfl rfl eW_isBookOf_55 ?_
      refine v_istore X (pc := 58) (lv' := [(7, _), (6, _), (5, _), (0, _), (1, _), (2, _), (3, _), (4, _)]) eW_isBookOf_58 (Nat.le_of_ble_eq_true rfl) rfl ?_
      refine v_aload_n X (pc := 60) 4 rfl eW_isBookOf_60 rfl ?_
      refine v_get X (pc := 61) 2 (a := aR 9 q1) (by decide) hq1 rfl rfl rfl in_Sheet (by decide) qw_131 rfl eW_isBookOf_61 ?_
      refine v_iload X (pc := 64) 7 rfl eW_isBookOf_64 ?_
      refine v_lald X (pc := 66) h (by decide) hq1 rfl eW_isBookOf_66 (fun h => ?_)
      refine v_iload X (pc := 67) 0 rfl eW_isBookOf_67 ?_
      refine v_if_eq X (pc := 69) (tgt := 76) h eW_isBookOf_69 (by decide) (fun h => ?_) (fun h => ?_)
      · refine v_iconst X (pc := 76) (v := (0 : Int32)) eW_isBookOf_76 (by decide) ?_
        exact v_sub [3, 4, 5, 6, 7] rfl (cW_isBookOf_77 X hr ih _ _ _ _ _ _ _ hq1 h)
      · refine v_iconst X (pc := 72) (v := (1 : Int32)) eW_isBookOf_72 (by decide) ?_
        refine v_goto X (pc := 73) (tgt := 77) eW_isBookOf_73 (by decide) ?_
        exact v_sub [3, 4, 5, 6, 7] rfl (cW_isBookOf_77 X hr ih _ _ _ _ _ _ _ hq1 h)
    · refine v_iconst X (pc := 90) (v := (1 : Int32)) eW_isBookOf_90 (by decide) ?_
      exact v_zret X (pc := 91) h hr rfl eW_isBookOf_91
set_option maxHeartbeats 4000000 in
set_option maxRecDepth 100000 in
theorem cW_isBookOf {f : Nat} {q1 : Nat} {a2 : Int32} {a3 : Int32} {mem : Mem} {o : Int32} {mem' : Mem} (hq1 : q1 < 4) (h : dW_isBookOf f q1 a2 a3 mem = some (o, mem')) : RT yW_isBookOf prog_1_method_45_code 8 (Option.some Jvm.ClassFile.FieldType.boolean) (rmM 1 27) [aR 0 0, aR 8 q1, aI a2, aI a3] mem (some (aI o)) mem' := by
  refine RT.of (by decide +kernel) (Nat.le_of_ble_eq_true rfl) (fun p l e s m args below meth c k X hr => ?_)
  replace X : CX p s m args meth c k prog_1_method_45_code 8 "WallShifts" := X
  unfold dW_isBookOf at h
  refine v_sub (lv' := [(0, _), (1, _), (2, _), (3, _)]) [0, 1, 2, 3] rfl ?_
  refine v_iconst X (pc := 0) (v := (0 : Int32)) eW_isBookOf_0 (by decide) ?_
  refine v_istore X (pc := 1) (lv' := [(4, _), (0, _), (1, _), (2, _), (3, _)]) eW_isBookOf_1 (Nat.le_of_ble_eq_true rfl) rfl ?_
  exact v_sub [1, 2, 3, 4, 0] rfl (cW_isBookOf_3 X hr _ _ _ _ _ _ hq1 h)
set_option maxHeartbeats 4000000 in
set_option maxRecDepth 100000 in
theorem cW_read_66 {p : Program} {l : Launch} {e : Env} {s : State} {m : MethodId} {args : Array Value} {below : List Frame} {meth : Method} {c : Code} {k : KK} {f : Nat} {o : Int32} {mem' : Mem} (X : CX p s m args meth c k prog_1_method_33_code 7 "WallShifts") (hr : meth.sig.returnType = (Option.some Jvm.ClassFile.FieldType.int)) {k56 : Nat → Int32 → Int32 → Mem → Option (Int32 × Mem)} (hk56 : ∀ (q3 : Nat) (x4 : Int32) (x5 : Int32) (mem : Mem), q3 < 4 → k56 q3 x4 x5 mem = some (o, mem') → V p l e (rmM 2 54) s m args below meth c 0 0 (MQ below (RQc k (some (aI o)) mem') args s 0 0 (kA k)) k 7 mem 56 [(0, aR 0 0), (3, aR 8 q3), (4, aI x4), (5, aI x5)] []) : ∀ (n : Nat) (q3 : Nat) (x4 : Int32) (x5 : Int32) (x6 : Int32) (mem : Mem), q3 < 4 → dW_read_66 f k56 n q3 x4 x5 x6 mem = some (o, mem') → V p l e (rmM 2 54) s m args below meth c 0 0 (MQ below (RQc k (some (aI o)) mem') args s 0 0 (kA k)) k 7 mem 66 [(0, aR 0 0), (3, aR 8 q3), (4, aI x4), (5, aI x5), (6, aI x6)] [] := by
  intro n
  induction n with
  | zero =>
    intro q3 x4 x5 x6 mem hq3 h
    exact nomatch (show (none : Option (Int32 × Mem)) = some _ from h)
  | succ n ih =>
    intro q3 x4 x5 x6 mem hq3 h
    rw [dW_read_66] at h
    refine v_iload X (pc := 66) 4 rfl eW_read_66 ?_
    refine v_iconst X (pc := 68) (v := (4 : Int32)) eW_read_68 (by decide) ?_
    refine v_icmp_ge X (pc := 69) (tgt := 100) h eW_read_69 (by decide) (fun h => ?_) (fun h => ?_)
    · refine v_iload X (pc := 72) 2 rfl eW_read_72 ?_
      refine v_aload_n X (pc := 74) 0 rfl eW_read_74 rfl ?_
      refine v_aload_n X (pc := 75) 1 rfl eW_read_75 rfl ?_
      refine v_iload X (pc := 76) 3 rfl eW_read_76 ?_
      refine v_iload X (pc := 78) 4 rfl eW_read_78 ?_
      obtain ⟨r1, m1, hc1, h⟩ := bd_some h
      refine v_callV X (pc := 80) [_, _, _] [_] ok_V_W_237 (cW_isBookOf hq3 hc1) rfl (Nat.le_of_ble_eq_true rfl) ⟨Nat.le_of_ble_eq_true rfl, Nat.le_of_ble_eq_true rfl⟩ ⟨Nat.zero_le _, Nat.zero_le _⟩ (by decide) (by decide) rfl rfl eW_read_80 ?_
      refine v_if_eq X (pc := 83) (tgt := 90) h eW_read_83 (by decide) (fun h => ?_) (fun h => ?_)
      · refine v_iconst X (pc := 90) (v := (0 : Int32)) eW_read_90 (by decide) ?_
        refine v_iadd X (pc := 91) eW_read_91 ?_
        refine v_istore X (pc := 92) (lv' := [(4, _), (0, _), (3, _), (5, _), (6, _)]) eW_read_92 (Nat.le_of_ble_eq_true rfl) rfl ?_
        refine v_iinc X (pc := 94) (v := (x6 + (1 : Int32))) (lv' := [(6, _), (4, _), (0, _), (3, _), (5, _)]) 4 rfl (by rfl) eW_read_94 (Nat.le_of_ble_eq_true rfl) rfl ?_
        refine v_goto X (pc := 97) (tgt := 66) eW_read_97 (by decide) ?_
        exact v_sub [2, 3, 1, 4, 0] rfl (ih _ _ _ _ _ hq3 h)
      · refine v_iconst X (pc := 86) (v := (1 : Int32)) eW_read_86 (by decide) ?_
        refine v_goto X (pc := 87) (tgt := 91) eW_read_87 (by decide) ?_
        refine v_iadd X (pc := 91) eW_read_91 ?_
        refine v_istore X (pc := 92) (lv' := [(4, _), (0, _), (3, _), (5, _), (6, _)]) eW_read_92 (Nat.le_of_ble_eq_true rfl) rfl ?_
        refine v_iinc X (pc := 94) (v := (x6 + (1 : Int32))) (lv' := [(6, _), (4, _), (0, _), (3, _), (5, _)]) 4 rfl (by rfl) eW_read_94 (Nat.le_of_ble_eq_true rfl) rfl ?_
        refine v_goto X (pc := 97) (tgt := 66) eW_read_97 (by decide) ?_
        exact v_sub [2, 3, 1, 4, 0] rfl (ih _ _ _ _ _ hq3 h)
    · refine v_iinc X (pc := 100) (v := (x5 + (1 : Int32))) (lv' := [(5, _), (0, _), (3, _), (4, _), (6, _)]) 3 rfl (by rfl) eW_read_100 (Nat.le_of_ble_eq_true rfl) rfl ?_
      refine v_goto X (pc := 103) (tgt := 56) eW_read_103 (by decide) ?_
      exact v_sub [1, 2, 3, 0] rfl (hk56 _ _ _ _ hq3 h)
set_option maxHeartbeats 4000000 in
set_option maxRecDepth 100000 in
theorem cW_read_56 {p : Program} {l : Launch} {e : Env} {s : State} {m : MethodId} {args : Array Value} {below : List Frame} {meth : Method} {c : Code} {k : KK} {f : Nat} {o : Int32} {mem' : Mem} (X : CX p s m args meth c k prog_1_method_33_code 7 "WallShifts") (hr : meth.sig.returnType = (Option.some Jvm.ClassFile.FieldType.int)) : ∀ (n : Nat) (q3 : Nat) (x4 : Int32) (x5 : Int32) (mem : Mem), q3 < 4 → dW_read_56 f n q3 x4 x5 mem = some (o, mem') → V p l e (rmM 2 54) s m args below meth c 0 0 (MQ below (RQc k (some (aI o)) mem') args s 0 0 (kA k)) k 7 mem 56 [(0, aR 0 0), (3, aR 8 q3), (4, aI x4), (5, aI x5)] [] := by
  intro n
  induction n with
  | zero =>
    intro q3 x4 x5 mem hq3 h
    exact nomatch (show (none : Option (Int32 × Mem)) = some _ from h)
  | succ n ih =>
    intro q3 x4 x5 mem hq3 h
    rw [dW_read_56] at h
    refine v_iload X (pc := 56) 3 rfl eW_read_56 ?_
    refine v_bipush X (pc := 58) (v := (6 : Int32)) eW_read_58 (by decide) ?_
    refine v_icmp_ge X (pc := 60) (tgt := 106) h eW_read_60 (by decide) (fun h => ?_) (fun h => ?_)
    · refine v_iconst X (pc := 63) (v := (0 : Int32)) eW_read_63 (by decide) ?_
      refine v_istore X (pc := 64) (lv' := [(6, _), (0, _), (3, _), (4, _), (5, _)]) eW_read_64 (Nat.le_of_ble_eq_true rfl) rfl ?_
      exact v_sub [1, 2, 3, 4, 0] rfl (cW_read_66 X hr ih _ _ _ _ _ _ hq3 h)
    · refine v_iload X (pc := 106) 2 rfl eW_read_106 ?_
      exact v_iret X (pc := 108) h hr eW_read_108
set_option maxHeartbeats 4000000 in
set_option maxRecDepth 100000 in
theorem cW_read {f : Nat} {a1 : Int32} {a2 : Int32} {mem : Mem} {o : Int32} {mem' : Mem}  (h : dW_read f a1 a2 mem = some (o, mem')) : RT yW_read prog_1_method_33_code 7 (Option.some Jvm.ClassFile.FieldType.int) (rmM 2 54) [aR 0 0, aI a1, aI a2] mem (some (aI o)) mem' := by
  refine RT.of (by decide +kernel) (Nat.le_of_ble_eq_true rfl) (fun p l e s m args below meth c k X hr => ?_)
  replace X : CX p s m args meth c k prog_1_method_33_code 7 "WallShifts" := X
  unfold dW_read at h
  refine v_sub (lv' := [(0, _), (1, _), (2, _)]) [0, 1, 2] rfl ?_
  refine v_iload_n X (pc := 0) 1 rfl eW_read_0 rfl ?_
  obtain ⟨r1, m1, hc1, h⟩ := bd_some h
  refine v_callS X (pc := 1) [_] [] ok_S_W_203 (cW_isSheet  hc1) rfl (Nat.le_of_ble_eq_true rfl) ⟨Nat.le_of_ble_eq_true rfl, Nat.le_of_ble_eq_true rfl⟩ ⟨Nat.zero_le _, Nat.zero_le _⟩ eW_read_1 ?_
  refine v_if_ne X (pc := 4) (tgt := 14) h eW_read_4 (by decide) (fun h => ?_) (fun h => ?_)
  · refine v_aload_n X (pc := 7) 0 rfl eW_read_7 rfl ?_
    refine v_ldc X (pc := 8) qw_179 eW_read_8 ?_
    obtain ⟨r2, m2, hc2, h⟩ := bd_some h
    refine v_callV X (pc := 10) [_] [] ok_V_W_52 (cW_finding  hc2) rfl (Nat.le_of_ble_eq_true rfl) ⟨Nat.le_of_ble_eq_true rfl, Nat.le_of_ble_eq_true rfl⟩ ⟨Nat.zero_le _, Nat.zero_le _⟩ (by decide) (by decide) rfl rfl eW_read_10 ?_
    exact v_iret X (pc := 13) h hr eW_read_13
  · refine v_aload_n X (pc := 14) 0 rfl eW_read_14 rfl ?_
    refine v_get X (pc := 15) 5 (a := aR 7 0) (by decide) (by decide) rfl rfl rfl in_WallShifts (by decide) qw_145 rfl eW_read_15 ?_
    refine v_iload_n X (pc := 18) 1 rfl eW_read_18 rfl ?_
    refine v_aaldS X (pc := 19) h (by decide) eW_read_19 (fun hb3 h => ?_)
    refine v_astore_n X (pc := 20) (lv' := [(3, _), (0, _), (1, _), (2, _)]) eW_read_20 rfl (Nat.le_of_ble_eq_true rfl) rfl ?_
    refine v_aload_n X (pc := 21) 0 rfl eW_read_21 rfl ?_
    obtain ⟨r4, m4, hc4, h⟩ := bd_some h
    refine v_callV X (pc := 22) [] [] ok_V_W_210 (cS_isMissing hb3 hc4) rfl (Nat.le_of_ble_eq_true rfl) ⟨Nat.le_of_ble_eq_true rfl, Nat.le_of_ble_eq_true rfl⟩ ⟨Nat.zero_le _, Nat.zero_le _⟩ (by decide) hb3 rfl rfl eW_read_22 ?_
    refine v_if_eq X (pc := 25) (tgt := 35) h eW_read_25 (by decide) (fun h => ?_) (fun h => ?_)
    · refine v_aload_n X (pc := 35) 1 rfl eW_read_35 rfl ?_
      refine v_iload_n X (pc := 36) 3 rfl eW_read_36 rfl ?_
      obtain ⟨r5, m5, hc5, h⟩ := bd_some h
      refine v_callV X (pc := 37) [_] [] ok_V_W_75 (cW_isWall  hc5) rfl (Nat.le_of_ble_eq_true rfl) ⟨Nat.le_of_ble_eq_true rfl, Nat.le_of_ble_eq_true rfl⟩ ⟨Nat.zero_le _, Nat.zero_le _⟩ (by decide) (by decide) rfl rfl eW_read_37 ?_
      refine v_if_ne X (pc := 40) (tgt := 50) h eW_read_40 (by decide) (fun h => ?_) (fun h => ?_)
      · refine v_aload_n X (pc := 43) 1 rfl eW_read_43 rfl ?_
        refine v_ldc X (pc := 44) qw_179 eW_read_44 ?_
        obtain ⟨r6, m6, hc6, h⟩ := bd_some h
        refine v_callV X (pc := 46) [_] [] ok_V_W_52 (cW_finding  hc6) rfl (Nat.le_of_ble_eq_true rfl) ⟨Nat.le_of_ble_eq_true rfl, Nat.le_of_ble_eq_true rfl⟩ ⟨Nat.zero_le _, Nat.zero_le _⟩ (by decide) (by decide) rfl rfl eW_read_46 ?_
        exact v_iret X (pc := 49) h hr eW_read_49
      · refine v_iconst X (pc := 50) (v := (0 : Int32)) eW_read_50 (by decide) ?_
        refine v_istore X (pc := 51) (lv' := [(4, _), (3, _), (0, _), (1, _), (2, _)]) eW_read_51 (Nat.le_of_ble_eq_true rfl) rfl ?_
        refine v_iconst X (pc := 53) (v := (0 : Int32)) eW_read_53 (by decide) ?_
        refine v_istore X (pc := 54) (lv' := [(5, _), (4, _), (3, _), (0, _), (1, _), (2, _)]) eW_read_54 (Nat.le_of_ble_eq_true rfl) rfl ?_
        exact v_sub [3, 2, 1, 0] rfl (cW_read_56 X hr _ _ _ _ _ hb3 h)
    · refine v_aload_n X (pc := 28) 1 rfl eW_read_28 rfl ?_
      refine v_ldc X (pc := 29) qw_580 eW_read_29 ?_
      obtain ⟨r7, m7, hc7, h⟩ := bd_some h
      refine v_callV X (pc := 31) [_] [] ok_V_W_52 (cW_finding  hc7) rfl (Nat.le_of_ble_eq_true rfl) ⟨Nat.le_of_ble_eq_true rfl, Nat.le_of_ble_eq_true rfl⟩ ⟨Nat.zero_le _, Nat.zero_le _⟩ (by decide) (by decide) rfl rfl eW_read_31 ?_
      exact v_iret X (pc := 34) h hr eW_read_34
set_option maxHeartbeats 4000000 in
set_option maxRecDepth 100000 in
theorem cW_image {f : Nat}  {mem : Mem} {o : Int32} {mem' : Mem}  (h : dW_image f  mem = some (o, mem')) : RT yW_image prog_1_method_34_code 1 (Option.some Jvm.ClassFile.FieldType.int) (rmM 2 82) [aR 0 0] mem (some (aI o)) mem' := by
  refine RT.of (by decide +kernel) (Nat.le_of_ble_eq_true rfl) (fun p l e s m args below meth c k X hr => ?_)
  replace X : CX p s m args meth c k prog_1_method_34_code 1 "WallShifts" := X
  unfold dW_image at h
  refine v_sub (lv' := [(0, _)]) [0] rfl ?_
  refine v_aload_n X (pc := 0) 0 rfl eW_image_0 rfl ?_
  refine v_get X (pc := 1) 1 (a := aR 1 1) (by decide) (by decide) rfl rfl rfl in_WallShifts (by decide) qw_141 rfl eW_image_1 ?_
  refine v_aload_n X (pc := 4) 0 rfl eW_image_4 rfl ?_
  refine v_get X (pc := 5) 0 (a := aR 1 0) (by decide) (by decide) rfl rfl rfl in_WallShifts (by decide) qw_140 rfl eW_image_5 ?_
  obtain ⟨r1, m1, hc1, h⟩ := bd_some h
  refine v_callV X (pc := 8) [_] [] ok_V_W_183 (cP_become (by decide) (by decide) hc1) rfl (Nat.le_of_ble_eq_true rfl) ⟨Nat.le_of_ble_eq_true rfl, Nat.le_of_ble_eq_true rfl⟩ ⟨Nat.zero_le _, Nat.zero_le _⟩ (by decide) (by decide) rfl rfl eW_image_8 ?_
  refine v_aload_n X (pc := 11) 0 rfl eW_image_11 rfl ?_
  refine v_iconst X (pc := 12) (v := (1 : Int32)) eW_image_12 (by decide) ?_
  refine v_put X (pc := 13) 2 (mem' := (sI m1 0 0 2 (1 : Int32))) (by decide) (by decide) rfl (pf_0_2 _ _ _ _ _) rowI_ne rfl in_WallShifts ty_WallShifts_ok nm_WallShifts (by decide) qw_142 rfl rfl rfl (Nat.le_of_ble_eq_true rfl) eW_image_13 ?_
  refine v_iconst X (pc := 16) (v := (1 : Int32)) eW_image_16 (by decide) ?_
  exact v_iret X (pc := 17) h hr eW_image_17
set_option maxHeartbeats 4000000 in
set_option maxRecDepth 100000 in
theorem cW_undo {f : Nat}  {mem : Mem} {o : Int32} {mem' : Mem}  (h : dW_undo f  mem = some (o, mem')) : RT yW_undo prog_1_method_35_code 1 (Option.some Jvm.ClassFile.FieldType.int) (rmM 2 82) [aR 0 0] mem (some (aI o)) mem' := by
  refine RT.of (by decide +kernel) (Nat.le_of_ble_eq_true rfl) (fun p l e s m args below meth c k X hr => ?_)
  replace X : CX p s m args meth c k prog_1_method_35_code 1 "WallShifts" := X
  unfold dW_undo at h
  refine v_sub (lv' := [(0, _)]) [0] rfl ?_
  refine v_aload_n X (pc := 0) 0 rfl eW_undo_0 rfl ?_
  refine v_get X (pc := 1) 2 (a := aI (gI mem 0 0 2)) (by decide) (by decide) rfl rfl rfl in_WallShifts (by decide) qw_142 rfl eW_undo_1 ?_
  refine v_if_ne X (pc := 4) (tgt := 14) h eW_undo_4 (by decide) (fun h => ?_) (fun h => ?_)
  · refine v_aload_n X (pc := 7) 0 rfl eW_undo_7 rfl ?_
    refine v_ldc X (pc := 8) qw_270 eW_undo_8 ?_
    obtain ⟨r1, m1, hc1, h⟩ := bd_some h
    refine v_callV X (pc := 10) [_] [] ok_V_W_52 (cW_finding  hc1) rfl (Nat.le_of_ble_eq_true rfl) ⟨Nat.le_of_ble_eq_true rfl, Nat.le_of_ble_eq_true rfl⟩ ⟨Nat.zero_le _, Nat.zero_le _⟩ (by decide) (by decide) rfl rfl eW_undo_10 ?_
    exact v_iret X (pc := 13) h hr eW_undo_13
  · refine v_aload_n X (pc := 14) 0 rfl eW_undo_14 rfl ?_
    refine v_get X (pc := 15) 0 (a := aR 1 0) (by decide) (by decide) rfl rfl rfl in_WallShifts (by decide) qw_140 rfl eW_undo_15 ?_
    refine v_aload_n X (pc := 18) 0 rfl eW_undo_18 rfl ?_
    refine v_get X (pc := 19) 1 (a := aR 1 1) (by decide) (by decide) rfl rfl rfl in_WallShifts (by decide) qw_141 rfl eW_undo_19 ?_
    obtain ⟨r2, m2, hc2, h⟩ := bd_some h
    refine v_callV X (pc := 22) [_] [] ok_V_W_183 (cP_become (by decide) (by decide) hc2) rfl (Nat.le_of_ble_eq_true rfl) ⟨Nat.le_of_ble_eq_true rfl, Nat.le_of_ble_eq_true rfl⟩ ⟨Nat.zero_le _, Nat.zero_le _⟩ (by decide) (by decide) rfl rfl eW_undo_22 ?_
    refine v_aload_n X (pc := 25) 0 rfl eW_undo_25 rfl ?_
    refine v_get X (pc := 26) 0 (a := aR 1 0) (by decide) (by decide) rfl rfl rfl in_WallShifts (by decide) qw_140 rfl eW_undo_26 ?_
    refine v_get X (pc := 29) 2 (a := aI (gI m2 1 0 2)) (by decide) (by decide) rfl rfl rfl in_Palace (by decide) qw_76 rfl eW_undo_29 ?_
    exact v_iret X (pc := 32) h hr eW_undo_32
set_option maxHeartbeats 4000000 in
set_option maxRecDepth 100000 in
theorem cW_tear {f : Nat}  {mem : Mem} {o : Int32} {mem' : Mem}  (h : dW_tear f  mem = some (o, mem')) : RT yW_tear prog_1_method_36_code 2 (Option.some Jvm.ClassFile.FieldType.int) (rmM 0 0) [aR 0 0] mem (some (aI o)) mem' := by
  refine RT.of (by decide +kernel) (Nat.le_of_ble_eq_true rfl) (fun p l e s m args below meth c k X hr => ?_)
  replace X : CX p s m args meth c k prog_1_method_36_code 2 "WallShifts" := X
  unfold dW_tear at h
  refine v_sub (lv' := [(0, _)]) [0] rfl ?_
  refine v_aload_n X (pc := 0) 0 rfl eW_tear_0 rfl ?_
  refine v_get X (pc := 1) 2 (a := aI (gI mem 0 0 2)) (by decide) (by decide) rfl rfl rfl in_WallShifts (by decide) qw_142 rfl eW_tear_1 ?_
  refine v_if_eq X (pc := 4) (tgt := 11) h eW_tear_4 (by decide) (fun h => ?_) (fun h => ?_)
  · refine v_iconst X (pc := 11) (v := (0 : Int32)) eW_tear_11 (by decide) ?_
    refine v_istore_n X (pc := 12) (lv' := [(1, _), (0, _)]) eW_tear_12 rfl (Nat.le_of_ble_eq_true rfl) rfl ?_
    refine v_aload_n X (pc := 13) 1 rfl eW_tear_13 rfl ?_
    refine v_iconst X (pc := 14) (v := (0 : Int32)) eW_tear_14 (by decide) ?_
    refine v_put X (pc := 15) 2 (mem' := (sI mem 0 0 2 (0 : Int32))) (by decide) (by decide) rfl (pf_0_2 _ _ _ _ _) rowI_ne rfl in_WallShifts ty_WallShifts_ok nm_WallShifts (by decide) qw_142 rfl rfl rfl (Nat.le_of_ble_eq_true rfl) eW_tear_15 ?_
    refine v_iload_n X (pc := 18) 0 rfl eW_tear_18 rfl ?_
    exact v_iret X (pc := 19) h hr eW_tear_19
  · refine v_iconst X (pc := 7) (v := (1 : Int32)) eW_tear_7 (by decide) ?_
    refine v_goto X (pc := 8) (tgt := 12) eW_tear_8 (by decide) ?_
    refine v_istore_n X (pc := 12) (lv' := [(1, _), (0, _)]) eW_tear_12 rfl (Nat.le_of_ble_eq_true rfl) rfl ?_
    refine v_aload_n X (pc := 13) 1 rfl eW_tear_13 rfl ?_
    refine v_iconst X (pc := 14) (v := (0 : Int32)) eW_tear_14 (by decide) ?_
    refine v_put X (pc := 15) 2 (mem' := (sI mem 0 0 2 (0 : Int32))) (by decide) (by decide) rfl (pf_0_2 _ _ _ _ _) rowI_ne rfl in_WallShifts ty_WallShifts_ok nm_WallShifts (by decide) qw_142 rfl rfl rfl (Nat.le_of_ble_eq_true rfl) eW_tear_15 ?_
    refine v_iload_n X (pc := 18) 0 rfl eW_tear_18 rfl ?_
    exact v_iret X (pc := 19) h hr eW_tear_19
set_option maxHeartbeats 4000000 in
set_option maxRecDepth 100000 in
theorem cP_wordsCountedEach_4 {p : Program} {l : Launch} {e : Env} {s : State} {m : MethodId} {args : Array Value} {below : List Frame} {meth : Method} {c : Code} {k : KK} {f : Nat} {o : Int32} {mem' : Mem} (X : CX p s m args meth c k prog_2_method_18_code 3 "WallShifts$Palace") (hr : meth.sig.returnType = (Option.some Jvm.ClassFile.FieldType.int)) : ∀ (n : Nat) (q0 : Nat) (x1 : Int32) (x2 : Int32) (mem : Mem), q0 < 3 → dP_wordsCountedEach_4 f n q0 x1 x2 mem = some (o, mem') → V p l e (rmM 1 20) s m args below meth c 0 0 (MQ below (RQc k (some (aI o)) mem') args s 0 0 (kA k)) k 3 mem 4 [(0, aR 1 q0), (1, aI x1), (2, aI x2)] [] := by
  intro n
  induction n with
  | zero =>
    intro q0 x1 x2 mem hq0 h
    exact nomatch (show (none : Option (Int32 × Mem)) = some _ from h)
  | succ n ih =>
    intro q0 x1 x2 mem hq0 h
    rw [dP_wordsCountedEach_4] at h
    refine v_iload_n X (pc := 4) 2 rfl eP_wordsCountedEach_4 rfl ?_
    refine v_aload_n X (pc := 5) 0 rfl eP_wordsCountedEach_5 rfl ?_
    refine v_get X (pc := 6) 2 (a := aI (gI mem 1 q0 2)) (by decide) hq0 rfl rfl rfl in_Palace (by decide) qw_75 rfl eP_wordsCountedEach_6 ?_
    refine v_icmp_ge X (pc := 9) (tgt := 32) h eP_wordsCountedEach_9 (by decide) (fun h => ?_) (fun h => ?_)
    · refine v_iload_n X (pc := 12) 1 rfl eP_wordsCountedEach_12 rfl ?_
      refine v_aload_n X (pc := 13) 0 rfl eP_wordsCountedEach_13 rfl ?_
      refine v_get X (pc := 14) 3 (a := aR 3 q0) (by decide) hq0 rfl rfl rfl in_Palace (by decide) qw_77 rfl eP_wordsCountedEach_14 ?_
      refine v_iload_n X (pc := 17) 2 rfl eP_wordsCountedEach_17 rfl ?_
      refine v_aaldW X (pc := 18) h hq0 eP_wordsCountedEach_18 (fun hb1 h => ?_)
      refine v_iconst X (pc := 19) (v := (4 : Int32)) eP_wordsCountedEach_19 (by decide) ?_
      refine v_ialdK X (pc := 20) (n := 6) 4 (by decide) (by decide) (by decide) hb1 rfl eP_wordsCountedEach_20 ?_
      obtain ⟨r2, m2, hc2, h⟩ := bd_some h
      refine v_callS X (pc := 21) [_] [_] ok_S_P_80 (cJInt_bitCount  hc2) rfl (Nat.le_of_ble_eq_true rfl) ⟨Nat.le_of_ble_eq_true rfl, Nat.le_of_ble_eq_true rfl⟩ ⟨Nat.zero_le _, Nat.zero_le _⟩ eP_wordsCountedEach_21 ?_
      refine v_iadd X (pc := 24) eP_wordsCountedEach_24 ?_
      refine v_istore_n X (pc := 25) (lv' := [(1, _), (0, _), (2, _)]) eP_wordsCountedEach_25 rfl (Nat.le_of_ble_eq_true rfl) rfl ?_
      refine v_iinc X (pc := 26) (v := (x2 + (1 : Int32))) (lv' := [(2, _), (1, _), (0, _)]) 2 rfl (by rfl) eP_wordsCountedEach_26 (Nat.le_of_ble_eq_true rfl) rfl ?_
      refine v_goto X (pc := 29) (tgt := 4) eP_wordsCountedEach_29 (by decide) ?_
      exact v_sub [2, 1, 0] rfl (ih _ _ _ _ hq0 h)
    · refine v_iload_n X (pc := 32) 1 rfl eP_wordsCountedEach_32 rfl ?_
      exact v_iret X (pc := 33) h hr eP_wordsCountedEach_33
set_option maxHeartbeats 4000000 in
set_option maxRecDepth 100000 in
theorem cP_wordsCountedEach {f : Nat} {q0 : Nat} {mem : Mem} {o : Int32} {mem' : Mem} (hq0 : q0 < 3) (h : dP_wordsCountedEach f q0 mem = some (o, mem')) : RT yP_wordsCountedEach prog_2_method_18_code 3 (Option.some Jvm.ClassFile.FieldType.int) (rmM 1 20) [aR 1 q0] mem (some (aI o)) mem' := by
  refine RT.of (by decide +kernel) (Nat.le_of_ble_eq_true rfl) (fun p l e s m args below meth c k X hr => ?_)
  replace X : CX p s m args meth c k prog_2_method_18_code 3 "WallShifts$Palace" := X
  unfold dP_wordsCountedEach at h
  refine v_sub (lv' := [(0, _)]) [0] rfl ?_
  refine v_iconst X (pc := 0) (v := (0 : Int32)) eP_wordsCountedEach_0 (by decide) ?_
  refine v_istore_n X (pc := 1) (lv' := [(1, _), (0, _)]) eP_wordsCountedEach_1 rfl (Nat.le_of_ble_eq_true rfl) rfl ?_
  refine v_iconst X (pc := 2) (v := (0 : Int32)) eP_wordsCountedEach_2 (by decide) ?_
  refine v_istore_n X (pc := 3) (lv' := [(2, _), (1, _), (0, _)]) eP_wordsCountedEach_3 rfl (Nat.le_of_ble_eq_true rfl) rfl ?_
  exact v_sub [2, 1, 0] rfl (cP_wordsCountedEach_4 X hr _ _ _ _ _ hq0 h)
set_option maxHeartbeats 4000000 in
set_option maxRecDepth 100000 in
theorem cP_howManyAwake_4 {p : Program} {l : Launch} {e : Env} {s : State} {m : MethodId} {args : Array Value} {below : List Frame} {meth : Method} {c : Code} {k : KK} {f : Nat} {o : Int32} {mem' : Mem} (X : CX p s m args meth c k prog_2_method_21_code 3 "WallShifts$Palace") (hr : meth.sig.returnType = (Option.some Jvm.ClassFile.FieldType.int)) : ∀ (n : Nat) (q0 : Nat) (x1 : Int32) (x2 : Int32) (mem : Mem), q0 < 3 → dP_howManyAwake_4 f n q0 x1 x2 mem = some (o, mem') → V p l e (rmM 1 21) s m args below meth c 0 0 (MQ below (RQc k (some (aI o)) mem') args s 0 0 (kA k)) k 3 mem 4 [(0, aR 1 q0), (1, aI x1), (2, aI x2)] [] := by
  intro n
  induction n with
  | zero =>
    intro q0 x1 x2 mem hq0 h
    exact nomatch (show (none : Option (Int32 × Mem)) = some _ from h)
  | succ n ih =>
    intro q0 x1 x2 mem hq0 h
    rw [dP_howManyAwake_4] at h
    refine v_iload_n X (pc := 4) 2 rfl eP_howManyAwake_4 rfl ?_
    refine v_aload_n X (pc := 5) 0 rfl eP_howManyAwake_5 rfl ?_
    refine v_get X (pc := 6) 2 (a := aI (gI mem 1 q0 2)) (by decide) hq0 rfl rfl rfl in_Palace (by decide) qw_75 rfl eP_howManyAwake_6 ?_
    refine v_icmp_ge X (pc := 9) (tgt := 39) h eP_howManyAwake_9 (by decide) (fun h => ?_) (fun h => ?_)
    · refine v_iload_n X (pc := 12) 1 rfl eP_howManyAwake_12 rfl ?_
      refine v_aload_n X (pc := 13) 0 rfl eP_howManyAwake_13 rfl ?_
      refine v_aload_n X (pc := 14) 0 rfl eP_howManyAwake_14 rfl ?_
      refine v_get X (pc := 15) 3 (a := aR 3 q0) (by decide) hq0 rfl rfl rfl in_Palace (by decide) qw_77 rfl eP_howManyAwake_15 ?_
      refine v_iload_n X (pc := 18) 2 rfl eP_howManyAwake_18 rfl ?_
      refine v_aaldW X (pc := 19) h hq0 eP_howManyAwake_19 (fun hb1 h => ?_)
      obtain ⟨r2, m2, hc2, h⟩ := bd_some h
      refine v_callV X (pc := 20) [_] [_] ok_V_P_62 (cP_isAwake hq0 hb1 hc2) rfl (Nat.le_of_ble_eq_true rfl) ⟨Nat.le_of_ble_eq_true rfl, Nat.le_of_ble_eq_true rfl⟩ ⟨Nat.zero_le _, Nat.zero_le _⟩ (by decide) hq0 rfl rfl eP_howManyAwake_20 ?_
      refine v_if_eq X (pc := 23) (tgt := 30) h eP_howManyAwake_23 (by decide) (fun h => ?_) (fun h => ?_)
      · refine v_iconst X (pc := 30) (v := (0 : Int32)) eP_howManyAwake_30 (by decide) ?_
        refine v_iadd X (pc := 31) eP_howManyAwake_31 ?_
        refine v_istore_n X (pc := 32) (lv' := [(1, _), (0, _), (2, _)]) eP_howManyAwake_32 rfl (Nat.le_of_ble_eq_true rfl) rfl ?_
        refine v_iinc X (pc := 33) (v := (x2 + (1 : Int32))) (lv' := [(2, _), (1, _), (0, _)]) 2 rfl (by rfl) eP_howManyAwake_33 (Nat.le_of_ble_eq_true rfl) rfl ?_
        refine v_goto X (pc := 36) (tgt := 4) eP_howManyAwake_36 (by decide) ?_
        exact v_sub [2, 1, 0] rfl (ih _ _ _ _ hq0 h)
      · refine v_iconst X (pc := 26) (v := (1 : Int32)) eP_howManyAwake_26 (by decide) ?_
        refine v_goto X (pc := 27) (tgt := 31) eP_howManyAwake_27 (by decide) ?_
        refine v_iadd X (pc := 31) eP_howManyAwake_31 ?_
        refine v_istore_n X (pc := 32) (lv' := [(1, _), (0, _), (2, _)]) eP_howManyAwake_32 rfl (Nat.le_of_ble_eq_true rfl) rfl ?_
        refine v_iinc X (pc := 33) (v := (x2 + (1 : Int32))) (lv' := [(2, _), (1, _), (0, _)]) 2 rfl (by rfl) eP_howManyAwake_33 (Nat.le_of_ble_eq_true rfl) rfl ?_
        refine v_goto X (pc := 36) (tgt := 4) eP_howManyAwake_36 (by decide) ?_
        exact v_sub [2, 1, 0] rfl (ih _ _ _ _ hq0 h)
    · refine v_iload_n X (pc := 39) 1 rfl eP_howManyAwake_39 rfl ?_
      exact v_iret X (pc := 40) h hr eP_howManyAwake_40
set_option maxHeartbeats 4000000 in
set_option maxRecDepth 100000 in
theorem cP_howManyAwake {f : Nat} {q0 : Nat} {mem : Mem} {o : Int32} {mem' : Mem} (hq0 : q0 < 3) (h : dP_howManyAwake f q0 mem = some (o, mem')) : RT yP_howManyAwake prog_2_method_21_code 3 (Option.some Jvm.ClassFile.FieldType.int) (rmM 1 21) [aR 1 q0] mem (some (aI o)) mem' := by
  refine RT.of (by decide +kernel) (Nat.le_of_ble_eq_true rfl) (fun p l e s m args below meth c k X hr => ?_)
  replace X : CX p s m args meth c k prog_2_method_21_code 3 "WallShifts$Palace" := X
  unfold dP_howManyAwake at h
  refine v_sub (lv' := [(0, _)]) [0] rfl ?_
  refine v_iconst X (pc := 0) (v := (0 : Int32)) eP_howManyAwake_0 (by decide) ?_
  refine v_istore_n X (pc := 1) (lv' := [(1, _), (0, _)]) eP_howManyAwake_1 rfl (Nat.le_of_ble_eq_true rfl) rfl ?_
  refine v_iconst X (pc := 2) (v := (0 : Int32)) eP_howManyAwake_2 (by decide) ?_
  refine v_istore_n X (pc := 3) (lv' := [(2, _), (1, _), (0, _)]) eP_howManyAwake_3 rfl (Nat.le_of_ble_eq_true rfl) rfl ?_
  exact v_sub [2, 1, 0] rfl (cP_howManyAwake_4 X hr _ _ _ _ _ hq0 h)
set_option maxHeartbeats 4000000 in
set_option maxRecDepth 100000 in
theorem cW_count {f : Nat} {a1 : Int32} {mem : Mem} {o : Int32} {mem' : Mem}  (h : dW_count f a1 mem = some (o, mem')) : RT yW_count prog_1_method_37_code 2 (Option.some Jvm.ClassFile.FieldType.int) (rmM 2 44) [aR 0 0, aI a1] mem (some (aI o)) mem' := by
  refine RT.of (by decide +kernel) (Nat.le_of_ble_eq_true rfl) (fun p l e s m args below meth c k X hr => ?_)
  replace X : CX p s m args meth c k prog_1_method_37_code 2 "WallShifts" := X
  unfold dW_count at h
  refine v_sub (lv' := [(0, _), (1, _)]) [0, 1] rfl ?_
  refine v_iload_n X (pc := 0) 1 rfl eW_count_0 rfl ?_
  by_cases g0 : a1 = (0 : Int32)
  · have h := it_t h g0
    refine v_tsw X (pc := 1) (tgt := 32) (0 : Int32) g0 eW_count_1 (by decide) (by decide) rfl (by decide) ?_
    refine v_aload_n X (pc := 32) 0 rfl eW_count_32 rfl ?_
    refine v_get X (pc := 33) 0 (a := aR 1 0) (by decide) (by decide) rfl rfl rfl in_WallShifts (by decide) qw_140 rfl eW_count_33 ?_
    refine v_get X (pc := 36) 2 (a := aI (gI mem 1 0 2)) (by decide) (by decide) rfl rfl rfl in_Palace (by decide) qw_76 rfl eW_count_36 ?_
    exact v_iret X (pc := 39) h hr eW_count_39
  have h := it_f h g0
  by_cases g1 : a1 = (1 : Int32)
  · have h := it_t h g1
    refine v_tsw X (pc := 1) (tgt := 40) (1 : Int32) g1 eW_count_1 (by decide) (by decide) rfl (by decide) ?_
    refine v_aload_n X (pc := 40) 0 rfl eW_count_40 rfl ?_
    refine v_get X (pc := 41) 4 (a := aR 5 0) (by decide) (by decide) rfl rfl rfl in_WallShifts (by decide) qw_144 rfl eW_count_41 ?_
    refine v_get X (pc := 44) 1 (a := aI (gI mem 5 0 1)) (by decide) (by decide) rfl rfl rfl in_Tape (by decide) qw_101 rfl eW_count_44 ?_
    exact v_iret X (pc := 47) h hr eW_count_47
  have h := it_f h g1
  by_cases g2 : a1 = (2 : Int32)
  · have h := it_t h g2
    refine v_tsw X (pc := 1) (tgt := 48) (2 : Int32) g2 eW_count_1 (by decide) (by decide) rfl (by decide) ?_
    refine v_aload_n X (pc := 48) 0 rfl eW_count_48 rfl ?_
    refine v_get X (pc := 49) 0 (a := aR 1 0) (by decide) (by decide) rfl rfl rfl in_WallShifts (by decide) qw_140 rfl eW_count_49 ?_
    obtain ⟨r1, m1, hc1, h⟩ := bd_some h
    refine v_callV X (pc := 52) [] [] ok_V_W_241 (cP_wordsCountedEach (by decide) hc1) rfl (Nat.le_of_ble_eq_true rfl) ⟨Nat.le_of_ble_eq_true rfl, Nat.le_of_ble_eq_true rfl⟩ ⟨Nat.zero_le _, Nat.zero_le _⟩ (by decide) (by decide) rfl rfl eW_count_52 ?_
    exact v_iret X (pc := 55) h hr eW_count_55
  have h := it_f h g2
  by_cases g3 : a1 = (3 : Int32)
  · have h := it_t h g3
    refine v_tsw X (pc := 1) (tgt := 56) (3 : Int32) g3 eW_count_1 (by decide) (by decide) rfl (by decide) ?_
    refine v_aload_n X (pc := 56) 0 rfl eW_count_56 rfl ?_
    refine v_get X (pc := 57) 0 (a := aR 1 0) (by decide) (by decide) rfl rfl rfl in_WallShifts (by decide) qw_140 rfl eW_count_57 ?_
    obtain ⟨r2, m2, hc2, h⟩ := bd_some h
    refine v_callV X (pc := 60) [] [] ok_V_W_244 (cP_howManyAwake (by decide) hc2) rfl (Nat.le_of_ble_eq_true rfl) ⟨Nat.le_of_ble_eq_true rfl, Nat.le_of_ble_eq_true rfl⟩ ⟨Nat.zero_le _, Nat.zero_le _⟩ (by decide) (by decide) rfl rfl eW_count_60 ?_
    exact v_iret X (pc := 63) h hr eW_count_63
  have h := it_f h g3
  refine v_tswD X (pc := 1) (tgt := 64) (tsw_out_0_3 g0 g1 g2 g3) eW_count_1 (by decide) ?_
  refine v_aload_n X (pc := 64) 0 rfl eW_count_64 rfl ?_
  refine v_ldc X (pc := 65) qw_179 eW_count_65 ?_
  obtain ⟨r3, m3, hc3, h⟩ := bd_some h
  refine v_callV X (pc := 67) [_] [] ok_V_W_52 (cW_finding  hc3) rfl (Nat.le_of_ble_eq_true rfl) ⟨Nat.le_of_ble_eq_true rfl, Nat.le_of_ble_eq_true rfl⟩ ⟨Nat.zero_le _, Nat.zero_le _⟩ (by decide) (by decide) rfl rfl eW_count_67 ?_
  exact v_iret X (pc := 70) h hr eW_count_70
set_option maxHeartbeats 4000000 in
set_option maxRecDepth 100000 in
theorem cW_status_33 {p : Program} {l : Launch} {e : Env} {s : State} {m : MethodId} {args : Array Value} {below : List Frame} {meth : Method} {c : Code} {k : KK} {f : Nat} {o : Int32} {mem' : Mem} (X : CX p s m args meth c k prog_1_method_38_code 4 "WallShifts") (hr : meth.sig.returnType = (Option.some Jvm.ClassFile.FieldType.int)) : ∀ (n : Nat) (x2 : Int32) (x3 : Int32) (mem : Mem), dW_status_33 f n x2 x3 mem = some (o, mem') → V p l e (rmM 2 44) s m args below meth c 0 0 (MQ below (RQc k (some (aI o)) mem') args s 0 0 (kA k)) k 4 mem 33 [(0, aR 0 0), (2, aI x2), (3, aI x3)] [] := by
  intro n
  induction n with
  | zero =>
    intro x2 x3 mem  h
    exact nomatch (show (none : Option (Int32 × Mem)) = some _ from h)
  | succ n ih =>
    intro x2 x3 mem  h
    rw [dW_status_33] at h
    refine v_iload_n X (pc := 33) 2 rfl eW_status_33 rfl ?_
    refine v_bipush X (pc := 34) (v := (7 : Int32)) eW_status_34 (by decide) ?_
    refine v_icmp_ge X (pc := 36) (tgt := 54) h eW_status_36 (by decide) (fun h => ?_) (fun h => ?_)
    · refine v_iload_n X (pc := 39) 1 rfl eW_status_39 rfl ?_
      refine v_aload_n X (pc := 40) 0 rfl eW_status_40 rfl ?_
      refine v_get X (pc := 41) 6 (a := aR 10 0) (by decide) (by decide) rfl rfl rfl in_WallShifts (by decide) qw_146 rfl eW_status_41 ?_
      refine v_iload_n X (pc := 44) 2 rfl eW_status_44 rfl ?_
      refine v_iald X (pc := 45) h (by decide) (by decide) rfl eW_status_45 (fun h => ?_)
      refine v_iadd X (pc := 46) eW_status_46 ?_
      refine v_istore_n X (pc := 47) (lv' := [(2, _), (0, _), (3, _)]) eW_status_47 rfl (Nat.le_of_ble_eq_true rfl) rfl ?_
      refine v_iinc X (pc := 48) (v := (x3 + (1 : Int32))) (lv' := [(3, _), (2, _), (0, _)]) 2 rfl (by rfl) eW_status_48 (Nat.le_of_ble_eq_true rfl) rfl ?_
      refine v_goto X (pc := 51) (tgt := 33) eW_status_51 (by decide) ?_
      exact v_sub [2, 1, 0] rfl (ih _ _ _  h)
    · refine v_iload_n X (pc := 54) 1 rfl eW_status_54 rfl ?_
      exact v_iret X (pc := 55) h hr eW_status_55
set_option maxHeartbeats 4000000 in
set_option maxRecDepth 100000 in
theorem cW_status {f : Nat} {a1 : Int32} {mem : Mem} {o : Int32} {mem' : Mem}  (h : dW_status f a1 mem = some (o, mem')) : RT yW_status prog_1_method_38_code 4 (Option.some Jvm.ClassFile.FieldType.int) (rmM 2 44) [aR 0 0, aI a1] mem (some (aI o)) mem' := by
  refine RT.of (by decide +kernel) (Nat.le_of_ble_eq_true rfl) (fun p l e s m args below meth c k X hr => ?_)
  replace X : CX p s m args meth c k prog_1_method_38_code 4 "WallShifts" := X
  unfold dW_status at h
  refine v_sub (lv' := [(0, _), (1, _)]) [0, 1] rfl ?_
  refine v_iload_n X (pc := 0) 1 rfl eW_status_0 rfl ?_
  refine v_iconst X (pc := 1) (v := (0 : Int32)) eW_status_1 (by decide) ?_
  refine v_bipush X (pc := 2) (v := (6 : Int32)) eW_status_2 (by decide) ?_
  obtain ⟨r1, m1, hc1, h⟩ := bd_some h
  refine v_callS X (pc := 4) [_, _, _] [] ok_S_W_82 (cW_isIn  hc1) rfl (Nat.le_of_ble_eq_true rfl) ⟨Nat.le_of_ble_eq_true rfl, Nat.le_of_ble_eq_true rfl⟩ ⟨Nat.zero_le _, Nat.zero_le _⟩ eW_status_4 ?_
  refine v_if_eq X (pc := 7) (tgt := 17) h eW_status_7 (by decide) (fun h => ?_) (fun h => ?_)
  · refine v_iload_n X (pc := 17) 1 rfl eW_status_17 rfl ?_
    refine v_iconst X (pc := 18) (v := (-1 : Int32)) eW_status_18 (by decide) ?_
    refine v_icmp_eq X (pc := 19) (tgt := 29) h eW_status_19 (by decide) (fun h => ?_) (fun h => ?_)
    · refine v_iconst X (pc := 29) (v := (0 : Int32)) eW_status_29 (by decide) ?_
      refine v_istore_n X (pc := 30) (lv' := [(2, _), (0, _), (1, _)]) eW_status_30 rfl (Nat.le_of_ble_eq_true rfl) rfl ?_
      refine v_iconst X (pc := 31) (v := (0 : Int32)) eW_status_31 (by decide) ?_
      refine v_istore_n X (pc := 32) (lv' := [(3, _), (2, _), (0, _), (1, _)]) eW_status_32 rfl (Nat.le_of_ble_eq_true rfl) rfl ?_
      exact v_sub [2, 1, 0] rfl (cW_status_33 X hr _ _ _ _  h)
    · refine v_aload_n X (pc := 22) 0 rfl eW_status_22 rfl ?_
      refine v_ldc X (pc := 23) qw_179 eW_status_23 ?_
      obtain ⟨r2, m2, hc2, h⟩ := bd_some h
      refine v_callV X (pc := 25) [_] [] ok_V_W_52 (cW_finding  hc2) rfl (Nat.le_of_ble_eq_true rfl) ⟨Nat.le_of_ble_eq_true rfl, Nat.le_of_ble_eq_true rfl⟩ ⟨Nat.zero_le _, Nat.zero_le _⟩ (by decide) (by decide) rfl rfl eW_status_25 ?_
      exact v_iret X (pc := 28) h hr eW_status_28
  · refine v_aload_n X (pc := 10) 0 rfl eW_status_10 rfl ?_
    refine v_get X (pc := 11) 6 (a := aR 10 0) (by decide) (by decide) rfl rfl rfl in_WallShifts (by decide) qw_146 rfl eW_status_11 ?_
    refine v_iload_n X (pc := 14) 1 rfl eW_status_14 rfl ?_
    refine v_iald X (pc := 15) h (by decide) (by decide) rfl eW_status_15 (fun h => ?_)
    exact v_iret X (pc := 16) h hr eW_status_16
