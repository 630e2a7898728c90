/-! GENERATED: the walks. -/
set_option maxHeartbeats 4000000 in
set_option maxRecDepth 100000 in
theorem cM_shift_42 {p : Program} {l : Launch} {e : Env} {s : State} {m : MethodId} {args : Array Value} {below : List Frame} {meth : Method} {c : Code} {k : KK} {f : Nat} {o : Int32} {mem' : Mem} (X : CX p s m args meth c k prog_6_method_48_code 8 "WallShiftsModel") (hr : meth.sig.returnType = (Option.some Jvm.ClassFile.FieldType.int)) : ∀ (n : Nat) (x1 : Int32) (x2 : Int32) (x3 : Int32) (x4 : Int32) (x5 : Int32) (x6 : Int32) (mem : Mem), dM_shift_42 f n x1 x2 x3 x4 x5 x6 mem = some (o, mem') → V p l e (rmM 4 98) s m args below meth c 0 0 (MQ below (RQc k (some (aI o)) mem') args s 0 0 (kA k)) k 8 mem 42 [(0, aR 12 0), (1, aI x1), (2, aI x2), (3, aI x3), (4, aI x4), (5, aI x5), (6, aI x6)] [] := by
  intro n
  induction n with
  | zero =>
    intro x1 x2 x3 x4 x5 x6 mem  h
    exact nomatch (show (none : Option (Int32 × Mem)) = some _ from h)
  | succ n ih =>
    intro x1 x2 x3 x4 x5 x6 mem  h
    rw [dM_shift_42] at h
    refine v_iload X (pc := 42) 6 rfl eM_shift_42 ?_
    refine v_bipush X (pc := 44) (v := (60 : Int32)) eM_shift_44 (by decide) ?_
    refine v_icmp_gt X (pc := 46) (tgt := 106) h eM_shift_46 (by decide) (fun h => ?_) (fun h => ?_)
    · refine v_aload_n X (pc := 106) 0 rfl eM_shift_106 rfl ?_
      refine v_get X (pc := 107) 0 (a := aR 13 0) (by decide) (by decide) rfl rfl rfl in_Model (by decide) qw_648 rfl eM_shift_107 ?_
      refine v_iconst X (pc := 110) (v := (1 : Int32)) eM_shift_110 (by decide) ?_
      refine v_iload_n X (pc := 111) 3 rfl eM_shift_111 rfl ?_
      refine v_iastK X (pc := 112) (n := 66) 1 (by decide) (by decide) (by decide) (by decide) (fun _ => rfl) eM_shift_112 ?_
      refine v_iload X (pc := 113) 4 rfl eM_shift_113 ?_
      exact v_iret X (pc := 115) h hr eM_shift_115
    · refine v_aload_n X (pc := 49) 0 rfl eM_shift_49 rfl ?_
      refine v_get X (pc := 50) 0 (a := aR 13 0) (by decide) (by decide) rfl rfl rfl in_Model (by decide) qw_648 rfl eM_shift_50 ?_
      refine v_iconst X (pc := 53) (v := (1 : Int32)) eM_shift_53 (by decide) ?_
      refine v_iload X (pc := 54) 6 rfl eM_shift_54 ?_
      refine v_iastK X (pc := 56) (n := 66) 1 (by decide) (by decide) (by decide) (by decide) (fun _ => rfl) eM_shift_56 ?_
      refine v_aload_n X (pc := 57) 0 rfl eM_shift_57 rfl ?_
      refine v_iload_n X (pc := 58) 1 rfl eM_shift_58 rfl ?_
      refine v_iload_n X (pc := 59) 2 rfl eM_shift_59 rfl ?_
      refine v_sipush X (pc := 60) (v := (1023 : Int32)) eM_shift_60 (by decide) ?_
      obtain ⟨r1, m1, hc1, h⟩ := bd_some h
      refine v_callV X (pc := 63) [_, _, _] [] ok_V_M_139 (cM_unheardIn  hc1) rfl (Nat.le_of_ble_eq_true rfl) ⟨Nat.le_of_ble_eq_true rfl, Nat.le_of_ble_eq_true rfl⟩ ⟨Nat.zero_le _, Nat.zero_le _⟩ (by decide) (by decide) rfl rfl eM_shift_63 ?_
      refine v_istore X (pc := 66) (lv' := [(7, _), (0, _), (1, _), (2, _), (3, _), (4, _), (5, _), (6, _)]) eM_shift_66 (Nat.le_of_ble_eq_true rfl) rfl ?_
      refine v_iload X (pc := 68) 0 rfl eM_shift_68 ?_
      refine v_iload X (pc := 70) 6 rfl eM_shift_70 ?_
      refine v_icmp_ge X (pc := 72) (tgt := 80) h eM_shift_72 (by decide) (fun h => ?_) (fun h => ?_)
      · refine v_iload X (pc := 75) 7 rfl eM_shift_75 ?_
        refine v_goto X (pc := 77) (tgt := 82) eM_shift_77 (by decide) ?_
        exact v_sub [1, 2, 3, 4, 6, 7, 0] rfl (cM_shift_82 X hr ih _ _ _ _ _ _ _ _  h)
      · refine v_iload X (pc := 80) 5 rfl eM_shift_80 ?_
        exact v_sub [1, 2, 3, 4, 6, 7, 0] rfl (cM_shift_82 X hr ih _ _ _ _ _ _ _ _  h)
set_option maxHeartbeats 4000000 in
set_option maxRecDepth 100000 in
theorem cM_shift {f : Nat} {a1 : Int32} {a2 : Int32} {mem : Mem} {o : Int32} {mem' : Mem}  (h : dM_shift f a1 a2 mem = some (o, mem')) : RT yM_shift prog_6_method_48_code 8 (Option.some Jvm.ClassFile.FieldType.int) (rmM 4 98) [aR 12 0, aI a1, aI a2] mem (some (aI o)) mem' := by
  refine RT.of (by decide +kernel) (Nat.le_of_ble_eq_true rfl) (fun p l e s m args below meth c k X hr => ?_)
  replace X : CX p s m args meth c k prog_6_method_48_code 8 "WallShiftsModel" := X
  unfold dM_shift at h
  refine v_sub (lv' := [(0, _), (1, _), (2, _)]) [0, 1, 2] rfl ?_
  refine v_iload_n X (pc := 0) 1 rfl eM_shift_0 rfl ?_
  obtain ⟨r1, m1, hc1, h⟩ := bd_some h
  refine v_callS X (pc := 1) [_] [] ok_S_M_69 (cM_isRoom  hc1) rfl (Nat.le_of_ble_eq_true rfl) ⟨Nat.le_of_ble_eq_true rfl, Nat.le_of_ble_eq_true rfl⟩ ⟨Nat.zero_le _, Nat.zero_le _⟩ eM_shift_1 ?_
  refine v_if_eq X (pc := 4) (tgt := 17) h eM_shift_4 (by decide) (fun h => ?_) (fun h => ?_)
  · refine v_aload_n X (pc := 17) 0 rfl eM_shift_17 rfl ?_
    refine v_ldc X (pc := 18) qw_717 eM_shift_18 ?_
    obtain ⟨r2, m2, hc2, h⟩ := bd_some h
    refine v_callV X (pc := 20) [_] [] ok_V_M_57 (cM_finds  hc2) rfl (Nat.le_of_ble_eq_true rfl) ⟨Nat.le_of_ble_eq_true rfl, Nat.le_of_ble_eq_true rfl⟩ ⟨Nat.zero_le _, Nat.zero_le _⟩ (by decide) (by decide) rfl rfl eM_shift_20 ?_
    exact v_iret X (pc := 23) h hr eM_shift_23
  · refine v_iload_n X (pc := 7) 2 rfl eM_shift_7 rfl ?_
    refine v_iconst X (pc := 8) (v := (1 : Int32)) eM_shift_8 (by decide) ?_
    refine v_bipush X (pc := 9) (v := (60 : Int32)) eM_shift_9 (by decide) ?_
    obtain ⟨r3, m3, hc3, h⟩ := bd_some h
    refine v_callS X (pc := 11) [_, _, _] [] ok_S_M_42 (cM_in  hc3) rfl (Nat.le_of_ble_eq_true rfl) ⟨Nat.le_of_ble_eq_true rfl, Nat.le_of_ble_eq_true rfl⟩ ⟨Nat.zero_le _, Nat.zero_le _⟩ eM_shift_11 ?_
    refine v_if_ne X (pc := 14) (tgt := 24) h eM_shift_14 (by decide) (fun h => ?_) (fun h => ?_)
    · refine v_aload_n X (pc := 17) 0 rfl eM_shift_17 rfl ?_
      refine v_ldc X (pc := 18) qw_717 eM_shift_18 ?_
      obtain ⟨r4, m4, hc4, h⟩ := bd_some h
      refine v_callV X (pc := 20) [_] [] ok_V_M_57 (cM_finds  hc4) rfl (Nat.le_of_ble_eq_true rfl) ⟨Nat.le_of_ble_eq_true rfl, Nat.le_of_ble_eq_true rfl⟩ ⟨Nat.zero_le _, Nat.zero_le _⟩ (by decide) (by decide) rfl rfl eM_shift_20 ?_
      exact v_iret X (pc := 23) h hr eM_shift_23
    · refine v_aload_n X (pc := 24) 0 rfl eM_shift_24 rfl ?_
      refine v_get X (pc := 25) 0 (a := aR 13 0) (by decide) (by decide) rfl rfl rfl in_Model (by decide) qw_648 rfl eM_shift_25 ?_
      refine v_iconst X (pc := 28) (v := (1 : Int32)) eM_shift_28 (by decide) ?_
      refine v_ialdK X (pc := 29) (n := 66) 1 (by decide) (by decide) (by decide) (by decide) rfl eM_shift_29 ?_
      refine v_istore_n X (pc := 30) (lv' := [(3, _), (0, _), (1, _), (2, _)]) eM_shift_30 rfl (Nat.le_of_ble_eq_true rfl) rfl ?_
      refine v_iconst X (pc := 31) (v := (1 : Int32)) eM_shift_31 (by decide) ?_
      refine v_istore X (pc := 32) (lv' := [(4, _), (3, _), (0, _), (1, _), (2, _)]) eM_shift_32 (Nat.le_of_ble_eq_true rfl) rfl ?_
      refine v_iload_n X (pc := 34) 4 rfl eM_shift_34 rfl ?_
      refine v_iconst X (pc := 35) (v := (1 : Int32)) eM_shift_35 (by decide) ?_
      refine v_iadd X (pc := 36) eM_shift_36 ?_
      refine v_istore X (pc := 37) (lv' := [(5, _), (4, _), (3, _), (0, _), (1, _), (2, _)]) eM_shift_37 (Nat.le_of_ble_eq_true rfl) rfl ?_
      refine v_iconst X (pc := 39) (v := (1 : Int32)) eM_shift_39 (by decide) ?_
      refine v_istore X (pc := 40) (lv' := [(6, _), (5, _), (4, _), (3, _), (0, _), (1, _), (2, _)]) eM_shift_40 (Nat.le_of_ble_eq_true rfl) rfl ?_
      exact v_sub [4, 5, 6, 3, 2, 1, 0] rfl (cM_shift_42 X hr _ _ _ _ _ _ _ _  h)
set_option maxHeartbeats 4000000 in
set_option maxRecDepth 100000 in
theorem cM_side_91 {p : Program} {l : Launch} {e : Env} {s : State} {m : MethodId} {args : Array Value} {below : List Frame} {meth : Method} {c : Code} {k : KK} {f : Nat} {o : Int32} {mem' : Mem} (X : CX p s m args meth c k prog_6_method_49_code 9 "WallShiftsModel") (hr : meth.sig.returnType = (Option.some Jvm.ClassFile.FieldType.int)) {k52 : Int32 → Int32 → Int32 → Int32 → Int32 → Int32 → Int32 → Mem → Option (Int32 × Mem)} (hk52 : ∀ (x1 : Int32) (x2 : Int32) (x3 : Int32) (x4 : Int32) (x5 : Int32) (x6 : Int32) (x7 : Int32) (mem : Mem), k52 x1 x2 x3 x4 x5 x6 x7 mem = some (o, mem') → V p l e (rmM 4 98) s m args below meth c 0 0 (MQ below (RQc k (some (aI o)) mem') args s 0 0 (kA k)) k 9 mem 52 [(0, aR 12 0), (1, aI x1), (2, aI x2), (3, aI x3), (4, aI x4), (5, aI x5), (6, aI x6), (7, aI x7)] []) : ∀ (x1 : Int32) (x2 : Int32) (x3 : Int32) (x4 : Int32) (x6 : Int32) (x7 : Int32) (x8 : Int32) (s0 : Int32) (mem : Mem), dM_side_91 f k52 x1 x2 x3 x4 x6 x7 x8 s0 mem = some (o, mem') → V p l e (rmM 4 98) s m args below meth c 0 0 (MQ below (RQc k (some (aI o)) mem') args s 0 0 (kA k)) k 9 mem 91 [(0, aR 12 0), (1, aI x1), (2, aI x2), (3, aI x3), (4, aI x4), (6, aI x6), (7, aI x7), (8, aI x8)] [aI s0] := by
  intro x1 x2 x3 x4 x6 x7 x8 s0 mem  h
  unfold dM_side_91 at h
  refine v_istore X (pc := 91) (lv' := [(5, _), (0, _), (1, _), (2, _), (3, _), (4, _), (6, _), (7, _), (8, _)]) eM_side_91 (Nat.le_of_ble_eq_true rfl) rfl ?_
  refine v_iload X (pc := 93) 8 rfl eM_side_93 ?_
  refine v_iload X (pc := 95) 6 rfl eM_side_95 ?_
  refine v_icmp_ge X (pc := 97) (tgt := 105) h eM_side_97 (by decide) (fun h => ?_) (fun h => ?_)
  · refine v_iload X (pc := 100) 8 rfl eM_side_100 ?_
    refine v_goto X (pc := 102) (tgt := 107) eM_side_102 (by decide) ?_
    refine v_istore X (pc := 107) (lv' := [(6, _), (5, _), (0, _), (1, _), (2, _), (3, _), (4, _), (7, _), (8, _)]) eM_side_107 (Nat.le_of_ble_eq_true rfl) rfl ?_
    refine v_iinc X (pc := 109) (v := (x7 + (1 : Int32))) (lv' := [(7, _), (6, _), (5, _), (0, _), (1, _), (2, _), (3, _), (4, _), (8, _)]) 7 rfl (by rfl) eM_side_109 (Nat.le_of_ble_eq_true rfl) rfl ?_
    refine v_goto X (pc := 112) (tgt := 52) eM_side_112 (by decide) ?_
    exact v_sub [3, 4, 5, 6, 7, 2, 1, 0] rfl (hk52 _ _ _ _ _ _ _ _  h)
  · refine v_iload X (pc := 105) 6 rfl eM_side_105 ?_
    refine v_istore X (pc := 107) (lv' := [(6, _), (5, _), (0, _), (1, _), (2, _), (3, _), (4, _), (7, _), (8, _)]) eM_side_107 (Nat.le_of_ble_eq_true rfl) rfl ?_
    refine v_iinc X (pc := 109) (v := (x7 + (1 : Int32))) (lv' := [(7, _), (6, _), (5, _), (0, _), (1, _), (2, _), (3, _), (4, _), (8, _)]) 7 rfl (by rfl) eM_side_109 (Nat.le_of_ble_eq_true rfl) rfl ?_
    refine v_goto X (pc := 112) (tgt := 52) eM_side_112 (by decide) ?_
    exact v_sub [3, 4, 5, 6, 7, 2, 1, 0] rfl (hk52 _ _ _ _ _ _ _ _  h)
set_option maxHeartbeats 4000000 in
set_option maxRecDepth 100000 in
theorem cM_side_52 {p : Program} {l : Launch} {e : Env} {s : State} {m : MethodId} {args : Array Value} {below : List Frame} {meth : Method} {c : Code} {k : KK} {f : Nat} {o : Int32} {mem' : Mem} (X : CX p s m args meth c k prog_6_method_49_code 9 "WallShiftsModel") (hr : meth.sig.returnType = (Option.some Jvm.ClassFile.FieldType.int)) : ∀ (n : Nat) (x1 : Int32) (x2 : Int32) (x3 : Int32) (x4 : Int32) (x5 : Int32) (x6 : Int32) (x7 : Int32) (mem : Mem), dM_side_52 f n x1 x2 x3 x4 x5 x6 x7 mem = some (o, mem') → V p l e (rmM 4 98) s m args below meth c 0 0 (MQ below (RQc k (some (aI o)) mem') args s 0 0 (kA k)) k 9 mem 52 [(0, aR 12 0), (1, aI x1), (2, aI x2), (3, aI x3), (4, aI x4), (5, aI x5), (6, aI x6), (7, aI x7)] [] := by
  intro n
  induction n with
  | zero =>
    intro x1 x2 x3 x4 x5 x6 x7 mem  h
    exact nomatch (show (none : Option (Int32 × Mem)) = some _ from h)
  | succ n ih =>
    intro x1 x2 x3 x4 x5 x6 x7 mem  h
    rw [dM_side_52] at h
    refine v_iload X (pc := 52) 7 rfl eM_side_52 ?_
    refine v_iconst X (pc := 54) (v := (4 : Int32)) eM_side_54 (by decide) ?_
    refine v_icmp_ge X (pc := 55) (tgt := 115) h eM_side_55 (by decide) (fun h => ?_) (fun h => ?_)
    · refine v_aload_n X (pc := 58) 0 rfl eM_side_58 rfl ?_
      refine v_iload_n X (pc := 59) 1 rfl eM_side_59 rfl ?_
      refine v_iconst X (pc := 60) (v := (3 : Int32)) eM_side_60 (by decide) ?_
      refine v_iload X (pc := 61) 7 rfl eM_side_61 ?_
      obtain ⟨r1, m1, hc1, h⟩ := bd_some h
      refine v_callV X (pc := 63) [_, _, _] [] ok_V_M_61 (cM_puts  hc1) rfl (Nat.le_of_ble_eq_true rfl) ⟨Nat.le_of_ble_eq_true rfl, Nat.le_of_ble_eq_true rfl⟩ ⟨Nat.zero_le _, Nat.zero_le _⟩ (by decide) (by decide) rfl rfl eM_side_63 ?_
      refine v_aload_n X (pc := 66) 0 rfl eM_side_66 rfl ?_
      refine v_iload_n X (pc := 67) 2 rfl eM_side_67 rfl ?_
      refine v_iload_n X (pc := 68) 3 rfl eM_side_68 rfl ?_
      refine v_sipush X (pc := 69) (v := (1023 : Int32)) eM_side_69 (by decide) ?_
      obtain ⟨r2, m2, hc2, h⟩ := bd_some h
      refine v_callV X (pc := 72) [_, _, _] [] ok_V_M_139 (cM_unheardIn  hc2) rfl (Nat.le_of_ble_eq_true rfl) ⟨Nat.le_of_ble_eq_true rfl, Nat.le_of_ble_eq_true rfl⟩ ⟨Nat.zero_le _, Nat.zero_le _⟩ (by decide) (by decide) rfl rfl eM_side_72 ?_
      refine v_istore X (pc := 75) (lv' := [(8, _), (0, _), (1, _), (2, _), (3, _), (4, _), (5, _), (6, _), (7, _)]) eM_side_75 (Nat.le_of_ble_eq_true rfl) rfl ?_
      refine v_iload X (pc := 77) 0 rfl eM_side_77 ?_
      refine v_iload X (pc := 79) 7 rfl eM_side_79 ?_
      refine v_icmp_ge X (pc := 81) (tgt := 89) h eM_side_81 (by decide) (fun h => ?_) (fun h => ?_)
      · refine v_iload X (pc := 84) 8 rfl eM_side_84 ?_
        refine v_goto X (pc := 86) (tgt := 91) eM_side_86 (by decide) ?_
        exact v_sub [1, 2, 3, 4, 5, 7, 8, 0] rfl (cM_side_91 X hr ih _ _ _ _ _ _ _ _ _  h)
      · refine v_iload X (pc := 89) 6 rfl eM_side_89 ?_
        exact v_sub [1, 2, 3, 4, 5, 7, 8, 0] rfl (cM_side_91 X hr ih _ _ _ _ _ _ _ _ _  h)
    · refine v_aload_n X (pc := 115) 0 rfl eM_side_115 rfl ?_
      refine v_iload_n X (pc := 116) 1 rfl eM_side_116 rfl ?_
      refine v_iconst X (pc := 117) (v := (3 : Int32)) eM_side_117 (by decide) ?_
      refine v_iload X (pc := 118) 4 rfl eM_side_118 ?_
      obtain ⟨r3, m3, hc3, h⟩ := bd_some h
      refine v_callV X (pc := 120) [_, _, _] [] ok_V_M_61 (cM_puts  hc3) rfl (Nat.le_of_ble_eq_true rfl) ⟨Nat.le_of_ble_eq_true rfl, Nat.le_of_ble_eq_true rfl⟩ ⟨Nat.zero_le _, Nat.zero_le _⟩ (by decide) (by decide) rfl rfl eM_side_120 ?_
      refine v_iload X (pc := 123) 5 rfl eM_side_123 ?_
      exact v_iret X (pc := 125) h hr eM_side_125
set_option maxHeartbeats 4000000 in
set_option maxRecDepth 100000 in
theorem cM_side {f : Nat} {a1 : Int32} {a2 : Int32} {a3 : Int32} {mem : Mem} {o : Int32} {mem' : Mem}  (h : dM_side f a1 a2 a3 mem = some (o, mem')) : RT yM_side prog_6_method_49_code 9 (Option.some Jvm.ClassFile.FieldType.int) (rmM 4 98) [aR 12 0, aI a1, aI a2, aI a3] mem (some (aI o)) mem' := by
  refine RT.of (by decide +kernel) (Nat.le_of_ble_eq_true rfl) (fun p l e s m args below meth c k X hr => ?_)
  replace X : CX p s m args meth c k prog_6_method_49_code 9 "WallShiftsModel" := X
  unfold dM_side at h
  refine v_sub (lv' := [(0, _), (1, _), (2, _), (3, _)]) [0, 1, 2, 3] rfl ?_
  refine v_aload_n X (pc := 0) 0 rfl eM_side_0 rfl ?_
  refine v_iload_n X (pc := 1) 1 rfl eM_side_1 rfl ?_
  obtain ⟨r1, m1, hc1, h⟩ := bd_some h
  refine v_callV X (pc := 2) [_] [] ok_V_M_77 (cM_isOne  hc1) rfl (Nat.le_of_ble_eq_true rfl) ⟨Nat.le_of_ble_eq_true rfl, Nat.le_of_ble_eq_true rfl⟩ ⟨Nat.zero_le _, Nat.zero_le _⟩ (by decide) (by decide) rfl rfl eM_side_2 ?_
  refine v_if_eq X (pc := 5) (tgt := 26) h eM_side_5 (by decide) (fun h => ?_) (fun h => ?_)
  · refine v_aload_n X (pc := 26) 0 rfl eM_side_26 rfl ?_
    refine v_ldc X (pc := 27) qw_717 eM_side_27 ?_
    obtain ⟨r2, m2, hc2, h⟩ := bd_some h
    refine v_callV X (pc := 29) [_] [] ok_V_M_57 (cM_finds  hc2) rfl (Nat.le_of_ble_eq_true rfl) ⟨Nat.le_of_ble_eq_true rfl, Nat.le_of_ble_eq_true rfl⟩ ⟨Nat.zero_le _, Nat.zero_le _⟩ (by decide) (by decide) rfl rfl eM_side_29 ?_
    exact v_iret X (pc := 32) h hr eM_side_32
  · refine v_iload_n X (pc := 8) 2 rfl eM_side_8 rfl ?_
    obtain ⟨r3, m3, hc3, h⟩ := bd_some h
    refine v_callS X (pc := 9) [_] [] ok_S_M_69 (cM_isRoom  hc3) rfl (Nat.le_of_ble_eq_true rfl) ⟨Nat.le_of_ble_eq_true rfl, Nat.le_of_ble_eq_true rfl⟩ ⟨Nat.zero_le _, Nat.zero_le _⟩ eM_side_9 ?_
    refine v_if_eq X (pc := 12) (tgt := 26) h eM_side_12 (by decide) (fun h => ?_) (fun h => ?_)
    · refine v_aload_n X (pc := 26) 0 rfl eM_side_26 rfl ?_
      refine v_ldc X (pc := 27) qw_717 eM_side_27 ?_
      obtain ⟨r4, m4, hc4, h⟩ := bd_some h
      refine v_callV X (pc := 29) [_] [] ok_V_M_57 (cM_finds  hc4) rfl (Nat.le_of_ble_eq_true rfl) ⟨Nat.le_of_ble_eq_true rfl, Nat.le_of_ble_eq_true rfl⟩ ⟨Nat.zero_le _, Nat.zero_le _⟩ (by decide) (by decide) rfl rfl eM_side_29 ?_
      exact v_iret X (pc := 32) h hr eM_side_32
    · refine v_iload_n X (pc := 15) 3 rfl eM_side_15 rfl ?_
      refine v_iconst X (pc := 16) (v := (1 : Int32)) eM_side_16 (by decide) ?_
      refine v_sipush X (pc := 17) (v := (240 : Int32)) eM_side_17 (by decide) ?_
      obtain ⟨r5, m5, hc5, h⟩ := bd_some h
      refine v_callS X (pc := 20) [_, _, _] [] ok_S_M_42 (cM_in  hc5) rfl (Nat.le_of_ble_eq_true rfl) ⟨Nat.le_of_ble_eq_true rfl, Nat.le_of_ble_eq_true rfl⟩ ⟨Nat.zero_le _, Nat.zero_le _⟩ eM_side_20 ?_
      refine v_if_ne X (pc := 23) (tgt := 33) h eM_side_23 (by decide) (fun h => ?_) (fun h => ?_)
      · refine v_aload_n X (pc := 26) 0 rfl eM_side_26 rfl ?_
        refine v_ldc X (pc := 27) qw_717 eM_side_27 ?_
        obtain ⟨r6, m6, hc6, h⟩ := bd_some h
        refine v_callV X (pc := 29) [_] [] ok_V_M_57 (cM_finds  hc6) rfl (Nat.le_of_ble_eq_true rfl) ⟨Nat.le_of_ble_eq_true rfl, Nat.le_of_ble_eq_true rfl⟩ ⟨Nat.zero_le _, Nat.zero_le _⟩ (by decide) (by decide) rfl rfl eM_side_29 ?_
        exact v_iret X (pc := 32) h hr eM_side_32
      · refine v_aload_n X (pc := 33) 0 rfl eM_side_33 rfl ?_
        refine v_iload_n X (pc := 34) 1 rfl eM_side_34 rfl ?_
        refine v_iconst X (pc := 35) (v := (3 : Int32)) eM_side_35 (by decide) ?_
        obtain ⟨r7, m7, hc7, h⟩ := bd_some h
        refine v_callV X (pc := 36) [_, _] [] ok_V_M_46 (cM_its  hc7) rfl (Nat.le_of_ble_eq_true rfl) ⟨Nat.le_of_ble_eq_true rfl, Nat.le_of_ble_eq_true rfl⟩ ⟨Nat.zero_le _, Nat.zero_le _⟩ (by decide) (by decide) rfl rfl eM_side_36 ?_
        refine v_istore X (pc := 39) (lv' := [(4, _), (0, _), (1, _), (2, _), (3, _)]) eM_side_39 (Nat.le_of_ble_eq_true rfl) rfl ?_
        refine v_iconst X (pc := 41) (v := (0 : Int32)) eM_side_41 (by decide) ?_
        refine v_istore X (pc := 42) (lv' := [(5, _), (4, _), (0, _), (1, _), (2, _), (3, _)]) eM_side_42 (Nat.le_of_ble_eq_true rfl) rfl ?_
        refine v_iload_n X (pc := 44) 5 rfl eM_side_44 rfl ?_
        refine v_iconst X (pc := 45) (v := (1 : Int32)) eM_side_45 (by decide) ?_
        refine v_iadd X (pc := 46) eM_side_46 ?_
        refine v_istore X (pc := 47) (lv' := [(6, _), (5, _), (4, _), (0, _), (1, _), (2, _), (3, _)]) eM_side_47 (Nat.le_of_ble_eq_true rfl) rfl ?_
        refine v_iconst X (pc := 49) (v := (0 : Int32)) eM_side_49 (by decide) ?_
        refine v_istore X (pc := 50) (lv' := [(7, _), (6, _), (5, _), (4, _), (0, _), (1, _), (2, _), (3, _)]) eM_side_50 (Nat.le_of_ble_eq_true rfl) rfl ?_
        exact v_sub [4, 5, 6, 7, 3, 2, 1, 0] rfl (cM_side_52 X hr _ _ _ _ _ _ _ _ _  h)
set_option maxHeartbeats 4000000 in
set_option maxRecDepth 100000 in
theorem cM_moveAll_15_2 {p : Program} {l : Launch} {e : Env} {s : State} {m : MethodId} {args : Array Value} {below : List Frame} {meth : Method} {c : Code} {k : KK} {f : Nat} {o : Unit} {mem' : Mem} (X : CX p s m args meth c k prog_6_method_77_code 4 "WallShiftsModel") (hr : meth.sig.returnType = (Option.none : Option Jvm.ClassFile.FieldType)) : ∀ (n : Nat) (x1 : Int32) (x3 : Int32) (mem : Mem), dM_moveAll_15_2 f n x1 x3 mem = some (o, mem') → V p l e (rmM 0 0) s m args below meth c 0 0 (MQ below (RQc k none mem') args s 0 0 (kA k)) k 4 mem 2 [(0, aR 12 0), (1, aI x1), (2, aR 15 0), (3, aI x3)] [] := by
  intro n
  induction n with
  | zero =>
    intro x1 x3 mem  h
    exact nomatch (show (none : Option (Unit × Mem)) = some _ from h)
  | succ n ih =>
    intro x1 x3 mem  h
    rw [dM_moveAll_15_2] at h
    refine v_iload_n X (pc := 2) 3 rfl eM_moveAll_2 rfl ?_
    refine v_bipush X (pc := 3) (v := (66 : Int32)) eM_moveAll_3 (by decide) ?_
    refine v_icmp_ge X (pc := 5) (tgt := 39) h eM_moveAll_5 (by decide) (fun h => ?_) (fun h => ?_)
    · refine v_iload_n X (pc := 8) 1 rfl eM_moveAll_8 rfl ?_
      refine v_if_eq X (pc := 9) (tgt := 24) h eM_moveAll_9 (by decide) (fun h => ?_) (fun h => ?_)
      · refine v_aload_n X (pc := 24) 0 rfl eM_moveAll_24 rfl ?_
        refine v_get X (pc := 25) 0 (a := aR 13 0) (by decide) (by decide) rfl rfl rfl in_Model (by decide) qw_648 rfl eM_moveAll_25 ?_
        refine v_iload_n X (pc := 28) 3 rfl eM_moveAll_28 rfl ?_
        refine v_aload_n X (pc := 29) 2 rfl eM_moveAll_29 rfl ?_
        refine v_iload_n X (pc := 30) 3 rfl eM_moveAll_30 rfl ?_
        refine v_iald X (pc := 31) h (by decide) (by decide) rfl eM_moveAll_31 (fun h => ?_)
        refine v_iast X (pc := 32) h (by decide) (by decide) (fun _ => rfl) eM_moveAll_32 (fun h => ?_)
        refine v_iinc X (pc := 33) (v := (x3 + (1 : Int32))) (lv' := [(3, _), (0, _), (1, _), (2, _)]) 3 rfl (by rfl) eM_moveAll_33 (Nat.le_of_ble_eq_true rfl) rfl ?_
        refine v_goto X (pc := 36) (tgt := 2) eM_moveAll_36 (by decide) ?_
        exact v_sub [1, 2, 3, 0] rfl (ih _ _ _  h)
      · refine v_aload_n X (pc := 12) 2 rfl eM_moveAll_12 rfl ?_
        refine v_iload_n X (pc := 13) 3 rfl eM_moveAll_13 rfl ?_
        refine v_aload_n X (pc := 14) 0 rfl eM_moveAll_14 rfl ?_
        refine v_get X (pc := 15) 0 (a := aR 13 0) (by decide) (by decide) rfl rfl rfl in_Model (by decide) qw_648 rfl eM_moveAll_15 ?_
        refine v_iload_n X (pc := 18) 3 rfl eM_moveAll_18 rfl ?_
        refine v_iald X (pc := 19) h (by decide) (by decide) rfl eM_moveAll_19 (fun h => ?_)
        refine v_iast X (pc := 20) h (by decide) (by decide) (fun _ => rfl) eM_moveAll_20 (fun h => ?_)
        refine v_goto X (pc := 21) (tgt := 33) eM_moveAll_21 (by decide) ?_
        refine v_iinc X (pc := 33) (v := (x3 + (1 : Int32))) (lv' := [(3, _), (0, _), (1, _), (2, _)]) 3 rfl (by rfl) eM_moveAll_33 (Nat.le_of_ble_eq_true rfl) rfl ?_
        refine v_goto X (pc := 36) (tgt := 2) eM_moveAll_36 (by decide) ?_
        exact v_sub [1, 2, 3, 0] rfl (ih _ _ _  h)
    · exact v_vret X (pc := 39) h hr eM_moveAll_39
set_option maxHeartbeats 4000000 in
set_option maxRecDepth 100000 in
theorem cM_moveAll_15 {f : Nat} {a1 : Int32} {mem : Mem} {o : Unit} {mem' : Mem}  (h : dM_moveAll_15 f a1 mem = some (o, mem')) : RT yM_moveAll prog_6_method_77_code 4 (Option.none : Option Jvm.ClassFile.FieldType) (rmM 0 0) [aR 12 0, aI a1, aR 15 0] mem none mem' := by
  refine RT.of (by decide +kernel) (Nat.le_of_ble_eq_true rfl) (fun p l e s m args below meth c k X hr => ?_)
  replace X : CX p s m args meth c k prog_6_method_77_code 4 "WallShiftsModel" := X
  unfold dM_moveAll_15 at h
  refine v_sub (lv' := [(0, _), (1, _), (2, _)]) [0, 1, 2] rfl ?_
  refine v_iconst X (pc := 0) (v := (0 : Int32)) eM_moveAll_0 (by decide) ?_
  refine v_istore_n X (pc := 1) (lv' := [(3, _), (0, _), (1, _), (2, _)]) eM_moveAll_1 rfl (Nat.le_of_ble_eq_true rfl) rfl ?_
  exact v_sub [1, 2, 3, 0] rfl (cM_moveAll_15_2 X hr _ _ _ _  h)
set_option maxHeartbeats 4000000 in
set_option maxRecDepth 100000 in
theorem cM_lost {f : Nat} {a1 : Int32} {a2 : Int32} {mem : Mem} {o : Int32} {mem' : Mem}  (h : dM_lost f a1 a2 mem = some (o, mem')) : RT yM_lost prog_6_method_50_code 4 (Option.some Jvm.ClassFile.FieldType.int) (rmM 4 98) [aR 12 0, aI a1, aI a2] mem (some (aI o)) mem' := by
  refine RT.of (by decide +kernel) (Nat.le_of_ble_eq_true rfl) (fun p l e s m args below meth c k X hr => ?_)
  replace X : CX p s m args meth c k prog_6_method_50_code 4 "WallShiftsModel" := X
  unfold dM_lost at h
  refine v_sub (lv' := [(0, _), (1, _), (2, _)]) [0, 1, 2] rfl ?_
  refine v_iload_n X (pc := 0) 1 rfl eM_lost_0 rfl ?_
  obtain ⟨r1, m1, hc1, h⟩ := bd_some h
  refine v_callS X (pc := 1) [_] [] ok_S_M_69 (cM_isRoom  hc1) rfl (Nat.le_of_ble_eq_true rfl) ⟨Nat.le_of_ble_eq_true rfl, Nat.le_of_ble_eq_true rfl⟩ ⟨Nat.zero_le _, Nat.zero_le _⟩ eM_lost_1 ?_
  refine v_if_eq X (pc := 4) (tgt := 17) h eM_lost_4 (by decide) (fun h => ?_) (fun h => ?_)
  · refine v_aload_n X (pc := 17) 0 rfl eM_lost_17 rfl ?_
    refine v_ldc X (pc := 18) qw_717 eM_lost_18 ?_
    obtain ⟨r2, m2, hc2, h⟩ := bd_some h
    refine v_callV X (pc := 20) [_] [] ok_V_M_57 (cM_finds  hc2) rfl (Nat.le_of_ble_eq_true rfl) ⟨Nat.le_of_ble_eq_true rfl, Nat.le_of_ble_eq_true rfl⟩ ⟨Nat.zero_le _, Nat.zero_le _⟩ (by decide) (by decide) rfl rfl eM_lost_20 ?_
    exact v_iret X (pc := 23) h hr eM_lost_23
  · refine v_iload_n X (pc := 7) 2 rfl eM_lost_7 rfl ?_
    refine v_iconst X (pc := 8) (v := (0 : Int32)) eM_lost_8 (by decide) ?_
    refine v_ldc X (pc := 9) qw_769 eM_lost_9 ?_
    obtain ⟨r3, m3, hc3, h⟩ := bd_some h
    refine v_callS X (pc := 11) [_, _, _] [] ok_S_M_42 (cM_in  hc3) rfl (Nat.le_of_ble_eq_true rfl) ⟨Nat.le_of_ble_eq_true rfl, Nat.le_of_ble_eq_true rfl⟩ ⟨Nat.zero_le _, Nat.zero_le _⟩ eM_lost_11 ?_
    refine v_if_ne X (pc := 14) (tgt := 24) h eM_lost_14 (by decide) (fun h => ?_) (fun h => ?_)
    · refine v_aload_n X (pc := 17) 0 rfl eM_lost_17 rfl ?_
      refine v_ldc X (pc := 18) qw_717 eM_lost_18 ?_
      obtain ⟨r4, m4, hc4, h⟩ := bd_some h
      refine v_callV X (pc := 20) [_] [] ok_V_M_57 (cM_finds  hc4) rfl (Nat.le_of_ble_eq_true rfl) ⟨Nat.le_of_ble_eq_true rfl, Nat.le_of_ble_eq_true rfl⟩ ⟨Nat.zero_le _, Nat.zero_le _⟩ (by decide) (by decide) rfl rfl eM_lost_20 ?_
      exact v_iret X (pc := 23) h hr eM_lost_23
    · refine v_aload_n X (pc := 24) 0 rfl eM_lost_24 rfl ?_
      refine v_iconst X (pc := 25) (v := (1 : Int32)) eM_lost_25 (by decide) ?_
      refine v_aload_n X (pc := 26) 0 rfl eM_lost_26 rfl ?_
      refine v_get X (pc := 27) 3 (a := aR 15 0) (by decide) (by decide) rfl rfl rfl in_Model (by decide) qw_651 rfl eM_lost_27 ?_
      obtain ⟨r5, m5, hc5, h⟩ := bd_some h
      refine v_callV X (pc := 30) [_, _] [] ok_V_M_142 (cM_moveAll_15  hc5) rfl (Nat.le_of_ble_eq_true rfl) ⟨Nat.le_of_ble_eq_true rfl, Nat.le_of_ble_eq_true rfl⟩ ⟨Nat.zero_le _, Nat.zero_le _⟩ (by decide) (by decide) rfl rfl eM_lost_30 ?_
      refine v_aload_n X (pc := 33) 0 rfl eM_lost_33 rfl ?_
      refine v_iload_n X (pc := 34) 1 rfl eM_lost_34 rfl ?_
      refine v_iload_n X (pc := 35) 2 rfl eM_lost_35 rfl ?_
      obtain ⟨r6, m6, hc6, h⟩ := bd_some h
      refine v_callV X (pc := 36) [_, _] [] ok_V_M_123 (cM_speaks  hc6) rfl (Nat.le_of_ble_eq_true rfl) ⟨Nat.le_of_ble_eq_true rfl, Nat.le_of_ble_eq_true rfl⟩ ⟨Nat.zero_le _, Nat.zero_le _⟩ (by decide) (by decide) rfl rfl eM_lost_36 ?_
      refine v_istore_n X (pc := 39) (lv' := [(3, _), (0, _), (1, _), (2, _)]) eM_lost_39 rfl (Nat.le_of_ble_eq_true rfl) rfl ?_
      refine v_aload_n X (pc := 40) 1 rfl eM_lost_40 rfl ?_
      refine v_iconst X (pc := 41) (v := (0 : Int32)) eM_lost_41 (by decide) ?_
      refine v_aload_n X (pc := 42) 1 rfl eM_lost_42 rfl ?_
      refine v_get X (pc := 43) 3 (a := aR 15 0) (by decide) (by decide) rfl rfl rfl in_Model (by decide) qw_651 rfl eM_lost_43 ?_
      obtain ⟨r7, m7, hc7, h⟩ := bd_some h
      refine v_callV X (pc := 46) [_, _] [] ok_V_M_142 (cM_moveAll_15  hc7) rfl (Nat.le_of_ble_eq_true rfl) ⟨Nat.le_of_ble_eq_true rfl, Nat.le_of_ble_eq_true rfl⟩ ⟨Nat.zero_le _, Nat.zero_le _⟩ (by decide) (by decide) rfl rfl eM_lost_46 ?_
      refine v_iload_n X (pc := 49) 0 rfl eM_lost_49 rfl ?_
      refine v_if_ge X (pc := 50) (tgt := 57) h eM_lost_50 (by decide) (fun h => ?_) (fun h => ?_)
      · refine v_iconst X (pc := 53) (v := (0 : Int32)) eM_lost_53 (by decide) ?_
        refine v_goto X (pc := 54) (tgt := 61) eM_lost_54 (by decide) ?_
        exact v_iret X (pc := 61) h hr eM_lost_61
      · refine v_aload_n X (pc := 57) 1 rfl eM_lost_57 rfl ?_
        refine v_get X (pc := 58) 2 (a := aI (gI m7 12 0 2)) (by decide) (by decide) rfl rfl rfl in_Model (by decide) qw_650 rfl eM_lost_58 ?_
        exact v_iret X (pc := 61) h hr eM_lost_61
set_option maxHeartbeats 4000000 in
set_option maxRecDepth 100000 in
theorem cM_best_74 {p : Program} {l : Launch} {e : Env} {s : State} {m : MethodId} {args : Array Value} {below : List Frame} {meth : Method} {c : Code} {k : KK} {f : Nat} {o : Int32} {mem' : Mem} (X : CX p s m args meth c k prog_6_method_51_code 6 "WallShiftsModel") (hr : meth.sig.returnType = (Option.some Jvm.ClassFile.FieldType.int)) {k33 : Int32 → Int32 → Int32 → Int32 → Mem → Option (Int32 × Mem)} (hk33 : ∀ (x1 : Int32) (x2 : Int32) (x3 : Int32) (x4 : Int32) (mem : Mem), k33 x1 x2 x3 x4 mem = some (o, mem') → V p l e (rmM 4 98) s m args below meth c 0 0 (MQ below (RQc k (some (aI o)) mem') args s 0 0 (kA k)) k 6 mem 33 [(0, aR 12 0), (1, aI x1), (2, aI x2), (3, aI x3), (4, aI x4)] []) : ∀ (x1 : Int32) (x3 : Int32) (x4 : Int32) (x5 : Int32) (s0 : Int32) (mem : Mem), dM_best_74 f k33 x1 x3 x4 x5 s0 mem = some (o, mem') → V p l e (rmM 4 98) s m args below meth c 0 0 (MQ below (RQc k (some (aI o)) mem') args s 0 0 (kA k)) k 6 mem 74 [(0, aR 12 0), (1, aI x1), (3, aI x3), (4, aI x4), (5, aI x5)] [aI s0] := by
  intro x1 x3 x4 x5 s0 mem  h
  unfold dM_best_74 at h
  refine v_istore_n X (pc := 74) (lv' := [(2, _), (0, _), (1, _), (3, _), (4, _), (5, _)]) eM_best_74 rfl (Nat.le_of_ble_eq_true rfl) rfl ?_
  refine v_iload_n X (pc := 75) 0 rfl eM_best_75 rfl ?_
  refine v_iload X (pc := 76) 4 rfl eM_best_76 ?_
  refine v_icmp_ne X (pc := 78) (tgt := 86) h eM_best_78 (by decide) (fun h => ?_) (fun h => ?_)
  · refine v_iload X (pc := 81) 5 rfl eM_best_81 ?_
    refine v_goto X (pc := 83) (tgt := 87) eM_best_83 (by decide) ?_
    refine v_istore_n X (pc := 87) (lv' := [(3, _), (2, _), (0, _), (1, _), (4, _), (5, _)]) eM_best_87 rfl (Nat.le_of_ble_eq_true rfl) rfl ?_
    refine v_iinc X (pc := 88) (v := (x4 + (1 : Int32))) (lv' := [(4, _), (3, _), (2, _), (0, _), (1, _), (5, _)]) 4 rfl (by rfl) eM_best_88 (Nat.le_of_ble_eq_true rfl) rfl ?_
    refine v_goto X (pc := 91) (tgt := 33) eM_best_91 (by decide) ?_
    exact v_sub [3, 4, 2, 1, 0] rfl (hk33 _ _ _ _ _  h)
  · refine v_iload_n X (pc := 86) 3 rfl eM_best_86 rfl ?_
    refine v_istore_n X (pc := 87) (lv' := [(3, _), (2, _), (0, _), (1, _), (4, _), (5, _)]) eM_best_87 rfl (Nat.le_of_ble_eq_true rfl) rfl ?_
    refine v_iinc X (pc := 88) (v := (x4 + (1 : Int32))) (lv' := [(4, _), (3, _), (2, _), (0, _), (1, _), (5, _)]) 4 rfl (by rfl) eM_best_88 (Nat.le_of_ble_eq_true rfl) rfl ?_
    refine v_goto X (pc := 91) (tgt := 33) eM_best_91 (by decide) ?_
    exact v_sub [3, 4, 2, 1, 0] rfl (hk33 _ _ _ _ _  h)
set_option maxHeartbeats 4000000 in
set_option maxRecDepth 100000 in
theorem cM_best_33 {p : Program} {l : Launch} {e : Env} {s : State} {m : MethodId} {args : Array Value} {below : List Frame} {meth : Method} {c : Code} {k : KK} {f : Nat} {o : Int32} {mem' : Mem} (X : CX p s m args meth c k prog_6_method_51_code 6 "WallShiftsModel") (hr : meth.sig.returnType = (Option.some Jvm.ClassFile.FieldType.int)) : ∀ (n : Nat) (x1 : Int32) (x2 : Int32) (x3 : Int32) (x4 : Int32) (mem : Mem), dM_best_33 f n x1 x2 x3 x4 mem = some (o, mem') → V p l e (rmM 4 98) s m args below meth c 0 0 (MQ below (RQc k (some (aI o)) mem') args s 0 0 (kA k)) k 6 mem 33 [(0, aR 12 0), (1, aI x1), (2, aI x2), (3, aI x3), (4, aI x4)] [] := by
  intro n
  induction n with
  | zero =>
    intro x1 x2 x3 x4 mem  h
    exact nomatch (show (none : Option (Int32 × Mem)) = some _ from h)
  | succ n ih =>
    intro x1 x2 x3 x4 mem  h
    rw [dM_best_33] at h
    refine v_iload X (pc := 33) 4 rfl eM_best_33 ?_
    refine v_bipush X (pc := 35) (v := (10 : Int32)) eM_best_35 (by decide) ?_
    refine v_icmp_ge X (pc := 37) (tgt := 94) h eM_best_37 (by decide) (fun h => ?_) (fun h => ?_)
    · refine v_aload_n X (pc := 40) 0 rfl eM_best_40 rfl ?_
      refine v_iload X (pc := 41) 4 rfl eM_best_41 ?_
      refine v_iload_n X (pc := 43) 1 rfl eM_best_43 rfl ?_
      obtain ⟨r1, m1, hc1, h⟩ := bd_some h
      refine v_callV X (pc := 44) [_, _] [] ok_V_M_123 (cM_speaks  hc1) rfl (Nat.le_of_ble_eq_true rfl) ⟨Nat.le_of_ble_eq_true rfl, Nat.le_of_ble_eq_true rfl⟩ ⟨Nat.zero_le _, Nat.zero_le _⟩ (by decide) (by decide) rfl rfl eM_best_44 ?_
      refine v_istore X (pc := 47) (lv' := [(5, _), (0, _), (1, _), (2, _), (3, _), (4, _)]) eM_best_47 (Nat.le_of_ble_eq_true rfl) rfl ?_
      refine v_aload_n X (pc := 49) 1 rfl eM_best_49 rfl ?_
      refine v_iconst X (pc := 50) (v := (0 : Int32)) eM_best_50 (by decide) ?_
      refine v_aload_n X (pc := 51) 1 rfl eM_best_51 rfl ?_
      refine v_get X (pc := 52) 3 (a := aR 15 0) (by decide) (by decide) rfl rfl rfl in_Model (by decide) qw_651 rfl eM_best_52 ?_
      obtain ⟨r2, m2, hc2, h⟩ := bd_some h
      refine v_callV X (pc := 55) [_, _] [] ok_V_M_142 (cM_moveAll_15  hc2) rfl (Nat.le_of_ble_eq_true rfl) ⟨Nat.le_of_ble_eq_true rfl, Nat.le_of_ble_eq_true rfl⟩ ⟨Nat.zero_le _, Nat.zero_le _⟩ (by decide) (by decide) rfl rfl eM_best_55 ?_
      refine v_iload_n X (pc := 58) 4 rfl eM_best_58 rfl ?_
      refine v_if_lt X (pc := 59) (tgt := 68) h eM_best_59 (by decide) (fun h => ?_) (fun h => ?_)
      · refine v_iload X (pc := 68) 5 rfl eM_best_68 ?_
        refine v_goto X (pc := 70) (tgt := 74) eM_best_70 (by decide) ?_
        exact v_sub [1, 2, 4, 5, 0] rfl (cM_best_74 X hr ih _ _ _ _ _ _  h)
      · refine v_iload X (pc := 62) 0 rfl eM_best_62 ?_
        refine v_iload_n X (pc := 64) 4 rfl eM_best_64 rfl ?_
        refine v_icmp_ge X (pc := 65) (tgt := 73) h eM_best_65 (by decide) (fun h => ?_) (fun h => ?_)
        · refine v_iload X (pc := 68) 5 rfl eM_best_68 ?_
          refine v_goto X (pc := 70) (tgt := 74) eM_best_70 (by decide) ?_
          exact v_sub [1, 2, 4, 5, 0] rfl (cM_best_74 X hr ih _ _ _ _ _ _  h)
        · refine v_iload_n X (pc := 73) 3 rfl eM_best_73 rfl ?_
          exact v_sub [1, 2, 4, 5, 0] rfl (cM_best_74 X hr ih _ _ _ _ _ _  h)
    · refine v_iload_n X (pc := 94) 2 rfl eM_best_94 rfl ?_
      exact v_iret X (pc := 95) h hr eM_best_95
set_option maxHeartbeats 4000000 in
set_option maxRecDepth 100000 in
theorem cM_best {f : Nat} {a1 : Int32} {mem : Mem} {o : Int32} {mem' : Mem}  (h : dM_best f a1 mem = some (o, mem')) : RT yM_best prog_6_method_51_code 6 (Option.some Jvm.ClassFile.FieldType.int) (rmM 4 98) [aR 12 0, aI a1] mem (some (aI o)) mem' := by
  refine RT.of (by decide +kernel) (Nat.le_of_ble_eq_true rfl) (fun p l e s m args below meth c k X hr => ?_)
  replace X : CX p s m args meth c k prog_6_method_51_code 6 "WallShiftsModel" := X
  unfold dM_best at h
  refine v_sub (lv' := [(0, _), (1, _)]) [0, 1] rfl ?_
  refine v_iload_n X (pc := 0) 1 rfl eM_best_0 rfl ?_
  refine v_iconst X (pc := 1) (v := (0 : Int32)) eM_best_1 (by decide) ?_
  refine v_ldc X (pc := 2) qw_769 eM_best_2 ?_
  obtain ⟨r1, m1, hc1, h⟩ := bd_some h
  refine v_callS X (pc := 4) [_, _, _] [] ok_S_M_42 (cM_in  hc1) rfl (Nat.le_of_ble_eq_true rfl) ⟨Nat.le_of_ble_eq_true rfl, Nat.le_of_ble_eq_true rfl⟩ ⟨Nat.zero_le _, Nat.zero_le _⟩ eM_best_4 ?_
  refine v_if_ne X (pc := 7) (tgt := 17) h eM_best_7 (by decide) (fun h => ?_) (fun h => ?_)
  · refine v_aload_n X (pc := 10) 0 rfl eM_best_10 rfl ?_
    refine v_ldc X (pc := 11) qw_717 eM_best_11 ?_
    obtain ⟨r2, m2, hc2, h⟩ := bd_some h
    refine v_callV X (pc := 13) [_] [] ok_V_M_57 (cM_finds  hc2) rfl (Nat.le_of_ble_eq_true rfl) ⟨Nat.le_of_ble_eq_true rfl, Nat.le_of_ble_eq_true rfl⟩ ⟨Nat.zero_le _, Nat.zero_le _⟩ (by decide) (by decide) rfl rfl eM_best_13 ?_
    exact v_iret X (pc := 16) h hr eM_best_16
  · refine v_iconst X (pc := 17) (v := (0 : Int32)) eM_best_17 (by decide) ?_
    refine v_istore_n X (pc := 18) (lv' := [(2, _), (0, _), (1, _)]) eM_best_18 rfl (Nat.le_of_ble_eq_true rfl) rfl ?_
    refine v_iconst X (pc := 19) (v := (-1 : Int32)) eM_best_19 (by decide) ?_
    refine v_istore_n X (pc := 20) (lv' := [(3, _), (2, _), (0, _), (1, _)]) eM_best_20 rfl (Nat.le_of_ble_eq_true rfl) rfl ?_
    refine v_aload_n X (pc := 21) 2 rfl eM_best_21 rfl ?_
    refine v_iconst X (pc := 22) (v := (1 : Int32)) eM_best_22 (by decide) ?_
    refine v_aload_n X (pc := 23) 2 rfl eM_best_23 rfl ?_
    refine v_get X (pc := 24) 3 (a := aR 15 0) (by decide) (by decide) rfl rfl rfl in_Model (by decide) qw_651 rfl eM_best_24 ?_
    obtain ⟨r3, m3, hc3, h⟩ := bd_some h
    refine v_callV X (pc := 27) [_, _] [] ok_V_M_142 (cM_moveAll_15  hc3) rfl (Nat.le_of_ble_eq_true rfl) ⟨Nat.le_of_ble_eq_true rfl, Nat.le_of_ble_eq_true rfl⟩ ⟨Nat.zero_le _, Nat.zero_le _⟩ (by decide) (by decide) rfl rfl eM_best_27 ?_
    refine v_iconst X (pc := 30) (v := (0 : Int32)) eM_best_30 (by decide) ?_
    refine v_istore X (pc := 31) (lv' := [(4, _), (3, _), (2, _), (0, _), (1, _)]) eM_best_31 (Nat.le_of_ble_eq_true rfl) rfl ?_
    exact v_sub [3, 4, 2, 1, 0] rfl (cM_best_33 X hr _ _ _ _ _ _  h)
set_option maxHeartbeats 4000000 in
set_option maxRecDepth 100000 in
theorem cM_feed_38 {p : Program} {l : Launch} {e : Env} {s : State} {m : MethodId} {args : Array Value} {below : List Frame} {meth : Method} {c : Code} {k : KK} {f : Nat} {o : Int32} {mem' : Mem} (X : CX p s m args meth c k prog_6_method_52_code 4 "WallShiftsModel") (hr : meth.sig.returnType = (Option.some Jvm.ClassFile.FieldType.int)) : ∀ (n : Nat) (x1 : Int32) (x3 : Int32) (mem : Mem), dM_feed_38 f n x1 x3 mem = some (o, mem') → V p l e (rmM 1 22) s m args below meth c 0 0 (MQ below (RQc k (some (aI o)) mem') args s 0 0 (kA k)) k 4 mem 38 [(0, aR 12 0), (1, aI x1), (3, aI x3)] [] := by
  intro n
  induction n with
  | zero =>
    intro x1 x3 mem  h
    exact nomatch (show (none : Option (Int32 × Mem)) = some _ from h)
  | succ n ih =>
    intro x1 x3 mem  h
    rw [dM_feed_38] at h
    refine v_iload_n X (pc := 38) 2 rfl eM_feed_38 rfl ?_
    refine v_if_lt X (pc := 39) (tgt := 77) h eM_feed_39 (by decide) (fun h => ?_) (fun h => ?_)
    · refine v_aload_n X (pc := 77) 0 rfl eM_feed_77 rfl ?_
      refine v_get X (pc := 78) 5 (a := aI (gI mem 12 0 5)) (by decide) (by decide) rfl rfl rfl in_Model (by decide) qw_653 rfl eM_feed_78 ?_
      exact v_iret X (pc := 81) h hr eM_feed_81
    · refine v_aload_n X (pc := 42) 0 rfl eM_feed_42 rfl ?_
      refine v_get X (pc := 43) 4 (a := aR 16 0) (by decide) (by decide) rfl rfl rfl in_Model (by decide) qw_652 rfl eM_feed_43 ?_
      refine v_aload_n X (pc := 46) 0 rfl eM_feed_46 rfl ?_
      refine v_get X (pc := 47) 5 (a := aI (gI mem 12 0 5)) (by decide) (by decide) rfl rfl rfl in_Model (by decide) qw_653 rfl eM_feed_47 ?_
      refine v_iload_n X (pc := 50) 1 rfl eM_feed_50 rfl ?_
      refine v_bipush X (pc := 51) (v := (8 : Int32)) eM_feed_51 (by decide) ?_
      refine v_iload_n X (pc := 53) 2 rfl eM_feed_53 rfl ?_
      refine v_imul X (pc := 54) eM_feed_54 ?_
      refine v_ishr X (pc := 55) eM_feed_55 ?_
      refine v_sipush X (pc := 56) (v := (255 : Int32)) eM_feed_56 (by decide) ?_
      refine v_iand X (pc := 59) eM_feed_59 ?_
      refine v_iast X (pc := 60) h (by decide) (by decide) (fun _ => rfl) eM_feed_60 (fun h => ?_)
      refine v_aload_n X (pc := 61) 0 rfl eM_feed_61 rfl ?_
      refine v_dup X (pc := 62) rfl eM_feed_62 ?_
      refine v_get X (pc := 63) 5 (a := aI (gI (sI mem 16 0 (gI mem 12 0 5).toNatClampNeg ((x1 >>> (((8 : Int32) * x3) &&& 31)) &&& (255 : Int32))) 12 0 5)) (by decide) (by decide) rfl rfl rfl in_Model (by decide) qw_653 rfl eM_feed_63 ?_
      refine v_iconst X (pc := 66) (v := (1 : Int32)) eM_feed_66 (by decide) ?_
      refine v_iadd X (pc := 67) eM_feed_67 ?_
      refine v_put X (pc := 68) 5 (mem' := (sI (sI mem 16 0 (gI mem 12 0 5).toNatClampNeg ((x1 >>> (((8 : Int32) * x3) &&& 31)) &&& (255 : Int32))) 12 0 5 ((gI (sI mem 16 0 (gI mem 12 0 5).toNatClampNeg ((x1 >>> (((8 : Int32) * x3) &&& 31)) &&& (255 : Int32))) 12 0 5) + (1 : Int32)))) (by decide) (by decide) rfl (pf_12_5 _ _ _ _ _) rowI_ne rfl in_Model ty_Model_ok nm_Model (by decide) qw_653 rfl rfl rfl (Nat.le_of_ble_eq_true rfl) eM_feed_68 ?_
      refine v_iinc X (pc := 71) (v := (x3 + (-1 : Int32))) (lv' := [(3, _), (0, _), (1, _)]) 2 rfl (by rfl) eM_feed_71 (Nat.le_of_ble_eq_true rfl) rfl ?_
      refine v_goto X (pc := 74) (tgt := 38) eM_feed_74 (by decide) ?_
      exact v_sub [1, 2, 0] rfl (ih _ _ _  h)
set_option maxHeartbeats 4000000 in
set_option maxRecDepth 100000 in
theorem cM_feed {f : Nat} {a1 : Int32} {a2 : Int32} {mem : Mem} {o : Int32} {mem' : Mem}  (h : dM_feed f a1 a2 mem = some (o, mem')) : RT yM_feed prog_6_method_52_code 4 (Option.some Jvm.ClassFile.FieldType.int) (rmM 1 22) [aR 12 0, aI a1, aI a2] mem (some (aI o)) mem' := by
  refine RT.of (by decide +kernel) (Nat.le_of_ble_eq_true rfl) (fun p l e s m args below meth c k X hr => ?_)
  replace X : CX p s m args meth c k prog_6_method_52_code 4 "WallShiftsModel" := X
  unfold dM_feed at h
  refine v_sub (lv' := [(0, _), (1, _), (2, _)]) [0, 1, 2] rfl ?_
  refine v_iload_n X (pc := 0) 2 rfl eM_feed_0 rfl ?_
  refine v_iconst X (pc := 1) (v := (1 : Int32)) eM_feed_1 (by decide) ?_
  refine v_iconst X (pc := 2) (v := (4 : Int32)) eM_feed_2 (by decide) ?_
  obtain ⟨r1, m1, hc1, h⟩ := bd_some h
  refine v_callS X (pc := 3) [_, _, _] [] ok_S_M_42 (cM_in  hc1) rfl (Nat.le_of_ble_eq_true rfl) ⟨Nat.le_of_ble_eq_true rfl, Nat.le_of_ble_eq_true rfl⟩ ⟨Nat.zero_le _, Nat.zero_le _⟩ eM_feed_3 ?_
  refine v_if_ne X (pc := 6) (tgt := 16) h eM_feed_6 (by decide) (fun h => ?_) (fun h => ?_)
  · refine v_aload_n X (pc := 9) 0 rfl eM_feed_9 rfl ?_
    refine v_ldc X (pc := 10) qw_717 eM_feed_10 ?_
    obtain ⟨r2, m2, hc2, h⟩ := bd_some h
    refine v_callV X (pc := 12) [_] [] ok_V_M_57 (cM_finds  hc2) rfl (Nat.le_of_ble_eq_true rfl) ⟨Nat.le_of_ble_eq_true rfl, Nat.le_of_ble_eq_true rfl⟩ ⟨Nat.zero_le _, Nat.zero_le _⟩ (by decide) (by decide) rfl rfl eM_feed_12 ?_
    exact v_iret X (pc := 15) h hr eM_feed_15
  · refine v_aload_n X (pc := 16) 0 rfl eM_feed_16 rfl ?_
    refine v_get X (pc := 17) 5 (a := aI (gI m1 12 0 5)) (by decide) (by decide) rfl rfl rfl in_Model (by decide) qw_653 rfl eM_feed_17 ?_
    refine v_iload_n X (pc := 20) 2 rfl eM_feed_20 rfl ?_
    refine v_iadd X (pc := 21) eM_feed_21 ?_
    refine v_bipush X (pc := 22) (v := (120 : Int32)) eM_feed_22 (by decide) ?_
    refine v_icmp_le X (pc := 24) (tgt := 34) h eM_feed_24 (by decide) (fun h => ?_) (fun h => ?_)
    · refine v_aload_n X (pc := 27) 0 rfl eM_feed_27 rfl ?_
      refine v_ldc X (pc := 28) qw_732 eM_feed_28 ?_
      obtain ⟨r3, m3, hc3, h⟩ := bd_some h
      refine v_callV X (pc := 30) [_] [] ok_V_M_57 (cM_finds  hc3) rfl (Nat.le_of_ble_eq_true rfl) ⟨Nat.le_of_ble_eq_true rfl, Nat.le_of_ble_eq_true rfl⟩ ⟨Nat.zero_le _, Nat.zero_le _⟩ (by decide) (by decide) rfl rfl eM_feed_30 ?_
      exact v_iret X (pc := 33) h hr eM_feed_33
    · refine v_iload_n X (pc := 34) 2 rfl eM_feed_34 rfl ?_
      refine v_iconst X (pc := 35) (v := (1 : Int32)) eM_feed_35 (by decide) ?_
      refine v_isub X (pc := 36) eM_feed_36 ?_
      refine v_istore_n X (pc := 37) (lv' := [(3, _), (0, _), (1, _), (2, _)]) eM_feed_37 rfl (Nat.le_of_ble_eq_true rfl) rfl ?_
      exact v_sub [1, 2, 0] rfl (cM_feed_38 X hr _ _ _ _  h)
set_option maxHeartbeats 4000000 in
set_option maxRecDepth 100000 in
theorem cM_wipe {f : Nat}  {mem : Mem} {o : Int32} {mem' : Mem}  (h : dM_wipe f  mem = some (o, mem')) : RT yM_wipe prog_6_method_53_code 2 (Option.some Jvm.ClassFile.FieldType.int) (rmM 0 0) [aR 12 0] mem (some (aI o)) mem' := by
  refine RT.of (by decide +kernel) (Nat.le_of_ble_eq_true rfl) (fun p l e s m args below meth c k X hr => ?_)
  replace X : CX p s m args meth c k prog_6_method_53_code 2 "WallShiftsModel" := X
  unfold dM_wipe at h
  refine v_sub (lv' := [(0, _)]) [0] rfl ?_
  refine v_aload_n X (pc := 0) 0 rfl eM_wipe_0 rfl ?_
  refine v_get X (pc := 1) 5 (a := aI (gI mem 12 0 5)) (by decide) (by decide) rfl rfl rfl in_Model (by decide) qw_653 rfl eM_wipe_1 ?_
  refine v_istore_n X (pc := 4) (lv' := [(1, _), (0, _)]) eM_wipe_4 rfl (Nat.le_of_ble_eq_true rfl) rfl ?_
  refine v_aload_n X (pc := 5) 1 rfl eM_wipe_5 rfl ?_
  refine v_iconst X (pc := 6) (v := (0 : Int32)) eM_wipe_6 (by decide) ?_
  refine v_put X (pc := 7) 5 (mem' := (sI mem 12 0 5 (0 : Int32))) (by decide) (by decide) rfl (pf_12_5 _ _ _ _ _) rowI_ne rfl in_Model ty_Model_ok nm_Model (by decide) qw_653 rfl rfl rfl (Nat.le_of_ble_eq_true rfl) eM_wipe_7 ?_
  refine v_iload_n X (pc := 10) 0 rfl eM_wipe_10 rfl ?_
  exact v_iret X (pc := 11) h hr eM_wipe_11
set_option maxHeartbeats 4000000 in
set_option maxRecDepth 100000 in
theorem cM_moveAll_22_2 {p : Program} {l : Launch} {e : Env} {s : State} {m : MethodId} {args : Array Value} {below : List Frame} {meth : Method} {c : Code} {k : KK} {f : Nat} {o : Unit} {mem' : Mem} (X : CX p s m args meth c k prog_6_method_77_code 4 "WallShiftsModel") (hr : meth.sig.returnType = (Option.none : Option Jvm.ClassFile.FieldType)) : ∀ (n : Nat) (x1 : Int32) (x3 : Int32) (mem : Mem), dM_moveAll_22_2 f n x1 x3 mem = some (o, mem') → V p l e (rmM 0 0) s m args below meth c 0 0 (MQ below (RQc k none mem') args s 0 0 (kA k)) k 4 mem 2 [(0, aR 12 0), (1, aI x1), (2, aR 22 0), (3, aI x3)] [] := by
  intro n
  induction n with
  | zero =>
    intro x1 x3 mem  h
    exact nomatch (show (none : Option (Unit × Mem)) = some _ from h)
  | succ n ih =>
    intro x1 x3 mem  h
    rw [dM_moveAll_22_2] at h
    refine v_iload_n X (pc := 2) 3 rfl eM_moveAll_2 rfl ?_
    refine v_bipush X (pc := 3) (v := (66 : Int32)) eM_moveAll_3 (by decide) ?_
    refine v_icmp_ge X (pc := 5) (tgt := 39) h eM_moveAll_5 (by decide) (fun h => ?_) (fun h => ?_)
    · refine v_iload_n X (pc := 8) 1 rfl eM_moveAll_8 rfl ?_
      refine v_if_eq X (pc := 9) (tgt := 24) h eM_moveAll_9 (by decide) (fun h => ?_) (fun h => ?_)
      · refine v_aload_n X (pc := 24) 0 rfl eM_moveAll_24 rfl ?_
        refine v_get X (pc := 25) 0 (a := aR 13 0) (by decide) (by decide) rfl rfl rfl in_Model (by decide) qw_648 rfl eM_moveAll_25 ?_
        refine v_iload_n X (pc := 28) 3 rfl eM_moveAll_28 rfl ?_
        refine v_aload_n X (pc := 29) 2 rfl eM_moveAll_29 rfl ?_
        refine v_iload_n X (pc := 30) 3 rfl eM_moveAll_30 rfl ?_
        refine v_iald X (pc := 31) h (by decide) (by decide) rfl eM_moveAll_31 (fun h => ?_)
        refine v_iast X (pc := 32) h (by decide) (by decide) (fun _ => rfl) eM_moveAll_32 (fun h => ?_)
        refine v_iinc X (pc := 33) (v := (x3 + (1 : Int32))) (lv' := [(3, _), (0, _), (1, _), (2, _)]) 3 rfl (by rfl) eM_moveAll_33 (Nat.le_of_ble_eq_true rfl) rfl ?_
        refine v_goto X (pc := 36) (tgt := 2) eM_moveAll_36 (by decide) ?_
        exact v_sub [1, 2, 3, 0] rfl (ih _ _ _  h)
      · refine v_aload_n X (pc := 12) 2 rfl eM_moveAll_12 rfl ?_
        refine v_iload_n X (pc := 13) 3 rfl eM_moveAll_13 rfl ?_
        refine v_aload_n X (pc := 14) 0 rfl eM_moveAll_14 rfl ?_
        refine v_get X (pc := 15) 0 (a := aR 13 0) (by decide) (by decide) rfl rfl rfl in_Model (by decide) qw_648 rfl eM_moveAll_15 ?_
        refine v_iload_n X (pc := 18) 3 rfl eM_moveAll_18 rfl ?_
        refine v_iald X (pc := 19) h (by decide) (by decide) rfl eM_moveAll_19 (fun h => ?_)
        refine v_iast X (pc := 20) h (by decide) (by decide) (fun _ => rfl) eM_moveAll_20 (fun h => ?_)
        refine v_goto X (pc := 21) (tgt := 33) eM_moveAll_21 (by decide) ?_
        refine v_iinc X (pc := 33) (v := (x3 + (1 : Int32))) (lv' := [(3, _), (0, _), (1, _), (2, _)]) 3 rfl (by rfl) eM_moveAll_33 (Nat.le_of_ble_eq_true rfl) rfl ?_
        refine v_goto X (pc := 36) (tgt := 2) eM_moveAll_36 (by decide) ?_
        exact v_sub [1, 2, 3, 0] rfl (ih _ _ _  h)
    · exact v_vret X (pc := 39) h hr eM_moveAll_39
set_option maxHeartbeats 4000000 in
set_option maxRecDepth 100000 in
theorem cM_moveAll_22 {f : Nat} {a1 : Int32} {mem : Mem} {o : Unit} {mem' : Mem}  (h : dM_moveAll_22 f a1 mem = some (o, mem')) : RT yM_moveAll prog_6_method_77_code 4 (Option.none : Option Jvm.ClassFile.FieldType) (rmM 0 0) [aR 12 0, aI a1, aR 22 0] mem none mem' := by
  refine RT.of (by decide +kernel) (Nat.le_of_ble_eq_true rfl) (fun p l e s m args below meth c k X hr => ?_)
  replace X : CX p s m args meth c k prog_6_method_77_code 4 "WallShiftsModel" := X
  unfold dM_moveAll_22 at h
  refine v_sub (lv' := [(0, _), (1, _), (2, _)]) [0, 1, 2] rfl ?_
  refine v_iconst X (pc := 0) (v := (0 : Int32)) eM_moveAll_0 (by decide) ?_
  refine v_istore_n X (pc := 1) (lv' := [(3, _), (0, _), (1, _), (2, _)]) eM_moveAll_1 rfl (Nat.le_of_ble_eq_true rfl) rfl ?_
  exact v_sub [1, 2, 3, 0] rfl (cM_moveAll_22_2 X hr _ _ _ _  h)
set_option maxHeartbeats 4000000 in
set_option maxRecDepth 100000 in
theorem cM_byteAt {f : Nat} {a1 : Int32} {mem : Mem} {o : Int32} {mem' : Mem}  (h : dM_byteAt f a1 mem = some (o, mem')) : RT yM_byteAt prog_6_method_54_code 2 (Option.some Jvm.ClassFile.FieldType.int) (rmM 0 0) [aR 12 0, aI a1] mem (some (aI o)) mem' := by
  refine RT.of (by decide +kernel) (Nat.le_of_ble_eq_true rfl) (fun p l e s m args below meth c k X hr => ?_)
  replace X : CX p s m args meth c k prog_6_method_54_code 2 "WallShiftsModel" := X
  unfold dM_byteAt at h
  refine v_sub (lv' := [(0, _), (1, _)]) [0, 1] rfl ?_
  refine v_iload_n X (pc := 0) 1 rfl eM_byteAt_0 rfl ?_
  refine v_aload_n X (pc := 1) 0 rfl eM_byteAt_1 rfl ?_
  refine v_get X (pc := 2) 5 (a := aI (gI mem 12 0 5)) (by decide) (by decide) rfl rfl rfl in_Model (by decide) qw_653 rfl eM_byteAt_2 ?_
  refine v_icmp_ge X (pc := 5) (tgt := 17) h eM_byteAt_5 (by decide) (fun h => ?_) (fun h => ?_)
  · refine v_aload_n X (pc := 8) 0 rfl eM_byteAt_8 rfl ?_
    refine v_get X (pc := 9) 4 (a := aR 16 0) (by decide) (by decide) rfl rfl rfl in_Model (by decide) qw_652 rfl eM_byteAt_9 ?_
    refine v_iload_n X (pc := 12) 1 rfl eM_byteAt_12 rfl ?_
    refine v_iald X (pc := 13) h (by decide) (by decide) rfl eM_byteAt_13 (fun h => ?_)
    refine v_goto X (pc := 14) (tgt := 18) eM_byteAt_14 (by decide) ?_
    exact v_iret X (pc := 18) h hr eM_byteAt_18
  · refine v_iconst X (pc := 17) (v := (-1 : Int32)) eM_byteAt_17 (by decide) ?_
    exact v_iret X (pc := 18) h hr eM_byteAt_18
set_option maxHeartbeats 4000000 in
set_option maxRecDepth 100000 in
theorem cM_isLetter {f : Nat} {a0 : Int32} {mem : Mem} {o : Int32} {mem' : Mem}  (h : dM_isLetter f a0 mem = some (o, mem')) : RT yM_isLetter prog_6_method_55_code 1 (Option.some Jvm.ClassFile.FieldType.boolean) (rmM 1 22) [aI a0] mem (some (aI o)) mem' := by
  refine RT.of (by decide +kernel) (Nat.le_of_ble_eq_true rfl) (fun p l e s m args below meth c k X hr => ?_)
  replace X : CX p s m args meth c k prog_6_method_55_code 1 "WallShiftsModel" := X
  unfold dM_isLetter at h
  refine v_sub (lv' := [(0, _)]) [0] rfl ?_
  refine v_iload_n X (pc := 0) 0 rfl eM_isLetter_0 rfl ?_
  refine v_bipush X (pc := 1) (v := (97 : Int32)) eM_isLetter_1 (by decide) ?_
  refine v_bipush X (pc := 3) (v := (122 : Int32)) eM_isLetter_3 (by decide) ?_
  obtain ⟨r1, m1, hc1, h⟩ := bd_some h
  refine v_callS X (pc := 5) [_, _, _] [] ok_S_M_42 (cM_in  hc1) rfl (Nat.le_of_ble_eq_true rfl) ⟨Nat.le_of_ble_eq_true rfl, Nat.le_of_ble_eq_true rfl⟩ ⟨Nat.zero_le _, Nat.zero_le _⟩ eM_isLetter_5 ?_
  obtain ⟨hz, h⟩ := zb_some h
  exact v_zret X (pc := 8) h hr (zb_n hz) eM_isLetter_8
set_option maxHeartbeats 4000000 in
set_option maxRecDepth 100000 in
theorem cM_isDigit {f : Nat} {a0 : Int32} {mem : Mem} {o : Int32} {mem' : Mem}  (h : dM_isDigit f a0 mem = some (o, mem')) : RT yM_isDigit prog_6_method_56_code 1 (Option.some Jvm.ClassFile.FieldType.boolean) (rmM 1 22) [aI a0] mem (some (aI o)) mem' := by
  refine RT.of (by decide +kernel) (Nat.le_of_ble_eq_true rfl) (fun p l e s m args below meth c k X hr => ?_)
  replace X : CX p s m args meth c k prog_6_method_56_code 1 "WallShiftsModel" := X
  unfold dM_isDigit at h
  refine v_sub (lv' := [(0, _)]) [0] rfl ?_
  refine v_iload_n X (pc := 0) 0 rfl eM_isDigit_0 rfl ?_
  refine v_bipush X (pc := 1) (v := (48 : Int32)) eM_isDigit_1 (by decide) ?_
  refine v_bipush X (pc := 3) (v := (57 : Int32)) eM_isDigit_3 (by decide) ?_
  obtain ⟨r1, m1, hc1, h⟩ := bd_some h
  refine v_callS X (pc := 5) [_, _, _] [] ok_S_M_42 (cM_in  hc1) rfl (Nat.le_of_ble_eq_true rfl) ⟨Nat.le_of_ble_eq_true rfl, Nat.le_of_ble_eq_true rfl⟩ ⟨Nat.zero_le _, Nat.zero_le _⟩ eM_isDigit_5 ?_
  obtain ⟨hz, h⟩ := zb_some h
  exact v_zret X (pc := 8) h hr (zb_n hz) eM_isDigit_8
set_option maxHeartbeats 4000000 in
set_option maxRecDepth 100000 in
theorem cM_advance_265 {p : Program} {l : Launch} {e : Env} {s : State} {m : MethodId} {args : Array Value} {below : List Frame} {meth : Method} {c : Code} {k : KK} {f : Nat} {o : Unit} {mem' : Mem} (X : CX p s m args meth c k prog_6_method_57_code 2 "WallShiftsModel") (hr : meth.sig.returnType = (Option.none : Option Jvm.ClassFile.FieldType)) {k207 : Mem → Option (Unit × Mem)} (hk207 : ∀  (mem : Mem), k207  mem = some (o, mem') → V p l e (rmM 2 42) s m args below meth c 0 0 (MQ below (RQc k none mem') args s 0 0 (kA k)) k 2 mem 207 [(0, aR 12 0)] []) : ∀ (s1 : Int32) (mem : Mem), dM_advance_265 f k207 s1 mem = some (o, mem') → V p l e (rmM 2 42) s m args below meth c 0 0 (MQ below (RQc k none mem') args s 0 0 (kA k)) k 2 mem 265 [(0, aR 12 0)] [aI s1, aR 12 0] := by
  intro s1 mem  h
  unfold dM_advance_265 at h
  refine v_put X (pc := 265) 10 (mem' := (sI mem 12 0 10 s1)) (by decide) (by decide) rfl (pf_12_10 _ _ _ _ _) rowI_ne rfl in_Model ty_Model_ok nm_Model (by decide) qw_658 rfl rfl rfl (Nat.le_of_ble_eq_true rfl) eM_advance_265 ?_
  refine v_aload_n X (pc := 268) 0 rfl eM_advance_268 rfl ?_
  refine v_dup X (pc := 269) rfl eM_advance_269 ?_
  refine v_get X (pc := 270) 8 (a := aI (gI (sI mem 12 0 10 s1) 12 0 8)) (by decide) (by decide) rfl rfl rfl in_Model (by decide) qw_656 rfl eM_advance_270 ?_
  refine v_iconst X (pc := 273) (v := (1 : Int32)) eM_advance_273 (by decide) ?_
  refine v_iadd X (pc := 274) eM_advance_274 ?_
  refine v_put X (pc := 275) 8 (mem' := (sI (sI mem 12 0 10 s1) 12 0 8 ((gI (sI mem 12 0 10 s1) 12 0 8) + (1 : Int32)))) (by decide) (by decide) rfl (pf_12_8 _ _ _ _ _) rowI_ne rfl in_Model ty_Model_ok nm_Model (by decide) qw_656 rfl rfl rfl (Nat.le_of_ble_eq_true rfl) eM_advance_275 ?_
  refine v_goto X (pc := 278) (tgt := 207) eM_advance_278 (by decide) ?_
  exact v_sub [0] rfl (hk207  _  h)
set_option maxHeartbeats 4000000 in
set_option maxRecDepth 100000 in
theorem cM_advance_207 {p : Program} {l : Launch} {e : Env} {s : State} {m : MethodId} {args : Array Value} {below : List Frame} {meth : Method} {c : Code} {k : KK} {f : Nat} {o : Unit} {mem' : Mem} (X : CX p s m args meth c k prog_6_method_57_code 2 "WallShiftsModel") (hr : meth.sig.returnType = (Option.none : Option Jvm.ClassFile.FieldType)) : ∀ (n : Nat)  (mem : Mem), dM_advance_207 f n  mem = some (o, mem') → V p l e (rmM 2 42) s m args below meth c 0 0 (MQ below (RQc k none mem') args s 0 0 (kA k)) k 2 mem 207 [(0, aR 12 0)] [] := by
  intro n
  induction n with
  | zero =>
    intro  mem  h
    exact nomatch (show (none : Option (Unit × Mem)) = some _ from h)
  | succ n ih =>
    intro  mem  h
    rw [dM_advance_207] at h
    refine v_aload_n X (pc := 207) 0 rfl eM_advance_207 rfl ?_
    refine v_get X (pc := 208) 6 (a := aI (gI mem 12 0 6)) (by decide) (by decide) rfl rfl rfl in_Model (by decide) qw_654 rfl eM_advance_208 ?_
    refine v_iconst X (pc := 211) (v := (2 : Int32)) eM_advance_211 (by decide) ?_
    refine v_icmp_ne X (pc := 212) (tgt := 281) h eM_advance_212 (by decide) (fun h => ?_) (fun h => ?_)
    · refine v_aload_n X (pc := 215) 0 rfl eM_advance_215 rfl ?_
      refine v_aload_n X (pc := 216) 0 rfl eM_advance_216 rfl ?_
      refine v_get X (pc := 217) 8 (a := aI (gI mem 12 0 8)) (by decide) (by decide) rfl rfl rfl in_Model (by decide) qw_656 rfl eM_advance_217 ?_
      obtain ⟨r1, m1, hc1, h⟩ := bd_some h
      refine v_callV X (pc := 220) [_] [] ok_V_M_155 (cM_byteAt  hc1) rfl (Nat.le_of_ble_eq_true rfl) ⟨Nat.le_of_ble_eq_true rfl, Nat.le_of_ble_eq_true rfl⟩ ⟨Nat.zero_le _, Nat.zero_le _⟩ (by decide) (by decide) rfl rfl eM_advance_220 ?_
      obtain ⟨r2, m2, hc2, h⟩ := bd_some h
      refine v_callS X (pc := 223) [_] [] ok_S_M_161 (cM_isDigit  hc2) rfl (Nat.le_of_ble_eq_true rfl) ⟨Nat.le_of_ble_eq_true rfl, Nat.le_of_ble_eq_true rfl⟩ ⟨Nat.zero_le _, Nat.zero_le _⟩ eM_advance_223 ?_
      refine v_if_eq X (pc := 226) (tgt := 281) h eM_advance_226 (by decide) (fun h => ?_) (fun h => ?_)
      · exact v_vret X (pc := 281) h hr eM_advance_281
      · refine v_aload_n X (pc := 229) 0 rfl eM_advance_229 rfl ?_
        refine v_aload_n X (pc := 230) 0 rfl eM_advance_230 rfl ?_
        refine v_get X (pc := 231) 10 (a := aI (gI m2 12 0 10)) (by decide) (by decide) rfl rfl rfl in_Model (by decide) qw_658 rfl eM_advance_231 ?_
        refine v_sipush X (pc := 234) (v := (999 : Int32)) eM_advance_234 (by decide) ?_
        refine v_icmp_le X (pc := 237) (tgt := 246) h eM_advance_237 (by decide) (fun h => ?_) (fun h => ?_)
        · refine v_sipush X (pc := 240) (v := (10000 : Int32)) eM_advance_240 (by decide) ?_
          refine v_goto X (pc := 243) (tgt := 265) eM_advance_243 (by decide) ?_
          exact v_sub [0] rfl (cM_advance_265 X hr ih _ _  h)
        · refine v_bipush X (pc := 246) (v := (10 : Int32)) eM_advance_246 (by decide) ?_
          refine v_aload_n X (pc := 248) 0 rfl eM_advance_248 rfl ?_
          refine v_get X (pc := 249) 10 (a := aI (gI m2 12 0 10)) (by decide) (by decide) rfl rfl rfl in_Model (by decide) qw_658 rfl eM_advance_249 ?_
          refine v_imul X (pc := 252) eM_advance_252 ?_
          refine v_aload_n X (pc := 253) 0 rfl eM_advance_253 rfl ?_
          refine v_aload_n X (pc := 254) 0 rfl eM_advance_254 rfl ?_
          refine v_get X (pc := 255) 8 (a := aI (gI m2 12 0 8)) (by decide) (by decide) rfl rfl rfl in_Model (by decide) qw_656 rfl eM_advance_255 ?_
          obtain ⟨r3, m3, hc3, h⟩ := bd_some h
          refine v_callV X (pc := 258) [_] [_, _] ok_V_M_155 (cM_byteAt  hc3) rfl (Nat.le_of_ble_eq_true rfl) ⟨Nat.le_of_ble_eq_true rfl, Nat.le_of_ble_eq_true rfl⟩ ⟨Nat.zero_le _, Nat.zero_le _⟩ (by decide) (by decide) rfl rfl eM_advance_258 ?_
          refine v_iadd X (pc := 261) eM_advance_261 ?_
          refine v_bipush X (pc := 262) (v := (48 : Int32)) eM_advance_262 (by decide) ?_
          refine v_isub X (pc := 264) eM_advance_264 ?_
          exact v_sub [0] rfl (cM_advance_265 X hr ih _ _  h)
    · exact v_vret X (pc := 281) h hr eM_advance_281
set_option maxHeartbeats 4000000 in
set_option maxRecDepth 100000 in
theorem cM_advance_191 {p : Program} {l : Launch} {e : Env} {s : State} {m : MethodId} {args : Array Value} {below : List Frame} {meth : Method} {c : Code} {k : KK} {f : Nat} {o : Unit} {mem' : Mem} (X : CX p s m args meth c k prog_6_method_57_code 2 "WallShiftsModel") (hr : meth.sig.returnType = (Option.none : Option Jvm.ClassFile.FieldType)) {k126 : Mem → Option (Unit × Mem)} (hk126 : ∀  (mem : Mem), k126  mem = some (o, mem') → V p l e (rmM 2 42) s m args below meth c 0 0 (MQ below (RQc k none mem') args s 0 0 (kA k)) k 2 mem 126 [(0, aR 12 0)] []) : ∀ (s1 : Int64) (mem : Mem), dM_advance_191 f k126 s1 mem = some (o, mem') → V p l e (rmM 2 42) s m args below meth c 0 0 (MQ below (RQc k none mem') args s 0 0 (kA k)) k 2 mem 191 [(0, aR 12 0)] [aL s1, aR 12 0] := by
  intro s1 mem  h
  unfold dM_advance_191 at h
  refine v_put X (pc := 191) 9 (mem' := (sL mem 12 0 9 s1)) (by decide) (by decide) rfl (pf_12_9 _ _ _ _ _) rowL_ne rfl in_Model ty_Model_ok nm_Model (by decide) qw_657 rfl rfl rfl (Nat.le_of_ble_eq_true rfl) eM_advance_191 ?_
  refine v_aload_n X (pc := 194) 0 rfl eM_advance_194 rfl ?_
  refine v_dup X (pc := 195) rfl eM_advance_195 ?_
  refine v_get X (pc := 196) 8 (a := aI (gI (sL mem 12 0 9 s1) 12 0 8)) (by decide) (by decide) rfl rfl rfl in_Model (by decide) qw_656 rfl eM_advance_196 ?_
  refine v_iconst X (pc := 199) (v := (1 : Int32)) eM_advance_199 (by decide) ?_
  refine v_iadd X (pc := 200) eM_advance_200 ?_
  refine v_put X (pc := 201) 8 (mem' := (sI (sL mem 12 0 9 s1) 12 0 8 ((gI (sL mem 12 0 9 s1) 12 0 8) + (1 : Int32)))) (by decide) (by decide) rfl (pf_12_8 _ _ _ _ _) rowI_ne rfl in_Model ty_Model_ok nm_Model (by decide) qw_656 rfl rfl rfl (Nat.le_of_ble_eq_true rfl) eM_advance_201 ?_
  refine v_goto X (pc := 204) (tgt := 126) eM_advance_204 (by decide) ?_
  exact v_sub [0] rfl (hk126  _  h)
set_option maxHeartbeats 4000000 in
set_option maxRecDepth 100000 in
theorem cM_advance_126 {p : Program} {l : Launch} {e : Env} {s : State} {m : MethodId} {args : Array Value} {below : List Frame} {meth : Method} {c : Code} {k : KK} {f : Nat} {o : Unit} {mem' : Mem} (X : CX p s m args meth c k prog_6_method_57_code 2 "WallShiftsModel") (hr : meth.sig.returnType = (Option.none : Option Jvm.ClassFile.FieldType)) : ∀ (n : Nat)  (mem : Mem), dM_advance_126 f n  mem = some (o, mem') → V p l e (rmM 2 42) s m args below meth c 0 0 (MQ below (RQc k none mem') args s 0 0 (kA k)) k 2 mem 126 [(0, aR 12 0)] [] := by
  intro n
  induction n with
  | zero =>
    intro  mem  h
    exact nomatch (show (none : Option (Unit × Mem)) = some _ from h)
  | succ n ih =>
    intro  mem  h
    rw [dM_advance_126] at h
    refine v_aload_n X (pc := 126) 0 rfl eM_advance_126 rfl ?_
    refine v_get X (pc := 127) 6 (a := aI (gI mem 12 0 6)) (by decide) (by decide) rfl rfl rfl in_Model (by decide) qw_654 rfl eM_advance_127 ?_
    refine v_iconst X (pc := 130) (v := (1 : Int32)) eM_advance_130 (by decide) ?_
    refine v_icmp_ne X (pc := 131) (tgt := 207) h eM_advance_131 (by decide) (fun h => ?_) (fun h => ?_)
    · refine v_aload_n X (pc := 134) 0 rfl eM_advance_134 rfl ?_
      refine v_aload_n X (pc := 135) 0 rfl eM_advance_135 rfl ?_
      refine v_get X (pc := 136) 8 (a := aI (gI mem 12 0 8)) (by decide) (by decide) rfl rfl rfl in_Model (by decide) qw_656 rfl eM_advance_136 ?_
      obtain ⟨r1, m1, hc1, h⟩ := bd_some h
      refine v_callV X (pc := 139) [_] [] ok_V_M_155 (cM_byteAt  hc1) rfl (Nat.le_of_ble_eq_true rfl) ⟨Nat.le_of_ble_eq_true rfl, Nat.le_of_ble_eq_true rfl⟩ ⟨Nat.zero_le _, Nat.zero_le _⟩ (by decide) (by decide) rfl rfl eM_advance_139 ?_
      obtain ⟨r2, m2, hc2, h⟩ := bd_some h
      refine v_callS X (pc := 142) [_] [] ok_S_M_158 (cM_isLetter  hc2) rfl (Nat.le_of_ble_eq_true rfl) ⟨Nat.le_of_ble_eq_true rfl, Nat.le_of_ble_eq_true rfl⟩ ⟨Nat.zero_le _, Nat.zero_le _⟩ eM_advance_142 ?_
      refine v_if_eq X (pc := 145) (tgt := 207) h eM_advance_145 (by decide) (fun h => ?_) (fun h => ?_)
      · exact v_sub [0] rfl (cM_advance_207 X hr _  _  h)
      · refine v_aload_n X (pc := 148) 0 rfl eM_advance_148 rfl ?_
        refine v_aload_n X (pc := 149) 0 rfl eM_advance_149 rfl ?_
        refine v_get X (pc := 150) 8 (a := aI (gI m2 12 0 8)) (by decide) (by decide) rfl rfl rfl in_Model (by decide) qw_656 rfl eM_advance_150 ?_
        refine v_aload_n X (pc := 153) 0 rfl eM_advance_153 rfl ?_
        refine v_get X (pc := 154) 7 (a := aI (gI m2 12 0 7)) (by decide) (by decide) rfl rfl rfl in_Model (by decide) qw_655 rfl eM_advance_154 ?_
        refine v_isub X (pc := 157) eM_advance_157 ?_
        refine v_bipush X (pc := 158) (v := (12 : Int32)) eM_advance_158 (by decide) ?_
        refine v_icmp_ge X (pc := 160) (tgt := 188) h eM_advance_160 (by decide) (fun h => ?_) (fun h => ?_)
        · refine v_ldc2 X (pc := 163) qw_936 eM_advance_163 ?_
          refine v_aload_n X (pc := 166) 0 rfl eM_advance_166 rfl ?_
          refine v_get X (pc := 167) 9 (a := aL (gL m2 12 0 9)) (by decide) (by decide) rfl rfl rfl in_Model (by decide) qw_657 rfl eM_advance_167 ?_
          refine v_lmul X (pc := 170) eM_advance_170 ?_
          refine v_aload_n X (pc := 171) 0 rfl eM_advance_171 rfl ?_
          refine v_aload_n X (pc := 172) 0 rfl eM_advance_172 rfl ?_
          refine v_get X (pc := 173) 8 (a := aI (gI m2 12 0 8)) (by decide) (by decide) rfl rfl rfl in_Model (by decide) qw_656 rfl eM_advance_173 ?_
          obtain ⟨r3, m3, hc3, h⟩ := bd_some h
          refine v_callV X (pc := 176) [_] [_, _] ok_V_M_155 (cM_byteAt  hc3) rfl (Nat.le_of_ble_eq_true rfl) ⟨Nat.le_of_ble_eq_true rfl, Nat.le_of_ble_eq_true rfl⟩ ⟨Nat.zero_le _, Nat.zero_le _⟩ (by decide) (by decide) rfl rfl eM_advance_176 ?_
          refine v_i2l X (pc := 179) eM_advance_179 ?_
          refine v_ladd X (pc := 180) eM_advance_180 ?_
          refine v_ldc2 X (pc := 181) qw_937 eM_advance_181 ?_
          refine v_lsub X (pc := 184) eM_advance_184 ?_
          refine v_goto X (pc := 185) (tgt := 191) eM_advance_185 (by decide) ?_
          exact v_sub [0] rfl (cM_advance_191 X hr ih _ _  h)
        · refine v_ldc2 X (pc := 188) qw_938 eM_advance_188 ?_
          exact v_sub [0] rfl (cM_advance_191 X hr ih _ _  h)
    · exact v_sub [0] rfl (cM_advance_207 X hr _  _  h)
set_option maxHeartbeats 4000000 in
set_option maxRecDepth 100000 in
theorem cM_advance_105 {p : Program} {l : Launch} {e : Env} {s : State} {m : MethodId} {args : Array Value} {below : List Frame} {meth : Method} {c : Code} {k : KK} {f : Nat} {o : Unit} {mem' : Mem} (X : CX p s m args meth c k prog_6_method_57_code 2 "WallShiftsModel") (hr : meth.sig.returnType = (Option.none : Option Jvm.ClassFile.FieldType)) : ∀ (s1 : Int32) (mem : Mem), dM_advance_105 f s1 mem = some (o, mem') → V p l e (rmM 2 42) s m args below meth c 0 0 (MQ below (RQc k none mem') args s 0 0 (kA k)) k 2 mem 105 [(0, aR 12 0)] [aI s1, aR 12 0] := by
  intro s1 mem  h
  unfold dM_advance_105 at h
  refine v_put X (pc := 105) 10 (mem' := (sI mem 12 0 10 s1)) (by decide) (by decide) rfl (pf_12_10 _ _ _ _ _) rowI_ne rfl in_Model ty_Model_ok nm_Model (by decide) qw_658 rfl rfl rfl (Nat.le_of_ble_eq_true rfl) eM_advance_105 ?_
  refine v_aload_n X (pc := 108) 0 rfl eM_advance_108 rfl ?_
  refine v_get X (pc := 109) 6 (a := aI (gI (sI mem 12 0 10 s1) 12 0 6)) (by decide) (by decide) rfl rfl rfl in_Model (by decide) qw_654 rfl eM_advance_109 ?_
  refine v_iconst X (pc := 112) (v := (3 : Int32)) eM_advance_112 (by decide) ?_
  refine v_icmp_ne X (pc := 113) (tgt := 126) h eM_advance_113 (by decide) (fun h => ?_) (fun h => ?_)
  · refine v_aload_n X (pc := 116) 0 rfl eM_advance_116 rfl ?_
    refine v_dup X (pc := 117) rfl eM_advance_117 ?_
    refine v_get X (pc := 118) 8 (a := aI (gI (sI mem 12 0 10 s1) 12 0 8)) (by decide) (by decide) rfl rfl rfl in_Model (by decide) qw_656 rfl eM_advance_118 ?_
    refine v_iconst X (pc := 121) (v := (1 : Int32)) eM_advance_121 (by decide) ?_
    refine v_iadd X (pc := 122) eM_advance_122 ?_
    refine v_put X (pc := 123) 8 (mem' := (sI (sI mem 12 0 10 s1) 12 0 8 ((gI (sI mem 12 0 10 s1) 12 0 8) + (1 : Int32)))) (by decide) (by decide) rfl (pf_12_8 _ _ _ _ _) rowI_ne rfl in_Model ty_Model_ok nm_Model (by decide) qw_656 rfl rfl rfl (Nat.le_of_ble_eq_true rfl) eM_advance_123 ?_
    exact v_sub [0] rfl (cM_advance_126 X hr _  _  h)
  · exact v_sub [0] rfl (cM_advance_126 X hr _  _  h)
set_option maxHeartbeats 4000000 in
set_option maxRecDepth 100000 in
theorem cM_advance_83 {p : Program} {l : Launch} {e : Env} {s : State} {m : MethodId} {args : Array Value} {below : List Frame} {meth : Method} {c : Code} {k : KK} {f : Nat} {o : Unit} {mem' : Mem} (X : CX p s m args meth c k prog_6_method_57_code 2 "WallShiftsModel") (hr : meth.sig.returnType = (Option.none : Option Jvm.ClassFile.FieldType)) : ∀ (x1 : Int32) (s1 : Int32) (mem : Mem), dM_advance_83 f x1 s1 mem = some (o, mem') → V p l e (rmM 2 42) s m args below meth c 0 0 (MQ below (RQc k none mem') args s 0 0 (kA k)) k 2 mem 83 [(0, aR 12 0), (1, aI x1)] [aI s1, aR 12 0] := by
  intro x1 s1 mem  h
  unfold dM_advance_83 at h
  refine v_put X (pc := 83) 6 (mem' := (sI mem 12 0 6 s1)) (by decide) (by decide) rfl (pf_12_6 _ _ _ _ _) rowI_ne rfl in_Model ty_Model_ok nm_Model (by decide) qw_654 rfl rfl rfl (Nat.le_of_ble_eq_true rfl) eM_advance_83 ?_
  refine v_aload_n X (pc := 86) 0 rfl eM_advance_86 rfl ?_
  refine v_lconst X (pc := 87) (v := (0 : Int64)) eM_advance_87 (by decide) ?_
  refine v_put X (pc := 88) 9 (mem' := (sL (sI mem 12 0 6 s1) 12 0 9 (0 : Int64))) (by decide) (by decide) rfl (pf_12_9 _ _ _ _ _) rowL_ne rfl in_Model ty_Model_ok nm_Model (by decide) qw_657 rfl rfl rfl (Nat.le_of_ble_eq_true rfl) eM_advance_88 ?_
  refine v_aload_n X (pc := 91) 0 rfl eM_advance_91 rfl ?_
  refine v_aload_n X (pc := 92) 0 rfl eM_advance_92 rfl ?_
  refine v_get X (pc := 93) 6 (a := aI (gI (sL (sI mem 12 0 6 s1) 12 0 9 (0 : Int64)) 12 0 6)) (by decide) (by decide) rfl rfl rfl in_Model (by decide) qw_654 rfl eM_advance_93 ?_
  refine v_iconst X (pc := 96) (v := (2 : Int32)) eM_advance_96 (by decide) ?_
  refine v_icmp_ne X (pc := 97) (tgt := 104) h eM_advance_97 (by decide) (fun h => ?_) (fun h => ?_)
  · refine v_iconst X (pc := 100) (v := (0 : Int32)) eM_advance_100 (by decide) ?_
    refine v_goto X (pc := 101) (tgt := 105) eM_advance_101 (by decide) ?_
    exact v_sub [0] rfl (cM_advance_105 X hr _ _  h)
  · refine v_iload_n X (pc := 104) 1 rfl eM_advance_104 rfl ?_
    exact v_sub [0] rfl (cM_advance_105 X hr _ _  h)
set_option maxHeartbeats 4000000 in
set_option maxRecDepth 100000 in
theorem cM_advance_8 {p : Program} {l : Launch} {e : Env} {s : State} {m : MethodId} {args : Array Value} {below : List Frame} {meth : Method} {c : Code} {k : KK} {f : Nat} {o : Unit} {mem' : Mem} (X : CX p s m args meth c k prog_6_method_57_code 2 "WallShiftsModel") (hr : meth.sig.returnType = (Option.none : Option Jvm.ClassFile.FieldType)) : ∀ (n : Nat)  (mem : Mem), dM_advance_8 f n  mem = some (o, mem') → V p l e (rmM 2 42) s m args below meth c 0 0 (MQ below (RQc k none mem') args s 0 0 (kA k)) k 2 mem 8 [(0, aR 12 0)] [] := by
  intro n
  induction n with
  | zero =>
    intro  mem  h
    exact nomatch (show (none : Option (Unit × Mem)) = some _ from h)
  | succ n ih =>
    intro  mem  h
    rw [dM_advance_8] at h
    refine v_aload_n X (pc := 8) 0 rfl eM_advance_8 rfl ?_
    refine v_aload_n X (pc := 9) 0 rfl eM_advance_9 rfl ?_
    refine v_get X (pc := 10) 7 (a := aI (gI mem 12 0 7)) (by decide) (by decide) rfl rfl rfl in_Model (by decide) qw_655 rfl eM_advance_10 ?_
    obtain ⟨r1, m1, hc1, h⟩ := bd_some h
    refine v_callV X (pc := 13) [_] [] ok_V_M_155 (cM_byteAt  hc1) rfl (Nat.le_of_ble_eq_true rfl) ⟨Nat.le_of_ble_eq_true rfl, Nat.le_of_ble_eq_true rfl⟩ ⟨Nat.zero_le _, Nat.zero_le _⟩ (by decide) (by decide) rfl rfl eM_advance_13 ?_
    refine v_bipush X (pc := 16) (v := (32 : Int32)) eM_advance_16 (by decide) ?_
    refine v_icmp_ne X (pc := 18) (tgt := 34) h eM_advance_18 (by decide) (fun h => ?_) (fun h => ?_)
    · refine v_aload_n X (pc := 21) 0 rfl eM_advance_21 rfl ?_
      refine v_dup X (pc := 22) rfl eM_advance_22 ?_
      refine v_get X (pc := 23) 7 (a := aI (gI m1 12 0 7)) (by decide) (by decide) rfl rfl rfl in_Model (by decide) qw_655 rfl eM_advance_23 ?_
      refine v_iconst X (pc := 26) (v := (1 : Int32)) eM_advance_26 (by decide) ?_
      refine v_iadd X (pc := 27) eM_advance_27 ?_
      refine v_put X (pc := 28) 7 (mem' := (sI m1 12 0 7 ((gI m1 12 0 7) + (1 : Int32)))) (by decide) (by decide) rfl (pf_12_7 _ _ _ _ _) rowI_ne rfl in_Model ty_Model_ok nm_Model (by decide) qw_655 rfl rfl rfl (Nat.le_of_ble_eq_true rfl) eM_advance_28 ?_
      refine v_goto X (pc := 31) (tgt := 8) eM_advance_31 (by decide) ?_
      exact v_sub [0] rfl (ih  _  h)
    · refine v_aload_n X (pc := 34) 0 rfl eM_advance_34 rfl ?_
      refine v_aload_n X (pc := 35) 0 rfl eM_advance_35 rfl ?_
      refine v_get X (pc := 36) 7 (a := aI (gI m1 12 0 7)) (by decide) (by decide) rfl rfl rfl in_Model (by decide) qw_655 rfl eM_advance_36 ?_
      refine v_put X (pc := 39) 8 (mem' := (sI m1 12 0 8 (gI m1 12 0 7))) (by decide) (by decide) rfl (pf_12_8 _ _ _ _ _) rowI_ne rfl in_Model ty_Model_ok nm_Model (by decide) qw_656 rfl rfl rfl (Nat.le_of_ble_eq_true rfl) eM_advance_39 ?_
      refine v_aload_n X (pc := 42) 0 rfl eM_advance_42 rfl ?_
      refine v_aload_n X (pc := 43) 0 rfl eM_advance_43 rfl ?_
      refine v_get X (pc := 44) 7 (a := aI (gI (sI m1 12 0 8 (gI m1 12 0 7)) 12 0 7)) (by decide) (by decide) rfl rfl rfl in_Model (by decide) qw_655 rfl eM_advance_44 ?_
      obtain ⟨r2, m2, hc2, h⟩ := bd_some h
      refine v_callV X (pc := 47) [_] [] ok_V_M_155 (cM_byteAt  hc2) rfl (Nat.le_of_ble_eq_true rfl) ⟨Nat.le_of_ble_eq_true rfl, Nat.le_of_ble_eq_true rfl⟩ ⟨Nat.zero_le _, Nat.zero_le _⟩ (by decide) (by decide) rfl rfl eM_advance_47 ?_
      refine v_istore_n X (pc := 50) (lv' := [(1, _), (0, _)]) eM_advance_50 rfl (Nat.le_of_ble_eq_true rfl) rfl ?_
      refine v_aload_n X (pc := 51) 1 rfl eM_advance_51 rfl ?_
      refine v_iload_n X (pc := 52) 0 rfl eM_advance_52 rfl ?_
      refine v_if_ge X (pc := 53) (tgt := 60) h eM_advance_53 (by decide) (fun h => ?_) (fun h => ?_)
      · refine v_iconst X (pc := 56) (v := (0 : Int32)) eM_advance_56 (by decide) ?_
        refine v_goto X (pc := 57) (tgt := 83) eM_advance_57 (by decide) ?_
        exact v_sub [1, 0] rfl (cM_advance_83 X hr _ _ _  h)
      · refine v_iload_n X (pc := 60) 0 rfl eM_advance_60 rfl ?_
        obtain ⟨r3, m3, hc3, h⟩ := bd_some h
        refine v_callS X (pc := 61) [_] [_] ok_S_M_158 (cM_isLetter  hc3) rfl (Nat.le_of_ble_eq_true rfl) ⟨Nat.le_of_ble_eq_true rfl, Nat.le_of_ble_eq_true rfl⟩ ⟨Nat.zero_le _, Nat.zero_le _⟩ eM_advance_61 ?_
        refine v_if_eq X (pc := 64) (tgt := 71) h eM_advance_64 (by decide) (fun h => ?_) (fun h => ?_)
        · refine v_iload_n X (pc := 71) 0 rfl eM_advance_71 rfl ?_
          obtain ⟨r4, m4, hc4, h⟩ := bd_some h
          refine v_callS X (pc := 72) [_] [_] ok_S_M_161 (cM_isDigit  hc4) rfl (Nat.le_of_ble_eq_true rfl) ⟨Nat.le_of_ble_eq_true rfl, Nat.le_of_ble_eq_true rfl⟩ ⟨Nat.zero_le _, Nat.zero_le _⟩ eM_advance_72 ?_
          refine v_if_eq X (pc := 75) (tgt := 82) h eM_advance_75 (by decide) (fun h => ?_) (fun h => ?_)
          · refine v_iconst X (pc := 82) (v := (3 : Int32)) eM_advance_82 (by decide) ?_
            exact v_sub [1, 0] rfl (cM_advance_83 X hr _ _ _  h)
          · refine v_iconst X (pc := 78) (v := (2 : Int32)) eM_advance_78 (by decide) ?_
            refine v_goto X (pc := 79) (tgt := 83) eM_advance_79 (by decide) ?_
            exact v_sub [1, 0] rfl (cM_advance_83 X hr _ _ _  h)
        · refine v_iconst X (pc := 67) (v := (1 : Int32)) eM_advance_67 (by decide) ?_
          refine v_goto X (pc := 68) (tgt := 83) eM_advance_68 (by decide) ?_
          exact v_sub [1, 0] rfl (cM_advance_83 X hr _ _ _  h)
set_option maxHeartbeats 4000000 in
set_option maxRecDepth 100000 in
theorem cM_advance {f : Nat}  {mem : Mem} {o : Unit} {mem' : Mem}  (h : dM_advance f  mem = some (o, mem')) : RT yM_advance prog_6_method_57_code 2 (Option.none : Option Jvm.ClassFile.FieldType) (rmM 2 42) [aR 12 0] mem none mem' := by
  refine RT.of (by decide +kernel) (Nat.le_of_ble_eq_true rfl) (fun p l e s m args below meth c k X hr => ?_)
  replace X : CX p s m args meth c k prog_6_method_57_code 2 "WallShiftsModel" := X
  unfold dM_advance at h
  refine v_sub (lv' := [(0, _)]) [0] rfl ?_
  refine v_aload_n X (pc := 0) 0 rfl eM_advance_0 rfl ?_
  refine v_aload_n X (pc := 1) 0 rfl eM_advance_1 rfl ?_
  refine v_get X (pc := 2) 8 (a := aI (gI mem 12 0 8)) (by decide) (by decide) rfl rfl rfl in_Model (by decide) qw_656 rfl eM_advance_2 ?_
  refine v_put X (pc := 5) 7 (mem' := (sI mem 12 0 7 (gI mem 12 0 8))) (by decide) (by decide) rfl (pf_12_7 _ _ _ _ _) rowI_ne rfl in_Model ty_Model_ok nm_Model (by decide) qw_655 rfl rfl rfl (Nat.le_of_ble_eq_true rfl) eM_advance_5 ?_
  exact v_sub [0] rfl (cM_advance_8 X hr _  _  h)
set_option maxHeartbeats 4000000 in
set_option maxRecDepth 100000 in
theorem cM_isWord {f : Nat} {a1 : Int64} {mem : Mem} {o : Int32} {mem' : Mem}  (h : dM_isWord f a1 mem = some (o, mem')) : RT yM_isWord prog_6_method_58_code 3 (Option.some Jvm.ClassFile.FieldType.boolean) (rmM 0 0) [aR 12 0, aL a1] mem (some (aI o)) mem' := by
  refine RT.of (by decide +kernel) (Nat.le_of_ble_eq_true rfl) (fun p l e s m args below meth c k X hr => ?_)
  replace X : CX p s m args meth c k prog_6_method_58_code 3 "WallShiftsModel" := X
  unfold dM_isWord at h
  refine v_sub (lv' := [(0, _), (1, _)]) [0, 1] rfl ?_
  refine v_aload_n X (pc := 0) 0 rfl eM_isWord_0 rfl ?_
  refine v_get X (pc := 1) 6 (a := aI (gI mem 12 0 6)) (by decide) (by decide) rfl rfl rfl in_Model (by decide) qw_654 rfl eM_isWord_1 ?_
  refine v_iconst X (pc := 4) (v := (1 : Int32)) eM_isWord_4 (by decide) ?_
  refine v_icmp_ne X (pc := 5) (tgt := 21) h eM_isWord_5 (by decide) (fun h => ?_) (fun h => ?_)
  · refine v_aload_n X (pc := 8) 0 rfl eM_isWord_8 rfl ?_
    refine v_get X (pc := 9) 9 (a := aL (gL mem 12 0 9)) (by decide) (by decide) rfl rfl rfl in_Model (by decide) qw_657 rfl eM_isWord_9 ?_
    refine v_lload_n X (pc := 12) 1 rfl eM_isWord_12 rfl ?_
    refine v_lcmp X (pc := 13) eM_isWord_13 ?_
    refine v_if_ne X (pc := 14) (tgt := 21) h eM_isWord_14 (by decide) (fun h => ?_) (fun h => ?_)
    · refine v_iconst X (pc := 17) (v := (1 : Int32)) eM_isWord_17 (by decide) ?_
      refine v_goto X (pc := 18) (tgt := 22) eM_isWord_18 (by decide) ?_
      exact v_zret X (pc := 22) h hr rfl eM_isWord_22
    · refine v_iconst X (pc := 21) (v := (0 : Int32)) eM_isWord_21 (by decide) ?_
      exact v_zret X (pc := 22) h hr rfl eM_isWord_22
  · refine v_iconst X (pc := 21) (v := (0 : Int32)) eM_isWord_21 (by decide) ?_
    exact v_zret X (pc := 22) h hr rfl eM_isWord_22
set_option maxHeartbeats 4000000 in
set_option maxRecDepth 100000 in
theorem cM_kindHere {f : Nat}  {mem : Mem} {o : Int32} {mem' : Mem}  (h : dM_kindHere f  mem = some (o, mem')) : RT yM_kindHere prog_6_method_59_code 1 (Option.some Jvm.ClassFile.FieldType.int) (rmM 1 22) [aR 12 0] mem (some (aI o)) mem' := by
  refine RT.of (by decide +kernel) (Nat.le_of_ble_eq_true rfl) (fun p l e s m args below meth c k X hr => ?_)
  replace X : CX p s m args meth c k prog_6_method_59_code 1 "WallShiftsModel" := X
  unfold dM_kindHere at h
  refine v_sub (lv' := [(0, _)]) [0] rfl ?_
  refine v_aload_n X (pc := 0) 0 rfl eM_kindHere_0 rfl ?_
  refine v_ldc2 X (pc := 1) qw_947 eM_kindHere_1 ?_
  obtain ⟨r1, m1, hc1, h⟩ := bd_some h
  refine v_callV X (pc := 4) [_] [] ok_V_M_182 (cM_isWord  hc1) rfl (Nat.le_of_ble_eq_true rfl) ⟨Nat.le_of_ble_eq_true rfl, Nat.le_of_ble_eq_true rfl⟩ ⟨Nat.zero_le _, Nat.zero_le _⟩ (by decide) (by decide) rfl rfl eM_kindHere_4 ?_
  refine v_if_eq X (pc := 7) (tgt := 14) h eM_kindHere_7 (by decide) (fun h => ?_) (fun h => ?_)
  · refine v_aload_n X (pc := 14) 0 rfl eM_kindHere_14 rfl ?_
    refine v_ldc2 X (pc := 15) qw_952 eM_kindHere_15 ?_
    obtain ⟨r2, m2, hc2, h⟩ := bd_some h
    refine v_callV X (pc := 18) [_] [] ok_V_M_182 (cM_isWord  hc2) rfl (Nat.le_of_ble_eq_true rfl) ⟨Nat.le_of_ble_eq_true rfl, Nat.le_of_ble_eq_true rfl⟩ ⟨Nat.zero_le _, Nat.zero_le _⟩ (by decide) (by decide) rfl rfl eM_kindHere_18 ?_
    refine v_if_eq X (pc := 21) (tgt := 28) h eM_kindHere_21 (by decide) (fun h => ?_) (fun h => ?_)
    · refine v_aload_n X (pc := 28) 0 rfl eM_kindHere_28 rfl ?_
      refine v_ldc2 X (pc := 29) qw_953 eM_kindHere_29 ?_
      obtain ⟨r3, m3, hc3, h⟩ := bd_some h
      refine v_callV X (pc := 32) [_] [] ok_V_M_182 (cM_isWord  hc3) rfl (Nat.le_of_ble_eq_true rfl) ⟨Nat.le_of_ble_eq_true rfl, Nat.le_of_ble_eq_true rfl⟩ ⟨Nat.zero_le _, Nat.zero_le _⟩ (by decide) (by decide) rfl rfl eM_kindHere_32 ?_
      refine v_if_eq X (pc := 35) (tgt := 42) h eM_kindHere_35 (by decide) (fun h => ?_) (fun h => ?_)
      · refine v_aload_n X (pc := 42) 0 rfl eM_kindHere_42 rfl ?_
        refine v_ldc2 X (pc := 43) qw_954 eM_kindHere_43 ?_
        obtain ⟨r4, m4, hc4, h⟩ := bd_some h
        refine v_callV X (pc := 46) [_] [] ok_V_M_182 (cM_isWord  hc4) rfl (Nat.le_of_ble_eq_true rfl) ⟨Nat.le_of_ble_eq_true rfl, Nat.le_of_ble_eq_true rfl⟩ ⟨Nat.zero_le _, Nat.zero_le _⟩ (by decide) (by decide) rfl rfl eM_kindHere_46 ?_
        refine v_if_eq X (pc := 49) (tgt := 56) h eM_kindHere_49 (by decide) (fun h => ?_) (fun h => ?_)
        · refine v_aload_n X (pc := 56) 0 rfl eM_kindHere_56 rfl ?_
          refine v_ldc2 X (pc := 57) qw_955 eM_kindHere_57 ?_
          obtain ⟨r5, m5, hc5, h⟩ := bd_some h
          refine v_callV X (pc := 60) [_] [] ok_V_M_182 (cM_isWord  hc5) rfl (Nat.le_of_ble_eq_true rfl) ⟨Nat.le_of_ble_eq_true rfl, Nat.le_of_ble_eq_true rfl⟩ ⟨Nat.zero_le _, Nat.zero_le _⟩ (by decide) (by decide) rfl rfl eM_kindHere_60 ?_
          refine v_if_eq X (pc := 63) (tgt := 70) h eM_kindHere_63 (by decide) (fun h => ?_) (fun h => ?_)
          · refine v_aload_n X (pc := 70) 0 rfl eM_kindHere_70 rfl ?_
            refine v_ldc2 X (pc := 71) qw_956 eM_kindHere_71 ?_
            obtain ⟨r6, m6, hc6, h⟩ := bd_some h
            refine v_callV X (pc := 74) [_] [] ok_V_M_182 (cM_isWord  hc6) rfl (Nat.le_of_ble_eq_true rfl) ⟨Nat.le_of_ble_eq_true rfl, Nat.le_of_ble_eq_true rfl⟩ ⟨Nat.zero_le _, Nat.zero_le _⟩ (by decide) (by decide) rfl rfl eM_kindHere_74 ?_
            refine v_if_eq X (pc := 77) (tgt := 84) h eM_kindHere_77 (by decide) (fun h => ?_) (fun h => ?_)
            · refine v_iconst X (pc := 84) (v := (-1 : Int32)) eM_kindHere_84 (by decide) ?_
              exact v_iret X (pc := 85) h hr eM_kindHere_85
            · refine v_iconst X (pc := 80) (v := (5 : Int32)) eM_kindHere_80 (by decide) ?_
              refine v_goto X (pc := 81) (tgt := 85) eM_kindHere_81 (by decide) ?_
              exact v_iret X (pc := 85) h hr eM_kindHere_85
          · refine v_iconst X (pc := 66) (v := (4 : Int32)) eM_kindHere_66 (by decide) ?_
            refine v_goto X (pc := 67) (tgt := 85) eM_kindHere_67 (by decide) ?_
            exact v_iret X (pc := 85) h hr eM_kindHere_85
        · refine v_iconst X (pc := 52) (v := (3 : Int32)) eM_kindHere_52 (by decide) ?_
          refine v_goto X (pc := 53) (tgt := 85) eM_kindHere_53 (by decide) ?_
          exact v_iret X (pc := 85) h hr eM_kindHere_85
      · refine v_iconst X (pc := 38) (v := (2 : Int32)) eM_kindHere_38 (by decide) ?_
        refine v_goto X (pc := 39) (tgt := 85) eM_kindHere_39 (by decide) ?_
        exact v_iret X (pc := 85) h hr eM_kindHere_85
    · refine v_iconst X (pc := 24) (v := (1 : Int32)) eM_kindHere_24 (by decide) ?_
      refine v_goto X (pc := 25) (tgt := 85) eM_kindHere_25 (by decide) ?_
      exact v_iret X (pc := 85) h hr eM_kindHere_85
  · refine v_iconst X (pc := 10) (v := (0 : Int32)) eM_kindHere_10 (by decide) ?_
    refine v_goto X (pc := 11) (tgt := 85) eM_kindHere_11 (by decide) ?_
    exact v_iret X (pc := 85) h hr eM_kindHere_85
set_option maxHeartbeats 4000000 in
set_option maxRecDepth 100000 in
theorem cM_wantNumber_35 {p : Program} {l : Launch} {e : Env} {s : State} {m : MethodId} {args : Array Value} {below : List Frame} {meth : Method} {c : Code} {k : KK} {f : Nat} {o : Int32} {mem' : Mem} (X : CX p s m args meth c k prog_6_method_60_code 4 "WallShiftsModel") (hr : meth.sig.returnType = (Option.some Jvm.ClassFile.FieldType.int)) : ∀ (x3 : Int32) (s1 : Int32) (mem : Mem), dM_wantNumber_35 f x3 s1 mem = some (o, mem') → V p l e (rmM 3 63) s m args below meth c 0 0 (MQ below (RQc k (some (aI o)) mem') args s 0 0 (kA k)) k 4 mem 35 [(0, aR 12 0), (3, aI x3)] [aI s1, aR 12 0] := by
  intro x3 s1 mem  h
  unfold dM_wantNumber_35 at h
  obtain ⟨hz1, h⟩ := zb_some h
  refine v_put X (pc := 35) 11 (mem' := (sI mem 12 0 11 s1)) (by decide) (by decide) rfl (pf_12_11 _ _ _ _ _) rowI_ne rfl in_Model ty_Model_ok nm_Model (by decide) qw_659 rfl (zb_n hz1) (zb_f hz1) (Nat.le_of_ble_eq_true rfl) eM_wantNumber_35 ?_
  refine v_aload_n X (pc := 38) 0 rfl eM_wantNumber_38 rfl ?_
  refine v_get X (pc := 39) 11 (a := aI (gI (sI mem 12 0 11 s1) 12 0 11)) (by decide) (by decide) rfl rfl rfl in_Model (by decide) qw_659 rfl eM_wantNumber_39 ?_
  refine v_if_eq X (pc := 42) (tgt := 49) h eM_wantNumber_42 (by decide) (fun h => ?_) (fun h => ?_)
  · refine v_iload_n X (pc := 49) 1 rfl eM_wantNumber_49 rfl ?_
    exact v_iret X (pc := 50) h hr eM_wantNumber_50
  · refine v_aload_n X (pc := 45) 0 rfl eM_wantNumber_45 rfl ?_
    obtain ⟨r2, m2, hc2, h⟩ := bd_some h
    refine v_callV X (pc := 46) [] [] ok_V_M_200 (cM_advance  hc2) rfl (Nat.le_of_ble_eq_true rfl) ⟨Nat.le_of_ble_eq_true rfl, Nat.le_of_ble_eq_true rfl⟩ ⟨Nat.zero_le _, Nat.zero_le _⟩ (by decide) (by decide) rfl rfl eM_wantNumber_46 ?_
    refine v_iload_n X (pc := 49) 1 rfl eM_wantNumber_49 rfl ?_
    exact v_iret X (pc := 50) h hr eM_wantNumber_50
set_option maxHeartbeats 4000000 in
set_option maxRecDepth 100000 in
theorem cM_wantNumber {f : Nat} {a1 : Int32} {a2 : Int32} {mem : Mem} {o : Int32} {mem' : Mem}  (h : dM_wantNumber f a1 a2 mem = some (o, mem')) : RT yM_wantNumber prog_6_method_60_code 4 (Option.some Jvm.ClassFile.FieldType.int) (rmM 3 63) [aR 12 0, aI a1, aI a2] mem (some (aI o)) mem' := by
  refine RT.of (by decide +kernel) (Nat.le_of_ble_eq_true rfl) (fun p l e s m args below meth c k X hr => ?_)
  replace X : CX p s m args meth c k prog_6_method_60_code 4 "WallShiftsModel" := X
  unfold dM_wantNumber at h
  refine v_sub (lv' := [(0, _), (1, _), (2, _)]) [0, 1, 2] rfl ?_
  refine v_aload_n X (pc := 0) 0 rfl eM_wantNumber_0 rfl ?_
  refine v_get X (pc := 1) 10 (a := aI (gI mem 12 0 10)) (by decide) (by decide) rfl rfl rfl in_Model (by decide) qw_658 rfl eM_wantNumber_1 ?_
  refine v_istore_n X (pc := 4) (lv' := [(3, _), (0, _), (1, _), (2, _)]) eM_wantNumber_4 rfl (Nat.le_of_ble_eq_true rfl) rfl ?_
  refine v_aload_n X (pc := 5) 1 rfl eM_wantNumber_5 rfl ?_
  refine v_aload_n X (pc := 6) 1 rfl eM_wantNumber_6 rfl ?_
  refine v_get X (pc := 7) 11 (a := aI (gI mem 12 0 11)) (by decide) (by decide) rfl rfl rfl in_Model (by decide) qw_659 rfl eM_wantNumber_7 ?_
  refine v_if_eq X (pc := 10) (tgt := 34) h eM_wantNumber_10 (by decide) (fun h => ?_) (fun h => ?_)
  · refine v_iconst X (pc := 34) (v := (0 : Int32)) eM_wantNumber_34 (by decide) ?_
    exact v_sub [1, 0] rfl (cM_wantNumber_35 X hr _ _ _  h)
  · refine v_aload_n X (pc := 13) 1 rfl eM_wantNumber_13 rfl ?_
    refine v_get X (pc := 14) 6 (a := aI (gI mem 12 0 6)) (by decide) (by decide) rfl rfl rfl in_Model (by decide) qw_654 rfl eM_wantNumber_14 ?_
    refine v_iconst X (pc := 17) (v := (2 : Int32)) eM_wantNumber_17 (by decide) ?_
    refine v_icmp_ne X (pc := 18) (tgt := 34) h eM_wantNumber_18 (by decide) (fun h => ?_) (fun h => ?_)
    · refine v_iload_n X (pc := 21) 0 rfl eM_wantNumber_21 rfl ?_
      refine v_iload_n X (pc := 22) 2 rfl eM_wantNumber_22 rfl ?_
      refine v_iload_n X (pc := 23) 3 rfl eM_wantNumber_23 rfl ?_
      obtain ⟨r1, m1, hc1, h⟩ := bd_some h
      refine v_callS X (pc := 24) [_, _, _] [_] ok_S_M_42 (cM_in  hc1) rfl (Nat.le_of_ble_eq_true rfl) ⟨Nat.le_of_ble_eq_true rfl, Nat.le_of_ble_eq_true rfl⟩ ⟨Nat.zero_le _, Nat.zero_le _⟩ eM_wantNumber_24 ?_
      refine v_if_eq X (pc := 27) (tgt := 34) h eM_wantNumber_27 (by decide) (fun h => ?_) (fun h => ?_)
      · refine v_iconst X (pc := 34) (v := (0 : Int32)) eM_wantNumber_34 (by decide) ?_
        exact v_sub [1, 0] rfl (cM_wantNumber_35 X hr _ _ _  h)
      · refine v_iconst X (pc := 30) (v := (1 : Int32)) eM_wantNumber_30 (by decide) ?_
        refine v_goto X (pc := 31) (tgt := 35) eM_wantNumber_31 (by decide) ?_
        exact v_sub [1, 0] rfl (cM_wantNumber_35 X hr _ _ _  h)
    · refine v_iconst X (pc := 34) (v := (0 : Int32)) eM_wantNumber_34 (by decide) ?_
      exact v_sub [1, 0] rfl (cM_wantNumber_35 X hr _ _ _  h)
set_option maxHeartbeats 4000000 in
set_option maxRecDepth 100000 in
theorem cM_wantRota {f : Nat} {a1 : Int32} {a2 : Int32} {a3 : Int32} {mem : Mem} {o : Unit} {mem' : Mem}  (h : dM_wantRota f a1 a2 a3 mem = some (o, mem')) : RT yM_wantRota prog_6_method_63_code 5 (Option.none : Option Jvm.ClassFile.FieldType) (rmM 4 86) [aR 12 0, aI a1, aI a2, aI a3] mem none mem' := by
  refine RT.of (by decide +kernel) (Nat.le_of_ble_eq_true rfl) (fun p l e s m args below meth c k X hr => ?_)
  replace X : CX p s m args meth c k prog_6_method_63_code 5 "WallShiftsModel" := X
  unfold dM_wantRota at h
  refine v_sub (lv' := [(0, _), (1, _), (2, _), (3, _)]) [0, 1, 2, 3] rfl ?_
  refine v_aload_n X (pc := 0) 0 rfl eM_wantRota_0 rfl ?_
  obtain ⟨r1, m1, hc1, h⟩ := bd_some h
  refine v_callV X (pc := 1) [] [] ok_V_M_200 (cM_advance  hc1) rfl (Nat.le_of_ble_eq_true rfl) ⟨Nat.le_of_ble_eq_true rfl, Nat.le_of_ble_eq_true rfl⟩ ⟨Nat.zero_le _, Nat.zero_le _⟩ (by decide) (by decide) rfl rfl eM_wantRota_1 ?_
  refine v_aload_n X (pc := 4) 0 rfl eM_wantRota_4 rfl ?_
  refine v_iload_n X (pc := 5) 2 rfl eM_wantRota_5 rfl ?_
  refine v_iload_n X (pc := 6) 3 rfl eM_wantRota_6 rfl ?_
  obtain ⟨r2, m2, hc2, h⟩ := bd_some h
  refine v_callV X (pc := 7) [_, _] [] ok_V_M_203 (cM_wantNumber  hc2) rfl (Nat.le_of_ble_eq_true rfl) ⟨Nat.le_of_ble_eq_true rfl, Nat.le_of_ble_eq_true rfl⟩ ⟨Nat.zero_le _, Nat.zero_le _⟩ (by decide) (by decide) rfl rfl eM_wantRota_7 ?_
  refine v_istore X (pc := 10) (lv' := [(4, _), (0, _), (1, _), (2, _), (3, _)]) eM_wantRota_10 (Nat.le_of_ble_eq_true rfl) rfl ?_
  refine v_aload_n X (pc := 12) 1 rfl eM_wantRota_12 rfl ?_
  refine v_get X (pc := 13) 0 (a := aR 13 0) (by decide) (by decide) rfl rfl rfl in_Model (by decide) qw_648 rfl eM_wantRota_13 ?_
  refine v_iload_n X (pc := 16) 2 rfl eM_wantRota_16 rfl ?_
  refine v_aload_n X (pc := 17) 1 rfl eM_wantRota_17 rfl ?_
  refine v_get X (pc := 18) 11 (a := aI (gI m2 12 0 11)) (by decide) (by decide) rfl rfl rfl in_Model (by decide) qw_659 rfl eM_wantRota_18 ?_
  refine v_if_eq X (pc := 21) (tgt := 29) h eM_wantRota_21 (by decide) (fun h => ?_) (fun h => ?_)
  · refine v_aload_n X (pc := 29) 1 rfl eM_wantRota_29 rfl ?_
    refine v_get X (pc := 30) 0 (a := aR 13 0) (by decide) (by decide) rfl rfl rfl in_Model (by decide) qw_648 rfl eM_wantRota_30 ?_
    refine v_iload_n X (pc := 33) 2 rfl eM_wantRota_33 rfl ?_
    refine v_iald X (pc := 34) h (by decide) (by decide) rfl eM_wantRota_34 (fun h => ?_)
    refine v_iast X (pc := 35) h (by decide) (by decide) (fun _ => rfl) eM_wantRota_35 (fun h => ?_)
    exact v_vret X (pc := 36) h hr eM_wantRota_36
  · refine v_iload X (pc := 24) 0 rfl eM_wantRota_24 ?_
    refine v_goto X (pc := 26) (tgt := 35) eM_wantRota_26 (by decide) ?_
    refine v_iast X (pc := 35) h (by decide) (by decide) (fun _ => rfl) eM_wantRota_35 (fun h => ?_)
    exact v_vret X (pc := 36) h hr eM_wantRota_36
set_option maxHeartbeats 4000000 in
set_option maxRecDepth 100000 in
theorem cM_mayWant {f : Nat} {a1 : Int64} {a3 : Int32} {a4 : Int32} {a5 : Int32} {mem : Mem} {o : Int32} {mem' : Mem}  (h : dM_mayWant f a1 a3 a4 a5 mem = some (o, mem')) : RT yM_mayWant prog_6_method_61_code 6 (Option.some Jvm.ClassFile.FieldType.int) (rmM 4 86) [aR 12 0, aL a1, aI a3, aI a4, aI a5] mem (some (aI o)) mem' := by
  refine RT.of (by decide +kernel) (Nat.le_of_ble_eq_true rfl) (fun p l e s m args below meth c k X hr => ?_)
  replace X : CX p s m args meth c k prog_6_method_61_code 6 "WallShiftsModel" := X
  unfold dM_mayWant at h
  refine v_sub (lv' := [(0, _), (1, _), (3, _), (4, _), (5, _)]) [0, 1, 2, 3, 4] rfl ?_
  refine v_aload_n X (pc := 0) 0 rfl eM_mayWant_0 rfl ?_
  refine v_get X (pc := 1) 11 (a := aI (gI mem 12 0 11)) (by decide) (by decide) rfl rfl rfl in_Model (by decide) qw_659 rfl eM_mayWant_1 ?_
  refine v_if_eq X (pc := 4) (tgt := 15) h eM_mayWant_4 (by decide) (fun h => ?_) (fun h => ?_)
  · refine v_iload X (pc := 15) 4 rfl eM_mayWant_15 ?_
    exact v_iret X (pc := 17) h hr eM_mayWant_17
  · refine v_aload_n X (pc := 7) 0 rfl eM_mayWant_7 rfl ?_
    refine v_lload_n X (pc := 8) 1 rfl eM_mayWant_8 rfl ?_
    obtain ⟨r1, m1, hc1, h⟩ := bd_some h
    refine v_callV X (pc := 9) [_] [] ok_V_M_182 (cM_isWord  hc1) rfl (Nat.le_of_ble_eq_true rfl) ⟨Nat.le_of_ble_eq_true rfl, Nat.le_of_ble_eq_true rfl⟩ ⟨Nat.zero_le _, Nat.zero_le _⟩ (by decide) (by decide) rfl rfl eM_mayWant_9 ?_
    refine v_if_ne X (pc := 12) (tgt := 18) h eM_mayWant_12 (by decide) (fun h => ?_) (fun h => ?_)
    · refine v_iload X (pc := 15) 4 rfl eM_mayWant_15 ?_
      exact v_iret X (pc := 17) h hr eM_mayWant_17
    · refine v_aload_n X (pc := 18) 0 rfl eM_mayWant_18 rfl ?_
      obtain ⟨r2, m2, hc2, h⟩ := bd_some h
      refine v_callV X (pc := 19) [] [] ok_V_M_200 (cM_advance  hc2) rfl (Nat.le_of_ble_eq_true rfl) ⟨Nat.le_of_ble_eq_true rfl, Nat.le_of_ble_eq_true rfl⟩ ⟨Nat.zero_le _, Nat.zero_le _⟩ (by decide) (by decide) rfl rfl eM_mayWant_19 ?_
      refine v_aload_n X (pc := 22) 0 rfl eM_mayWant_22 rfl ?_
      refine v_iload_n X (pc := 23) 2 rfl eM_mayWant_23 rfl ?_
      refine v_iload X (pc := 24) 3 rfl eM_mayWant_24 ?_
      obtain ⟨r3, m3, hc3, h⟩ := bd_some h
      refine v_callV X (pc := 26) [_, _] [] ok_V_M_203 (cM_wantNumber  hc3) rfl (Nat.le_of_ble_eq_true rfl) ⟨Nat.le_of_ble_eq_true rfl, Nat.le_of_ble_eq_true rfl⟩ ⟨Nat.zero_le _, Nat.zero_le _⟩ (by decide) (by decide) rfl rfl eM_mayWant_26 ?_
      exact v_iret X (pc := 29) h hr eM_mayWant_29
set_option maxHeartbeats 4000000 in
set_option maxRecDepth 100000 in
theorem cM_wantWall_17 {p : Program} {l : Launch} {e : Env} {s : State} {m : MethodId} {args : Array Value} {below : List Frame} {meth : Method} {c : Code} {k : KK} {f : Nat} {o : Unit} {mem' : Mem} (X : CX p s m args meth c k prog_6_method_62_code 5 "WallShiftsModel") (hr : meth.sig.returnType = (Option.none : Option Jvm.ClassFile.FieldType)) : ∀ (x1 : Int32) (s1 : Int32) (mem : Mem), dM_wantWall_17 f x1 s1 mem = some (o, mem') → V p l e (rmM 5 111) s m args below meth c 0 0 (MQ below (RQc k none mem') args s 0 0 (kA k)) k 5 mem 17 [(0, aR 12 0), (1, aI x1)] [aI s1, aR 12 0] := by
  intro x1 s1 mem  h
  unfold dM_wantWall_17 at h
  obtain ⟨hz1, h⟩ := zb_some h
  refine v_put X (pc := 17) 11 (mem' := (sI mem 12 0 11 s1)) (by decide) (by decide) rfl (pf_12_11 _ _ _ _ _) rowI_ne rfl in_Model ty_Model_ok nm_Model (by decide) qw_659 rfl (zb_n hz1) (zb_f hz1) (Nat.le_of_ble_eq_true rfl) eM_wantWall_17 ?_
  refine v_aload_n X (pc := 20) 0 rfl eM_wantWall_20 rfl ?_
  refine v_get X (pc := 21) 11 (a := aI (gI (sI mem 12 0 11 s1) 12 0 11)) (by decide) (by decide) rfl rfl rfl in_Model (by decide) qw_659 rfl eM_wantWall_21 ?_
  refine v_if_ne X (pc := 24) (tgt := 28) h eM_wantWall_24 (by decide) (fun h => ?_) (fun h => ?_)
  · exact v_vret X (pc := 27) h hr eM_wantWall_27
  · refine v_aload_n X (pc := 28) 0 rfl eM_wantWall_28 rfl ?_
    obtain ⟨r2, m2, hc2, h⟩ := bd_some h
    refine v_callV X (pc := 29) [] [] ok_V_M_200 (cM_advance  hc2) rfl (Nat.le_of_ble_eq_true rfl) ⟨Nat.le_of_ble_eq_true rfl, Nat.le_of_ble_eq_true rfl⟩ ⟨Nat.zero_le _, Nat.zero_le _⟩ (by decide) (by decide) rfl rfl eM_wantWall_29 ?_
    refine v_aload_n X (pc := 32) 0 rfl eM_wantWall_32 rfl ?_
    refine v_aload_n X (pc := 33) 0 rfl eM_wantWall_33 rfl ?_
    refine v_ldc2 X (pc := 34) qw_961 eM_wantWall_34 ?_
    obtain ⟨r3, m3, hc3, h⟩ := bd_some h
    refine v_callV X (pc := 37) [_] [_] ok_V_M_182 (cM_isWord  hc3) rfl (Nat.le_of_ble_eq_true rfl) ⟨Nat.le_of_ble_eq_true rfl, Nat.le_of_ble_eq_true rfl⟩ ⟨Nat.zero_le _, Nat.zero_le _⟩ (by decide) (by decide) rfl rfl eM_wantWall_37 ?_
    obtain ⟨hz4, h⟩ := zb_some h
    refine v_put X (pc := 40) 11 (mem' := (sI m3 12 0 11 r3)) (by decide) (by decide) rfl (pf_12_11 _ _ _ _ _) rowI_ne rfl in_Model ty_Model_ok nm_Model (by decide) qw_659 rfl (zb_n hz4) (zb_f hz4) (Nat.le_of_ble_eq_true rfl) eM_wantWall_40 ?_
    refine v_aload_n X (pc := 43) 0 rfl eM_wantWall_43 rfl ?_
    refine v_get X (pc := 44) 11 (a := aI (gI (sI m3 12 0 11 r3) 12 0 11)) (by decide) (by decide) rfl rfl rfl in_Model (by decide) qw_659 rfl eM_wantWall_44 ?_
    refine v_if_ne X (pc := 47) (tgt := 51) h eM_wantWall_47 (by decide) (fun h => ?_) (fun h => ?_)
    · exact v_vret X (pc := 50) h hr eM_wantWall_50
    · refine v_aload_n X (pc := 51) 0 rfl eM_wantWall_51 rfl ?_
      obtain ⟨r5, m5, hc5, h⟩ := bd_some h
      refine v_callV X (pc := 52) [] [] ok_V_M_200 (cM_advance  hc5) rfl (Nat.le_of_ble_eq_true rfl) ⟨Nat.le_of_ble_eq_true rfl, Nat.le_of_ble_eq_true rfl⟩ ⟨Nat.zero_le _, Nat.zero_le _⟩ (by decide) (by decide) rfl rfl eM_wantWall_52 ?_
      refine v_aload_n X (pc := 55) 0 rfl eM_wantWall_55 rfl ?_
      refine v_iconst X (pc := 56) (v := (0 : Int32)) eM_wantWall_56 (by decide) ?_
      refine v_bipush X (pc := 57) (v := (9 : Int32)) eM_wantWall_57 (by decide) ?_
      obtain ⟨r6, m6, hc6, h⟩ := bd_some h
      refine v_callV X (pc := 59) [_, _] [] ok_V_M_203 (cM_wantNumber  hc6) rfl (Nat.le_of_ble_eq_true rfl) ⟨Nat.le_of_ble_eq_true rfl, Nat.le_of_ble_eq_true rfl⟩ ⟨Nat.zero_le _, Nat.zero_le _⟩ (by decide) (by decide) rfl rfl eM_wantWall_59 ?_
      refine v_istore_n X (pc := 62) (lv' := [(2, _), (0, _), (1, _)]) eM_wantWall_62 rfl (Nat.le_of_ble_eq_true rfl) rfl ?_
      refine v_aload_n X (pc := 63) 1 rfl eM_wantWall_63 rfl ?_
      refine v_ldc2 X (pc := 64) qw_966 eM_wantWall_64 ?_
      refine v_iconst X (pc := 67) (v := (0 : Int32)) eM_wantWall_67 (by decide) ?_
      refine v_bipush X (pc := 68) (v := (9 : Int32)) eM_wantWall_68 (by decide) ?_
      refine v_iload_n X (pc := 70) 0 rfl eM_wantWall_70 rfl ?_
      obtain ⟨r7, m7, hc7, h⟩ := bd_some h
      refine v_callV X (pc := 71) [_, _, _, _] [] ok_V_M_210 (cM_mayWant  hc7) rfl (Nat.le_of_ble_eq_true rfl) ⟨Nat.le_of_ble_eq_true rfl, Nat.le_of_ble_eq_true rfl⟩ ⟨Nat.zero_le _, Nat.zero_le _⟩ (by decide) (by decide) rfl rfl eM_wantWall_71 ?_
      refine v_istore_n X (pc := 74) (lv' := [(3, _), (2, _), (0, _), (1, _)]) eM_wantWall_74 rfl (Nat.le_of_ble_eq_true rfl) rfl ?_
      refine v_aload_n X (pc := 75) 2 rfl eM_wantWall_75 rfl ?_
      refine v_ldc2 X (pc := 76) qw_971 eM_wantWall_76 ?_
      refine v_iconst X (pc := 79) (v := (0 : Int32)) eM_wantWall_79 (by decide) ?_
      refine v_iconst X (pc := 80) (v := (3 : Int32)) eM_wantWall_80 (by decide) ?_
      refine v_iconst X (pc := 81) (v := (0 : Int32)) eM_wantWall_81 (by decide) ?_
      obtain ⟨r8, m8, hc8, h⟩ := bd_some h
      refine v_callV X (pc := 82) [_, _, _, _] [] ok_V_M_210 (cM_mayWant  hc8) rfl (Nat.le_of_ble_eq_true rfl) ⟨Nat.le_of_ble_eq_true rfl, Nat.le_of_ble_eq_true rfl⟩ ⟨Nat.zero_le _, Nat.zero_le _⟩ (by decide) (by decide) rfl rfl eM_wantWall_82 ?_
      refine v_istore X (pc := 85) (lv' := [(4, _), (3, _), (2, _), (0, _), (1, _)]) eM_wantWall_85 (Nat.le_of_ble_eq_true rfl) rfl ?_
      refine v_aload_n X (pc := 87) 3 rfl eM_wantWall_87 rfl ?_
      refine v_get X (pc := 88) 11 (a := aI (gI m8 12 0 11)) (by decide) (by decide) rfl rfl rfl in_Model (by decide) qw_659 rfl eM_wantWall_88 ?_
      refine v_if_eq X (pc := 91) (tgt := 103) h eM_wantWall_91 (by decide) (fun h => ?_) (fun h => ?_)
      · exact v_vret X (pc := 103) h hr eM_wantWall_103
      · refine v_aload_n X (pc := 94) 3 rfl eM_wantWall_94 rfl ?_
        refine v_iload_n X (pc := 95) 4 rfl eM_wantWall_95 rfl ?_
        refine v_iload_n X (pc := 96) 2 rfl eM_wantWall_96 rfl ?_
        refine v_iload_n X (pc := 97) 1 rfl eM_wantWall_97 rfl ?_
        refine v_iload X (pc := 98) 0 rfl eM_wantWall_98 ?_
        obtain ⟨r9, m9, hc9, h⟩ := bd_some h
        refine v_callV X (pc := 100) [_, _, _, _] [] ok_V_M_73 (cM_addWall  hc9) rfl (Nat.le_of_ble_eq_true rfl) ⟨Nat.le_of_ble_eq_true rfl, Nat.le_of_ble_eq_true rfl⟩ ⟨Nat.zero_le _, Nat.zero_le _⟩ (by decide) (by decide) rfl rfl eM_wantWall_100 ?_
        exact v_vret X (pc := 103) h hr eM_wantWall_103
set_option maxHeartbeats 4000000 in
set_option maxRecDepth 100000 in
theorem cM_wantWall {f : Nat} {a1 : Int32} {mem : Mem} {o : Unit} {mem' : Mem}  (h : dM_wantWall f a1 mem = some (o, mem')) : RT yM_wantWall prog_6_method_62_code 5 (Option.none : Option Jvm.ClassFile.FieldType) (rmM 5 111) [aR 12 0, aI a1] mem none mem' := by
  refine RT.of (by decide +kernel) (Nat.le_of_ble_eq_true rfl) (fun p l e s m args below meth c k X hr => ?_)
  replace X : CX p s m args meth c k prog_6_method_62_code 5 "WallShiftsModel" := X
  unfold dM_wantWall at h
  refine v_sub (lv' := [(0, _), (1, _)]) [0, 1] rfl ?_
  refine v_aload_n X (pc := 0) 0 rfl eM_wantWall_0 rfl ?_
  refine v_aload_n X (pc := 1) 0 rfl eM_wantWall_1 rfl ?_
  refine v_get X (pc := 2) 0 (a := aR 13 0) (by decide) (by decide) rfl rfl rfl in_Model (by decide) qw_648 rfl eM_wantWall_2 ?_
  refine v_iconst X (pc := 5) (v := (5 : Int32)) eM_wantWall_5 (by decide) ?_
  refine v_ialdK X (pc := 6) (n := 66) 5 (by decide) (by decide) (by decide) (by decide) rfl eM_wantWall_6 ?_
  refine v_bipush X (pc := 7) (v := (10 : Int32)) eM_wantWall_7 (by decide) ?_
  refine v_icmp_ge X (pc := 9) (tgt := 16) h eM_wantWall_9 (by decide) (fun h => ?_) (fun h => ?_)
  · refine v_iconst X (pc := 12) (v := (1 : Int32)) eM_wantWall_12 (by decide) ?_
    refine v_goto X (pc := 13) (tgt := 17) eM_wantWall_13 (by decide) ?_
    exact v_sub [0, 1] rfl (cM_wantWall_17 X hr _ _ _  h)
  · refine v_iconst X (pc := 16) (v := (0 : Int32)) eM_wantWall_16 (by decide) ?_
    exact v_sub [0, 1] rfl (cM_wantWall_17 X hr _ _ _  h)
set_option maxHeartbeats 4000000 in
set_option maxRecDepth 100000 in
theorem cM_wantItem {f : Nat}  {mem : Mem} {o : Unit} {mem' : Mem}  (h : dM_wantItem f  mem = some (o, mem')) : RT yM_wantItem prog_6_method_64_code 1 (Option.none : Option Jvm.ClassFile.FieldType) (rmM 6 135) [aR 12 0] mem none mem' := by
  refine RT.of (by decide +kernel) (Nat.le_of_ble_eq_true rfl) (fun p l e s m args below meth c k X hr => ?_)
  replace X : CX p s m args meth c k prog_6_method_64_code 1 "WallShiftsModel" := X
  unfold dM_wantItem at h
  refine v_sub (lv' := [(0, _)]) [0] rfl ?_
  refine v_aload_n X (pc := 0) 0 rfl eM_wantItem_0 rfl ?_
  obtain ⟨r1, m1, hc1, h⟩ := bd_some h
  refine v_callV X (pc := 1) [] [] ok_V_M_216 (cM_kindHere  hc1) rfl (Nat.le_of_ble_eq_true rfl) ⟨Nat.le_of_ble_eq_true rfl, Nat.le_of_ble_eq_true rfl⟩ ⟨Nat.zero_le _, Nat.zero_le _⟩ (by decide) (by decide) rfl rfl eM_wantItem_1 ?_
  refine v_if_lt X (pc := 4) (tgt := 18) h eM_wantItem_4 (by decide) (fun h => ?_) (fun h => ?_)
  · refine v_aload_n X (pc := 18) 0 rfl eM_wantItem_18 rfl ?_
    refine v_ldc2 X (pc := 19) qw_972 eM_wantItem_19 ?_
    obtain ⟨r2, m2, hc2, h⟩ := bd_some h
    refine v_callV X (pc := 22) [_] [] ok_V_M_182 (cM_isWord  hc2) rfl (Nat.le_of_ble_eq_true rfl) ⟨Nat.le_of_ble_eq_true rfl, Nat.le_of_ble_eq_true rfl⟩ ⟨Nat.zero_le _, Nat.zero_le _⟩ (by decide) (by decide) rfl rfl eM_wantItem_22 ?_
    refine v_if_eq X (pc := 25) (tgt := 39) h eM_wantItem_25 (by decide) (fun h => ?_) (fun h => ?_)
    · refine v_aload_n X (pc := 39) 0 rfl eM_wantItem_39 rfl ?_
      refine v_ldc2 X (pc := 40) qw_977 eM_wantItem_40 ?_
      obtain ⟨r3, m3, hc3, h⟩ := bd_some h
      refine v_callV X (pc := 43) [_] [] ok_V_M_182 (cM_isWord  hc3) rfl (Nat.le_of_ble_eq_true rfl) ⟨Nat.le_of_ble_eq_true rfl, Nat.le_of_ble_eq_true rfl⟩ ⟨Nat.zero_le _, Nat.zero_le _⟩ (by decide) (by decide) rfl rfl eM_wantItem_43 ?_
      refine v_if_eq X (pc := 46) (tgt := 60) h eM_wantItem_46 (by decide) (fun h => ?_) (fun h => ?_)
      · refine v_aload_n X (pc := 60) 0 rfl eM_wantItem_60 rfl ?_
        refine v_ldc2 X (pc := 61) qw_978 eM_wantItem_61 ?_
        obtain ⟨r4, m4, hc4, h⟩ := bd_some h
        refine v_callV X (pc := 64) [_] [] ok_V_M_182 (cM_isWord  hc4) rfl (Nat.le_of_ble_eq_true rfl) ⟨Nat.le_of_ble_eq_true rfl, Nat.le_of_ble_eq_true rfl⟩ ⟨Nat.zero_le _, Nat.zero_le _⟩ (by decide) (by decide) rfl rfl eM_wantItem_64 ?_
        refine v_if_eq X (pc := 67) (tgt := 80) h eM_wantItem_67 (by decide) (fun h => ?_) (fun h => ?_)
        · refine v_aload_n X (pc := 80) 0 rfl eM_wantItem_80 rfl ?_
          refine v_iconst X (pc := 81) (v := (0 : Int32)) eM_wantItem_81 (by decide) ?_
          refine v_put X (pc := 82) 11 (mem' := (sI m4 12 0 11 (0 : Int32))) (by decide) (by decide) rfl (pf_12_11 _ _ _ _ _) rowI_ne rfl in_Model ty_Model_ok nm_Model (by decide) qw_659 rfl rfl rfl (Nat.le_of_ble_eq_true rfl) eM_wantItem_82 ?_
          exact v_vret X (pc := 85) h hr eM_wantItem_85
        · refine v_aload_n X (pc := 70) 0 rfl eM_wantItem_70 rfl ?_
          refine v_iconst X (pc := 71) (v := (3 : Int32)) eM_wantItem_71 (by decide) ?_
          refine v_iconst X (pc := 72) (v := (0 : Int32)) eM_wantItem_72 (by decide) ?_
          refine v_iconst X (pc := 73) (v := (3 : Int32)) eM_wantItem_73 (by decide) ?_
          obtain ⟨r5, m5, hc5, h⟩ := bd_some h
          refine v_callV X (pc := 74) [_, _, _] [] ok_V_M_225 (cM_wantRota  hc5) rfl (Nat.le_of_ble_eq_true rfl) ⟨Nat.le_of_ble_eq_true rfl, Nat.le_of_ble_eq_true rfl⟩ ⟨Nat.zero_le _, Nat.zero_le _⟩ (by decide) (by decide) rfl rfl eM_wantItem_74 ?_
          refine v_goto X (pc := 77) (tgt := 85) eM_wantItem_77 (by decide) ?_
          exact v_vret X (pc := 85) h hr eM_wantItem_85
      · refine v_aload_n X (pc := 49) 0 rfl eM_wantItem_49 rfl ?_
        refine v_iconst X (pc := 50) (v := (2 : Int32)) eM_wantItem_50 (by decide) ?_
        refine v_iconst X (pc := 51) (v := (0 : Int32)) eM_wantItem_51 (by decide) ?_
        refine v_bipush X (pc := 52) (v := (60 : Int32)) eM_wantItem_52 (by decide) ?_
        obtain ⟨r6, m6, hc6, h⟩ := bd_some h
        refine v_callV X (pc := 54) [_, _, _] [] ok_V_M_225 (cM_wantRota  hc6) rfl (Nat.le_of_ble_eq_true rfl) ⟨Nat.le_of_ble_eq_true rfl, Nat.le_of_ble_eq_true rfl⟩ ⟨Nat.zero_le _, Nat.zero_le _⟩ (by decide) (by decide) rfl rfl eM_wantItem_54 ?_
        refine v_goto X (pc := 57) (tgt := 85) eM_wantItem_57 (by decide) ?_
        exact v_vret X (pc := 85) h hr eM_wantItem_85
    · refine v_aload_n X (pc := 28) 0 rfl eM_wantItem_28 rfl ?_
      refine v_iconst X (pc := 29) (v := (1 : Int32)) eM_wantItem_29 (by decide) ?_
      refine v_iconst X (pc := 30) (v := (1 : Int32)) eM_wantItem_30 (by decide) ?_
      refine v_bipush X (pc := 31) (v := (60 : Int32)) eM_wantItem_31 (by decide) ?_
      obtain ⟨r7, m7, hc7, h⟩ := bd_some h
      refine v_callV X (pc := 33) [_, _, _] [] ok_V_M_225 (cM_wantRota  hc7) rfl (Nat.le_of_ble_eq_true rfl) ⟨Nat.le_of_ble_eq_true rfl, Nat.le_of_ble_eq_true rfl⟩ ⟨Nat.zero_le _, Nat.zero_le _⟩ (by decide) (by decide) rfl rfl eM_wantItem_33 ?_
      refine v_goto X (pc := 36) (tgt := 85) eM_wantItem_36 (by decide) ?_
      exact v_vret X (pc := 85) h hr eM_wantItem_85
  · refine v_aload_n X (pc := 7) 0 rfl eM_wantItem_7 rfl ?_
    refine v_aload_n X (pc := 8) 0 rfl eM_wantItem_8 rfl ?_
    obtain ⟨r8, m8, hc8, h⟩ := bd_some h
    refine v_callV X (pc := 9) [] [_] ok_V_M_216 (cM_kindHere  hc8) rfl (Nat.le_of_ble_eq_true rfl) ⟨Nat.le_of_ble_eq_true rfl, Nat.le_of_ble_eq_true rfl⟩ ⟨Nat.zero_le _, Nat.zero_le _⟩ (by decide) (by decide) rfl rfl eM_wantItem_9 ?_
    obtain ⟨r9, m9, hc9, h⟩ := bd_some h
    refine v_callV X (pc := 12) [_] [] ok_V_M_219 (cM_wantWall  hc9) rfl (Nat.le_of_ble_eq_true rfl) ⟨Nat.le_of_ble_eq_true rfl, Nat.le_of_ble_eq_true rfl⟩ ⟨Nat.zero_le _, Nat.zero_le _⟩ (by decide) (by decide) rfl rfl eM_wantItem_12 ?_
    refine v_goto X (pc := 15) (tgt := 85) eM_wantItem_15 (by decide) ?_
    exact v_vret X (pc := 85) h hr eM_wantItem_85
set_option maxHeartbeats 4000000 in
set_option maxRecDepth 100000 in
theorem cM_palace_91 {p : Program} {l : Launch} {e : Env} {s : State} {m : MethodId} {args : Array Value} {below : List Frame} {meth : Method} {c : Code} {k : KK} {f : Nat} {o : Int32} {mem' : Mem} (X : CX p s m args meth c k prog_6_method_65_code 3 "WallShiftsModel") (hr : meth.sig.returnType = (Option.some Jvm.ClassFile.FieldType.int)) : ∀ (x1 : Int32) (s1 : Int32) (mem : Mem), dM_palace_91 f x1 s1 mem = some (o, mem') → V p l e (rmM 7 155) s m args below meth c 0 0 (MQ below (RQc k (some (aI o)) mem') args s 0 0 (kA k)) k 3 mem 91 [(0, aR 12 0), (1, aI x1)] [aI s1, aR 12 0] := by
  intro x1 s1 mem  h
  unfold dM_palace_91 at h
  obtain ⟨hz1, h⟩ := zb_some h
  refine v_put X (pc := 91) 11 (mem' := (sI mem 12 0 11 s1)) (by decide) (by decide) rfl (pf_12_11 _ _ _ _ _) rowI_ne rfl in_Model ty_Model_ok nm_Model (by decide) qw_659 rfl (zb_n hz1) (zb_f hz1) (Nat.le_of_ble_eq_true rfl) eM_palace_91 ?_
  refine v_aload_n X (pc := 94) 0 rfl eM_palace_94 rfl ?_
  refine v_iconst X (pc := 95) (v := (0 : Int32)) eM_palace_95 (by decide) ?_
  refine v_put X (pc := 96) 5 (mem' := (sI (sI mem 12 0 11 s1) 12 0 5 (0 : Int32))) (by decide) (by decide) rfl (pf_12_5 _ _ _ _ _) rowI_ne rfl in_Model ty_Model_ok nm_Model (by decide) qw_653 rfl rfl rfl (Nat.le_of_ble_eq_true rfl) eM_palace_96 ?_
  refine v_aload_n X (pc := 99) 0 rfl eM_palace_99 rfl ?_
  refine v_get X (pc := 100) 11 (a := aI (gI (sI (sI mem 12 0 11 s1) 12 0 5 (0 : Int32)) 12 0 11)) (by decide) (by decide) rfl rfl rfl in_Model (by decide) qw_659 rfl eM_palace_100 ?_
  refine v_if_ne X (pc := 103) (tgt := 122) h eM_palace_103 (by decide) (fun h => ?_) (fun h => ?_)
  · refine v_aload_n X (pc := 106) 0 rfl eM_palace_106 rfl ?_
    refine v_iconst X (pc := 107) (v := (0 : Int32)) eM_palace_107 (by decide) ?_
    refine v_aload_n X (pc := 108) 0 rfl eM_palace_108 rfl ?_
    refine v_get X (pc := 109) 17 (a := aR 22 0) (by decide) (by decide) rfl rfl rfl in_Model (by decide) qw_665 rfl eM_palace_109 ?_
    obtain ⟨r2, m2, hc2, h⟩ := bd_some h
    refine v_callV X (pc := 112) [_, _] [] ok_V_M_142 (cM_moveAll_22  hc2) rfl (Nat.le_of_ble_eq_true rfl) ⟨Nat.le_of_ble_eq_true rfl, Nat.le_of_ble_eq_true rfl⟩ ⟨Nat.zero_le _, Nat.zero_le _⟩ (by decide) (by decide) rfl rfl eM_palace_112 ?_
    refine v_iconst X (pc := 115) (v := (-1 : Int32)) eM_palace_115 (by decide) ?_
    refine v_aload_n X (pc := 116) 0 rfl eM_palace_116 rfl ?_
    refine v_get X (pc := 117) 7 (a := aI (gI m2 12 0 7)) (by decide) (by decide) rfl rfl rfl in_Model (by decide) qw_655 rfl eM_palace_117 ?_
    refine v_isub X (pc := 120) eM_palace_120 ?_
    exact v_iret X (pc := 121) h hr eM_palace_121
  · refine v_iload_n X (pc := 122) 1 rfl eM_palace_122 rfl ?_
    exact v_iret X (pc := 123) h hr eM_palace_123
set_option maxHeartbeats 4000000 in
set_option maxRecDepth 100000 in
theorem cM_palace_23 {p : Program} {l : Launch} {e : Env} {s : State} {m : MethodId} {args : Array Value} {below : List Frame} {meth : Method} {c : Code} {k : KK} {f : Nat} {o : Int32} {mem' : Mem} (X : CX p s m args meth c k prog_6_method_65_code 3 "WallShiftsModel") (hr : meth.sig.returnType = (Option.some Jvm.ClassFile.FieldType.int)) : ∀ (n : Nat) (x1 : Int32) (x2 : Int32) (mem : Mem), dM_palace_23 f n x1 x2 mem = some (o, mem') → V p l e (rmM 7 155) s m args below meth c 0 0 (MQ below (RQc k (some (aI o)) mem') args s 0 0 (kA k)) k 3 mem 23 [(0, aR 12 0), (1, aI x1), (2, aI x2)] [] := by
  intro n
  induction n with
  | zero =>
    intro x1 x2 mem  h
    exact nomatch (show (none : Option (Int32 × Mem)) = some _ from h)
  | succ n ih =>
    intro x1 x2 mem  h
    rw [dM_palace_23] at h
    refine v_iload_n X (pc := 23) 2 rfl eM_palace_23 rfl ?_
    refine v_if_eq X (pc := 24) (tgt := 71) h eM_palace_24 (by decide) (fun h => ?_) (fun h => ?_)
    · refine v_aload_n X (pc := 71) 0 rfl eM_palace_71 rfl ?_
      refine v_aload_n X (pc := 72) 0 rfl eM_palace_72 rfl ?_
      refine v_get X (pc := 73) 11 (a := aI (gI mem 12 0 11)) (by decide) (by decide) rfl rfl rfl in_Model (by decide) qw_659 rfl eM_palace_73 ?_
      refine v_if_eq X (pc := 76) (tgt := 90) h eM_palace_76 (by decide) (fun h => ?_) (fun h => ?_)
      · refine v_iconst X (pc := 90) (v := (0 : Int32)) eM_palace_90 (by decide) ?_
        exact v_sub [0, 1] rfl (cM_palace_91 X hr _ _ _  h)
      · refine v_aload_n X (pc := 79) 0 rfl eM_palace_79 rfl ?_
        refine v_get X (pc := 80) 6 (a := aI (gI mem 12 0 6)) (by decide) (by decide) rfl rfl rfl in_Model (by decide) qw_654 rfl eM_palace_80 ?_
        refine v_if_ne X (pc := 83) (tgt := 90) h eM_palace_83 (by decide) (fun h => ?_) (fun h => ?_)
        · refine v_iconst X (pc := 86) (v := (1 : Int32)) eM_palace_86 (by decide) ?_
          refine v_goto X (pc := 87) (tgt := 91) eM_palace_87 (by decide) ?_
          exact v_sub [0, 1] rfl (cM_palace_91 X hr _ _ _  h)
        · refine v_iconst X (pc := 90) (v := (0 : Int32)) eM_palace_90 (by decide) ?_
          exact v_sub [0, 1] rfl (cM_palace_91 X hr _ _ _  h)
    · refine v_aload_n X (pc := 27) 0 rfl eM_palace_27 rfl ?_
      obtain ⟨r1, m1, hc1, h⟩ := bd_some h
      refine v_callV X (pc := 28) [] [] ok_V_M_200 (cM_advance  hc1) rfl (Nat.le_of_ble_eq_true rfl) ⟨Nat.le_of_ble_eq_true rfl, Nat.le_of_ble_eq_true rfl⟩ ⟨Nat.zero_le _, Nat.zero_le _⟩ (by decide) (by decide) rfl rfl eM_palace_28 ?_
      refine v_aload_n X (pc := 31) 0 rfl eM_palace_31 rfl ?_
      obtain ⟨r2, m2, hc2, h⟩ := bd_some h
      refine v_callV X (pc := 32) [] [] ok_V_M_232 (cM_wantItem  hc2) rfl (Nat.le_of_ble_eq_true rfl) ⟨Nat.le_of_ble_eq_true rfl, Nat.le_of_ble_eq_true rfl⟩ ⟨Nat.zero_le _, Nat.zero_le _⟩ (by decide) (by decide) rfl rfl eM_palace_32 ?_
      refine v_iinc X (pc := 35) (v := (x1 + (1 : Int32))) (lv' := [(1, _), (0, _), (2, _)]) 1 rfl (by rfl) eM_palace_35 (Nat.le_of_ble_eq_true rfl) rfl ?_
      refine v_aload_n X (pc := 38) 1 rfl eM_palace_38 rfl ?_
      refine v_get X (pc := 39) 11 (a := aI (gI m2 12 0 11)) (by decide) (by decide) rfl rfl rfl in_Model (by decide) qw_659 rfl eM_palace_39 ?_
      refine v_if_eq X (pc := 42) (tgt := 66) h eM_palace_42 (by decide) (fun h => ?_) (fun h => ?_)
      · refine v_iconst X (pc := 66) (v := (0 : Int32)) eM_palace_66 (by decide) ?_
        refine v_istore_n X (pc := 67) (lv' := [(2, _), (1, _), (0, _)]) eM_palace_67 rfl (Nat.le_of_ble_eq_true rfl) rfl ?_
        refine v_goto X (pc := 68) (tgt := 23) eM_palace_68 (by decide) ?_
        exact v_sub [2, 1, 0] rfl (ih _ _ _  h)
      · refine v_aload_n X (pc := 45) 1 rfl eM_palace_45 rfl ?_
        refine v_get X (pc := 46) 6 (a := aI (gI m2 12 0 6)) (by decide) (by decide) rfl rfl rfl in_Model (by decide) qw_654 rfl eM_palace_46 ?_
        refine v_iconst X (pc := 49) (v := (3 : Int32)) eM_palace_49 (by decide) ?_
        refine v_icmp_ne X (pc := 50) (tgt := 66) h eM_palace_50 (by decide) (fun h => ?_) (fun h => ?_)
        · refine v_aload_n X (pc := 53) 1 rfl eM_palace_53 rfl ?_
          refine v_get X (pc := 54) 10 (a := aI (gI m2 12 0 10)) (by decide) (by decide) rfl rfl rfl in_Model (by decide) qw_658 rfl eM_palace_54 ?_
          refine v_bipush X (pc := 57) (v := (59 : Int32)) eM_palace_57 (by decide) ?_
          refine v_icmp_ne X (pc := 59) (tgt := 66) h eM_palace_59 (by decide) (fun h => ?_) (fun h => ?_)
          · refine v_iconst X (pc := 62) (v := (1 : Int32)) eM_palace_62 (by decide) ?_
            refine v_goto X (pc := 63) (tgt := 67) eM_palace_63 (by decide) ?_
            refine v_istore_n X (pc := 67) (lv' := [(2, _), (1, _), (0, _)]) eM_palace_67 rfl (Nat.le_of_ble_eq_true rfl) rfl ?_
            refine v_goto X (pc := 68) (tgt := 23) eM_palace_68 (by decide) ?_
            exact v_sub [2, 1, 0] rfl (ih _ _ _  h)
          · refine v_iconst X (pc := 66) (v := (0 : Int32)) eM_palace_66 (by decide) ?_
            refine v_istore_n X (pc := 67) (lv' := [(2, _), (1, _), (0, _)]) eM_palace_67 rfl (Nat.le_of_ble_eq_true rfl) rfl ?_
            refine v_goto X (pc := 68) (tgt := 23) eM_palace_68 (by decide) ?_
            exact v_sub [2, 1, 0] rfl (ih _ _ _  h)
        · refine v_iconst X (pc := 66) (v := (0 : Int32)) eM_palace_66 (by decide) ?_
          refine v_istore_n X (pc := 67) (lv' := [(2, _), (1, _), (0, _)]) eM_palace_67 rfl (Nat.le_of_ble_eq_true rfl) rfl ?_
          refine v_goto X (pc := 68) (tgt := 23) eM_palace_68 (by decide) ?_
          exact v_sub [2, 1, 0] rfl (ih _ _ _  h)
set_option maxHeartbeats 4000000 in
set_option maxRecDepth 100000 in
theorem cM_palace {f : Nat}  {mem : Mem} {o : Int32} {mem' : Mem}  (h : dM_palace f  mem = some (o, mem')) : RT yM_palace prog_6_method_65_code 3 (Option.some Jvm.ClassFile.FieldType.int) (rmM 7 155) [aR 12 0] mem (some (aI o)) mem' := by
  refine RT.of (by decide +kernel) (Nat.le_of_ble_eq_true rfl) (fun p l e s m args below meth c k X hr => ?_)
  replace X : CX p s m args meth c k prog_6_method_65_code 3 "WallShiftsModel" := X
  unfold dM_palace at h
  refine v_sub (lv' := [(0, _)]) [0] rfl ?_
  refine v_aload_n X (pc := 0) 0 rfl eM_palace_0 rfl ?_
  refine v_iconst X (pc := 1) (v := (1 : Int32)) eM_palace_1 (by decide) ?_
  refine v_aload_n X (pc := 2) 0 rfl eM_palace_2 rfl ?_
  refine v_get X (pc := 3) 17 (a := aR 22 0) (by decide) (by decide) rfl rfl rfl in_Model (by decide) qw_665 rfl eM_palace_3 ?_
  obtain ⟨r1, m1, hc1, h⟩ := bd_some h
  refine v_callV X (pc := 6) [_, _] [] ok_V_M_142 (cM_moveAll_22  hc1) rfl (Nat.le_of_ble_eq_true rfl) ⟨Nat.le_of_ble_eq_true rfl, Nat.le_of_ble_eq_true rfl⟩ ⟨Nat.zero_le _, Nat.zero_le _⟩ (by decide) (by decide) rfl rfl eM_palace_6 ?_
  refine v_aload_n X (pc := 9) 0 rfl eM_palace_9 rfl ?_
  refine v_iconst X (pc := 10) (v := (0 : Int32)) eM_palace_10 (by decide) ?_
  refine v_put X (pc := 11) 8 (mem' := (sI m1 12 0 8 (0 : Int32))) (by decide) (by decide) rfl (pf_12_8 _ _ _ _ _) rowI_ne rfl in_Model ty_Model_ok nm_Model (by decide) qw_656 rfl rfl rfl (Nat.le_of_ble_eq_true rfl) eM_palace_11 ?_
  refine v_aload_n X (pc := 14) 0 rfl eM_palace_14 rfl ?_
  refine v_iconst X (pc := 15) (v := (1 : Int32)) eM_palace_15 (by decide) ?_
  refine v_put X (pc := 16) 11 (mem' := (sI (sI m1 12 0 8 (0 : Int32)) 12 0 11 (1 : Int32))) (by decide) (by decide) rfl (pf_12_11 _ _ _ _ _) rowI_ne rfl in_Model ty_Model_ok nm_Model (by decide) qw_659 rfl rfl rfl (Nat.le_of_ble_eq_true rfl) eM_palace_16 ?_
  refine v_iconst X (pc := 19) (v := (0 : Int32)) eM_palace_19 (by decide) ?_
  refine v_istore_n X (pc := 20) (lv' := [(1, _), (0, _)]) eM_palace_20 rfl (Nat.le_of_ble_eq_true rfl) rfl ?_
  refine v_iconst X (pc := 21) (v := (1 : Int32)) eM_palace_21 (by decide) ?_
  refine v_istore_n X (pc := 22) (lv' := [(2, _), (1, _), (0, _)]) eM_palace_22 rfl (Nat.le_of_ble_eq_true rfl) rfl ?_
  exact v_sub [2, 1, 0] rfl (cM_palace_23 X hr _ _ _ _  h)
set_option maxHeartbeats 4000000 in
set_option maxRecDepth 100000 in
theorem cM_isSheet {f : Nat} {a0 : Int32} {mem : Mem} {o : Int32} {mem' : Mem}  (h : dM_isSheet f a0 mem = some (o, mem')) : RT yM_isSheet prog_6_method_66_code 1 (Option.some Jvm.ClassFile.FieldType.boolean) (rmM 1 22) [aI a0] mem (some (aI o)) mem' := by
  refine RT.of (by decide +kernel) (Nat.le_of_ble_eq_true rfl) (fun p l e s m args below meth c k X hr => ?_)
  replace X : CX p s m args meth c k prog_6_method_66_code 1 "WallShiftsModel" := X
  unfold dM_isSheet at h
  refine v_sub (lv' := [(0, _)]) [0] rfl ?_
  refine v_iload_n X (pc := 0) 0 rfl eM_isSheet_0 rfl ?_
  refine v_iconst X (pc := 1) (v := (0 : Int32)) eM_isSheet_1 (by decide) ?_
  refine v_iconst X (pc := 2) (v := (3 : Int32)) eM_isSheet_2 (by decide) ?_
  obtain ⟨r1, m1, hc1, h⟩ := bd_some h
  refine v_callS X (pc := 3) [_, _, _] [] ok_S_M_42 (cM_in  hc1) rfl (Nat.le_of_ble_eq_true rfl) ⟨Nat.le_of_ble_eq_true rfl, Nat.le_of_ble_eq_true rfl⟩ ⟨Nat.zero_le _, Nat.zero_le _⟩ eM_isSheet_3 ?_
  obtain ⟨hz, h⟩ := zb_some h
  exact v_zret X (pc := 6) h hr (zb_n hz) eM_isSheet_6
set_option maxHeartbeats 4000000 in
set_option maxRecDepth 100000 in
theorem cM_sheet_85 {p : Program} {l : Launch} {e : Env} {s : State} {m : MethodId} {args : Array Value} {below : List Frame} {meth : Method} {c : Code} {k : KK} {f : Nat} {o : Int32} {mem' : Mem} (X : CX p s m args meth c k prog_6_method_68_code 5 "WallShiftsModel") (hr : meth.sig.returnType = (Option.some Jvm.ClassFile.FieldType.int)) : ∀ (n : Nat) (x1 : Int32) (x4 : Int32) (mem : Mem), dM_sheet_85 f n x1 x4 mem = some (o, mem') → V p l e (rmM 2 42) s m args below meth c 0 0 (MQ below (RQc k (some (aI o)) mem') args s 0 0 (kA k)) k 5 mem 85 [(0, aR 12 0), (1, aI x1), (4, aI x4)] [] := by
  intro n
  induction n with
  | zero =>
    intro x1 x4 mem  h
    exact nomatch (show (none : Option (Int32 × Mem)) = some _ from h)
  | succ n ih =>
    intro x1 x4 mem  h
    rw [dM_sheet_85] at h
    refine v_iload X (pc := 85) 2 rfl eM_sheet_85 ?_
    refine v_bipush X (pc := 87) (v := (40 : Int32)) eM_sheet_87 (by decide) ?_
    refine v_icmp_ge X (pc := 89) (tgt := 111) h eM_sheet_89 (by decide) (fun h => ?_) (fun h => ?_)
    · refine v_aload_n X (pc := 92) 0 rfl eM_sheet_92 rfl ?_
      refine v_get X (pc := 93) 14 (a := aR 19 0) (by decide) (by decide) rfl rfl rfl in_Model (by decide) qw_662 rfl eM_sheet_93 ?_
      refine v_bipush X (pc := 96) (v := (40 : Int32)) eM_sheet_96 (by decide) ?_
      refine v_iload_n X (pc := 98) 1 rfl eM_sheet_98 rfl ?_
      refine v_imul X (pc := 99) eM_sheet_99 ?_
      refine v_iload X (pc := 100) 2 rfl eM_sheet_100 ?_
      refine v_iadd X (pc := 102) eM_sheet_102 ?_
      refine v_lconst X (pc := 103) (v := (0 : Int64)) eM_sheet_103 (by decide) ?_
      refine v_last X (pc := 104) h (by decide) (by decide) (fun _ => rfl) eM_sheet_104 (fun h => ?_)
      refine v_iinc X (pc := 105) (v := (x4 + (1 : Int32))) (lv' := [(4, _), (0, _), (1, _)]) 2 rfl (by rfl) eM_sheet_105 (Nat.le_of_ble_eq_true rfl) rfl ?_
      refine v_goto X (pc := 108) (tgt := 85) eM_sheet_108 (by decide) ?_
      exact v_sub [1, 2, 0] rfl (ih _ _ _  h)
    · refine v_aload_n X (pc := 111) 0 rfl eM_sheet_111 rfl ?_
      refine v_get X (pc := 112) 13 (a := aR 18 0) (by decide) (by decide) rfl rfl rfl in_Model (by decide) qw_661 rfl eM_sheet_112 ?_
      refine v_iload_n X (pc := 115) 1 rfl eM_sheet_115 rfl ?_
      refine v_iald X (pc := 116) h (by decide) (by decide) rfl eM_sheet_116 (fun h => ?_)
      exact v_iret X (pc := 117) h hr eM_sheet_117
set_option maxHeartbeats 4000000 in
set_option maxRecDepth 100000 in
theorem cM_sheet_36 {p : Program} {l : Launch} {e : Env} {s : State} {m : MethodId} {args : Array Value} {below : List Frame} {meth : Method} {c : Code} {k : KK} {f : Nat} {o : Int32} {mem' : Mem} (X : CX p s m args meth c k prog_6_method_68_code 5 "WallShiftsModel") (hr : meth.sig.returnType = (Option.some Jvm.ClassFile.FieldType.int)) : ∀ (x1 : Int32) (x2 : Int32) (x3 : Int32) (mem : Mem), dM_sheet_36 f x1 x2 x3 mem = some (o, mem') → V p l e (rmM 2 42) s m args below meth c 0 0 (MQ below (RQc k (some (aI o)) mem') args s 0 0 (kA k)) k 5 mem 36 [(0, aR 12 0), (1, aI x1), (2, aI x2), (3, aI x3)] [] := by
  intro x1 x2 x3 mem  h
  unfold dM_sheet_36 at h
  refine v_iload_n X (pc := 36) 3 rfl eM_sheet_36 rfl ?_
  refine v_if_ge X (pc := 37) (tgt := 47) h eM_sheet_37 (by decide) (fun h => ?_) (fun h => ?_)
  · refine v_aload_n X (pc := 40) 0 rfl eM_sheet_40 rfl ?_
    refine v_ldc X (pc := 41) qw_986 eM_sheet_41 ?_
    obtain ⟨r1, m1, hc1, h⟩ := bd_some h
    refine v_callV X (pc := 43) [_] [] ok_V_M_57 (cM_finds  hc1) rfl (Nat.le_of_ble_eq_true rfl) ⟨Nat.le_of_ble_eq_true rfl, Nat.le_of_ble_eq_true rfl⟩ ⟨Nat.zero_le _, Nat.zero_le _⟩ (by decide) (by decide) rfl rfl eM_sheet_43 ?_
    exact v_iret X (pc := 46) h hr eM_sheet_46
  · refine v_iload_n X (pc := 47) 3 rfl eM_sheet_47 rfl ?_
    refine v_bipush X (pc := 48) (v := (40 : Int32)) eM_sheet_48 (by decide) ?_
    refine v_icmp_le X (pc := 50) (tgt := 60) h eM_sheet_50 (by decide) (fun h => ?_) (fun h => ?_)
    · refine v_aload_n X (pc := 53) 0 rfl eM_sheet_53 rfl ?_
      refine v_ldc X (pc := 54) qw_717 eM_sheet_54 ?_
      obtain ⟨r2, m2, hc2, h⟩ := bd_some h
      refine v_callV X (pc := 56) [_] [] ok_V_M_57 (cM_finds  hc2) rfl (Nat.le_of_ble_eq_true rfl) ⟨Nat.le_of_ble_eq_true rfl, Nat.le_of_ble_eq_true rfl⟩ ⟨Nat.zero_le _, Nat.zero_le _⟩ (by decide) (by decide) rfl rfl eM_sheet_56 ?_
      exact v_iret X (pc := 59) h hr eM_sheet_59
    · refine v_aload_n X (pc := 60) 0 rfl eM_sheet_60 rfl ?_
      refine v_get X (pc := 61) 12 (a := aR 17 0) (by decide) (by decide) rfl rfl rfl in_Model (by decide) qw_660 rfl eM_sheet_61 ?_
      refine v_iload_n X (pc := 64) 1 rfl eM_sheet_64 rfl ?_
      refine v_iload_n X (pc := 65) 2 rfl eM_sheet_65 rfl ?_
      refine v_iast X (pc := 66) h (by decide) (by decide) (fun _ => rfl) eM_sheet_66 (fun h => ?_)
      refine v_aload_n X (pc := 67) 0 rfl eM_sheet_67 rfl ?_
      refine v_get X (pc := 68) 13 (a := aR 18 0) (by decide) (by decide) rfl rfl rfl in_Model (by decide) qw_661 rfl eM_sheet_68 ?_
      refine v_iload_n X (pc := 71) 1 rfl eM_sheet_71 rfl ?_
      refine v_iload_n X (pc := 72) 2 rfl eM_sheet_72 rfl ?_
      refine v_if_ne X (pc := 73) (tgt := 80) h eM_sheet_73 (by decide) (fun h => ?_) (fun h => ?_)
      · refine v_iconst X (pc := 76) (v := (0 : Int32)) eM_sheet_76 (by decide) ?_
        refine v_goto X (pc := 77) (tgt := 81) eM_sheet_77 (by decide) ?_
        refine v_iast X (pc := 81) h (by decide) (by decide) (fun _ => rfl) eM_sheet_81 (fun h => ?_)
        refine v_iconst X (pc := 82) (v := (0 : Int32)) eM_sheet_82 (by decide) ?_
        refine v_istore X (pc := 83) (lv' := [(4, _), (0, _), (1, _), (2, _), (3, _)]) eM_sheet_83 (Nat.le_of_ble_eq_true rfl) rfl ?_
        exact v_sub [1, 2, 0] rfl (cM_sheet_85 X hr _ _ _ _  h)
      · refine v_iload_n X (pc := 80) 3 rfl eM_sheet_80 rfl ?_
        refine v_iast X (pc := 81) h (by decide) (by decide) (fun _ => rfl) eM_sheet_81 (fun h => ?_)
        refine v_iconst X (pc := 82) (v := (0 : Int32)) eM_sheet_82 (by decide) ?_
        refine v_istore X (pc := 83) (lv' := [(4, _), (0, _), (1, _), (2, _), (3, _)]) eM_sheet_83 (Nat.le_of_ble_eq_true rfl) rfl ?_
        exact v_sub [1, 2, 0] rfl (cM_sheet_85 X hr _ _ _ _  h)
set_option maxHeartbeats 4000000 in
set_option maxRecDepth 100000 in
theorem cM_sheet {f : Nat} {a1 : Int32} {a2 : Int32} {a3 : Int32} {mem : Mem} {o : Int32} {mem' : Mem}  (h : dM_sheet f a1 a2 a3 mem = some (o, mem')) : RT yM_sheet prog_6_method_68_code 5 (Option.some Jvm.ClassFile.FieldType.int) (rmM 2 42) [aR 12 0, aI a1, aI a2, aI a3] mem (some (aI o)) mem' := by
  refine RT.of (by decide +kernel) (Nat.le_of_ble_eq_true rfl) (fun p l e s m args below meth c k X hr => ?_)
  replace X : CX p s m args meth c k prog_6_method_68_code 5 "WallShiftsModel" := X
  unfold dM_sheet at h
  refine v_sub (lv' := [(0, _), (1, _), (2, _), (3, _)]) [0, 1, 2, 3] rfl ?_
  refine v_iload_n X (pc := 0) 1 rfl eM_sheet_0 rfl ?_
  obtain ⟨r1, m1, hc1, h⟩ := bd_some h
  refine v_callS X (pc := 1) [_] [] ok_S_M_235 (cM_isSheet  hc1) rfl (Nat.le_of_ble_eq_true rfl) ⟨Nat.le_of_ble_eq_true rfl, Nat.le_of_ble_eq_true rfl⟩ ⟨Nat.zero_le _, Nat.zero_le _⟩ eM_sheet_1 ?_
  refine v_if_eq X (pc := 4) (tgt := 29) h eM_sheet_4 (by decide) (fun h => ?_) (fun h => ?_)
  · refine v_aload_n X (pc := 29) 0 rfl eM_sheet_29 rfl ?_
    refine v_ldc X (pc := 30) qw_717 eM_sheet_30 ?_
    obtain ⟨r2, m2, hc2, h⟩ := bd_some h
    refine v_callV X (pc := 32) [_] [] ok_V_M_57 (cM_finds  hc2) rfl (Nat.le_of_ble_eq_true rfl) ⟨Nat.le_of_ble_eq_true rfl, Nat.le_of_ble_eq_true rfl⟩ ⟨Nat.zero_le _, Nat.zero_le _⟩ (by decide) (by decide) rfl rfl eM_sheet_32 ?_
    exact v_iret X (pc := 35) h hr eM_sheet_35
  · refine v_iload_n X (pc := 7) 2 rfl eM_sheet_7 rfl ?_
    refine v_if_eq X (pc := 8) (tgt := 36) h eM_sheet_8 (by decide) (fun h => ?_) (fun h => ?_)
    · exact v_sub [0, 1, 2, 3] rfl (cM_sheet_36 X hr _ _ _ _  h)
    · refine v_iload_n X (pc := 11) 2 rfl eM_sheet_11 rfl ?_
      refine v_bipush X (pc := 12) (v := (8 : Int32)) eM_sheet_12 (by decide) ?_
      refine v_icmp_eq X (pc := 14) (tgt := 36) h eM_sheet_14 (by decide) (fun h => ?_) (fun h => ?_)
      · exact v_sub [0, 1, 2, 3] rfl (cM_sheet_36 X hr _ _ _ _  h)
      · refine v_iload_n X (pc := 17) 2 rfl eM_sheet_17 rfl ?_
        refine v_bipush X (pc := 18) (v := (16 : Int32)) eM_sheet_18 (by decide) ?_
        refine v_icmp_eq X (pc := 20) (tgt := 36) h eM_sheet_20 (by decide) (fun h => ?_) (fun h => ?_)
        · exact v_sub [0, 1, 2, 3] rfl (cM_sheet_36 X hr _ _ _ _  h)
        · refine v_iload_n X (pc := 23) 2 rfl eM_sheet_23 rfl ?_
          refine v_bipush X (pc := 24) (v := (64 : Int32)) eM_sheet_24 (by decide) ?_
          refine v_icmp_eq X (pc := 26) (tgt := 36) h eM_sheet_26 (by decide) (fun h => ?_) (fun h => ?_)
          · exact v_sub [0, 1, 2, 3] rfl (cM_sheet_36 X hr _ _ _ _  h)
          · refine v_aload_n X (pc := 29) 0 rfl eM_sheet_29 rfl ?_
            refine v_ldc X (pc := 30) qw_717 eM_sheet_30 ?_
            obtain ⟨r3, m3, hc3, h⟩ := bd_some h
            refine v_callV X (pc := 32) [_] [] ok_V_M_57 (cM_finds  hc3) rfl (Nat.le_of_ble_eq_true rfl) ⟨Nat.le_of_ble_eq_true rfl, Nat.le_of_ble_eq_true rfl⟩ ⟨Nat.zero_le _, Nat.zero_le _⟩ (by decide) (by decide) rfl rfl eM_sheet_32 ?_
            exact v_iret X (pc := 35) h hr eM_sheet_35
set_option maxHeartbeats 4000000 in
set_option maxRecDepth 100000 in
theorem cM_narrow {f : Nat} {a0 : Int32} {a1 : Int64} {mem : Mem} {o : Int64} {mem' : Mem}  (h : dM_narrow f a0 a1 mem = some (o, mem')) : RT yM_narrow prog_6_method_67_code 3 (Option.some Jvm.ClassFile.FieldType.long) (rmM 0 0) [aI a0, aL a1] mem (some (aL o)) mem' := by
  refine RT.of (by decide +kernel) (Nat.le_of_ble_eq_true rfl) (fun p l e s m args below meth c k X hr => ?_)
  replace X : CX p s m args meth c k prog_6_method_67_code 3 "WallShiftsModel" := X
  unfold dM_narrow at h
  refine v_sub (lv' := [(0, _), (1, _)]) [0, 1] rfl ?_
  refine v_iload_n X (pc := 0) 0 rfl eM_narrow_0 rfl ?_
  refine v_bipush X (pc := 1) (v := (8 : Int32)) eM_narrow_1 (by decide) ?_
  refine v_icmp_ne X (pc := 3) (tgt := 16) h eM_narrow_3 (by decide) (fun h => ?_) (fun h => ?_)
  · refine v_lload_n X (pc := 6) 1 rfl eM_narrow_6 rfl ?_
    refine v_bipush X (pc := 7) (v := (56 : Int32)) eM_narrow_7 (by decide) ?_
    refine v_lshl X (pc := 9) eM_narrow_9 ?_
    refine v_bipush X (pc := 10) (v := (56 : Int32)) eM_narrow_10 (by decide) ?_
    refine v_lshr X (pc := 12) eM_narrow_12 ?_
    refine v_goto X (pc := 13) (tgt := 33) eM_narrow_13 (by decide) ?_
    exact v_lret X (pc := 33) h hr eM_narrow_33
  · refine v_iload_n X (pc := 16) 0 rfl eM_narrow_16 rfl ?_
    refine v_bipush X (pc := 17) (v := (16 : Int32)) eM_narrow_17 (by decide) ?_
    refine v_icmp_ne X (pc := 19) (tgt := 32) h eM_narrow_19 (by decide) (fun h => ?_) (fun h => ?_)
    · refine v_lload_n X (pc := 22) 1 rfl eM_narrow_22 rfl ?_
      refine v_bipush X (pc := 23) (v := (48 : Int32)) eM_narrow_23 (by decide) ?_
      refine v_lshl X (pc := 25) eM_narrow_25 ?_
      refine v_bipush X (pc := 26) (v := (48 : Int32)) eM_narrow_26 (by decide) ?_
      refine v_lshr X (pc := 28) eM_narrow_28 ?_
      refine v_goto X (pc := 29) (tgt := 33) eM_narrow_29 (by decide) ?_
      exact v_lret X (pc := 33) h hr eM_narrow_33
    · refine v_lload_n X (pc := 32) 1 rfl eM_narrow_32 rfl ?_
      exact v_lret X (pc := 33) h hr eM_narrow_33
set_option maxHeartbeats 4000000 in
set_option maxRecDepth 100000 in
theorem cM_write {f : Nat} {a1 : Int32} {a2 : Int32} {a3 : Int64} {mem : Mem} {o : Int64} {mem' : Mem}  (h : dM_write f a1 a2 a3 mem = some (o, mem')) : RT yM_write prog_6_method_69_code 7 (Option.some Jvm.ClassFile.FieldType.long) (rmM 2 42) [aR 12 0, aI a1, aI a2, aL a3] mem (some (aL o)) mem' := by
  refine RT.of (by decide +kernel) (Nat.le_of_ble_eq_true rfl) (fun p l e s m args below meth c k X hr => ?_)
  replace X : CX p s m args meth c k prog_6_method_69_code 7 "WallShiftsModel" := X
  unfold dM_write at h
  refine v_sub (lv' := [(0, _), (1, _), (2, _), (3, _)]) [0, 1, 2, 3] rfl ?_
  refine v_iload_n X (pc := 0) 1 rfl eM_write_0 rfl ?_
  obtain ⟨r1, m1, hc1, h⟩ := bd_some h
  refine v_callS X (pc := 1) [_] [] ok_S_M_235 (cM_isSheet  hc1) rfl (Nat.le_of_ble_eq_true rfl) ⟨Nat.le_of_ble_eq_true rfl, Nat.le_of_ble_eq_true rfl⟩ ⟨Nat.zero_le _, Nat.zero_le _⟩ eM_write_1 ?_
  refine v_if_ne X (pc := 4) (tgt := 15) h eM_write_4 (by decide) (fun h => ?_) (fun h => ?_)
  · refine v_aload_n X (pc := 7) 0 rfl eM_write_7 rfl ?_
    refine v_ldc X (pc := 8) qw_717 eM_write_8 ?_
    obtain ⟨r2, m2, hc2, h⟩ := bd_some h
    refine v_callV X (pc := 10) [_] [] ok_V_M_57 (cM_finds  hc2) rfl (Nat.le_of_ble_eq_true rfl) ⟨Nat.le_of_ble_eq_true rfl, Nat.le_of_ble_eq_true rfl⟩ ⟨Nat.zero_le _, Nat.zero_le _⟩ (by decide) (by decide) rfl rfl eM_write_10 ?_
    refine v_i2l X (pc := 13) eM_write_13 ?_
    exact v_lret X (pc := 14) h hr eM_write_14
  · refine v_aload_n X (pc := 15) 0 rfl eM_write_15 rfl ?_
    refine v_get X (pc := 16) 12 (a := aR 17 0) (by decide) (by decide) rfl rfl rfl in_Model (by decide) qw_660 rfl eM_write_16 ?_
    refine v_iload_n X (pc := 19) 1 rfl eM_write_19 rfl ?_
    refine v_iald X (pc := 20) h (by decide) (by decide) rfl eM_write_20 (fun h => ?_)
    refine v_if_ne X (pc := 21) (tgt := 32) h eM_write_21 (by decide) (fun h => ?_) (fun h => ?_)
    · refine v_aload_n X (pc := 24) 0 rfl eM_write_24 rfl ?_
      refine v_ldc X (pc := 25) qw_991 eM_write_25 ?_
      obtain ⟨r3, m3, hc3, h⟩ := bd_some h
      refine v_callV X (pc := 27) [_] [] ok_V_M_57 (cM_finds  hc3) rfl (Nat.le_of_ble_eq_true rfl) ⟨Nat.le_of_ble_eq_true rfl, Nat.le_of_ble_eq_true rfl⟩ ⟨Nat.zero_le _, Nat.zero_le _⟩ (by decide) (by decide) rfl rfl eM_write_27 ?_
      refine v_i2l X (pc := 30) eM_write_30 ?_
      exact v_lret X (pc := 31) h hr eM_write_31
    · refine v_iload_n X (pc := 32) 2 rfl eM_write_32 rfl ?_
      refine v_iconst X (pc := 33) (v := (0 : Int32)) eM_write_33 (by decide) ?_
      refine v_aload_n X (pc := 34) 0 rfl eM_write_34 rfl ?_
      refine v_get X (pc := 35) 13 (a := aR 18 0) (by decide) (by decide) rfl rfl rfl in_Model (by decide) qw_661 rfl eM_write_35 ?_
      refine v_iload_n X (pc := 38) 1 rfl eM_write_38 rfl ?_
      refine v_iald X (pc := 39) h (by decide) (by decide) rfl eM_write_39 (fun h => ?_)
      refine v_iconst X (pc := 40) (v := (1 : Int32)) eM_write_40 (by decide) ?_
      refine v_isub X (pc := 41) eM_write_41 ?_
      obtain ⟨r4, m4, hc4, h⟩ := bd_some h
      refine v_callS X (pc := 42) [_, _, _] [] ok_S_M_42 (cM_in  hc4) rfl (Nat.le_of_ble_eq_true rfl) ⟨Nat.le_of_ble_eq_true rfl, Nat.le_of_ble_eq_true rfl⟩ ⟨Nat.zero_le _, Nat.zero_le _⟩ eM_write_42 ?_
      refine v_if_ne X (pc := 45) (tgt := 56) h eM_write_45 (by decide) (fun h => ?_) (fun h => ?_)
      · refine v_aload_n X (pc := 48) 0 rfl eM_write_48 rfl ?_
        refine v_ldc X (pc := 49) qw_717 eM_write_49 ?_
        obtain ⟨r5, m5, hc5, h⟩ := bd_some h
        refine v_callV X (pc := 51) [_] [] ok_V_M_57 (cM_finds  hc5) rfl (Nat.le_of_ble_eq_true rfl) ⟨Nat.le_of_ble_eq_true rfl, Nat.le_of_ble_eq_true rfl⟩ ⟨Nat.zero_le _, Nat.zero_le _⟩ (by decide) (by decide) rfl rfl eM_write_51 ?_
        refine v_i2l X (pc := 54) eM_write_54 ?_
        exact v_lret X (pc := 55) h hr eM_write_55
      · refine v_aload_n X (pc := 56) 0 rfl eM_write_56 rfl ?_
        refine v_get X (pc := 57) 14 (a := aR 19 0) (by decide) (by decide) rfl rfl rfl in_Model (by decide) qw_662 rfl eM_write_57 ?_
        refine v_bipush X (pc := 60) (v := (40 : Int32)) eM_write_60 (by decide) ?_
        refine v_iload_n X (pc := 62) 1 rfl eM_write_62 rfl ?_
        refine v_imul X (pc := 63) eM_write_63 ?_
        refine v_iload_n X (pc := 64) 2 rfl eM_write_64 rfl ?_
        refine v_iadd X (pc := 65) eM_write_65 ?_
        refine v_lald X (pc := 66) h (by decide) (by decide) rfl eM_write_66 (fun h => ?_)
        refine v_lstore X (pc := 67) (lv' := [(5, _), (0, _), (1, _), (2, _), (3, _)]) eM_write_67 (Nat.le_of_ble_eq_true rfl) rfl ?_
        refine v_aload_n X (pc := 69) 1 rfl eM_write_69 rfl ?_
        refine v_get X (pc := 70) 14 (a := aR 19 0) (by decide) (by decide) rfl rfl rfl in_Model (by decide) qw_662 rfl eM_write_70 ?_
        refine v_bipush X (pc := 73) (v := (40 : Int32)) eM_write_73 (by decide) ?_
        refine v_iload_n X (pc := 75) 2 rfl eM_write_75 rfl ?_
        refine v_imul X (pc := 76) eM_write_76 ?_
        refine v_iload_n X (pc := 77) 3 rfl eM_write_77 rfl ?_
        refine v_iadd X (pc := 78) eM_write_78 ?_
        refine v_aload_n X (pc := 79) 1 rfl eM_write_79 rfl ?_
        refine v_get X (pc := 80) 12 (a := aR 17 0) (by decide) (by decide) rfl rfl rfl in_Model (by decide) qw_660 rfl eM_write_80 ?_
        refine v_iload_n X (pc := 83) 2 rfl eM_write_83 rfl ?_
        refine v_iald X (pc := 84) h (by decide) (by decide) rfl eM_write_84 (fun h => ?_)
        refine v_lload_n X (pc := 85) 4 rfl eM_write_85 rfl ?_
        obtain ⟨r6, m6, hc6, h⟩ := bd_some h
        refine v_callS X (pc := 86) [_, _] [_, _] ok_S_M_240 (cM_narrow  hc6) rfl (Nat.le_of_ble_eq_true rfl) ⟨Nat.le_of_ble_eq_true rfl, Nat.le_of_ble_eq_true rfl⟩ ⟨Nat.zero_le _, Nat.zero_le _⟩ eM_write_86 ?_
        refine v_last X (pc := 89) h (by decide) (by decide) (fun _ => rfl) eM_write_89 (fun h => ?_)
        refine v_lload X (pc := 90) 0 rfl eM_write_90 ?_
        exact v_lret X (pc := 92) h hr eM_write_92
set_option maxHeartbeats 4000000 in
set_option maxRecDepth 100000 in
theorem cM_isPart {f : Nat} {a1 : Int32} {a2 : Int32} {a3 : Int32} {mem : Mem} {o : Int32} {mem' : Mem}  (h : dM_isPart f a1 a2 a3 mem = some (o, mem')) : RT yM_isPart prog_6_method_70_code 4 (Option.some Jvm.ClassFile.FieldType.boolean) (rmM 0 0) [aR 12 0, aI a1, aI a2, aI a3] mem (some (aI o)) mem' := by
  refine RT.of (by decide +kernel) (Nat.le_of_ble_eq_true rfl) (fun p l e s m args below meth c k X hr => ?_)
  replace X : CX p s m args meth c k prog_6_method_70_code 4 "WallShiftsModel" := X
  unfold dM_isPart at h
  refine v_sub (lv' := [(0, _), (1, _), (2, _), (3, _)]) [0, 1, 2, 3] rfl ?_
  refine v_iload_n X (pc := 0) 2 rfl eM_isPart_0 rfl ?_
  refine v_if_lt X (pc := 1) (tgt := 34) h eM_isPart_1 (by decide) (fun h => ?_) (fun h => ?_)
  · refine v_iconst X (pc := 34) (v := (0 : Int32)) eM_isPart_34 (by decide) ?_
    exact v_zret X (pc := 35) h hr rfl eM_isPart_35
  · refine v_iload_n X (pc := 4) 3 rfl eM_isPart_4 rfl ?_
    refine v_if_lt X (pc := 5) (tgt := 34) h eM_isPart_5 (by decide) (fun h => ?_) (fun h => ?_)
    · refine v_iconst X (pc := 34) (v := (0 : Int32)) eM_isPart_34 (by decide) ?_
      exact v_zret X (pc := 35) h hr rfl eM_isPart_35
    · refine v_iload_n X (pc := 8) 3 rfl eM_isPart_8 rfl ?_
      refine v_aload_n X (pc := 9) 0 rfl eM_isPart_9 rfl ?_
      refine v_get X (pc := 10) 13 (a := aR 18 0) (by decide) (by decide) rfl rfl rfl in_Model (by decide) qw_661 rfl eM_isPart_10 ?_
      refine v_iload_n X (pc := 13) 1 rfl eM_isPart_13 rfl ?_
      refine v_iald X (pc := 14) h (by decide) (by decide) rfl eM_isPart_14 (fun h => ?_)
      refine v_icmp_gt X (pc := 15) (tgt := 34) h eM_isPart_15 (by decide) (fun h => ?_) (fun h => ?_)
      · refine v_iconst X (pc := 34) (v := (0 : Int32)) eM_isPart_34 (by decide) ?_
        exact v_zret X (pc := 35) h hr rfl eM_isPart_35
      · refine v_iload_n X (pc := 18) 2 rfl eM_isPart_18 rfl ?_
        refine v_aload_n X (pc := 19) 0 rfl eM_isPart_19 rfl ?_
        refine v_get X (pc := 20) 13 (a := aR 18 0) (by decide) (by decide) rfl rfl rfl in_Model (by decide) qw_661 rfl eM_isPart_20 ?_
        refine v_iload_n X (pc := 23) 1 rfl eM_isPart_23 rfl ?_
        refine v_iald X (pc := 24) h (by decide) (by decide) rfl eM_isPart_24 (fun h => ?_)
        refine v_iload_n X (pc := 25) 3 rfl eM_isPart_25 rfl ?_
        refine v_isub X (pc := 26) eM_isPart_26 ?_
        refine v_icmp_gt X (pc := 27) (tgt := 34) h eM_isPart_27 (by decide) (fun h => ?_) (fun h => ?_)
        · refine v_iconst X (pc := 34) (v := (0 : Int32)) eM_isPart_34 (by decide) ?_
          exact v_zret X (pc := 35) h hr rfl eM_isPart_35
        · refine v_iconst X (pc := 30) (v := (1 : Int32)) eM_isPart_30 (by decide) ?_
          refine v_goto X (pc := 31) (tgt := 35) eM_isPart_31 (by decide) ?_
          exact v_zret X (pc := 35) h hr rfl eM_isPart_35
set_option maxHeartbeats 4000000 in
set_option maxRecDepth 100000 in
theorem cM_copy_138 {p : Program} {l : Launch} {e : Env} {s : State} {m : MethodId} {args : Array Value} {below : List Frame} {meth : Method} {c : Code} {k : KK} {f : Nat} {o : Int32} {mem' : Mem} (X : CX p s m args meth c k prog_6_method_71_code 7 "WallShiftsModel") (hr : meth.sig.returnType = (Option.some Jvm.ClassFile.FieldType.int)) : ∀ (n : Nat) (x3 : Int32) (x4 : Int32) (x5 : Int32) (x6 : Int32) (mem : Mem), dM_copy_138 f n x3 x4 x5 x6 mem = some (o, mem') → V p l e (rmM 2 42) s m args below meth c 0 0 (MQ below (RQc k (some (aI o)) mem') args s 0 0 (kA k)) k 7 mem 138 [(0, aR 12 0), (3, aI x3), (4, aI x4), (5, aI x5), (6, aI x6)] [] := by
  intro n
  induction n with
  | zero =>
    intro x3 x4 x5 x6 mem  h
    exact nomatch (show (none : Option (Int32 × Mem)) = some _ from h)
  | succ n ih =>
    intro x3 x4 x5 x6 mem  h
    rw [dM_copy_138] at h
    refine v_iload X (pc := 138) 4 rfl eM_copy_138 ?_
    refine v_iload X (pc := 140) 3 rfl eM_copy_140 ?_
    refine v_icmp_ge X (pc := 142) (tgt := 173) h eM_copy_142 (by decide) (fun h => ?_) (fun h => ?_)
    · refine v_aload_n X (pc := 145) 0 rfl eM_copy_145 rfl ?_
      refine v_get X (pc := 146) 14 (a := aR 19 0) (by decide) (by decide) rfl rfl rfl in_Model (by decide) qw_662 rfl eM_copy_146 ?_
      refine v_bipush X (pc := 149) (v := (40 : Int32)) eM_copy_149 (by decide) ?_
      refine v_iload_n X (pc := 151) 1 rfl eM_copy_151 rfl ?_
      refine v_imul X (pc := 152) eM_copy_152 ?_
      refine v_iload X (pc := 153) 2 rfl eM_copy_153 ?_
      refine v_iadd X (pc := 155) eM_copy_155 ?_
      refine v_iload X (pc := 156) 4 rfl eM_copy_156 ?_
      refine v_iadd X (pc := 158) eM_copy_158 ?_
      refine v_aload_n X (pc := 159) 0 rfl eM_copy_159 rfl ?_
      refine v_get X (pc := 160) 15 (a := aR 20 0) (by decide) (by decide) rfl rfl rfl in_Model (by decide) qw_663 rfl eM_copy_160 ?_
      refine v_iload X (pc := 163) 4 rfl eM_copy_163 ?_
      refine v_lald X (pc := 165) h (by decide) (by decide) rfl eM_copy_165 (fun h => ?_)
      refine v_last X (pc := 166) h (by decide) (by decide) (fun _ => rfl) eM_copy_166 (fun h => ?_)
      refine v_iinc X (pc := 167) (v := (x6 + (1 : Int32))) (lv' := [(6, _), (0, _), (3, _), (4, _), (5, _)]) 4 rfl (by rfl) eM_copy_167 (Nat.le_of_ble_eq_true rfl) rfl ?_
      refine v_goto X (pc := 170) (tgt := 138) eM_copy_170 (by decide) ?_
      exact v_sub [1, 2, 3, 4, 0] rfl (ih _ _ _ _ _  h)
    · refine v_iload X (pc := 173) 3 rfl eM_copy_173 ?_
      exact v_iret X (pc := 175) h hr eM_copy_175
set_option maxHeartbeats 4000000 in
set_option maxRecDepth 100000 in
theorem cM_copy_101 {p : Program} {l : Launch} {e : Env} {s : State} {m : MethodId} {args : Array Value} {below : List Frame} {meth : Method} {c : Code} {k : KK} {f : Nat} {o : Int32} {mem' : Mem} (X : CX p s m args meth c k prog_6_method_71_code 7 "WallShiftsModel") (hr : meth.sig.returnType = (Option.some Jvm.ClassFile.FieldType.int)) : ∀ (n : Nat) (x1 : Int32) (x2 : Int32) (x3 : Int32) (x4 : Int32) (x5 : Int32) (x6 : Int32) (mem : Mem), dM_copy_101 f n x1 x2 x3 x4 x5 x6 mem = some (o, mem') → V p l e (rmM 2 42) s m args below meth c 0 0 (MQ below (RQc k (some (aI o)) mem') args s 0 0 (kA k)) k 7 mem 101 [(0, aR 12 0), (1, aI x1), (2, aI x2), (3, aI x3), (4, aI x4), (5, aI x5), (6, aI x6)] [] := by
  intro n
  induction n with
  | zero =>
    intro x1 x2 x3 x4 x5 x6 mem  h
    exact nomatch (show (none : Option (Int32 × Mem)) = some _ from h)
  | succ n ih =>
    intro x1 x2 x3 x4 x5 x6 mem  h
    rw [dM_copy_101] at h
    refine v_iload X (pc := 101) 6 rfl eM_copy_101 ?_
    refine v_iload X (pc := 103) 5 rfl eM_copy_103 ?_
    refine v_icmp_ge X (pc := 105) (tgt := 135) h eM_copy_105 (by decide) (fun h => ?_) (fun h => ?_)
    · refine v_aload_n X (pc := 108) 0 rfl eM_copy_108 rfl ?_
      refine v_get X (pc := 109) 15 (a := aR 20 0) (by decide) (by decide) rfl rfl rfl in_Model (by decide) qw_663 rfl eM_copy_109 ?_
      refine v_iload X (pc := 112) 6 rfl eM_copy_112 ?_
      refine v_aload_n X (pc := 114) 0 rfl eM_copy_114 rfl ?_
      refine v_get X (pc := 115) 14 (a := aR 19 0) (by decide) (by decide) rfl rfl rfl in_Model (by decide) qw_662 rfl eM_copy_115 ?_
      refine v_bipush X (pc := 118) (v := (40 : Int32)) eM_copy_118 (by decide) ?_
      refine v_iload_n X (pc := 120) 1 rfl eM_copy_120 rfl ?_
      refine v_imul X (pc := 121) eM_copy_121 ?_
      refine v_iload_n X (pc := 122) 2 rfl eM_copy_122 rfl ?_
      refine v_iadd X (pc := 123) eM_copy_123 ?_
      refine v_iload X (pc := 124) 6 rfl eM_copy_124 ?_
      refine v_iadd X (pc := 126) eM_copy_126 ?_
      refine v_lald X (pc := 127) h (by decide) (by decide) rfl eM_copy_127 (fun h => ?_)
      refine v_last X (pc := 128) h (by decide) (by decide) (fun _ => rfl) eM_copy_128 (fun h => ?_)
      refine v_iinc X (pc := 129) (v := (x6 + (1 : Int32))) (lv' := [(6, _), (0, _), (1, _), (2, _), (3, _), (4, _), (5, _)]) 6 rfl (by rfl) eM_copy_129 (Nat.le_of_ble_eq_true rfl) rfl ?_
      refine v_goto X (pc := 132) (tgt := 101) eM_copy_132 (by decide) ?_
      exact v_sub [1, 2, 3, 4, 5, 6, 0] rfl (ih _ _ _ _ _ _ _  h)
    · refine v_iconst X (pc := 135) (v := (0 : Int32)) eM_copy_135 (by decide) ?_
      refine v_istore X (pc := 136) (lv' := [(6, _), (0, _), (1, _), (2, _), (3, _), (4, _), (5, _)]) eM_copy_136 (Nat.le_of_ble_eq_true rfl) rfl ?_
      exact v_sub [1, 4, 5, 6, 0] rfl (cM_copy_138 X hr _ _ _ _ _ _  h)
set_option maxHeartbeats 4000000 in
set_option maxRecDepth 100000 in
theorem cM_copy {f : Nat} {a1 : Int32} {a2 : Int32} {a3 : Int32} {a4 : Int32} {a5 : Int32} {mem : Mem} {o : Int32} {mem' : Mem}  (h : dM_copy f a1 a2 a3 a4 a5 mem = some (o, mem')) : RT yM_copy prog_6_method_71_code 7 (Option.some Jvm.ClassFile.FieldType.int) (rmM 2 42) [aR 12 0, aI a1, aI a2, aI a3, aI a4, aI a5] mem (some (aI o)) mem' := by
  refine RT.of (by decide +kernel) (Nat.le_of_ble_eq_true rfl) (fun p l e s m args below meth c k X hr => ?_)
  replace X : CX p s m args meth c k prog_6_method_71_code 7 "WallShiftsModel" := X
  unfold dM_copy at h
  refine v_sub (lv' := [(0, _), (1, _), (2, _), (3, _), (4, _), (5, _)]) [0, 1, 2, 3, 4, 5] rfl ?_
  refine v_iload_n X (pc := 0) 1 rfl eM_copy_0 rfl ?_
  obtain ⟨r1, m1, hc1, h⟩ := bd_some h
  refine v_callS X (pc := 1) [_] [] ok_S_M_235 (cM_isSheet  hc1) rfl (Nat.le_of_ble_eq_true rfl) ⟨Nat.le_of_ble_eq_true rfl, Nat.le_of_ble_eq_true rfl⟩ ⟨Nat.zero_le _, Nat.zero_le _⟩ eM_copy_1 ?_
  refine v_if_eq X (pc := 4) (tgt := 14) h eM_copy_4 (by decide) (fun h => ?_) (fun h => ?_)
  · refine v_aload_n X (pc := 14) 0 rfl eM_copy_14 rfl ?_
    refine v_ldc X (pc := 15) qw_717 eM_copy_15 ?_
    obtain ⟨r2, m2, hc2, h⟩ := bd_some h
    refine v_callV X (pc := 17) [_] [] ok_V_M_57 (cM_finds  hc2) rfl (Nat.le_of_ble_eq_true rfl) ⟨Nat.le_of_ble_eq_true rfl, Nat.le_of_ble_eq_true rfl⟩ ⟨Nat.zero_le _, Nat.zero_le _⟩ (by decide) (by decide) rfl rfl eM_copy_17 ?_
    exact v_iret X (pc := 20) h hr eM_copy_20
  · refine v_iload_n X (pc := 7) 3 rfl eM_copy_7 rfl ?_
    obtain ⟨r3, m3, hc3, h⟩ := bd_some h
    refine v_callS X (pc := 8) [_] [] ok_S_M_235 (cM_isSheet  hc3) rfl (Nat.le_of_ble_eq_true rfl) ⟨Nat.le_of_ble_eq_true rfl, Nat.le_of_ble_eq_true rfl⟩ ⟨Nat.zero_le _, Nat.zero_le _⟩ eM_copy_8 ?_
    refine v_if_ne X (pc := 11) (tgt := 21) h eM_copy_11 (by decide) (fun h => ?_) (fun h => ?_)
    · refine v_aload_n X (pc := 14) 0 rfl eM_copy_14 rfl ?_
      refine v_ldc X (pc := 15) qw_717 eM_copy_15 ?_
      obtain ⟨r4, m4, hc4, h⟩ := bd_some h
      refine v_callV X (pc := 17) [_] [] ok_V_M_57 (cM_finds  hc4) rfl (Nat.le_of_ble_eq_true rfl) ⟨Nat.le_of_ble_eq_true rfl, Nat.le_of_ble_eq_true rfl⟩ ⟨Nat.zero_le _, Nat.zero_le _⟩ (by decide) (by decide) rfl rfl eM_copy_17 ?_
      exact v_iret X (pc := 20) h hr eM_copy_20
    · refine v_aload_n X (pc := 21) 0 rfl eM_copy_21 rfl ?_
      refine v_get X (pc := 22) 12 (a := aR 17 0) (by decide) (by decide) rfl rfl rfl in_Model (by decide) qw_660 rfl eM_copy_22 ?_
      refine v_iload_n X (pc := 25) 1 rfl eM_copy_25 rfl ?_
      refine v_iald X (pc := 26) h (by decide) (by decide) rfl eM_copy_26 (fun h => ?_)
      refine v_if_eq X (pc := 27) (tgt := 39) h eM_copy_27 (by decide) (fun h => ?_) (fun h => ?_)
      · refine v_aload_n X (pc := 39) 0 rfl eM_copy_39 rfl ?_
        refine v_ldc X (pc := 40) qw_991 eM_copy_40 ?_
        obtain ⟨r5, m5, hc5, h⟩ := bd_some h
        refine v_callV X (pc := 42) [_] [] ok_V_M_57 (cM_finds  hc5) rfl (Nat.le_of_ble_eq_true rfl) ⟨Nat.le_of_ble_eq_true rfl, Nat.le_of_ble_eq_true rfl⟩ ⟨Nat.zero_le _, Nat.zero_le _⟩ (by decide) (by decide) rfl rfl eM_copy_42 ?_
        exact v_iret X (pc := 45) h hr eM_copy_45
      · refine v_aload_n X (pc := 30) 0 rfl eM_copy_30 rfl ?_
        refine v_get X (pc := 31) 12 (a := aR 17 0) (by decide) (by decide) rfl rfl rfl in_Model (by decide) qw_660 rfl eM_copy_31 ?_
        refine v_iload_n X (pc := 34) 3 rfl eM_copy_34 rfl ?_
        refine v_iald X (pc := 35) h (by decide) (by decide) rfl eM_copy_35 (fun h => ?_)
        refine v_if_ne X (pc := 36) (tgt := 46) h eM_copy_36 (by decide) (fun h => ?_) (fun h => ?_)
        · refine v_aload_n X (pc := 39) 0 rfl eM_copy_39 rfl ?_
          refine v_ldc X (pc := 40) qw_991 eM_copy_40 ?_
          obtain ⟨r6, m6, hc6, h⟩ := bd_some h
          refine v_callV X (pc := 42) [_] [] ok_V_M_57 (cM_finds  hc6) rfl (Nat.le_of_ble_eq_true rfl) ⟨Nat.le_of_ble_eq_true rfl, Nat.le_of_ble_eq_true rfl⟩ ⟨Nat.zero_le _, Nat.zero_le _⟩ (by decide) (by decide) rfl rfl eM_copy_42 ?_
          exact v_iret X (pc := 45) h hr eM_copy_45
        · refine v_aload_n X (pc := 46) 0 rfl eM_copy_46 rfl ?_
          refine v_get X (pc := 47) 12 (a := aR 17 0) (by decide) (by decide) rfl rfl rfl in_Model (by decide) qw_660 rfl eM_copy_47 ?_
          refine v_iload_n X (pc := 50) 1 rfl eM_copy_50 rfl ?_
          refine v_iald X (pc := 51) h (by decide) (by decide) rfl eM_copy_51 (fun h => ?_)
          refine v_aload_n X (pc := 52) 0 rfl eM_copy_52 rfl ?_
          refine v_get X (pc := 53) 12 (a := aR 17 0) (by decide) (by decide) rfl rfl rfl in_Model (by decide) qw_660 rfl eM_copy_53 ?_
          refine v_iload_n X (pc := 56) 3 rfl eM_copy_56 rfl ?_
          refine v_iald X (pc := 57) h (by decide) (by decide) rfl eM_copy_57 (fun h => ?_)
          refine v_icmp_eq X (pc := 58) (tgt := 68) h eM_copy_58 (by decide) (fun h => ?_) (fun h => ?_)
          · refine v_aload_n X (pc := 68) 0 rfl eM_copy_68 rfl ?_
            refine v_iload_n X (pc := 69) 1 rfl eM_copy_69 rfl ?_
            refine v_iload_n X (pc := 70) 2 rfl eM_copy_70 rfl ?_
            refine v_iload X (pc := 71) 5 rfl eM_copy_71 ?_
            obtain ⟨r7, m7, hc7, h⟩ := bd_some h
            refine v_callV X (pc := 73) [_, _, _] [] ok_V_M_244 (cM_isPart  hc7) rfl (Nat.le_of_ble_eq_true rfl) ⟨Nat.le_of_ble_eq_true rfl, Nat.le_of_ble_eq_true rfl⟩ ⟨Nat.zero_le _, Nat.zero_le _⟩ (by decide) (by decide) rfl rfl eM_copy_73 ?_
            refine v_if_eq X (pc := 76) (tgt := 91) h eM_copy_76 (by decide) (fun h => ?_) (fun h => ?_)
            · refine v_aload_n X (pc := 91) 0 rfl eM_copy_91 rfl ?_
              refine v_ldc X (pc := 92) qw_717 eM_copy_92 ?_
              obtain ⟨r8, m8, hc8, h⟩ := bd_some h
              refine v_callV X (pc := 94) [_] [] ok_V_M_57 (cM_finds  hc8) rfl (Nat.le_of_ble_eq_true rfl) ⟨Nat.le_of_ble_eq_true rfl, Nat.le_of_ble_eq_true rfl⟩ ⟨Nat.zero_le _, Nat.zero_le _⟩ (by decide) (by decide) rfl rfl eM_copy_94 ?_
              exact v_iret X (pc := 97) h hr eM_copy_97
            · refine v_aload_n X (pc := 79) 0 rfl eM_copy_79 rfl ?_
              refine v_iload_n X (pc := 80) 3 rfl eM_copy_80 rfl ?_
              refine v_iload X (pc := 81) 4 rfl eM_copy_81 ?_
              refine v_iload X (pc := 83) 5 rfl eM_copy_83 ?_
              obtain ⟨r9, m9, hc9, h⟩ := bd_some h
              refine v_callV X (pc := 85) [_, _, _] [] ok_V_M_244 (cM_isPart  hc9) rfl (Nat.le_of_ble_eq_true rfl) ⟨Nat.le_of_ble_eq_true rfl, Nat.le_of_ble_eq_true rfl⟩ ⟨Nat.zero_le _, Nat.zero_le _⟩ (by decide) (by decide) rfl rfl eM_copy_85 ?_
              refine v_if_ne X (pc := 88) (tgt := 98) h eM_copy_88 (by decide) (fun h => ?_) (fun h => ?_)
              · refine v_aload_n X (pc := 91) 0 rfl eM_copy_91 rfl ?_
                refine v_ldc X (pc := 92) qw_717 eM_copy_92 ?_
                obtain ⟨r10, m10, hc10, h⟩ := bd_some h
                refine v_callV X (pc := 94) [_] [] ok_V_M_57 (cM_finds  hc10) rfl (Nat.le_of_ble_eq_true rfl) ⟨Nat.le_of_ble_eq_true rfl, Nat.le_of_ble_eq_true rfl⟩ ⟨Nat.zero_le _, Nat.zero_le _⟩ (by decide) (by decide) rfl rfl eM_copy_94 ?_
                exact v_iret X (pc := 97) h hr eM_copy_97
              · refine v_iconst X (pc := 98) (v := (0 : Int32)) eM_copy_98 (by decide) ?_
                refine v_istore X (pc := 99) (lv' := [(6, _), (0, _), (1, _), (2, _), (3, _), (4, _), (5, _)]) eM_copy_99 (Nat.le_of_ble_eq_true rfl) rfl ?_
                exact v_sub [1, 2, 3, 4, 5, 6, 0] rfl (cM_copy_101 X hr _ _ _ _ _ _ _ _  h)
          · refine v_aload_n X (pc := 61) 0 rfl eM_copy_61 rfl ?_
            refine v_ldc X (pc := 62) qw_778 eM_copy_62 ?_
            obtain ⟨r11, m11, hc11, h⟩ := bd_some h
            refine v_callV X (pc := 64) [_] [] ok_V_M_57 (cM_finds  hc11) rfl (Nat.le_of_ble_eq_true rfl) ⟨Nat.le_of_ble_eq_true rfl, Nat.le_of_ble_eq_true rfl⟩ ⟨Nat.zero_le _, Nat.zero_le _⟩ (by decide) (by decide) rfl rfl eM_copy_64 ?_
            exact v_iret X (pc := 67) h hr eM_copy_67
set_option maxHeartbeats 4000000 in
set_option maxRecDepth 100000 in
theorem cM_badSheet {f : Nat} {a1 : Int32} {mem : Mem} {o : Int32} {mem' : Mem}  (h : dM_badSheet f a1 mem = some (o, mem')) : RT yM_badSheet prog_6_method_72_code 2 (Option.some Jvm.ClassFile.FieldType.int) (rmM 2 42) [aR 12 0, aI a1] mem (some (aI o)) mem' := by
  refine RT.of (by decide +kernel) (Nat.le_of_ble_eq_true rfl) (fun p l e s m args below meth c k X hr => ?_)
  replace X : CX p s m args meth c k prog_6_method_72_code 2 "WallShiftsModel" := X
  unfold dM_badSheet at h
  refine v_sub (lv' := [(0, _), (1, _)]) [0, 1] rfl ?_
  refine v_iload_n X (pc := 0) 1 rfl eM_badSheet_0 rfl ?_
  obtain ⟨r1, m1, hc1, h⟩ := bd_some h
  refine v_callS X (pc := 1) [_] [] ok_S_M_235 (cM_isSheet  hc1) rfl (Nat.le_of_ble_eq_true rfl) ⟨Nat.le_of_ble_eq_true rfl, Nat.le_of_ble_eq_true rfl⟩ ⟨Nat.zero_le _, Nat.zero_le _⟩ eM_badSheet_1 ?_
  refine v_if_ne X (pc := 4) (tgt := 12) h eM_badSheet_4 (by decide) (fun h => ?_) (fun h => ?_)
  · refine v_ldc X (pc := 7) qw_717 eM_badSheet_7 ?_
    refine v_goto X (pc := 9) (tgt := 27) eM_badSheet_9 (by decide) ?_
    exact v_iret X (pc := 27) h hr eM_badSheet_27
  · refine v_aload_n X (pc := 12) 0 rfl eM_badSheet_12 rfl ?_
    refine v_get X (pc := 13) 12 (a := aR 17 0) (by decide) (by decide) rfl rfl rfl in_Model (by decide) qw_660 rfl eM_badSheet_13 ?_
    refine v_iload_n X (pc := 16) 1 rfl eM_badSheet_16 rfl ?_
    refine v_iald X (pc := 17) h (by decide) (by decide) rfl eM_badSheet_17 (fun h => ?_)
    refine v_if_ne X (pc := 18) (tgt := 26) h eM_badSheet_18 (by decide) (fun h => ?_) (fun h => ?_)
    · refine v_ldc X (pc := 21) qw_991 eM_badSheet_21 ?_
      refine v_goto X (pc := 23) (tgt := 27) eM_badSheet_23 (by decide) ?_
      exact v_iret X (pc := 27) h hr eM_badSheet_27
    · refine v_iconst X (pc := 26) (v := (0 : Int32)) eM_badSheet_26 (by decide) ?_
      exact v_iret X (pc := 27) h hr eM_badSheet_27
set_option maxHeartbeats 4000000 in
set_option maxRecDepth 100000 in
theorem cM_lays_21 {p : Program} {l : Launch} {e : Env} {s : State} {m : MethodId} {args : Array Value} {below : List Frame} {meth : Method} {c : Code} {k : KK} {f : Nat} {o : Int32} {mem' : Mem} (X : CX p s m args meth c k prog_6_method_73_code 7 "WallShiftsModel") (hr : meth.sig.returnType = (Option.some Jvm.ClassFile.FieldType.int)) : ∀ (n : Nat) (x1 : Int32) (x3 : Int32) (x4 : Int32) (mem : Mem), dM_lays_21 f n x1 x3 x4 mem = some (o, mem') → V p l e (rmM 3 63) s m args below meth c 0 0 (MQ below (RQc k (some (aI o)) mem') args s 0 0 (kA k)) k 7 mem 21 [(0, aR 12 0), (1, aI x1), (3, aI x3), (4, aI x4)] [] := by
  intro n
  induction n with
  | zero =>
    intro x1 x3 x4 mem  h
    exact nomatch (show (none : Option (Int32 × Mem)) = some _ from h)
  | succ n ih =>
    intro x1 x3 x4 mem  h
    rw [dM_lays_21] at h
    refine v_iload X (pc := 21) 3 rfl eM_lays_21 ?_
    refine v_aload_n X (pc := 23) 0 rfl eM_lays_23 rfl ?_
    refine v_get X (pc := 24) 13 (a := aR 18 0) (by decide) (by decide) rfl rfl rfl in_Model (by decide) qw_661 rfl eM_lays_24 ?_
    refine v_iload_n X (pc := 27) 1 rfl eM_lays_27 rfl ?_
    refine v_iald X (pc := 28) h (by decide) (by decide) rfl eM_lays_28 (fun h => ?_)
    refine v_icmp_ge X (pc := 29) (tgt := 92) h eM_lays_29 (by decide) (fun h => ?_) (fun h => ?_)
    · refine v_iload X (pc := 32) 3 rfl eM_lays_32 ?_
      refine v_aload_n X (pc := 34) 0 rfl eM_lays_34 rfl ?_
      refine v_get X (pc := 35) 0 (a := aR 13 0) (by decide) (by decide) rfl rfl rfl in_Model (by decide) qw_648 rfl eM_lays_35 ?_
      refine v_iconst X (pc := 38) (v := (5 : Int32)) eM_lays_38 (by decide) ?_
      refine v_ialdK X (pc := 39) (n := 66) 5 (by decide) (by decide) (by decide) (by decide) rfl eM_lays_39 ?_
      refine v_icmp_ge X (pc := 40) (tgt := 92) h eM_lays_40 (by decide) (fun h => ?_) (fun h => ?_)
      · refine v_aload_n X (pc := 43) 0 rfl eM_lays_43 rfl ?_
        refine v_get X (pc := 44) 14 (a := aR 19 0) (by decide) (by decide) rfl rfl rfl in_Model (by decide) qw_662 rfl eM_lays_44 ?_
        refine v_bipush X (pc := 47) (v := (40 : Int32)) eM_lays_47 (by decide) ?_
        refine v_iload_n X (pc := 49) 1 rfl eM_lays_49 rfl ?_
        refine v_imul X (pc := 50) eM_lays_50 ?_
        refine v_iload X (pc := 51) 3 rfl eM_lays_51 ?_
        refine v_iadd X (pc := 53) eM_lays_53 ?_
        refine v_lald X (pc := 54) h (by decide) (by decide) rfl eM_lays_54 (fun h => ?_)
        refine v_lstore X (pc := 55) (lv' := [(5, _), (0, _), (1, _), (3, _), (4, _)]) eM_lays_55 (Nat.le_of_ble_eq_true rfl) rfl ?_
        refine v_lload X (pc := 57) 0 rfl eM_lays_57 ?_
        refine v_lconst X (pc := 59) (v := (0 : Int64)) eM_lays_59 (by decide) ?_
        refine v_lcmp X (pc := 60) eM_lays_60 ?_
        refine v_if_lt X (pc := 61) (tgt := 86) h eM_lays_61 (by decide) (fun h => ?_) (fun h => ?_)
        · refine v_iinc X (pc := 86) (v := (x4 + (1 : Int32))) (lv' := [(4, _), (5, _), (0, _), (1, _), (3, _)]) 4 rfl (by rfl) eM_lays_86 (Nat.le_of_ble_eq_true rfl) rfl ?_
          refine v_goto X (pc := 89) (tgt := 21) eM_lays_89 (by decide) ?_
          exact v_sub [2, 3, 4, 0] rfl (ih _ _ _ _  h)
        · refine v_lload X (pc := 64) 0 rfl eM_lays_64 ?_
          refine v_ldc2 X (pc := 66) qw_1011 eM_lays_66 ?_
          refine v_lcmp X (pc := 69) eM_lays_69 ?_
          refine v_if_gt X (pc := 70) (tgt := 86) h eM_lays_70 (by decide) (fun h => ?_) (fun h => ?_)
          · refine v_iinc X (pc := 86) (v := (x4 + (1 : Int32))) (lv' := [(4, _), (5, _), (0, _), (1, _), (3, _)]) 4 rfl (by rfl) eM_lays_86 (Nat.le_of_ble_eq_true rfl) rfl ?_
            refine v_goto X (pc := 89) (tgt := 21) eM_lays_89 (by decide) ?_
            exact v_sub [2, 3, 4, 0] rfl (ih _ _ _ _  h)
          · refine v_aload_n X (pc := 73) 1 rfl eM_lays_73 rfl ?_
            refine v_iload X (pc := 74) 4 rfl eM_lays_74 ?_
            refine v_iconst X (pc := 76) (v := (4 : Int32)) eM_lays_76 (by decide) ?_
            refine v_lload X (pc := 77) 0 rfl eM_lays_77 ?_
            refine v_l2i X (pc := 79) eM_lays_79 ?_
            obtain ⟨r1, m1, hc1, h⟩ := bd_some h
            refine v_callV X (pc := 80) [_, _, _] [] ok_V_M_61 (cM_puts  hc1) rfl (Nat.le_of_ble_eq_true rfl) ⟨Nat.le_of_ble_eq_true rfl, Nat.le_of_ble_eq_true rfl⟩ ⟨Nat.zero_le _, Nat.zero_le _⟩ (by decide) (by decide) rfl rfl eM_lays_80 ?_
            refine v_iinc X (pc := 83) (v := (x3 + (1 : Int32))) (lv' := [(3, _), (5, _), (0, _), (1, _), (4, _)]) 3 rfl (by rfl) eM_lays_83 (Nat.le_of_ble_eq_true rfl) rfl ?_
            refine v_iinc X (pc := 86) (v := (x4 + (1 : Int32))) (lv' := [(4, _), (3, _), (5, _), (0, _), (1, _)]) 4 rfl (by rfl) eM_lays_86 (Nat.le_of_ble_eq_true rfl) rfl ?_
            refine v_goto X (pc := 89) (tgt := 21) eM_lays_89 (by decide) ?_
            exact v_sub [3, 4, 1, 0] rfl (ih _ _ _ _  h)
      · refine v_iload_n X (pc := 92) 2 rfl eM_lays_92 rfl ?_
        exact v_iret X (pc := 93) h hr eM_lays_93
    · refine v_iload_n X (pc := 92) 2 rfl eM_lays_92 rfl ?_
      exact v_iret X (pc := 93) h hr eM_lays_93
set_option maxHeartbeats 4000000 in
set_option maxRecDepth 100000 in
theorem cM_lays {f : Nat} {a1 : Int32} {mem : Mem} {o : Int32} {mem' : Mem}  (h : dM_lays f a1 mem = some (o, mem')) : RT yM_lays prog_6_method_73_code 7 (Option.some Jvm.ClassFile.FieldType.int) (rmM 3 63) [aR 12 0, aI a1] mem (some (aI o)) mem' := by
  refine RT.of (by decide +kernel) (Nat.le_of_ble_eq_true rfl) (fun p l e s m args below meth c k X hr => ?_)
  replace X : CX p s m args meth c k prog_6_method_73_code 7 "WallShiftsModel" := X
  unfold dM_lays at h
  refine v_sub (lv' := [(0, _), (1, _)]) [0, 1] rfl ?_
  refine v_aload_n X (pc := 0) 0 rfl eM_lays_0 rfl ?_
  refine v_iload_n X (pc := 1) 1 rfl eM_lays_1 rfl ?_
  obtain ⟨r1, m1, hc1, h⟩ := bd_some h
  refine v_callV X (pc := 2) [_] [] ok_V_M_247 (cM_badSheet  hc1) rfl (Nat.le_of_ble_eq_true rfl) ⟨Nat.le_of_ble_eq_true rfl, Nat.le_of_ble_eq_true rfl⟩ ⟨Nat.zero_le _, Nat.zero_le _⟩ (by decide) (by decide) rfl rfl eM_lays_2 ?_
  refine v_istore_n X (pc := 5) (lv' := [(2, _), (0, _), (1, _)]) eM_lays_5 rfl (Nat.le_of_ble_eq_true rfl) rfl ?_
  refine v_iload_n X (pc := 6) 0 rfl eM_lays_6 rfl ?_
  refine v_if_eq X (pc := 7) (tgt := 16) h eM_lays_7 (by decide) (fun h => ?_) (fun h => ?_)
  · refine v_iconst X (pc := 16) (v := (0 : Int32)) eM_lays_16 (by decide) ?_
    refine v_istore_n X (pc := 17) (lv' := [(3, _), (2, _), (0, _), (1, _)]) eM_lays_17 rfl (Nat.le_of_ble_eq_true rfl) rfl ?_
    refine v_iconst X (pc := 18) (v := (0 : Int32)) eM_lays_18 (by decide) ?_
    refine v_istore X (pc := 19) (lv' := [(4, _), (3, _), (2, _), (0, _), (1, _)]) eM_lays_19 (Nat.le_of_ble_eq_true rfl) rfl ?_
    exact v_sub [3, 4, 1, 0] rfl (cM_lays_21 X hr _ _ _ _ _  h)
  · refine v_aload_n X (pc := 10) 1 rfl eM_lays_10 rfl ?_
    refine v_iload_n X (pc := 11) 0 rfl eM_lays_11 rfl ?_
    obtain ⟨r2, m2, hc2, h⟩ := bd_some h
    refine v_callV X (pc := 12) [_] [] ok_V_M_57 (cM_finds  hc2) rfl (Nat.le_of_ble_eq_true rfl) ⟨Nat.le_of_ble_eq_true rfl, Nat.le_of_ble_eq_true rfl⟩ ⟨Nat.zero_le _, Nat.zero_le _⟩ (by decide) (by decide) rfl rfl eM_lays_12 ?_
    exact v_iret X (pc := 15) h hr eM_lays_15
set_option maxHeartbeats 4000000 in
set_option maxRecDepth 100000 in
theorem cM_book_34 {p : Program} {l : Launch} {e : Env} {s : State} {m : MethodId} {args : Array Value} {below : List Frame} {meth : Method} {c : Code} {k : KK} {f : Nat} {o : Int32} {mem' : Mem} (X : CX p s m args meth c k prog_6_method_74_code 5 "WallShiftsModel") (hr : meth.sig.returnType = (Option.some Jvm.ClassFile.FieldType.int)) : ∀ (n : Nat) (x1 : Int32) (x2 : Int32) (x4 : Int32) (mem : Mem), dM_book_34 f n x1 x2 x4 mem = some (o, mem') → V p l e (rmM 3 63) s m args below meth c 0 0 (MQ below (RQc k (some (aI o)) mem') args s 0 0 (kA k)) k 5 mem 34 [(0, aR 12 0), (1, aI x1), (2, aI x2), (4, aI x4)] [] := by
  intro n
  induction n with
  | zero =>
    intro x1 x2 x4 mem  h
    exact nomatch (show (none : Option (Int32 × Mem)) = some _ from h)
  | succ n ih =>
    intro x1 x2 x4 mem  h
    rw [dM_book_34] at h
    refine v_iload X (pc := 34) 3 rfl eM_book_34 ?_
    refine v_aload_n X (pc := 36) 0 rfl eM_book_36 rfl ?_
    refine v_get X (pc := 37) 13 (a := aR 18 0) (by decide) (by decide) rfl rfl rfl in_Model (by decide) qw_661 rfl eM_book_37 ?_
    refine v_iload_n X (pc := 40) 1 rfl eM_book_40 rfl ?_
    refine v_iald X (pc := 41) h (by decide) (by decide) rfl eM_book_41 (fun h => ?_)
    refine v_icmp_ge X (pc := 42) (tgt := 85) h eM_book_42 (by decide) (fun h => ?_) (fun h => ?_)
    · refine v_aload_n X (pc := 45) 0 rfl eM_book_45 rfl ?_
      refine v_get X (pc := 46) 14 (a := aR 19 0) (by decide) (by decide) rfl rfl rfl in_Model (by decide) qw_662 rfl eM_book_46 ?_
      refine v_bipush X (pc := 49) (v := (40 : Int32)) eM_book_49 (by decide) ?_
      refine v_iload_n X (pc := 51) 1 rfl eM_book_51 rfl ?_
      refine v_imul X (pc := 52) eM_book_52 ?_
      refine v_iload X (pc := 53) 3 rfl eM_book_53 ?_
      refine v_iadd X (pc := 55) eM_book_55 ?_
      refine v_aload_n X (pc := 56) 0 rfl eM_book_56 rfl ?_
      refine v_iload_n X (pc := 57) 2 rfl eM_book_57 rfl ?_
      refine v_aload_n X (pc := 58) 0 rfl eM_book_58 rfl ?_
      refine v_get X (pc := 59) 0 (a := aR 13 0) (by decide) (by decide) rfl rfl rfl in_Model (by decide) qw_648 rfl eM_book_59 ?_
      refine v_iconst X (pc := 62) (v := (0 : Int32)) eM_book_62 (by decide) ?_
      refine v_ialdK X (pc := 63) (n := 66) 0 (by decide) (by decide) (by decide) (by decide) rfl eM_book_63 ?_
      refine v_iload X (pc := 64) 3 rfl eM_book_64 ?_
      refine v_iadd X (pc := 66) eM_book_66 ?_
      obtain ⟨r1, m1, hc1, h⟩ := bd_some h
      refine v_callV X (pc := 67) [_, _] [_, _] ok_V_M_80 (cM_isOnDuty  hc1) rfl (Nat.le_of_ble_eq_true rfl) ⟨Nat.le_of_ble_eq_true rfl, Nat.le_of_ble_eq_true rfl⟩ ⟨Nat.zero_le _, Nat.zero_le _⟩ (by decide) (by decide) rfl rfl eM_book_67 ?_
      refine v_if_eq X (pc := 70) (tgt := 77) h eM_book_70 (by decide) (fun h => ?_) (fun h => ?_)
      · refine v_lconst X (pc := 77) (v := (0 : Int64)) eM_book_77 (by decide) ?_
        refine v_last X (pc := 78) h (by decide) (by decide) (fun _ => rfl) eM_book_78 (fun h => ?_)
        refine v_iinc X (pc := 79) (v := (x4 + (1 : Int32))) (lv' := [(4, _), (0, _), (1, _), (2, _)]) 3 rfl (by rfl) eM_book_79 (Nat.le_of_ble_eq_true rfl) rfl ?_
        refine v_goto X (pc := 82) (tgt := 34) eM_book_82 (by decide) ?_
        exact v_sub [1, 2, 3, 0] rfl (ih _ _ _ _  h)
      · refine v_lconst X (pc := 73) (v := (1 : Int64)) eM_book_73 (by decide) ?_
        refine v_goto X (pc := 74) (tgt := 78) eM_book_74 (by decide) ?_
        refine v_last X (pc := 78) h (by decide) (by decide) (fun _ => rfl) eM_book_78 (fun h => ?_)
        refine v_iinc X (pc := 79) (v := (x4 + (1 : Int32))) (lv' := [(4, _), (0, _), (1, _), (2, _)]) 3 rfl (by rfl) eM_book_79 (Nat.le_of_ble_eq_true rfl) rfl ?_
        refine v_goto X (pc := 82) (tgt := 34) eM_book_82 (by decide) ?_
        exact v_sub [1, 2, 3, 0] rfl (ih _ _ _ _  h)
    · refine v_aload_n X (pc := 85) 0 rfl eM_book_85 rfl ?_
      refine v_get X (pc := 86) 13 (a := aR 18 0) (by decide) (by decide) rfl rfl rfl in_Model (by decide) qw_661 rfl eM_book_86 ?_
      refine v_iload_n X (pc := 89) 1 rfl eM_book_89 rfl ?_
      refine v_iald X (pc := 90) h (by decide) (by decide) rfl eM_book_90 (fun h => ?_)
      exact v_iret X (pc := 91) h hr eM_book_91
set_option maxHeartbeats 4000000 in
set_option maxRecDepth 100000 in
theorem cM_book {f : Nat} {a1 : Int32} {a2 : Int32} {mem : Mem} {o : Int32} {mem' : Mem}  (h : dM_book f a1 a2 mem = some (o, mem')) : RT yM_book prog_6_method_74_code 5 (Option.some Jvm.ClassFile.FieldType.int) (rmM 3 63) [aR 12 0, aI a1, aI a2] mem (some (aI o)) mem' := by
  refine RT.of (by decide +kernel) (Nat.le_of_ble_eq_true rfl) (fun p l e s m args below meth c k X hr => ?_)
  replace X : CX p s m args meth c k prog_6_method_74_code 5 "WallShiftsModel" := X
  unfold dM_book at h
  refine v_sub (lv' := [(0, _), (1, _), (2, _)]) [0, 1, 2] rfl ?_
  refine v_aload_n X (pc := 0) 0 rfl eM_book_0 rfl ?_
  refine v_iload_n X (pc := 1) 1 rfl eM_book_1 rfl ?_
  obtain ⟨r1, m1, hc1, h⟩ := bd_some h
  refine v_callV X (pc := 2) [_] [] ok_V_M_247 (cM_badSheet  hc1) rfl (Nat.le_of_ble_eq_true rfl) ⟨Nat.le_of_ble_eq_true rfl, Nat.le_of_ble_eq_true rfl⟩ ⟨Nat.zero_le _, Nat.zero_le _⟩ (by decide) (by decide) rfl rfl eM_book_2 ?_
  refine v_istore_n X (pc := 5) (lv' := [(3, _), (0, _), (1, _), (2, _)]) eM_book_5 rfl (Nat.le_of_ble_eq_true rfl) rfl ?_
  refine v_iload_n X (pc := 6) 0 rfl eM_book_6 rfl ?_
  refine v_if_eq X (pc := 7) (tgt := 16) h eM_book_7 (by decide) (fun h => ?_) (fun h => ?_)
  · refine v_aload_n X (pc := 16) 1 rfl eM_book_16 rfl ?_
    refine v_iload_n X (pc := 17) 3 rfl eM_book_17 rfl ?_
    obtain ⟨r2, m2, hc2, h⟩ := bd_some h
    refine v_callV X (pc := 18) [_] [] ok_V_M_77 (cM_isOne  hc2) rfl (Nat.le_of_ble_eq_true rfl) ⟨Nat.le_of_ble_eq_true rfl, Nat.le_of_ble_eq_true rfl⟩ ⟨Nat.zero_le _, Nat.zero_le _⟩ (by decide) (by decide) rfl rfl eM_book_18 ?_
    refine v_if_ne X (pc := 21) (tgt := 31) h eM_book_21 (by decide) (fun h => ?_) (fun h => ?_)
    · refine v_aload_n X (pc := 24) 1 rfl eM_book_24 rfl ?_
      refine v_ldc X (pc := 25) qw_717 eM_book_25 ?_
      obtain ⟨r3, m3, hc3, h⟩ := bd_some h
      refine v_callV X (pc := 27) [_] [] ok_V_M_57 (cM_finds  hc3) rfl (Nat.le_of_ble_eq_true rfl) ⟨Nat.le_of_ble_eq_true rfl, Nat.le_of_ble_eq_true rfl⟩ ⟨Nat.zero_le _, Nat.zero_le _⟩ (by decide) (by decide) rfl rfl eM_book_27 ?_
      exact v_iret X (pc := 30) h hr eM_book_30
    · refine v_iconst X (pc := 31) (v := (0 : Int32)) eM_book_31 (by decide) ?_
      refine v_istore X (pc := 32) (lv' := [(4, _), (3, _), (0, _), (1, _), (2, _)]) eM_book_32 (Nat.le_of_ble_eq_true rfl) rfl ?_
      exact v_sub [2, 3, 4, 0] rfl (cM_book_34 X hr _ _ _ _ _  h)
  · refine v_aload_n X (pc := 10) 1 rfl eM_book_10 rfl ?_
    refine v_iload_n X (pc := 11) 0 rfl eM_book_11 rfl ?_
    obtain ⟨r4, m4, hc4, h⟩ := bd_some h
    refine v_callV X (pc := 12) [_] [] ok_V_M_57 (cM_finds  hc4) rfl (Nat.le_of_ble_eq_true rfl) ⟨Nat.le_of_ble_eq_true rfl, Nat.le_of_ble_eq_true rfl⟩ ⟨Nat.zero_le _, Nat.zero_le _⟩ (by decide) (by decide) rfl rfl eM_book_12 ?_
    exact v_iret X (pc := 15) h hr eM_book_15
set_option maxHeartbeats 4000000 in
set_option maxRecDepth 100000 in
theorem cM_isSo_54 {p : Program} {l : Launch} {e : Env} {s : State} {m : MethodId} {args : Array Value} {below : List Frame} {meth : Method} {c : Code} {k : KK} {f : Nat} {o : Int32} {mem' : Mem} (X : CX p s m args meth c k prog_6_method_75_code 5 "WallShiftsModel") (hr : meth.sig.returnType = (Option.some Jvm.ClassFile.FieldType.boolean)) {k5 : Int32 → Int32 → Int32 → Int32 → Mem → Option (Int32 × Mem)} (hk5 : ∀ (x1 : Int32) (x2 : Int32) (x3 : Int32) (x4 : Int32) (mem : Mem), k5 x1 x2 x3 x4 mem = some (o, mem') → V p l e (rmM 2 47) s m args below meth c 0 0 (MQ below (RQc k (some (aI o)) mem') args s 0 0 (kA k)) k 5 mem 5 [(0, aR 12 0), (1, aI x1), (2, aI x2), (3, aI x3), (4, aI x4)] []) : ∀ (x1 : Int32) (x2 : Int32) (x4 : Int32) (s0 : Int64) (s1 : Int64) (mem : Mem), dM_isSo_54 f k5 x1 x2 x4 s0 s1 mem = some (o, mem') → V p l e (rmM 2 47) s m args below meth c 0 0 (MQ below (RQc k (some (aI o)) mem') args s 0 0 (kA k)) k 5 mem 54 [(0, aR 12 0), (1, aI x1), (2, aI x2), (4, aI x4)] [aL s1, aL s0] := by
  intro x1 x2 x4 s0 s1 mem  h
  unfold dM_isSo_54 at h
  refine v_lcmp X (pc := 54) eM_isSo_54 ?_
  refine v_if_ne X (pc := 55) (tgt := 62) h eM_isSo_55 (by decide) (fun h => ?_) (fun h => ?_)
  · refine v_iconst X (pc := 58) (v := (1 : Int32)) eM_isSo_58 (by decide) ?_
    refine v_goto X (pc := 59) (tgt := 63) eM_isSo_59 (by decide) ?_
    refine v_istore_n X (pc := 63) (lv' := [(3, _), (0, _), (1, _), (2, _), (4, _)]) eM_isSo_63 rfl (Nat.le_of_ble_eq_true rfl) rfl ?_
    refine v_iinc X (pc := 64) (v := (x4 + (1 : Int32))) (lv' := [(4, _), (3, _), (0, _), (1, _), (2, _)]) 4 rfl (by rfl) eM_isSo_64 (Nat.le_of_ble_eq_true rfl) rfl ?_
    refine v_goto X (pc := 67) (tgt := 5) eM_isSo_67 (by decide) ?_
    exact v_sub [2, 3, 4, 1, 0] rfl (hk5 _ _ _ _ _  h)
  · refine v_iconst X (pc := 62) (v := (0 : Int32)) eM_isSo_62 (by decide) ?_
    refine v_istore_n X (pc := 63) (lv' := [(3, _), (0, _), (1, _), (2, _), (4, _)]) eM_isSo_63 rfl (Nat.le_of_ble_eq_true rfl) rfl ?_
    refine v_iinc X (pc := 64) (v := (x4 + (1 : Int32))) (lv' := [(4, _), (3, _), (0, _), (1, _), (2, _)]) 4 rfl (by rfl) eM_isSo_64 (Nat.le_of_ble_eq_true rfl) rfl ?_
    refine v_goto X (pc := 67) (tgt := 5) eM_isSo_67 (by decide) ?_
    exact v_sub [2, 3, 4, 1, 0] rfl (hk5 _ _ _ _ _  h)
set_option maxHeartbeats 4000000 in
set_option maxRecDepth 100000 in
theorem cM_isSo_5 {p : Program} {l : Launch} {e : Env} {s : State} {m : MethodId} {args : Array Value} {below : List Frame} {meth : Method} {c : Code} {k : KK} {f : Nat} {o : Int32} {mem' : Mem} (X : CX p s m args meth c k prog_6_method_75_code 5 "WallShiftsModel") (hr : meth.sig.returnType = (Option.some Jvm.ClassFile.FieldType.boolean)) : ∀ (n : Nat) (x1 : Int32) (x2 : Int32) (x3 : Int32) (x4 : Int32) (mem : Mem), dM_isSo_5 f n x1 x2 x3 x4 mem = some (o, mem') → V p l e (rmM 2 47) s m args below meth c 0 0 (MQ below (RQc k (some (aI o)) mem') args s 0 0 (kA k)) k 5 mem 5 [(0, aR 12 0), (1, aI x1), (2, aI x2), (3, aI x3), (4, aI x4)] [] := by
  intro n
  induction n with
  | zero =>
    intro x1 x2 x3 x4 mem  h
    exact nomatch (show (none : Option (Int32 × Mem)) = some _ from h)
  | succ n ih =>
    intro x1 x2 x3 x4 mem  h
    rw [dM_isSo_5] at h
    refine v_iload X (pc := 5) 4 rfl eM_isSo_5 ?_
    refine v_aload_n X (pc := 7) 0 rfl eM_isSo_7 rfl ?_
    refine v_get X (pc := 8) 13 (a := aR 18 0) (by decide) (by decide) rfl rfl rfl in_Model (by decide) qw_661 rfl eM_isSo_8 ?_
    refine v_iload_n X (pc := 11) 1 rfl eM_isSo_11 rfl ?_
    refine v_iald X (pc := 12) h (by decide) (by decide) rfl eM_isSo_12 (fun h => ?_)
    refine v_icmp_ge X (pc := 13) (tgt := 70) h eM_isSo_13 (by decide) (fun h => ?_) (fun h => ?_)
    · refine v_iload_n X (pc := 16) 3 rfl eM_isSo_16 rfl ?_
      refine v_if_eq X (pc := 17) (tgt := 70) h eM_isSo_17 (by decide) (fun h => ?_) (fun h => ?_)
      · refine v_iload_n X (pc := 70) 3 rfl eM_isSo_70 rfl ?_
        obtain ⟨hz, h⟩ := zb_some h
        exact v_zret X (pc := 71) h hr (zb_n hz) eM_isSo_71
      · refine v_aload_n X (pc := 20) 0 rfl eM_isSo_20 rfl ?_
        refine v_get X (pc := 21) 14 (a := aR 19 0) (by decide) (by decide) rfl rfl rfl in_Model (by decide) qw_662 rfl eM_isSo_21 ?_
        refine v_bipush X (pc := 24) (v := (40 : Int32)) eM_isSo_24 (by decide) ?_
        refine v_iload_n X (pc := 26) 1 rfl eM_isSo_26 rfl ?_
        refine v_imul X (pc := 27) eM_isSo_27 ?_
        refine v_iload X (pc := 28) 4 rfl eM_isSo_28 ?_
        refine v_iadd X (pc := 30) eM_isSo_30 ?_
        refine v_lald X (pc := 31) h (by decide) (by decide) rfl eM_isSo_31 (fun h => ?_)
        refine v_aload_n X (pc := 32) 0 rfl eM_isSo_32 rfl ?_
        refine v_iload_n X (pc := 33) 2 rfl eM_isSo_33 rfl ?_
        refine v_aload_n X (pc := 34) 0 rfl eM_isSo_34 rfl ?_
        refine v_get X (pc := 35) 0 (a := aR 13 0) (by decide) (by decide) rfl rfl rfl in_Model (by decide) qw_648 rfl eM_isSo_35 ?_
        refine v_iconst X (pc := 38) (v := (0 : Int32)) eM_isSo_38 (by decide) ?_
        refine v_ialdK X (pc := 39) (n := 66) 0 (by decide) (by decide) (by decide) (by decide) rfl eM_isSo_39 ?_
        refine v_iload X (pc := 40) 4 rfl eM_isSo_40 ?_
        refine v_iadd X (pc := 42) eM_isSo_42 ?_
        obtain ⟨r1, m1, hc1, h⟩ := bd_some h
        refine v_callV X (pc := 43) [_, _] [_] ok_V_M_80 (cM_isOnDuty  hc1) rfl (Nat.le_of_ble_eq_true rfl) ⟨Nat.le_of_ble_eq_true rfl, Nat.le_of_ble_eq_true rfl⟩ ⟨Nat.zero_le _, Nat.zero_le _⟩ (by decide) (by decide) rfl rfl eM_isSo_43 ?_
        refine v_if_eq X (pc := 46) (tgt := 53) h eM_isSo_46 (by decide) (fun h => ?_) (fun h => ?_)
        · refine v_lconst X (pc := 53) (v := (0 : Int64)) eM_isSo_53 (by decide) ?_
          exact v_sub [0, 1, 2, 4] rfl (cM_isSo_54 X hr ih _ _ _ _ _ _  h)
        · refine v_lconst X (pc := 49) (v := (1 : Int64)) eM_isSo_49 (by decide) ?_
          refine v_goto X (pc := 50) (tgt := 54) eM_isSo_50 (by decide) ?_
          exact v_sub [0, 1, 2, 4] rfl (cM_isSo_54 X hr ih _ _ _ _ _ _  h)
    · refine v_iload_n X (pc := 70) 3 rfl eM_isSo_70 rfl ?_
      obtain ⟨hz, h⟩ := zb_some h
      exact v_zret X (pc := 71) h hr (zb_n hz) eM_isSo_71
set_option maxHeartbeats 4000000 in
set_option maxRecDepth 100000 in
theorem cM_isSo {f : Nat} {a1 : Int32} {a2 : Int32} {mem : Mem} {o : Int32} {mem' : Mem}  (h : dM_isSo f a1 a2 mem = some (o, mem')) : RT yM_isSo prog_6_method_75_code 5 (Option.some Jvm.ClassFile.FieldType.boolean) (rmM 2 47) [aR 12 0, aI a1, aI a2] mem (some (aI o)) mem' := by
  refine RT.of (by decide +kernel) (Nat.le_of_ble_eq_true rfl) (fun p l e s m args below meth c k X hr => ?_)
  replace X : CX p s m args meth c k prog_6_method_75_code 5 "WallShiftsModel" := X
  unfold dM_isSo at h
  refine v_sub (lv' := [(0, _), (1, _), (2, _)]) [0, 1, 2] rfl ?_
  refine v_iconst X (pc := 0) (v := (1 : Int32)) eM_isSo_0 (by decide) ?_
  refine v_istore_n X (pc := 1) (lv' := [(3, _), (0, _), (1, _), (2, _)]) eM_isSo_1 rfl (Nat.le_of_ble_eq_true rfl) rfl ?_
  refine v_iconst X (pc := 2) (v := (0 : Int32)) eM_isSo_2 (by decide) ?_
  refine v_istore X (pc := 3) (lv' := [(4, _), (3, _), (0, _), (1, _), (2, _)]) eM_isSo_3 (Nat.le_of_ble_eq_true rfl) rfl ?_
  exact v_sub [2, 3, 4, 1, 0] rfl (cM_isSo_5 X hr _ _ _ _ _ _  h)
set_option maxHeartbeats 4000000 in
set_option maxRecDepth 100000 in
theorem cM_read_53 {p : Program} {l : Launch} {e : Env} {s : State} {m : MethodId} {args : Array Value} {below : List Frame} {meth : Method} {c : Code} {k : KK} {f : Nat} {o : Int32} {mem' : Mem} (X : CX p s m args meth c k prog_6_method_76_code 8 "WallShiftsModel") (hr : meth.sig.returnType = (Option.some Jvm.ClassFile.FieldType.int)) : ∀ (n : Nat) (x1 : Int32) (x2 : Int32) (x4 : Int32) (x5 : Int32) (x6 : Int32) (x7 : Int32) (mem : Mem), dM_read_53 f n x1 x2 x4 x5 x6 x7 mem = some (o, mem') → V p l e (rmM 3 71) s m args below meth c 0 0 (MQ below (RQc k (some (aI o)) mem') args s 0 0 (kA k)) k 8 mem 53 [(0, aR 12 0), (1, aI x1), (2, aI x2), (4, aI x4), (5, aI x5), (6, aI x6), (7, aI x7)] [] := by
  intro n
  induction n with
  | zero =>
    intro x1 x2 x4 x5 x6 x7 mem  h
    exact nomatch (show (none : Option (Int32 × Mem)) = some _ from h)
  | succ n ih =>
    intro x1 x2 x4 x5 x6 x7 mem  h
    rw [dM_read_53] at h
    refine v_iload X (pc := 53) 6 rfl eM_read_53 ?_
    refine v_bipush X (pc := 55) (v := (24 : Int32)) eM_read_55 (by decide) ?_
    refine v_icmp_ge X (pc := 57) (tgt := 105) h eM_read_57 (by decide) (fun h => ?_) (fun h => ?_)
    · refine v_aload_n X (pc := 60) 0 rfl eM_read_60 rfl ?_
      refine v_iload_n X (pc := 61) 2 rfl eM_read_61 rfl ?_
      refine v_iconst X (pc := 62) (v := (0 : Int32)) eM_read_62 (by decide) ?_
      refine v_iload X (pc := 63) 6 rfl eM_read_63 ?_
      refine v_iconst X (pc := 65) (v := (4 : Int32)) eM_read_65 (by decide) ?_
      refine v_idiv X (pc := 66) h eM_read_66 (fun h => ?_)
      obtain ⟨r1, m1, hc1, h⟩ := bd_some h
      refine v_callV X (pc := 67) [_, _, _] [] ok_V_M_61 (cM_puts  hc1) rfl (Nat.le_of_ble_eq_true rfl) ⟨Nat.le_of_ble_eq_true rfl, Nat.le_of_ble_eq_true rfl⟩ ⟨Nat.zero_le _, Nat.zero_le _⟩ (by decide) (by decide) rfl rfl eM_read_67 ?_
      refine v_aload_n X (pc := 70) 0 rfl eM_read_70 rfl ?_
      refine v_iload_n X (pc := 71) 2 rfl eM_read_71 rfl ?_
      refine v_iconst X (pc := 72) (v := (3 : Int32)) eM_read_72 (by decide) ?_
      refine v_iload X (pc := 73) 6 rfl eM_read_73 ?_
      refine v_iconst X (pc := 75) (v := (4 : Int32)) eM_read_75 (by decide) ?_
      refine v_irem X (pc := 76) h eM_read_76 (fun h => ?_)
      obtain ⟨r2, m2, hc2, h⟩ := bd_some h
      refine v_callV X (pc := 77) [_, _, _] [] ok_V_M_61 (cM_puts  hc2) rfl (Nat.le_of_ble_eq_true rfl) ⟨Nat.le_of_ble_eq_true rfl, Nat.le_of_ble_eq_true rfl⟩ ⟨Nat.zero_le _, Nat.zero_le _⟩ (by decide) (by decide) rfl rfl eM_read_77 ?_
      refine v_iload X (pc := 80) 5 rfl eM_read_80 ?_
      refine v_aload_n X (pc := 82) 0 rfl eM_read_82 rfl ?_
      refine v_iload_n X (pc := 83) 1 rfl eM_read_83 rfl ?_
      refine v_iload_n X (pc := 84) 2 rfl eM_read_84 rfl ?_
      obtain ⟨r3, m3, hc3, h⟩ := bd_some h
      refine v_callV X (pc := 85) [_, _] [_] ok_V_M_252 (cM_isSo  hc3) rfl (Nat.le_of_ble_eq_true rfl) ⟨Nat.le_of_ble_eq_true rfl, Nat.le_of_ble_eq_true rfl⟩ ⟨Nat.zero_le _, Nat.zero_le _⟩ (by decide) (by decide) rfl rfl eM_read_85 ?_
      refine v_if_eq X (pc := 88) (tgt := 95) h eM_read_88 (by decide) (fun h => ?_) (fun h => ?_)
      · refine v_iconst X (pc := 95) (v := (0 : Int32)) eM_read_95 (by decide) ?_
        refine v_iadd X (pc := 96) eM_read_96 ?_
        refine v_istore X (pc := 97) (lv' := [(6, _), (0, _), (1, _), (2, _), (4, _), (5, _), (7, _)]) eM_read_97 (Nat.le_of_ble_eq_true rfl) rfl ?_
        refine v_iinc X (pc := 99) (v := (x7 + (1 : Int32))) (lv' := [(7, _), (6, _), (0, _), (1, _), (2, _), (4, _), (5, _)]) 6 rfl (by rfl) eM_read_99 (Nat.le_of_ble_eq_true rfl) rfl ?_
        refine v_goto X (pc := 102) (tgt := 53) eM_read_102 (by decide) ?_
        exact v_sub [2, 3, 4, 5, 6, 1, 0] rfl (ih _ _ _ _ _ _ _  h)
      · refine v_iconst X (pc := 91) (v := (1 : Int32)) eM_read_91 (by decide) ?_
        refine v_goto X (pc := 92) (tgt := 96) eM_read_92 (by decide) ?_
        refine v_iadd X (pc := 96) eM_read_96 ?_
        refine v_istore X (pc := 97) (lv' := [(6, _), (0, _), (1, _), (2, _), (4, _), (5, _), (7, _)]) eM_read_97 (Nat.le_of_ble_eq_true rfl) rfl ?_
        refine v_iinc X (pc := 99) (v := (x7 + (1 : Int32))) (lv' := [(7, _), (6, _), (0, _), (1, _), (2, _), (4, _), (5, _)]) 6 rfl (by rfl) eM_read_99 (Nat.le_of_ble_eq_true rfl) rfl ?_
        refine v_goto X (pc := 102) (tgt := 53) eM_read_102 (by decide) ?_
        exact v_sub [2, 3, 4, 5, 6, 1, 0] rfl (ih _ _ _ _ _ _ _  h)
    · refine v_aload_n X (pc := 105) 0 rfl eM_read_105 rfl ?_
      refine v_iload_n X (pc := 106) 2 rfl eM_read_106 rfl ?_
      refine v_iconst X (pc := 107) (v := (0 : Int32)) eM_read_107 (by decide) ?_
      refine v_iload X (pc := 108) 3 rfl eM_read_108 ?_
      obtain ⟨r4, m4, hc4, h⟩ := bd_some h
      refine v_callV X (pc := 110) [_, _, _] [] ok_V_M_61 (cM_puts  hc4) rfl (Nat.le_of_ble_eq_true rfl) ⟨Nat.le_of_ble_eq_true rfl, Nat.le_of_ble_eq_true rfl⟩ ⟨Nat.zero_le _, Nat.zero_le _⟩ (by decide) (by decide) rfl rfl eM_read_110 ?_
      refine v_aload_n X (pc := 113) 0 rfl eM_read_113 rfl ?_
      refine v_iload_n X (pc := 114) 2 rfl eM_read_114 rfl ?_
      refine v_iconst X (pc := 115) (v := (3 : Int32)) eM_read_115 (by decide) ?_
      refine v_iload X (pc := 116) 4 rfl eM_read_116 ?_
      obtain ⟨r5, m5, hc5, h⟩ := bd_some h
      refine v_callV X (pc := 118) [_, _, _] [] ok_V_M_61 (cM_puts  hc5) rfl (Nat.le_of_ble_eq_true rfl) ⟨Nat.le_of_ble_eq_true rfl, Nat.le_of_ble_eq_true rfl⟩ ⟨Nat.zero_le _, Nat.zero_le _⟩ (by decide) (by decide) rfl rfl eM_read_118 ?_
      refine v_iload X (pc := 121) 5 rfl eM_read_121 ?_
      exact v_iret X (pc := 123) h hr eM_read_123
set_option maxHeartbeats 4000000 in
set_option maxRecDepth 100000 in
theorem cM_read {f : Nat} {a1 : Int32} {a2 : Int32} {mem : Mem} {o : Int32} {mem' : Mem}  (h : dM_read f a1 a2 mem = some (o, mem')) : RT yM_read prog_6_method_76_code 8 (Option.some Jvm.ClassFile.FieldType.int) (rmM 3 71) [aR 12 0, aI a1, aI a2] mem (some (aI o)) mem' := by
  refine RT.of (by decide +kernel) (Nat.le_of_ble_eq_true rfl) (fun p l e s m args below meth c k X hr => ?_)
  replace X : CX p s m args meth c k prog_6_method_76_code 8 "WallShiftsModel" := X
  unfold dM_read at h
  refine v_sub (lv' := [(0, _), (1, _), (2, _)]) [0, 1, 2] rfl ?_
  refine v_aload_n X (pc := 0) 0 rfl eM_read_0 rfl ?_
  refine v_iload_n X (pc := 1) 1 rfl eM_read_1 rfl ?_
  obtain ⟨r1, m1, hc1, h⟩ := bd_some h
  refine v_callV X (pc := 2) [_] [] ok_V_M_247 (cM_badSheet  hc1) rfl (Nat.le_of_ble_eq_true rfl) ⟨Nat.le_of_ble_eq_true rfl, Nat.le_of_ble_eq_true rfl⟩ ⟨Nat.zero_le _, Nat.zero_le _⟩ (by decide) (by decide) rfl rfl eM_read_2 ?_
  refine v_istore_n X (pc := 5) (lv' := [(3, _), (0, _), (1, _), (2, _)]) eM_read_5 rfl (Nat.le_of_ble_eq_true rfl) rfl ?_
  refine v_iload_n X (pc := 6) 0 rfl eM_read_6 rfl ?_
  refine v_if_eq X (pc := 7) (tgt := 16) h eM_read_7 (by decide) (fun h => ?_) (fun h => ?_)
  · refine v_aload_n X (pc := 16) 1 rfl eM_read_16 rfl ?_
    refine v_iload_n X (pc := 17) 3 rfl eM_read_17 rfl ?_
    obtain ⟨r2, m2, hc2, h⟩ := bd_some h
    refine v_callV X (pc := 18) [_] [] ok_V_M_77 (cM_isOne  hc2) rfl (Nat.le_of_ble_eq_true rfl) ⟨Nat.le_of_ble_eq_true rfl, Nat.le_of_ble_eq_true rfl⟩ ⟨Nat.zero_le _, Nat.zero_le _⟩ (by decide) (by decide) rfl rfl eM_read_18 ?_
    refine v_if_ne X (pc := 21) (tgt := 31) h eM_read_21 (by decide) (fun h => ?_) (fun h => ?_)
    · refine v_aload_n X (pc := 24) 1 rfl eM_read_24 rfl ?_
      refine v_ldc X (pc := 25) qw_717 eM_read_25 ?_
      obtain ⟨r3, m3, hc3, h⟩ := bd_some h
      refine v_callV X (pc := 27) [_] [] ok_V_M_57 (cM_finds  hc3) rfl (Nat.le_of_ble_eq_true rfl) ⟨Nat.le_of_ble_eq_true rfl, Nat.le_of_ble_eq_true rfl⟩ ⟨Nat.zero_le _, Nat.zero_le _⟩ (by decide) (by decide) rfl rfl eM_read_27 ?_
      exact v_iret X (pc := 30) h hr eM_read_30
    · refine v_aload_n X (pc := 31) 1 rfl eM_read_31 rfl ?_
      refine v_iload_n X (pc := 32) 3 rfl eM_read_32 rfl ?_
      refine v_iconst X (pc := 33) (v := (0 : Int32)) eM_read_33 (by decide) ?_
      obtain ⟨r4, m4, hc4, h⟩ := bd_some h
      refine v_callV X (pc := 34) [_, _] [] ok_V_M_46 (cM_its  hc4) rfl (Nat.le_of_ble_eq_true rfl) ⟨Nat.le_of_ble_eq_true rfl, Nat.le_of_ble_eq_true rfl⟩ ⟨Nat.zero_le _, Nat.zero_le _⟩ (by decide) (by decide) rfl rfl eM_read_34 ?_
      refine v_istore X (pc := 37) (lv' := [(4, _), (3, _), (0, _), (1, _), (2, _)]) eM_read_37 (Nat.le_of_ble_eq_true rfl) rfl ?_
      refine v_aload_n X (pc := 39) 2 rfl eM_read_39 rfl ?_
      refine v_iload_n X (pc := 40) 4 rfl eM_read_40 rfl ?_
      refine v_iconst X (pc := 41) (v := (3 : Int32)) eM_read_41 (by decide) ?_
      obtain ⟨r5, m5, hc5, h⟩ := bd_some h
      refine v_callV X (pc := 42) [_, _] [] ok_V_M_46 (cM_its  hc5) rfl (Nat.le_of_ble_eq_true rfl) ⟨Nat.le_of_ble_eq_true rfl, Nat.le_of_ble_eq_true rfl⟩ ⟨Nat.zero_le _, Nat.zero_le _⟩ (by decide) (by decide) rfl rfl eM_read_42 ?_
      refine v_istore X (pc := 45) (lv' := [(5, _), (4, _), (3, _), (0, _), (1, _), (2, _)]) eM_read_45 (Nat.le_of_ble_eq_true rfl) rfl ?_
      refine v_iconst X (pc := 47) (v := (0 : Int32)) eM_read_47 (by decide) ?_
      refine v_istore X (pc := 48) (lv' := [(6, _), (5, _), (4, _), (3, _), (0, _), (1, _), (2, _)]) eM_read_48 (Nat.le_of_ble_eq_true rfl) rfl ?_
      refine v_iconst X (pc := 50) (v := (0 : Int32)) eM_read_50 (by decide) ?_
      refine v_istore X (pc := 51) (lv' := [(7, _), (6, _), (5, _), (4, _), (3, _), (0, _), (1, _), (2, _)]) eM_read_51 (Nat.le_of_ble_eq_true rfl) rfl ?_
      exact v_sub [5, 6, 7, 3, 2, 1, 0] rfl (cM_read_53 X hr _ _ _ _ _ _ _ _  h)
  · refine v_aload_n X (pc := 10) 1 rfl eM_read_10 rfl ?_
    refine v_iload_n X (pc := 11) 0 rfl eM_read_11 rfl ?_
    obtain ⟨r6, m6, hc6, h⟩ := bd_some h
    refine v_callV X (pc := 12) [_] [] ok_V_M_57 (cM_finds  hc6) rfl (Nat.le_of_ble_eq_true rfl) ⟨Nat.le_of_ble_eq_true rfl, Nat.le_of_ble_eq_true rfl⟩ ⟨Nat.zero_le _, Nat.zero_le _⟩ (by decide) (by decide) rfl rfl eM_read_12 ?_
    exact v_iret X (pc := 15) h hr eM_read_15
set_option maxHeartbeats 4000000 in
set_option maxRecDepth 100000 in
theorem cM_moveAll_21_2 {p : Program} {l : Launch} {e : Env} {s : State} {m : MethodId} {args : Array Value} {below : List Frame} {meth : Method} {c : Code} {k : KK} {f : Nat} {o : Unit} {mem' : Mem} (X : CX p s m args meth c k prog_6_method_77_code 4 "WallShiftsModel") (hr : meth.sig.returnType = (Option.none : Option Jvm.ClassFile.FieldType)) : ∀ (n : Nat) (x1 : Int32) (x3 : Int32) (mem : Mem), dM_moveAll_21_2 f n x1 x3 mem = some (o, mem') → V p l e (rmM 0 0) s m args below meth c 0 0 (MQ below (RQc k none mem') args s 0 0 (kA k)) k 4 mem 2 [(0, aR 12 0), (1, aI x1), (2, aR 21 0), (3, aI x3)] [] := by
  intro n
  induction n with
  | zero =>
    intro x1 x3 mem  h
    exact nomatch (show (none : Option (Unit × Mem)) = some _ from h)
  | succ n ih =>
    intro x1 x3 mem  h
    rw [dM_moveAll_21_2] at h
    refine v_iload_n X (pc := 2) 3 rfl eM_moveAll_2 rfl ?_
    refine v_bipush X (pc := 3) (v := (66 : Int32)) eM_moveAll_3 (by decide) ?_
    refine v_icmp_ge X (pc := 5) (tgt := 39) h eM_moveAll_5 (by decide) (fun h => ?_) (fun h => ?_)
    · refine v_iload_n X (pc := 8) 1 rfl eM_moveAll_8 rfl ?_
      refine v_if_eq X (pc := 9) (tgt := 24) h eM_moveAll_9 (by decide) (fun h => ?_) (fun h => ?_)
      · refine v_aload_n X (pc := 24) 0 rfl eM_moveAll_24 rfl ?_
        refine v_get X (pc := 25) 0 (a := aR 13 0) (by decide) (by decide) rfl rfl rfl in_Model (by decide) qw_648 rfl eM_moveAll_25 ?_
        refine v_iload_n X (pc := 28) 3 rfl eM_moveAll_28 rfl ?_
        refine v_aload_n X (pc := 29) 2 rfl eM_moveAll_29 rfl ?_
        refine v_iload_n X (pc := 30) 3 rfl eM_moveAll_30 rfl ?_
        refine v_iald X (pc := 31) h (by decide) (by decide) rfl eM_moveAll_31 (fun h => ?_)
        refine v_iast X (pc := 32) h (by decide) (by decide) (fun _ => rfl) eM_moveAll_32 (fun h => ?_)
        refine v_iinc X (pc := 33) (v := (x3 + (1 : Int32))) (lv' := [(3, _), (0, _), (1, _), (2, _)]) 3 rfl (by rfl) eM_moveAll_33 (Nat.le_of_ble_eq_true rfl) rfl ?_
        refine v_goto X (pc := 36) (tgt := 2) eM_moveAll_36 (by decide) ?_
        exact v_sub [1, 2, 3, 0] rfl (ih _ _ _  h)
      · refine v_aload_n X (pc := 12) 2 rfl eM_moveAll_12 rfl ?_
        refine v_iload_n X (pc := 13) 3 rfl eM_moveAll_13 rfl ?_
        refine v_aload_n X (pc := 14) 0 rfl eM_moveAll_14 rfl ?_
        refine v_get X (pc := 15) 0 (a := aR 13 0) (by decide) (by decide) rfl rfl rfl in_Model (by decide) qw_648 rfl eM_moveAll_15 ?_
        refine v_iload_n X (pc := 18) 3 rfl eM_moveAll_18 rfl ?_
        refine v_iald X (pc := 19) h (by decide) (by decide) rfl eM_moveAll_19 (fun h => ?_)
        refine v_iast X (pc := 20) h (by decide) (by decide) (fun _ => rfl) eM_moveAll_20 (fun h => ?_)
        refine v_goto X (pc := 21) (tgt := 33) eM_moveAll_21 (by decide) ?_
        refine v_iinc X (pc := 33) (v := (x3 + (1 : Int32))) (lv' := [(3, _), (0, _), (1, _), (2, _)]) 3 rfl (by rfl) eM_moveAll_33 (Nat.le_of_ble_eq_true rfl) rfl ?_
        refine v_goto X (pc := 36) (tgt := 2) eM_moveAll_36 (by decide) ?_
        exact v_sub [1, 2, 3, 0] rfl (ih _ _ _  h)
    · exact v_vret X (pc := 39) h hr eM_moveAll_39
set_option maxHeartbeats 4000000 in
set_option maxRecDepth 100000 in
theorem cM_moveAll_21 {f : Nat} {a1 : Int32} {mem : Mem} {o : Unit} {mem' : Mem}  (h : dM_moveAll_21 f a1 mem = some (o, mem')) : RT yM_moveAll prog_6_method_77_code 4 (Option.none : Option Jvm.ClassFile.FieldType) (rmM 0 0) [aR 12 0, aI a1, aR 21 0] mem none mem' := by
  refine RT.of (by decide +kernel) (Nat.le_of_ble_eq_true rfl) (fun p l e s m args below meth c k X hr => ?_)
  replace X : CX p s m args meth c k prog_6_method_77_code 4 "WallShiftsModel" := X
  unfold dM_moveAll_21 at h
  refine v_sub (lv' := [(0, _), (1, _), (2, _)]) [0, 1, 2] rfl ?_
  refine v_iconst X (pc := 0) (v := (0 : Int32)) eM_moveAll_0 (by decide) ?_
  refine v_istore_n X (pc := 1) (lv' := [(3, _), (0, _), (1, _), (2, _)]) eM_moveAll_1 rfl (Nat.le_of_ble_eq_true rfl) rfl ?_
  exact v_sub [1, 2, 3, 0] rfl (cM_moveAll_21_2 X hr _ _ _ _  h)
set_option maxHeartbeats 4000000 in
set_option maxRecDepth 100000 in
theorem cM_image {f : Nat}  {mem : Mem} {o : Int32} {mem' : Mem}  (h : dM_image f  mem = some (o, mem')) : RT yM_image prog_6_method_78_code 1 (Option.some Jvm.ClassFile.FieldType.int) (rmM 1 23) [aR 12 0] mem (some (aI o)) mem' := by
  refine RT.of (by decide +kernel) (Nat.le_of_ble_eq_true rfl) (fun p l e s m args below meth c k X hr => ?_)
  replace X : CX p s m args meth c k prog_6_method_78_code 1 "WallShiftsModel" := X
  unfold dM_image at h
  refine v_sub (lv' := [(0, _)]) [0] rfl ?_
  refine v_aload_n X (pc := 0) 0 rfl eM_image_0 rfl ?_
  refine v_iconst X (pc := 1) (v := (1 : Int32)) eM_image_1 (by decide) ?_
  refine v_aload_n X (pc := 2) 0 rfl eM_image_2 rfl ?_
  refine v_get X (pc := 3) 16 (a := aR 21 0) (by decide) (by decide) rfl rfl rfl in_Model (by decide) qw_664 rfl eM_image_3 ?_
  obtain ⟨r1, m1, hc1, h⟩ := bd_some h
  refine v_callV X (pc := 6) [_, _] [] ok_V_M_142 (cM_moveAll_21  hc1) rfl (Nat.le_of_ble_eq_true rfl) ⟨Nat.le_of_ble_eq_true rfl, Nat.le_of_ble_eq_true rfl⟩ ⟨Nat.zero_le _, Nat.zero_le _⟩ (by decide) (by decide) rfl rfl eM_image_6 ?_
  refine v_aload_n X (pc := 9) 0 rfl eM_image_9 rfl ?_
  refine v_iconst X (pc := 10) (v := (1 : Int32)) eM_image_10 (by decide) ?_
  refine v_put X (pc := 11) 18 (mem' := (sI m1 12 0 18 (1 : Int32))) (by decide) (by decide) rfl (pf_12_18 _ _ _ _ _) rowI_ne rfl in_Model ty_Model_ok nm_Model (by decide) qw_666 rfl rfl rfl (Nat.le_of_ble_eq_true rfl) eM_image_11 ?_
  refine v_iconst X (pc := 14) (v := (1 : Int32)) eM_image_14 (by decide) ?_
  exact v_iret X (pc := 15) h hr eM_image_15
set_option maxHeartbeats 4000000 in
set_option maxRecDepth 100000 in
theorem cM_undo {f : Nat}  {mem : Mem} {o : Int32} {mem' : Mem}  (h : dM_undo f  mem = some (o, mem')) : RT yM_undo prog_6_method_79_code 1 (Option.some Jvm.ClassFile.FieldType.int) (rmM 1 23) [aR 12 0] mem (some (aI o)) mem' := by
  refine RT.of (by decide +kernel) (Nat.le_of_ble_eq_true rfl) (fun p l e s m args below meth c k X hr => ?_)
  replace X : CX p s m args meth c k prog_6_method_79_code 1 "WallShiftsModel" := X
  unfold dM_undo at h
  refine v_sub (lv' := [(0, _)]) [0] rfl ?_
  refine v_aload_n X (pc := 0) 0 rfl eM_undo_0 rfl ?_
  refine v_get X (pc := 1) 18 (a := aI (gI mem 12 0 18)) (by decide) (by decide) rfl rfl rfl in_Model (by decide) qw_666 rfl eM_undo_1 ?_
  refine v_if_ne X (pc := 4) (tgt := 14) h eM_undo_4 (by decide) (fun h => ?_) (fun h => ?_)
  · refine v_aload_n X (pc := 7) 0 rfl eM_undo_7 rfl ?_
    refine v_ldc X (pc := 8) qw_790 eM_undo_8 ?_
    obtain ⟨r1, m1, hc1, h⟩ := bd_some h
    refine v_callV X (pc := 10) [_] [] ok_V_M_57 (cM_finds  hc1) rfl (Nat.le_of_ble_eq_true rfl) ⟨Nat.le_of_ble_eq_true rfl, Nat.le_of_ble_eq_true rfl⟩ ⟨Nat.zero_le _, Nat.zero_le _⟩ (by decide) (by decide) rfl rfl eM_undo_10 ?_
    exact v_iret X (pc := 13) h hr eM_undo_13
  · refine v_aload_n X (pc := 14) 0 rfl eM_undo_14 rfl ?_
    refine v_iconst X (pc := 15) (v := (0 : Int32)) eM_undo_15 (by decide) ?_
    refine v_aload_n X (pc := 16) 0 rfl eM_undo_16 rfl ?_
    refine v_get X (pc := 17) 16 (a := aR 21 0) (by decide) (by decide) rfl rfl rfl in_Model (by decide) qw_664 rfl eM_undo_17 ?_
    obtain ⟨r2, m2, hc2, h⟩ := bd_some h
    refine v_callV X (pc := 20) [_, _] [] ok_V_M_142 (cM_moveAll_21  hc2) rfl (Nat.le_of_ble_eq_true rfl) ⟨Nat.le_of_ble_eq_true rfl, Nat.le_of_ble_eq_true rfl⟩ ⟨Nat.zero_le _, Nat.zero_le _⟩ (by decide) (by decide) rfl rfl eM_undo_20 ?_
    refine v_aload_n X (pc := 23) 0 rfl eM_undo_23 rfl ?_
    refine v_get X (pc := 24) 0 (a := aR 13 0) (by decide) (by decide) rfl rfl rfl in_Model (by decide) qw_648 rfl eM_undo_24 ?_
    refine v_iconst X (pc := 27) (v := (5 : Int32)) eM_undo_27 (by decide) ?_
    refine v_ialdK X (pc := 28) (n := 66) 5 (by decide) (by decide) (by decide) (by decide) rfl eM_undo_28 ?_
    exact v_iret X (pc := 29) h hr eM_undo_29
set_option maxHeartbeats 4000000 in
set_option maxRecDepth 100000 in
theorem cM_tear {f : Nat}  {mem : Mem} {o : Int32} {mem' : Mem}  (h : dM_tear f  mem = some (o, mem')) : RT yM_tear prog_6_method_80_code 2 (Option.some Jvm.ClassFile.FieldType.int) (rmM 0 0) [aR 12 0] mem (some (aI o)) mem' := by
  refine RT.of (by decide +kernel) (Nat.le_of_ble_eq_true rfl) (fun p l e s m args below meth c k X hr => ?_)
  replace X : CX p s m args meth c k prog_6_method_80_code 2 "WallShiftsModel" := X
  unfold dM_tear at h
  refine v_sub (lv' := [(0, _)]) [0] rfl ?_
  refine v_aload_n X (pc := 0) 0 rfl eM_tear_0 rfl ?_
  refine v_get X (pc := 1) 18 (a := aI (gI mem 12 0 18)) (by decide) (by decide) rfl rfl rfl in_Model (by decide) qw_666 rfl eM_tear_1 ?_
  refine v_if_eq X (pc := 4) (tgt := 11) h eM_tear_4 (by decide) (fun h => ?_) (fun h => ?_)
  · refine v_iconst X (pc := 11) (v := (0 : Int32)) eM_tear_11 (by decide) ?_
    refine v_istore_n X (pc := 12) (lv' := [(1, _), (0, _)]) eM_tear_12 rfl (Nat.le_of_ble_eq_true rfl) rfl ?_
    refine v_aload_n X (pc := 13) 1 rfl eM_tear_13 rfl ?_
    refine v_iconst X (pc := 14) (v := (0 : Int32)) eM_tear_14 (by decide) ?_
    refine v_put X (pc := 15) 18 (mem' := (sI mem 12 0 18 (0 : Int32))) (by decide) (by decide) rfl (pf_12_18 _ _ _ _ _) rowI_ne rfl in_Model ty_Model_ok nm_Model (by decide) qw_666 rfl rfl rfl (Nat.le_of_ble_eq_true rfl) eM_tear_15 ?_
    refine v_iload_n X (pc := 18) 0 rfl eM_tear_18 rfl ?_
    exact v_iret X (pc := 19) h hr eM_tear_19
  · refine v_iconst X (pc := 7) (v := (1 : Int32)) eM_tear_7 (by decide) ?_
    refine v_goto X (pc := 8) (tgt := 12) eM_tear_8 (by decide) ?_
    refine v_istore_n X (pc := 12) (lv' := [(1, _), (0, _)]) eM_tear_12 rfl (Nat.le_of_ble_eq_true rfl) rfl ?_
    refine v_aload_n X (pc := 13) 1 rfl eM_tear_13 rfl ?_
    refine v_iconst X (pc := 14) (v := (0 : Int32)) eM_tear_14 (by decide) ?_
    refine v_put X (pc := 15) 18 (mem' := (sI mem 12 0 18 (0 : Int32))) (by decide) (by decide) rfl (pf_12_18 _ _ _ _ _) rowI_ne rfl in_Model ty_Model_ok nm_Model (by decide) qw_666 rfl rfl rfl (Nat.le_of_ble_eq_true rfl) eM_tear_15 ?_
    refine v_iload_n X (pc := 18) 0 rfl eM_tear_18 rfl ?_
    exact v_iret X (pc := 19) h hr eM_tear_19
set_option maxHeartbeats 4000000 in
set_option maxRecDepth 100000 in
theorem cM_count_46 {p : Program} {l : Launch} {e : Env} {s : State} {m : MethodId} {args : Array Value} {below : List Frame} {meth : Method} {c : Code} {k : KK} {f : Nat} {o : Int32} {mem' : Mem} (X : CX p s m args meth c k prog_6_method_81_code 4 "WallShiftsModel") (hr : meth.sig.returnType = (Option.some Jvm.ClassFile.FieldType.int)) : ∀ (n : Nat) (x2 : Int32) (x3 : Int32) (mem : Mem), dM_count_46 f n x2 x3 mem = some (o, mem') → V p l e (rmM 2 43) s m args below meth c 0 0 (MQ below (RQc k (some (aI o)) mem') args s 0 0 (kA k)) k 4 mem 46 [(0, aR 12 0), (2, aI x2), (3, aI x3)] [] := by
  intro n
  induction n with
  | zero =>
    intro x2 x3 mem  h
    exact nomatch (show (none : Option (Int32 × Mem)) = some _ from h)
  | succ n ih =>
    intro x2 x3 mem  h
    rw [dM_count_46] at h
    refine v_iload_n X (pc := 46) 2 rfl eM_count_46 rfl ?_
    refine v_aload_n X (pc := 47) 0 rfl eM_count_47 rfl ?_
    refine v_get X (pc := 48) 0 (a := aR 13 0) (by decide) (by decide) rfl rfl rfl in_Model (by decide) qw_648 rfl eM_count_48 ?_
    refine v_iconst X (pc := 51) (v := (5 : Int32)) eM_count_51 (by decide) ?_
    refine v_ialdK X (pc := 52) (n := 66) 5 (by decide) (by decide) (by decide) (by decide) rfl eM_count_52 ?_
    refine v_icmp_ge X (pc := 53) (tgt := 74) h eM_count_53 (by decide) (fun h => ?_) (fun h => ?_)
    · refine v_iload_n X (pc := 56) 1 rfl eM_count_56 rfl ?_
      refine v_aload_n X (pc := 57) 0 rfl eM_count_57 rfl ?_
      refine v_iload_n X (pc := 58) 2 rfl eM_count_58 rfl ?_
      refine v_iconst X (pc := 59) (v := (4 : Int32)) eM_count_59 (by decide) ?_
      obtain ⟨r1, m1, hc1, h⟩ := bd_some h
      refine v_callV X (pc := 60) [_, _] [_] ok_V_M_46 (cM_its  hc1) rfl (Nat.le_of_ble_eq_true rfl) ⟨Nat.le_of_ble_eq_true rfl, Nat.le_of_ble_eq_true rfl⟩ ⟨Nat.zero_le _, Nat.zero_le _⟩ (by decide) (by decide) rfl rfl eM_count_60 ?_
      obtain ⟨r2, m2, hc2, h⟩ := bd_some h
      refine v_callS X (pc := 63) [_] [_] ok_S_M_120 (cM_bits  hc2) rfl (Nat.le_of_ble_eq_true rfl) ⟨Nat.le_of_ble_eq_true rfl, Nat.le_of_ble_eq_true rfl⟩ ⟨Nat.zero_le _, Nat.zero_le _⟩ eM_count_63 ?_
      refine v_iadd X (pc := 66) eM_count_66 ?_
      refine v_istore_n X (pc := 67) (lv' := [(2, _), (0, _), (3, _)]) eM_count_67 rfl (Nat.le_of_ble_eq_true rfl) rfl ?_
      refine v_iinc X (pc := 68) (v := (x3 + (1 : Int32))) (lv' := [(3, _), (2, _), (0, _)]) 2 rfl (by rfl) eM_count_68 (Nat.le_of_ble_eq_true rfl) rfl ?_
      refine v_goto X (pc := 71) (tgt := 46) eM_count_71 (by decide) ?_
      exact v_sub [2, 1, 0] rfl (ih _ _ _  h)
    · refine v_iload_n X (pc := 74) 1 rfl eM_count_74 rfl ?_
      exact v_iret X (pc := 75) h hr eM_count_75
set_option maxHeartbeats 4000000 in
set_option maxRecDepth 100000 in
theorem cM_count_78 {p : Program} {l : Launch} {e : Env} {s : State} {m : MethodId} {args : Array Value} {below : List Frame} {meth : Method} {c : Code} {k : KK} {f : Nat} {o : Int32} {mem' : Mem} (X : CX p s m args meth c k prog_6_method_81_code 4 "WallShiftsModel") (hr : meth.sig.returnType = (Option.some Jvm.ClassFile.FieldType.int)) : ∀ (n : Nat) (x2 : Int32) (x3 : Int32) (mem : Mem), dM_count_78 f n x2 x3 mem = some (o, mem') → V p l e (rmM 2 43) s m args below meth c 0 0 (MQ below (RQc k (some (aI o)) mem') args s 0 0 (kA k)) k 4 mem 78 [(0, aR 12 0), (2, aI x2), (3, aI x3)] [] := by
  intro n
  induction n with
  | zero =>
    intro x2 x3 mem  h
    exact nomatch (show (none : Option (Int32 × Mem)) = some _ from h)
  | succ n ih =>
    intro x2 x3 mem  h
    rw [dM_count_78] at h
    refine v_iload_n X (pc := 78) 2 rfl eM_count_78 rfl ?_
    refine v_aload_n X (pc := 79) 0 rfl eM_count_79 rfl ?_
    refine v_get X (pc := 80) 0 (a := aR 13 0) (by decide) (by decide) rfl rfl rfl in_Model (by decide) qw_648 rfl eM_count_80 ?_
    refine v_iconst X (pc := 83) (v := (5 : Int32)) eM_count_83 (by decide) ?_
    refine v_ialdK X (pc := 84) (n := 66) 5 (by decide) (by decide) (by decide) (by decide) rfl eM_count_84 ?_
    refine v_icmp_ge X (pc := 85) (tgt := 110) h eM_count_85 (by decide) (fun h => ?_) (fun h => ?_)
    · refine v_iload_n X (pc := 88) 1 rfl eM_count_88 rfl ?_
      refine v_aload_n X (pc := 89) 0 rfl eM_count_89 rfl ?_
      refine v_iload_n X (pc := 90) 2 rfl eM_count_90 rfl ?_
      obtain ⟨r1, m1, hc1, h⟩ := bd_some h
      refine v_callV X (pc := 91) [_] [_] ok_V_M_83 (cM_isAwake  hc1) rfl (Nat.le_of_ble_eq_true rfl) ⟨Nat.le_of_ble_eq_true rfl, Nat.le_of_ble_eq_true rfl⟩ ⟨Nat.zero_le _, Nat.zero_le _⟩ (by decide) (by decide) rfl rfl eM_count_91 ?_
      refine v_if_eq X (pc := 94) (tgt := 101) h eM_count_94 (by decide) (fun h => ?_) (fun h => ?_)
      · refine v_iconst X (pc := 101) (v := (0 : Int32)) eM_count_101 (by decide) ?_
        refine v_iadd X (pc := 102) eM_count_102 ?_
        refine v_istore_n X (pc := 103) (lv' := [(2, _), (0, _), (3, _)]) eM_count_103 rfl (Nat.le_of_ble_eq_true rfl) rfl ?_
        refine v_iinc X (pc := 104) (v := (x3 + (1 : Int32))) (lv' := [(3, _), (2, _), (0, _)]) 2 rfl (by rfl) eM_count_104 (Nat.le_of_ble_eq_true rfl) rfl ?_
        refine v_goto X (pc := 107) (tgt := 78) eM_count_107 (by decide) ?_
        exact v_sub [2, 1, 0] rfl (ih _ _ _  h)
      · refine v_iconst X (pc := 97) (v := (1 : Int32)) eM_count_97 (by decide) ?_
        refine v_goto X (pc := 98) (tgt := 102) eM_count_98 (by decide) ?_
        refine v_iadd X (pc := 102) eM_count_102 ?_
        refine v_istore_n X (pc := 103) (lv' := [(2, _), (0, _), (3, _)]) eM_count_103 rfl (Nat.le_of_ble_eq_true rfl) rfl ?_
        refine v_iinc X (pc := 104) (v := (x3 + (1 : Int32))) (lv' := [(3, _), (2, _), (0, _)]) 2 rfl (by rfl) eM_count_104 (Nat.le_of_ble_eq_true rfl) rfl ?_
        refine v_goto X (pc := 107) (tgt := 78) eM_count_107 (by decide) ?_
        exact v_sub [2, 1, 0] rfl (ih _ _ _  h)
    · refine v_iload_n X (pc := 110) 1 rfl eM_count_110 rfl ?_
      exact v_iret X (pc := 111) h hr eM_count_111
set_option maxHeartbeats 4000000 in
set_option maxRecDepth 100000 in
theorem cM_count {f : Nat} {a1 : Int32} {mem : Mem} {o : Int32} {mem' : Mem}  (h : dM_count f a1 mem = some (o, mem')) : RT yM_count prog_6_method_81_code 4 (Option.some Jvm.ClassFile.FieldType.int) (rmM 2 43) [aR 12 0, aI a1] mem (some (aI o)) mem' := by
  refine RT.of (by decide +kernel) (Nat.le_of_ble_eq_true rfl) (fun p l e s m args below meth c k X hr => ?_)
  replace X : CX p s m args meth c k prog_6_method_81_code 4 "WallShiftsModel" := X
  unfold dM_count at h
  refine v_sub (lv' := [(0, _), (1, _)]) [0, 1] rfl ?_
  refine v_iconst X (pc := 0) (v := (0 : Int32)) eM_count_0 (by decide) ?_
  refine v_istore_n X (pc := 1) (lv' := [(2, _), (0, _), (1, _)]) eM_count_1 rfl (Nat.le_of_ble_eq_true rfl) rfl ?_
  refine v_iload_n X (pc := 2) 2 rfl eM_count_2 rfl ?_
  by_cases g0 : a1 = (0 : Int32)
  · have h := it_t h g0
    refine v_tsw X (pc := 3) (tgt := 32) (0 : Int32) g0 eM_count_3 (by decide) (by decide) rfl (by decide) ?_
    refine v_aload_n X (pc := 32) 1 rfl eM_count_32 rfl ?_
    refine v_get X (pc := 33) 0 (a := aR 13 0) (by decide) (by decide) rfl rfl rfl in_Model (by decide) qw_648 rfl eM_count_33 ?_
    refine v_iconst X (pc := 36) (v := (5 : Int32)) eM_count_36 (by decide) ?_
    refine v_ialdK X (pc := 37) (n := 66) 5 (by decide) (by decide) (by decide) (by decide) rfl eM_count_37 ?_
    exact v_iret X (pc := 38) h hr eM_count_38
  have h := it_f h g0
  by_cases g1 : a1 = (1 : Int32)
  · have h := it_t h g1
    refine v_tsw X (pc := 3) (tgt := 39) (1 : Int32) g1 eM_count_3 (by decide) (by decide) rfl (by decide) ?_
    refine v_aload_n X (pc := 39) 1 rfl eM_count_39 rfl ?_
    refine v_get X (pc := 40) 5 (a := aI (gI mem 12 0 5)) (by decide) (by decide) rfl rfl rfl in_Model (by decide) qw_653 rfl eM_count_40 ?_
    exact v_iret X (pc := 43) h hr eM_count_43
  have h := it_f h g1
  by_cases g2 : a1 = (2 : Int32)
  · have h := it_t h g2
    refine v_tsw X (pc := 3) (tgt := 44) (2 : Int32) g2 eM_count_3 (by decide) (by decide) rfl (by decide) ?_
    refine v_iconst X (pc := 44) (v := (0 : Int32)) eM_count_44 (by decide) ?_
    refine v_istore_n X (pc := 45) (lv' := [(3, _), (2, _), (0, _), (1, _)]) eM_count_45 rfl (Nat.le_of_ble_eq_true rfl) rfl ?_
    exact v_sub [2, 1, 0] rfl (cM_count_46 X hr _ _ _ _  h)
  have h := it_f h g2
  by_cases g3 : a1 = (3 : Int32)
  · have h := it_t h g3
    refine v_tsw X (pc := 3) (tgt := 76) (3 : Int32) g3 eM_count_3 (by decide) (by decide) rfl (by decide) ?_
    refine v_iconst X (pc := 76) (v := (0 : Int32)) eM_count_76 (by decide) ?_
    refine v_istore_n X (pc := 77) (lv' := [(3, _), (2, _), (0, _), (1, _)]) eM_count_77 rfl (Nat.le_of_ble_eq_true rfl) rfl ?_
    exact v_sub [2, 1, 0] rfl (cM_count_78 X hr _ _ _ _  h)
  have h := it_f h g3
  refine v_tswD X (pc := 3) (tgt := 112) (tsw_out_0_3 g0 g1 g2 g3) eM_count_3 (by decide) ?_
  refine v_aload_n X (pc := 112) 1 rfl eM_count_112 rfl ?_
  refine v_ldc X (pc := 113) qw_717 eM_count_113 ?_
  obtain ⟨r1, m1, hc1, h⟩ := bd_some h
  refine v_callV X (pc := 115) [_] [] ok_V_M_57 (cM_finds  hc1) rfl (Nat.le_of_ble_eq_true rfl) ⟨Nat.le_of_ble_eq_true rfl, Nat.le_of_ble_eq_true rfl⟩ ⟨Nat.zero_le _, Nat.zero_le _⟩ (by decide) (by decide) rfl rfl eM_count_115 ?_
  exact v_iret X (pc := 118) h hr eM_count_118
set_option maxHeartbeats 4000000 in
set_option maxRecDepth 100000 in
theorem cM_status_21 {p : Program} {l : Launch} {e : Env} {s : State} {m : MethodId} {args : Array Value} {below : List Frame} {meth : Method} {c : Code} {k : KK} {f : Nat} {o : Int32} {mem' : Mem} (X : CX p s m args meth c k prog_6_method_82_code 4 "WallShiftsModel") (hr : meth.sig.returnType = (Option.some Jvm.ClassFile.FieldType.int)) : ∀ (n : Nat) (x1 : Int32) (x2 : Int32) (x3 : Int32) (mem : Mem), dM_status_21 f n x1 x2 x3 mem = some (o, mem') → V p l e (rmM 1 22) s m args below meth c 0 0 (MQ below (RQc k (some (aI o)) mem') args s 0 0 (kA k)) k 4 mem 21 [(0, aR 12 0), (1, aI x1), (2, aI x2), (3, aI x3)] [] := by
  intro n
  induction n with
  | zero =>
    intro x1 x2 x3 mem  h
    exact nomatch (show (none : Option (Int32 × Mem)) = some _ from h)
  | succ n ih =>
    intro x1 x2 x3 mem  h
    rw [dM_status_21] at h
    refine v_iload_n X (pc := 21) 3 rfl eM_status_21 rfl ?_
    refine v_bipush X (pc := 22) (v := (7 : Int32)) eM_status_22 (by decide) ?_
    refine v_icmp_ge X (pc := 24) (tgt := 42) h eM_status_24 (by decide) (fun h => ?_) (fun h => ?_)
    · refine v_iload_n X (pc := 27) 2 rfl eM_status_27 rfl ?_
      refine v_aload_n X (pc := 28) 0 rfl eM_status_28 rfl ?_
      refine v_get X (pc := 29) 1 (a := aR 14 0) (by decide) (by decide) rfl rfl rfl in_Model (by decide) qw_649 rfl eM_status_29 ?_
      refine v_iload_n X (pc := 32) 3 rfl eM_status_32 rfl ?_
      refine v_iald X (pc := 33) h (by decide) (by decide) rfl eM_status_33 (fun h => ?_)
      refine v_iadd X (pc := 34) eM_status_34 ?_
      refine v_istore_n X (pc := 35) (lv' := [(2, _), (0, _), (1, _), (3, _)]) eM_status_35 rfl (Nat.le_of_ble_eq_true rfl) rfl ?_
      refine v_iinc X (pc := 36) (v := (x3 + (1 : Int32))) (lv' := [(3, _), (2, _), (0, _), (1, _)]) 3 rfl (by rfl) eM_status_36 (Nat.le_of_ble_eq_true rfl) rfl ?_
      refine v_goto X (pc := 39) (tgt := 21) eM_status_39 (by decide) ?_
      exact v_sub [2, 3, 1, 0] rfl (ih _ _ _ _  h)
    · refine v_iload_n X (pc := 42) 1 rfl eM_status_42 rfl ?_
      refine v_if_ge X (pc := 43) (tgt := 50) h eM_status_43 (by decide) (fun h => ?_) (fun h => ?_)
      · refine v_iload_n X (pc := 46) 2 rfl eM_status_46 rfl ?_
        refine v_goto X (pc := 47) (tgt := 64) eM_status_47 (by decide) ?_
        exact v_iret X (pc := 64) h hr eM_status_64
      · refine v_aload_n X (pc := 50) 0 rfl eM_status_50 rfl ?_
        refine v_get X (pc := 51) 1 (a := aR 14 0) (by decide) (by decide) rfl rfl rfl in_Model (by decide) qw_649 rfl eM_status_51 ?_
        refine v_iload_n X (pc := 54) 1 rfl eM_status_54 rfl ?_
        refine v_if_ge X (pc := 55) (tgt := 62) h eM_status_55 (by decide) (fun h => ?_) (fun h => ?_)
        · refine v_iconst X (pc := 58) (v := (0 : Int32)) eM_status_58 (by decide) ?_
          refine v_goto X (pc := 59) (tgt := 63) eM_status_59 (by decide) ?_
          refine v_ialdK X (pc := 63) (n := 7) 0 (by decide) (by decide) (by decide) (by decide) rfl eM_status_63 ?_
          exact v_iret X (pc := 64) h hr eM_status_64
        · refine v_iload_n X (pc := 62) 1 rfl eM_status_62 rfl ?_
          refine v_iald X (pc := 63) h (by decide) (by decide) rfl eM_status_63 (fun h => ?_)
          exact v_iret X (pc := 64) h hr eM_status_64
set_option maxHeartbeats 4000000 in
set_option maxRecDepth 100000 in
theorem cM_status {f : Nat} {a1 : Int32} {mem : Mem} {o : Int32} {mem' : Mem}  (h : dM_status f a1 mem = some (o, mem')) : RT yM_status prog_6_method_82_code 4 (Option.some Jvm.ClassFile.FieldType.int) (rmM 1 22) [aR 12 0, aI a1] mem (some (aI o)) mem' := by
  refine RT.of (by decide +kernel) (Nat.le_of_ble_eq_true rfl) (fun p l e s m args below meth c k X hr => ?_)
  replace X : CX p s m args meth c k prog_6_method_82_code 4 "WallShiftsModel" := X
  unfold dM_status at h
  refine v_sub (lv' := [(0, _), (1, _)]) [0, 1] rfl ?_
  refine v_iload_n X (pc := 0) 1 rfl eM_status_0 rfl ?_
  refine v_iconst X (pc := 1) (v := (-1 : Int32)) eM_status_1 (by decide) ?_
  refine v_bipush X (pc := 2) (v := (6 : Int32)) eM_status_2 (by decide) ?_
  obtain ⟨r1, m1, hc1, h⟩ := bd_some h
  refine v_callS X (pc := 4) [_, _, _] [] ok_S_M_42 (cM_in  hc1) rfl (Nat.le_of_ble_eq_true rfl) ⟨Nat.le_of_ble_eq_true rfl, Nat.le_of_ble_eq_true rfl⟩ ⟨Nat.zero_le _, Nat.zero_le _⟩ eM_status_4 ?_
  refine v_if_ne X (pc := 7) (tgt := 17) h eM_status_7 (by decide) (fun h => ?_) (fun h => ?_)
  · refine v_aload_n X (pc := 10) 0 rfl eM_status_10 rfl ?_
    refine v_ldc X (pc := 11) qw_717 eM_status_11 ?_
    obtain ⟨r2, m2, hc2, h⟩ := bd_some h
    refine v_callV X (pc := 13) [_] [] ok_V_M_57 (cM_finds  hc2) rfl (Nat.le_of_ble_eq_true rfl) ⟨Nat.le_of_ble_eq_true rfl, Nat.le_of_ble_eq_true rfl⟩ ⟨Nat.zero_le _, Nat.zero_le _⟩ (by decide) (by decide) rfl rfl eM_status_13 ?_
    exact v_iret X (pc := 16) h hr eM_status_16
  · refine v_iconst X (pc := 17) (v := (0 : Int32)) eM_status_17 (by decide) ?_
    refine v_istore_n X (pc := 18) (lv' := [(2, _), (0, _), (1, _)]) eM_status_18 rfl (Nat.le_of_ble_eq_true rfl) rfl ?_
    refine v_iconst X (pc := 19) (v := (0 : Int32)) eM_status_19 (by decide) ?_
    refine v_istore_n X (pc := 20) (lv' := [(3, _), (2, _), (0, _), (1, _)]) eM_status_20 rfl (Nat.le_of_ble_eq_true rfl) rfl ?_
    exact v_sub [2, 3, 1, 0] rfl (cM_status_21 X hr _ _ _ _ _  h)
