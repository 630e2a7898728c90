/-! GENERATED: the walks. -/
set_option maxHeartbeats 4000000 in
set_option maxRecDepth 100000 in
theorem cP_utter {f : Nat} {q0 : Nat} {a1 : Int32} {a2 : Int32} {mem : Mem} {o : Int32} {mem' : Mem} (hq0 : q0 < 3) (h : dP_utter f q0 a1 a2 mem = some (o, mem')) : RT yP_utter prog_2_method_14_code 8 (Option.some Jvm.ClassFile.FieldType.int) (rmM 2 53) [aR 1 q0, aI a1, aI a2] mem (some (aI o)) mem' := by
  refine RT.of (by decide +kernel) (Nat.le_of_ble_eq_true rfl) (fun p l e s m args below meth c k X hr => ?_)
  replace X : CX p s m args meth c k prog_2_method_14_code 8 "WallShifts$Palace" := X
  unfold dP_utter at h
  refine v_sub (lv' := [(0, _), (1, _), (2, _)]) [0, 1, 2] rfl ?_
  refine v_iload_n X (pc := 0) 1 rfl eP_utter_0 rfl ?_
  refine v_aload_n X (pc := 1) 0 rfl eP_utter_1 rfl ?_
  refine v_aload_n X (pc := 2) 0 rfl eP_utter_2 rfl ?_
  refine v_get X (pc := 3) 0 (a := aI (gI mem 1 q0 0)) (by decide) hq0 rfl rfl rfl in_Palace (by decide) qw_30 rfl eP_utter_3 ?_
  refine v_aload_n X (pc := 6) 0 rfl eP_utter_6 rfl ?_
  refine v_get X (pc := 7) 1 (a := aR 2 q0) (by decide) hq0 rfl rfl rfl in_Palace (by decide) qw_32 rfl eP_utter_7 ?_
  refine v_iconst X (pc := 10) (v := (0 : Int32)) eP_utter_10 (by decide) ?_
  refine v_ialdK X (pc := 11) (n := 4) 0 (by decide) (by decide) (by decide) hq0 rfl eP_utter_11 ?_
  obtain ⟨r1, m1, hc1, h⟩ := bd_some h
  refine v_callV X (pc := 12) [_, _] [_] ok_V_P_36 (cP_onDuty hq0 hc1) rfl (Nat.le_of_ble_eq_true rfl) ⟨Nat.le_of_ble_eq_true rfl, Nat.le_of_ble_eq_true rfl⟩ ⟨Nat.zero_le _, Nat.zero_le _⟩ (by decide) hq0 rfl rfl eP_utter_12 ?_
  refine v_iand X (pc := 15) eP_utter_15 ?_
  refine v_istore_n X (pc := 16) (lv' := [(3, _), (0, _), (1, _), (2, _)]) eP_utter_16 rfl (Nat.le_of_ble_eq_true rfl) rfl ?_
  refine v_iconst X (pc := 17) (v := (0 : Int32)) eP_utter_17 (by decide) ?_
  refine v_istore X (pc := 18) (lv' := [(4, _), (3, _), (0, _), (1, _), (2, _)]) eP_utter_18 (Nat.le_of_ble_eq_true rfl) rfl ?_
  refine v_iconst X (pc := 20) (v := (0 : Int32)) eP_utter_20 (by decide) ?_
  refine v_istore X (pc := 21) (lv' := [(5, _), (4, _), (3, _), (0, _), (1, _), (2, _)]) eP_utter_21 (Nat.le_of_ble_eq_true rfl) rfl ?_
  exact v_sub [3, 5, 2, 1, 0] rfl (cP_utter_23 X hr _ _ _ _ _ _ _ hq0 h)
set_option maxHeartbeats 4000000 in
set_option maxRecDepth 100000 in
theorem cW_say {f : Nat} {a1 : Int32} {a2 : Int32} {mem : Mem} {o : Int32} {mem' : Mem}  (h : dW_say f a1 a2 mem = some (o, mem')) : RT yW_say prog_1_method_9_code 3 (Option.some Jvm.ClassFile.FieldType.int) (rmM 3 80) [aR 0 0, aI a1, aI a2] mem (some (aI o)) mem' := by
  refine RT.of (by decide +kernel) (Nat.le_of_ble_eq_true rfl) (fun p l e s m args below meth c k X hr => ?_)
  replace X : CX p s m args meth c k prog_1_method_9_code 3 "WallShifts" := X
  unfold dW_say at h
  refine v_sub (lv' := [(0, _), (1, _), (2, _)]) [0, 1, 2] rfl ?_
  refine v_iload_n X (pc := 0) 1 rfl eW_say_0 rfl ?_
  obtain ⟨r1, m1, hc1, h⟩ := bd_some h
  refine v_callS X (pc := 1) [_] [] ok_S_W_63 (cW_isRoom  hc1) rfl (Nat.le_of_ble_eq_true rfl) ⟨Nat.le_of_ble_eq_true rfl, Nat.le_of_ble_eq_true rfl⟩ ⟨Nat.zero_le _, Nat.zero_le _⟩ eW_say_1 ?_
  refine v_if_eq X (pc := 4) (tgt := 14) h eW_say_4 (by decide) (fun h => ?_) (fun h => ?_)
  · refine v_aload_n X (pc := 14) 0 rfl eW_say_14 rfl ?_
    refine v_ldc X (pc := 15) qw_135 eW_say_15 ?_
    obtain ⟨r2, m2, hc2, h⟩ := bd_some h
    refine v_callV X (pc := 17) [_] [] ok_V_W_52 (cW_finding  hc2) rfl (Nat.le_of_ble_eq_true rfl) ⟨Nat.le_of_ble_eq_true rfl, Nat.le_of_ble_eq_true rfl⟩ ⟨Nat.zero_le _, Nat.zero_le _⟩ (by decide) (by decide) rfl rfl eW_say_17 ?_
    exact v_iret X (pc := 20) h hr eW_say_20
  · refine v_iload_n X (pc := 7) 2 rfl eW_say_7 rfl ?_
    obtain ⟨r3, m3, hc3, h⟩ := bd_some h
    refine v_callS X (pc := 8) [_] [] ok_S_W_111 (cW_isWord  hc3) rfl (Nat.le_of_ble_eq_true rfl) ⟨Nat.le_of_ble_eq_true rfl, Nat.le_of_ble_eq_true rfl⟩ ⟨Nat.zero_le _, Nat.zero_le _⟩ eW_say_8 ?_
    refine v_if_ne X (pc := 11) (tgt := 21) h eW_say_11 (by decide) (fun h => ?_) (fun h => ?_)
    · refine v_aload_n X (pc := 14) 0 rfl eW_say_14 rfl ?_
      refine v_ldc X (pc := 15) qw_135 eW_say_15 ?_
      obtain ⟨r4, m4, hc4, h⟩ := bd_some h
      refine v_callV X (pc := 17) [_] [] ok_V_W_52 (cW_finding  hc4) rfl (Nat.le_of_ble_eq_true rfl) ⟨Nat.le_of_ble_eq_true rfl, Nat.le_of_ble_eq_true rfl⟩ ⟨Nat.zero_le _, Nat.zero_le _⟩ (by decide) (by decide) rfl rfl eW_say_17 ?_
      exact v_iret X (pc := 20) h hr eW_say_20
    · refine v_aload_n X (pc := 21) 0 rfl eW_say_21 rfl ?_
      refine v_get X (pc := 22) 0 (a := aR 1 0) (by decide) (by decide) rfl rfl rfl in_WallShifts (by decide) qw_96 rfl eW_say_22 ?_
      refine v_aload_n X (pc := 25) 0 rfl eW_say_25 rfl ?_
      refine v_get X (pc := 26) 0 (a := aR 1 0) (by decide) (by decide) rfl rfl rfl in_WallShifts (by decide) qw_96 rfl eW_say_26 ?_
      refine v_iload_n X (pc := 29) 1 rfl eW_say_29 rfl ?_
      obtain ⟨r5, m5, hc5, h⟩ := bd_some h
      refine v_callV X (pc := 30) [_] [_] ok_V_W_119 (cP_near (by decide) hc5) rfl (Nat.le_of_ble_eq_true rfl) ⟨Nat.le_of_ble_eq_true rfl, Nat.le_of_ble_eq_true rfl⟩ ⟨Nat.zero_le _, Nat.zero_le _⟩ (by decide) (by decide) rfl rfl eW_say_30 ?_
      refine v_iload_n X (pc := 33) 2 rfl eW_say_33 rfl ?_
      obtain ⟨r6, m6, hc6, h⟩ := bd_some h
      refine v_callV X (pc := 34) [_, _] [] ok_V_W_122 (cP_utter (by decide) hc6) rfl (Nat.le_of_ble_eq_true rfl) ⟨Nat.le_of_ble_eq_true rfl, Nat.le_of_ble_eq_true rfl⟩ ⟨Nat.zero_le _, Nat.zero_le _⟩ (by decide) (by decide) rfl rfl eW_say_34 ?_
      exact v_iret X (pc := 37) h hr eW_say_37
set_option maxHeartbeats 4000000 in
set_option maxRecDepth 100000 in
theorem cP_goOn_31 {p : Program} {l : Launch} {e : Env} {s : State} {m : MethodId} {args : Array Value} {below : List Frame} {meth : Method} {c : Code} {k : KK} {f : Nat} {o : Unit} {mem' : Mem} (X : CX p s m args meth c k prog_2_method_16_code 3 "WallShifts$Palace") (hr : meth.sig.returnType = (Option.none : Option Jvm.ClassFile.FieldType)) : ∀ (n : Nat) (q0 : Nat) (x1 : Int32) (x2 : Int32) (mem : Mem), q0 < 3 → dP_goOn_31 f n q0 x1 x2 mem = some (o, mem') → V p l e (rmM 1 21) s m args below meth c 0 0 (MQ below (RQc k none mem') args s 0 0 (kA k)) k 3 mem 31 [(0, aR 1 q0), (1, aI x1), (2, aI x2)] [] := by
  intro n
  induction n with
  | zero =>
    intro q0 x1 x2 mem hq0 h
    exact nomatch (show (none : Option (Unit × Mem)) = some _ from h)
  | succ n ih =>
    intro q0 x1 x2 mem hq0 h
    rw [dP_goOn_31] at h
    refine v_iload_n X (pc := 31) 2 rfl eP_goOn_31 rfl ?_
    refine v_aload_n X (pc := 32) 0 rfl eP_goOn_32 rfl ?_
    refine v_get X (pc := 33) 2 (a := aI (gI mem 1 q0 2)) (by decide) hq0 rfl rfl rfl in_Palace (by decide) qw_34 rfl eP_goOn_33 ?_
    refine v_icmp_ge X (pc := 36) (tgt := 73) h eP_goOn_36 (by decide) (fun h => ?_) (fun h => ?_)
    · refine v_aload_n X (pc := 39) 0 rfl eP_goOn_39 rfl ?_
      refine v_get X (pc := 40) 3 (a := aR 3 q0) (by decide) hq0 rfl rfl rfl in_Palace (by decide) qw_36 rfl eP_goOn_40 ?_
      refine v_iload_n X (pc := 43) 2 rfl eP_goOn_43 rfl ?_
      refine v_aaldW X (pc := 44) h hq0 eP_goOn_44 (fun hb1 h => ?_)
      refine v_iconst X (pc := 45) (v := (3 : Int32)) eP_goOn_45 (by decide) ?_
      refine v_ialdK X (pc := 46) (n := 6) 3 (by decide) (by decide) (by decide) hb1 rfl eP_goOn_46 ?_
      refine v_aload_n X (pc := 47) 0 rfl eP_goOn_47 rfl ?_
      refine v_get X (pc := 48) 0 (a := aI (gI mem 1 q0 0)) (by decide) hq0 rfl rfl rfl in_Palace (by decide) qw_30 rfl eP_goOn_48 ?_
      refine v_iload_n X (pc := 51) 1 rfl eP_goOn_51 rfl ?_
      obtain ⟨r2, m2, hc2, h⟩ := bd_some h
      refine v_callN X (pc := 52) [_, _] [_] ok_N_P_40 (cW_quarterOf  hc2) rfl (Nat.le_of_ble_eq_true rfl) ⟨Nat.le_of_ble_eq_true rfl, Nat.le_of_ble_eq_true rfl⟩ ⟨Nat.zero_le _, Nat.zero_le _⟩ eP_goOn_52 ?_
      refine v_icmp_ne X (pc := 55) (tgt := 67) h eP_goOn_55 (by decide) (fun h => ?_) (fun h => ?_)
      · refine v_aload_n X (pc := 58) 0 rfl eP_goOn_58 rfl ?_
        refine v_get X (pc := 59) 3 (a := aR 3 q0) (by decide) hq0 rfl rfl rfl in_Palace (by decide) qw_36 rfl eP_goOn_59 ?_
        refine v_iload_n X (pc := 62) 2 rfl eP_goOn_62 rfl ?_
        refine v_aaldW X (pc := 63) h hq0 eP_goOn_63 (fun hb3 h => ?_)
        refine v_iconst X (pc := 64) (v := (5 : Int32)) eP_goOn_64 (by decide) ?_
        refine v_iconst X (pc := 65) (v := (0 : Int32)) eP_goOn_65 (by decide) ?_
        refine v_iastK X (pc := 66) (n := 6) 5 (by decide) (by decide) (by decide) hb3 (fun _ => rfl) eP_goOn_66 ?_
        refine v_iinc X (pc := 67) (v := (x2 + (1 : Int32))) (lv' := [(2, _), (0, _), (1, _)]) 2 rfl (by rfl) eP_goOn_67 (Nat.le_of_ble_eq_true rfl) rfl ?_
        refine v_goto X (pc := 70) (tgt := 31) eP_goOn_70 (by decide) ?_
        exact v_sub [1, 2, 0] rfl (ih _ _ _ _ hq0 h)
      · refine v_iinc X (pc := 67) (v := (x2 + (1 : Int32))) (lv' := [(2, _), (0, _), (1, _)]) 2 rfl (by rfl) eP_goOn_67 (Nat.le_of_ble_eq_true rfl) rfl ?_
        refine v_goto X (pc := 70) (tgt := 31) eP_goOn_70 (by decide) ?_
        exact v_sub [1, 2, 0] rfl (ih _ _ _ _ hq0 h)
    · exact v_vret X (pc := 73) h hr eP_goOn_73
set_option maxHeartbeats 4000000 in
set_option maxRecDepth 100000 in
theorem cP_goOn {f : Nat} {q0 : Nat} {mem : Mem} {o : Unit} {mem' : Mem} (hq0 : q0 < 3) (h : dP_goOn f q0 mem = some (o, mem')) : RT yP_goOn prog_2_method_16_code 3 (Option.none : Option Jvm.ClassFile.FieldType) (rmM 1 21) [aR 1 q0] mem none mem' := by
  refine RT.of (by decide +kernel) (Nat.le_of_ble_eq_true rfl) (fun p l e s m args below meth c k X hr => ?_)
  replace X : CX p s m args meth c k prog_2_method_16_code 3 "WallShifts$Palace" := X
  unfold dP_goOn at h
  refine v_sub (lv' := [(0, _)]) [0] rfl ?_
  refine v_aload_n X (pc := 0) 0 rfl eP_goOn_0 rfl ?_
  refine v_dup X (pc := 1) rfl eP_goOn_1 ?_
  refine v_get X (pc := 2) 0 (a := aI (gI mem 1 q0 0)) (by decide) hq0 rfl rfl rfl in_Palace (by decide) qw_30 rfl eP_goOn_2 ?_
  refine v_iconst X (pc := 5) (v := (1 : Int32)) eP_goOn_5 (by decide) ?_
  refine v_iadd X (pc := 6) eP_goOn_6 ?_
  refine v_put X (pc := 7) 0 (mem' := (sI mem 1 q0 0 ((gI mem 1 q0 0) + (1 : Int32)))) (by decide) hq0 rfl (pf_1_0 _ _ _ _ _) rowI_ne rfl in_Palace ty_Palace_ok nm_Palace (by decide) qw_30 rfl rfl rfl (Nat.le_of_ble_eq_true rfl) eP_goOn_7 ?_
  refine v_aload_n X (pc := 10) 0 rfl eP_goOn_10 rfl ?_
  refine v_get X (pc := 11) 1 (a := aR 2 q0) (by decide) hq0 rfl rfl rfl in_Palace (by decide) qw_32 rfl eP_goOn_11 ?_
  refine v_iconst X (pc := 14) (v := (0 : Int32)) eP_goOn_14 (by decide) ?_
  refine v_ialdK X (pc := 15) (n := 4) 0 (by decide) (by decide) (by decide) hq0 rfl eP_goOn_15 ?_
  refine v_istore_n X (pc := 16) (lv' := [(1, _), (0, _)]) eP_goOn_16 rfl (Nat.le_of_ble_eq_true rfl) rfl ?_
  refine v_aload_n X (pc := 17) 1 rfl eP_goOn_17 rfl ?_
  refine v_get X (pc := 18) 0 (a := aI (gI (sI mem 1 q0 0 ((gI mem 1 q0 0) + (1 : Int32))) 1 q0 0)) (by decide) hq0 rfl rfl rfl in_Palace (by decide) qw_30 rfl eP_goOn_18 ?_
  refine v_iload_n X (pc := 21) 0 rfl eP_goOn_21 rfl ?_
  obtain ⟨r1, m1, hc1, h⟩ := bd_some h
  refine v_callN X (pc := 22) [_, _] [] ok_N_P_43 (cW_restOf  hc1) rfl (Nat.le_of_ble_eq_true rfl) ⟨Nat.le_of_ble_eq_true rfl, Nat.le_of_ble_eq_true rfl⟩ ⟨Nat.zero_le _, Nat.zero_le _⟩ eP_goOn_22 ?_
  refine v_if_eq X (pc := 25) (tgt := 29) h eP_goOn_25 (by decide) (fun h => ?_) (fun h => ?_)
  · refine v_iconst X (pc := 29) (v := (0 : Int32)) eP_goOn_29 (by decide) ?_
    refine v_istore_n X (pc := 30) (lv' := [(2, _), (1, _), (0, _)]) eP_goOn_30 rfl (Nat.le_of_ble_eq_true rfl) rfl ?_
    exact v_sub [2, 1, 0] rfl (cP_goOn_31 X hr _ _ _ _ _ hq0 h)
  · exact v_vret X (pc := 28) h hr eP_goOn_28
set_option maxHeartbeats 4000000 in
set_option maxRecDepth 100000 in
theorem cW_pass_41 {p : Program} {l : Launch} {e : Env} {s : State} {m : MethodId} {args : Array Value} {below : List Frame} {meth : Method} {c : Code} {k : KK} {f : Nat} {o : Int32} {mem' : Mem} (X : CX p s m args meth c k prog_1_method_10_code 3 "WallShifts") (hr : meth.sig.returnType = (Option.some Jvm.ClassFile.FieldType.int)) : ∀ (n : Nat) (x1 : Int32) (x2 : Int32) (mem : Mem), dW_pass_41 f n x1 x2 mem = some (o, mem') → V p l e (rmM 2 44) s m args below meth c 0 0 (MQ below (RQc k (some (aI o)) mem') args s 0 0 (kA k)) k 3 mem 41 [(0, aR 0 0), (1, aI x1), (2, aI x2)] [] := by
  intro n
  induction n with
  | zero =>
    intro x1 x2 mem  h
    exact nomatch (show (none : Option (Int32 × Mem)) = some _ from h)
  | succ n ih =>
    intro x1 x2 mem  h
    rw [dW_pass_41] at h
    refine v_iload_n X (pc := 41) 2 rfl eW_pass_41 rfl ?_
    refine v_iload_n X (pc := 42) 1 rfl eW_pass_42 rfl ?_
    refine v_icmp_ge X (pc := 43) (tgt := 59) h eW_pass_43 (by decide) (fun h => ?_) (fun h => ?_)
    · refine v_aload_n X (pc := 46) 0 rfl eW_pass_46 rfl ?_
      refine v_get X (pc := 47) 0 (a := aR 1 0) (by decide) (by decide) rfl rfl rfl in_WallShifts (by decide) qw_96 rfl eW_pass_47 ?_
      obtain ⟨r1, m1, hc1, h⟩ := bd_some h
      refine v_callV X (pc := 50) [] [] ok_V_W_128 (cP_goOn (by decide) hc1) rfl (Nat.le_of_ble_eq_true rfl) ⟨Nat.le_of_ble_eq_true rfl, Nat.le_of_ble_eq_true rfl⟩ ⟨Nat.zero_le _, Nat.zero_le _⟩ (by decide) (by decide) rfl rfl eW_pass_50 ?_
      refine v_iinc X (pc := 53) (v := (x2 + (1 : Int32))) (lv' := [(2, _), (0, _), (1, _)]) 2 rfl (by rfl) eW_pass_53 (Nat.le_of_ble_eq_true rfl) rfl ?_
      refine v_goto X (pc := 56) (tgt := 41) eW_pass_56 (by decide) ?_
      exact v_sub [1, 2, 0] rfl (ih _ _ _  h)
    · refine v_aload_n X (pc := 59) 0 rfl eW_pass_59 rfl ?_
      refine v_get X (pc := 60) 0 (a := aR 1 0) (by decide) (by decide) rfl rfl rfl in_WallShifts (by decide) qw_96 rfl eW_pass_60 ?_
      refine v_get X (pc := 63) 0 (a := aI (gI mem 1 0 0)) (by decide) (by decide) rfl rfl rfl in_Palace (by decide) qw_31 rfl eW_pass_63 ?_
      exact v_iret X (pc := 66) h hr eW_pass_66
set_option maxHeartbeats 4000000 in
set_option maxRecDepth 100000 in
theorem cW_pass {f : Nat} {a1 : Int32} {mem : Mem} {o : Int32} {mem' : Mem}  (h : dW_pass f a1 mem = some (o, mem')) : RT yW_pass prog_1_method_10_code 3 (Option.some Jvm.ClassFile.FieldType.int) (rmM 2 44) [aR 0 0, aI a1] mem (some (aI o)) mem' := by
  refine RT.of (by decide +kernel) (Nat.le_of_ble_eq_true rfl) (fun p l e s m args below meth c k X hr => ?_)
  replace X : CX p s m args meth c k prog_1_method_10_code 3 "WallShifts" := X
  unfold dW_pass at h
  refine v_sub (lv' := [(0, _), (1, _)]) [0, 1] rfl ?_
  refine v_iload_n X (pc := 0) 1 rfl eW_pass_0 rfl ?_
  refine v_iconst X (pc := 1) (v := (1 : Int32)) eW_pass_1 (by decide) ?_
  refine v_sipush X (pc := 2) (v := (240 : Int32)) eW_pass_2 (by decide) ?_
  obtain ⟨r1, m1, hc1, h⟩ := bd_some h
  refine v_callS X (pc := 5) [_, _, _] [] ok_S_W_82 (cW_isIn  hc1) rfl (Nat.le_of_ble_eq_true rfl) ⟨Nat.le_of_ble_eq_true rfl, Nat.le_of_ble_eq_true rfl⟩ ⟨Nat.zero_le _, Nat.zero_le _⟩ eW_pass_5 ?_
  refine v_if_ne X (pc := 8) (tgt := 18) h eW_pass_8 (by decide) (fun h => ?_) (fun h => ?_)
  · refine v_aload_n X (pc := 11) 0 rfl eW_pass_11 rfl ?_
    refine v_ldc X (pc := 12) qw_135 eW_pass_12 ?_
    obtain ⟨r2, m2, hc2, h⟩ := bd_some h
    refine v_callV X (pc := 14) [_] [] ok_V_W_52 (cW_finding  hc2) rfl (Nat.le_of_ble_eq_true rfl) ⟨Nat.le_of_ble_eq_true rfl, Nat.le_of_ble_eq_true rfl⟩ ⟨Nat.zero_le _, Nat.zero_le _⟩ (by decide) (by decide) rfl rfl eW_pass_14 ?_
    exact v_iret X (pc := 17) h hr eW_pass_17
  · refine v_aload_n X (pc := 18) 0 rfl eW_pass_18 rfl ?_
    refine v_get X (pc := 19) 0 (a := aR 1 0) (by decide) (by decide) rfl rfl rfl in_WallShifts (by decide) qw_96 rfl eW_pass_19 ?_
    refine v_get X (pc := 22) 0 (a := aI (gI m1 1 0 0)) (by decide) (by decide) rfl rfl rfl in_Palace (by decide) qw_31 rfl eW_pass_22 ?_
    refine v_ldc X (pc := 25) qw_211 eW_pass_25 ?_
    refine v_iload_n X (pc := 27) 1 rfl eW_pass_27 rfl ?_
    refine v_isub X (pc := 28) eW_pass_28 ?_
    refine v_icmp_le X (pc := 29) (tgt := 39) h eW_pass_29 (by decide) (fun h => ?_) (fun h => ?_)
    · refine v_aload_n X (pc := 32) 0 rfl eW_pass_32 rfl ?_
      refine v_ldc X (pc := 33) qw_212 eW_pass_33 ?_
      obtain ⟨r3, m3, hc3, h⟩ := bd_some h
      refine v_callV X (pc := 35) [_] [] ok_V_W_52 (cW_finding  hc3) rfl (Nat.le_of_ble_eq_true rfl) ⟨Nat.le_of_ble_eq_true rfl, Nat.le_of_ble_eq_true rfl⟩ ⟨Nat.zero_le _, Nat.zero_le _⟩ (by decide) (by decide) rfl rfl eW_pass_35 ?_
      exact v_iret X (pc := 38) h hr eW_pass_38
    · refine v_iconst X (pc := 39) (v := (0 : Int32)) eW_pass_39 (by decide) ?_
      refine v_istore_n X (pc := 40) (lv' := [(2, _), (0, _), (1, _)]) eW_pass_40 rfl (Nat.le_of_ble_eq_true rfl) rfl ?_
      exact v_sub [1, 2, 0] rfl (cW_pass_41 X hr _ _ _ _  h)
set_option maxHeartbeats 4000000 in
set_option maxRecDepth 100000 in
theorem cW_isSetOfWords {f : Nat} {a0 : Int32} {mem : Mem} {o : Int32} {mem' : Mem}  (h : dW_isSetOfWords f a0 mem = some (o, mem')) : RT yW_isSetOfWords prog_1_method_50_code 1 (Option.some Jvm.ClassFile.FieldType.boolean) (rmM 1 22) [aI a0] mem (some (aI o)) mem' := by
  refine RT.of (by decide +kernel) (Nat.le_of_ble_eq_true rfl) (fun p l e s m args below meth c k X hr => ?_)
  replace X : CX p s m args meth c k prog_1_method_50_code 1 "WallShifts" := X
  unfold dW_isSetOfWords at h
  refine v_sub (lv' := [(0, _)]) [0] rfl ?_
  refine v_iload_n X (pc := 0) 0 rfl eW_isSetOfWords_0 rfl ?_
  refine v_iconst X (pc := 1) (v := (0 : Int32)) eW_isSetOfWords_1 (by decide) ?_
  refine v_ldcw X (pc := 2) qw_224 eW_isSetOfWords_2 ?_
  obtain ⟨r1, m1, hc1, h⟩ := bd_some h
  refine v_callS X (pc := 5) [_, _, _] [] ok_S_W_82 (cW_isIn  hc1) rfl (Nat.le_of_ble_eq_true rfl) ⟨Nat.le_of_ble_eq_true rfl, Nat.le_of_ble_eq_true rfl⟩ ⟨Nat.zero_le _, Nat.zero_le _⟩ eW_isSetOfWords_5 ?_
  obtain ⟨hz, h⟩ := zb_some h
  exact v_zret X (pc := 8) h hr (zb_n hz) eW_isSetOfWords_8
set_option maxHeartbeats 4000000 in
set_option maxRecDepth 100000 in
theorem cJInt_bitCount {f : Nat} {a0 : Int32} {mem : Mem} {o : Int32} {mem' : Mem}  (h : dJInt_bitCount f a0 mem = some (o, mem')) : RT yJInt_bitCount prog_7_method_49_code 1 (Option.some Jvm.ClassFile.FieldType.int) (rmM 0 0) [aI a0] mem (some (aI o)) mem' := by
  refine RT.of (by decide +kernel) (Nat.le_of_ble_eq_true rfl) (fun p l e s m args below meth c k X hr => ?_)
  replace X : CX p s m args meth c k prog_7_method_49_code 1 "java/lang/Integer" := X
  unfold dJInt_bitCount at h
  refine v_sub (lv' := [(0, _)]) [0] rfl ?_
  refine v_iload_n X (pc := 0) 0 rfl eJInt_bitCount_0 rfl ?_
  refine v_iload_n X (pc := 1) 0 rfl eJInt_bitCount_1 rfl ?_
  refine v_iconst X (pc := 2) (v := (1 : Int32)) eJInt_bitCount_2 (by decide) ?_
  refine v_iushr X (pc := 3) rfl eJInt_bitCount_3 ?_
  refine v_ldcw X (pc := 4) qw_228 eJInt_bitCount_4 ?_
  refine v_iand X (pc := 7) eJInt_bitCount_7 ?_
  refine v_isub X (pc := 8) eJInt_bitCount_8 ?_
  refine v_istore_n X (pc := 9) (lv' := [(0, _)]) eJInt_bitCount_9 rfl (Nat.le_of_ble_eq_true rfl) rfl ?_
  refine v_iload_n X (pc := 10) 0 rfl eJInt_bitCount_10 rfl ?_
  refine v_ldcw X (pc := 11) qw_229 eJInt_bitCount_11 ?_
  refine v_iand X (pc := 14) eJInt_bitCount_14 ?_
  refine v_iload_n X (pc := 15) 0 rfl eJInt_bitCount_15 rfl ?_
  refine v_iconst X (pc := 16) (v := (2 : Int32)) eJInt_bitCount_16 (by decide) ?_
  refine v_iushr X (pc := 17) rfl eJInt_bitCount_17 ?_
  refine v_ldcw X (pc := 18) qw_229 eJInt_bitCount_18 ?_
  refine v_iand X (pc := 21) eJInt_bitCount_21 ?_
  refine v_iadd X (pc := 22) eJInt_bitCount_22 ?_
  refine v_istore_n X (pc := 23) (lv' := [(0, _)]) eJInt_bitCount_23 rfl (Nat.le_of_ble_eq_true rfl) rfl ?_
  refine v_iload_n X (pc := 24) 0 rfl eJInt_bitCount_24 rfl ?_
  refine v_iload_n X (pc := 25) 0 rfl eJInt_bitCount_25 rfl ?_
  refine v_iconst X (pc := 26) (v := (4 : Int32)) eJInt_bitCount_26 (by decide) ?_
  refine v_iushr X (pc := 27) rfl eJInt_bitCount_27 ?_
  refine v_iadd X (pc := 28) eJInt_bitCount_28 ?_
  refine v_ldcw X (pc := 29) qw_230 eJInt_bitCount_29 ?_
  refine v_iand X (pc := 32) eJInt_bitCount_32 ?_
  refine v_istore_n X (pc := 33) (lv' := [(0, _)]) eJInt_bitCount_33 rfl (Nat.le_of_ble_eq_true rfl) rfl ?_
  refine v_iload_n X (pc := 34) 0 rfl eJInt_bitCount_34 rfl ?_
  refine v_iload_n X (pc := 35) 0 rfl eJInt_bitCount_35 rfl ?_
  refine v_bipush X (pc := 36) (v := (8 : Int32)) eJInt_bitCount_36 (by decide) ?_
  refine v_iushr X (pc := 38) rfl eJInt_bitCount_38 ?_
  refine v_iadd X (pc := 39) eJInt_bitCount_39 ?_
  refine v_istore_n X (pc := 40) (lv' := [(0, _)]) eJInt_bitCount_40 rfl (Nat.le_of_ble_eq_true rfl) rfl ?_
  refine v_iload_n X (pc := 41) 0 rfl eJInt_bitCount_41 rfl ?_
  refine v_iload_n X (pc := 42) 0 rfl eJInt_bitCount_42 rfl ?_
  refine v_bipush X (pc := 43) (v := (16 : Int32)) eJInt_bitCount_43 (by decide) ?_
  refine v_iushr X (pc := 45) rfl eJInt_bitCount_45 ?_
  refine v_iadd X (pc := 46) eJInt_bitCount_46 ?_
  refine v_istore_n X (pc := 47) (lv' := [(0, _)]) eJInt_bitCount_47 rfl (Nat.le_of_ble_eq_true rfl) rfl ?_
  refine v_iload_n X (pc := 48) 0 rfl eJInt_bitCount_48 rfl ?_
  refine v_bipush X (pc := 49) (v := (63 : Int32)) eJInt_bitCount_49 (by decide) ?_
  refine v_iand X (pc := 51) eJInt_bitCount_51 ?_
  exact v_iret X (pc := 52) h hr eJInt_bitCount_52
set_option maxHeartbeats 4000000 in
set_option maxRecDepth 100000 in
theorem cP_utterAll_17 {p : Program} {l : Launch} {e : Env} {s : State} {m : MethodId} {args : Array Value} {below : List Frame} {meth : Method} {c : Code} {k : KK} {f : Nat} {o : Int32} {mem' : Mem} (X : CX p s m args meth c k prog_2_method_15_code 7 "WallShifts$Palace") (hr : meth.sig.returnType = (Option.some Jvm.ClassFile.FieldType.int)) : ∀ (n : Nat) (q0 : Nat) (x2 : Int32) (x3 : Int32) (x4 : Int32) (x5 : Int32) (mem : Mem), q0 < 3 → dP_utterAll_17 f n q0 x2 x3 x4 x5 mem = some (o, mem') → V p l e (rmM 3 80) s m args below meth c 0 0 (MQ below (RQc k (some (aI o)) mem') args s 0 0 (kA k)) k 7 mem 17 [(0, aR 1 q0), (2, aI x2), (3, aI x3), (4, aI x4), (5, aI x5)] [] := by
  intro n
  induction n with
  | zero =>
    intro q0 x2 x3 x4 x5 mem hq0 h
    exact nomatch (show (none : Option (Int32 × Mem)) = some _ from h)
  | succ n ih =>
    intro q0 x2 x3 x4 x5 mem hq0 h
    rw [dP_utterAll_17] at h
    refine v_iload X (pc := 17) 4 rfl eP_utterAll_17 ?_
    refine v_bipush X (pc := 19) (v := (16 : Int32)) eP_utterAll_19 (by decide) ?_
    refine v_icmp_ge X (pc := 21) (tgt := 85) h eP_utterAll_21 (by decide) (fun h => ?_) (fun h => ?_)
    · refine v_iload_n X (pc := 24) 1 rfl eP_utterAll_24 rfl ?_
      refine v_iload X (pc := 25) 4 rfl eP_utterAll_25 ?_
      refine v_ishr X (pc := 27) eP_utterAll_27 ?_
      refine v_iconst X (pc := 28) (v := (1 : Int32)) eP_utterAll_28 (by decide) ?_
      refine v_iand X (pc := 29) eP_utterAll_29 ?_
      refine v_iconst X (pc := 30) (v := (1 : Int32)) eP_utterAll_30 (by decide) ?_
      refine v_icmp_ne X (pc := 31) (tgt := 79) h eP_utterAll_31 (by decide) (fun h => ?_) (fun h => ?_)
      · refine v_aload_n X (pc := 34) 0 rfl eP_utterAll_34 rfl ?_
        refine v_iload_n X (pc := 35) 2 rfl eP_utterAll_35 rfl ?_
        refine v_iload X (pc := 36) 4 rfl eP_utterAll_36 ?_
        obtain ⟨r1, m1, hc1, h⟩ := bd_some h
        refine v_callV X (pc := 38) [_, _] [] ok_V_P_77 (cP_utter hq0 hc1) rfl (Nat.le_of_ble_eq_true rfl) ⟨Nat.le_of_ble_eq_true rfl, Nat.le_of_ble_eq_true rfl⟩ ⟨Nat.zero_le _, Nat.zero_le _⟩ (by decide) hq0 rfl rfl eP_utterAll_38 ?_
        refine v_istore X (pc := 41) (lv' := [(6, _), (0, _), (2, _), (3, _), (4, _), (5, _)]) eP_utterAll_41 (Nat.le_of_ble_eq_true rfl) rfl ?_
        refine v_iload X (pc := 43) 4 rfl eP_utterAll_43 ?_
        refine v_iload X (pc := 45) 0 rfl eP_utterAll_45 ?_
        obtain ⟨r2, m2, hc2, h⟩ := bd_some h
        refine v_callS X (pc := 47) [_] [_] ok_S_P_80 (cJInt_bitCount  hc2) rfl (Nat.le_of_ble_eq_true rfl) ⟨Nat.le_of_ble_eq_true rfl, Nat.le_of_ble_eq_true rfl⟩ ⟨Nat.zero_le _, Nat.zero_le _⟩ eP_utterAll_47 ?_
        refine v_iadd X (pc := 50) eP_utterAll_50 ?_
        refine v_istore X (pc := 51) (lv' := [(4, _), (6, _), (0, _), (2, _), (3, _), (5, _)]) eP_utterAll_51 (Nat.le_of_ble_eq_true rfl) rfl ?_
        refine v_aload_n X (pc := 53) 2 rfl eP_utterAll_53 rfl ?_
        refine v_dup X (pc := 54) rfl eP_utterAll_54 ?_
        refine v_get X (pc := 55) 4 (a := aI (gI m2 1 q0 4)) (by decide) hq0 rfl rfl rfl in_Palace (by decide) qw_38 rfl eP_utterAll_55 ?_
        refine v_iload X (pc := 58) 1 rfl eP_utterAll_58 ?_
        refine v_if_ne X (pc := 60) (tgt := 70) h eP_utterAll_60 (by decide) (fun h => ?_) (fun h => ?_)
        · refine v_iconst X (pc := 63) (v := (1 : Int32)) eP_utterAll_63 (by decide) ?_
          refine v_iload X (pc := 64) 5 rfl eP_utterAll_64 ?_
          refine v_ishl X (pc := 66) eP_utterAll_66 ?_
          refine v_goto X (pc := 67) (tgt := 71) eP_utterAll_67 (by decide) ?_
          refine v_ior X (pc := 71) eP_utterAll_71 ?_
          refine v_put X (pc := 72) 4 (mem' := (sI m2 1 q0 4 ((gI m2 1 q0 4) ||| ((1 : Int32) <<< (x5 &&& 31))))) (by decide) hq0 rfl (pf_1_4 _ _ _ _ _) rowI_ne rfl in_Palace ty_Palace_ok nm_Palace (by decide) qw_38 rfl rfl rfl (Nat.le_of_ble_eq_true rfl) eP_utterAll_72 ?_
          refine v_aload_n X (pc := 75) 2 rfl eP_utterAll_75 rfl ?_
          obtain ⟨r3, m3, hc3, h⟩ := bd_some h
          refine v_callV X (pc := 76) [] [] ok_V_P_85 (cP_goOn hq0 hc3) rfl (Nat.le_of_ble_eq_true rfl) ⟨Nat.le_of_ble_eq_true rfl, Nat.le_of_ble_eq_true rfl⟩ ⟨Nat.zero_le _, Nat.zero_le _⟩ (by decide) hq0 rfl rfl eP_utterAll_76 ?_
          refine v_iinc X (pc := 79) (v := (x5 + (1 : Int32))) (lv' := [(5, _), (4, _), (6, _), (0, _), (2, _), (3, _)]) 5 rfl (by rfl) eP_utterAll_79 (Nat.le_of_ble_eq_true rfl) rfl ?_
          refine v_goto X (pc := 82) (tgt := 17) eP_utterAll_82 (by decide) ?_
          exact v_sub [3, 4, 5, 1, 0] rfl (ih _ _ _ _ _ _ hq0 h)
        · refine v_iconst X (pc := 70) (v := (0 : Int32)) eP_utterAll_70 (by decide) ?_
          refine v_ior X (pc := 71) eP_utterAll_71 ?_
          refine v_put X (pc := 72) 4 (mem' := (sI m2 1 q0 4 ((gI m2 1 q0 4) ||| (0 : Int32)))) (by decide) hq0 rfl (pf_1_4 _ _ _ _ _) rowI_ne rfl in_Palace ty_Palace_ok nm_Palace (by decide) qw_38 rfl rfl rfl (Nat.le_of_ble_eq_true rfl) eP_utterAll_72 ?_
          refine v_aload_n X (pc := 75) 2 rfl eP_utterAll_75 rfl ?_
          obtain ⟨r4, m4, hc4, h⟩ := bd_some h
          refine v_callV X (pc := 76) [] [] ok_V_P_85 (cP_goOn hq0 hc4) rfl (Nat.le_of_ble_eq_true rfl) ⟨Nat.le_of_ble_eq_true rfl, Nat.le_of_ble_eq_true rfl⟩ ⟨Nat.zero_le _, Nat.zero_le _⟩ (by decide) hq0 rfl rfl eP_utterAll_76 ?_
          refine v_iinc X (pc := 79) (v := (x5 + (1 : Int32))) (lv' := [(5, _), (4, _), (6, _), (0, _), (2, _), (3, _)]) 5 rfl (by rfl) eP_utterAll_79 (Nat.le_of_ble_eq_true rfl) rfl ?_
          refine v_goto X (pc := 82) (tgt := 17) eP_utterAll_82 (by decide) ?_
          exact v_sub [3, 4, 5, 1, 0] rfl (ih _ _ _ _ _ _ hq0 h)
      · refine v_iinc X (pc := 79) (v := (x5 + (1 : Int32))) (lv' := [(5, _), (0, _), (2, _), (3, _), (4, _)]) 4 rfl (by rfl) eP_utterAll_79 (Nat.le_of_ble_eq_true rfl) rfl ?_
        refine v_goto X (pc := 82) (tgt := 17) eP_utterAll_82 (by decide) ?_
        exact v_sub [1, 2, 3, 4, 0] rfl (ih _ _ _ _ _ _ hq0 h)
    · refine v_iload X (pc := 85) 3 rfl eP_utterAll_85 ?_
      exact v_iret X (pc := 87) h hr eP_utterAll_87
set_option maxHeartbeats 4000000 in
set_option maxRecDepth 100000 in
theorem cP_utterAll {f : Nat} {q0 : Nat} {a1 : Int32} {a2 : Int32} {mem : Mem} {o : Int32} {mem' : Mem} (hq0 : q0 < 3) (h : dP_utterAll f q0 a1 a2 mem = some (o, mem')) : RT yP_utterAll prog_2_method_15_code 7 (Option.some Jvm.ClassFile.FieldType.int) (rmM 3 80) [aR 1 q0, aI a1, aI a2] mem (some (aI o)) mem' := by
  refine RT.of (by decide +kernel) (Nat.le_of_ble_eq_true rfl) (fun p l e s m args below meth c k X hr => ?_)
  replace X : CX p s m args meth c k prog_2_method_15_code 7 "WallShifts$Palace" := X
  unfold dP_utterAll at h
  refine v_sub (lv' := [(0, _), (1, _), (2, _)]) [0, 1, 2] rfl ?_
  refine v_aload_n X (pc := 0) 0 rfl eP_utterAll_0 rfl ?_
  refine v_iload_n X (pc := 1) 1 rfl eP_utterAll_1 rfl ?_
  obtain ⟨r1, m1, hc1, h⟩ := bd_some h
  refine v_callV X (pc := 2) [_] [] ok_V_P_74 (cP_near hq0 hc1) rfl (Nat.le_of_ble_eq_true rfl) ⟨Nat.le_of_ble_eq_true rfl, Nat.le_of_ble_eq_true rfl⟩ ⟨Nat.zero_le _, Nat.zero_le _⟩ (by decide) hq0 rfl rfl eP_utterAll_2 ?_
  refine v_istore_n X (pc := 5) (lv' := [(3, _), (0, _), (1, _), (2, _)]) eP_utterAll_5 rfl (Nat.le_of_ble_eq_true rfl) rfl ?_
  refine v_iconst X (pc := 6) (v := (0 : Int32)) eP_utterAll_6 (by decide) ?_
  refine v_istore X (pc := 7) (lv' := [(4, _), (3, _), (0, _), (1, _), (2, _)]) eP_utterAll_7 (Nat.le_of_ble_eq_true rfl) rfl ?_
  refine v_aload_n X (pc := 9) 2 rfl eP_utterAll_9 rfl ?_
  refine v_iconst X (pc := 10) (v := (0 : Int32)) eP_utterAll_10 (by decide) ?_
  refine v_put X (pc := 11) 4 (mem' := (sI m1 1 q0 4 (0 : Int32))) (by decide) hq0 rfl (pf_1_4 _ _ _ _ _) rowI_ne rfl in_Palace ty_Palace_ok nm_Palace (by decide) qw_38 rfl rfl rfl (Nat.le_of_ble_eq_true rfl) eP_utterAll_11 ?_
  refine v_iconst X (pc := 14) (v := (0 : Int32)) eP_utterAll_14 (by decide) ?_
  refine v_istore X (pc := 15) (lv' := [(5, _), (4, _), (3, _), (0, _), (1, _), (2, _)]) eP_utterAll_15 (Nat.le_of_ble_eq_true rfl) rfl ?_
  exact v_sub [3, 5, 2, 1, 0] rfl (cP_utterAll_17 X hr _ _ _ _ _ _ _ hq0 h)
set_option maxHeartbeats 4000000 in
set_option maxRecDepth 100000 in
theorem cW_speak {f : Nat} {a1 : Int32} {a2 : Int32} {mem : Mem} {o : Int32} {mem' : Mem}  (h : dW_speak f a1 a2 mem = some (o, mem')) : RT yW_speak prog_1_method_11_code 3 (Option.some Jvm.ClassFile.FieldType.int) (rmM 4 106) [aR 0 0, aI a1, aI a2] mem (some (aI o)) mem' := by
  refine RT.of (by decide +kernel) (Nat.le_of_ble_eq_true rfl) (fun p l e s m args below meth c k X hr => ?_)
  replace X : CX p s m args meth c k prog_1_method_11_code 3 "WallShifts" := X
  unfold dW_speak at h
  refine v_sub (lv' := [(0, _), (1, _), (2, _)]) [0, 1, 2] rfl ?_
  refine v_iload_n X (pc := 0) 1 rfl eW_speak_0 rfl ?_
  obtain ⟨r1, m1, hc1, h⟩ := bd_some h
  refine v_callS X (pc := 1) [_] [] ok_S_W_63 (cW_isRoom  hc1) rfl (Nat.le_of_ble_eq_true rfl) ⟨Nat.le_of_ble_eq_true rfl, Nat.le_of_ble_eq_true rfl⟩ ⟨Nat.zero_le _, Nat.zero_le _⟩ eW_speak_1 ?_
  refine v_if_eq X (pc := 4) (tgt := 14) h eW_speak_4 (by decide) (fun h => ?_) (fun h => ?_)
  · refine v_aload_n X (pc := 14) 0 rfl eW_speak_14 rfl ?_
    refine v_ldc X (pc := 15) qw_135 eW_speak_15 ?_
    obtain ⟨r2, m2, hc2, h⟩ := bd_some h
    refine v_callV X (pc := 17) [_] [] ok_V_W_52 (cW_finding  hc2) rfl (Nat.le_of_ble_eq_true rfl) ⟨Nat.le_of_ble_eq_true rfl, Nat.le_of_ble_eq_true rfl⟩ ⟨Nat.zero_le _, Nat.zero_le _⟩ (by decide) (by decide) rfl rfl eW_speak_17 ?_
    exact v_iret X (pc := 20) h hr eW_speak_20
  · refine v_iload_n X (pc := 7) 2 rfl eW_speak_7 rfl ?_
    obtain ⟨r3, m3, hc3, h⟩ := bd_some h
    refine v_callS X (pc := 8) [_] [] ok_S_W_131 (cW_isSetOfWords  hc3) rfl (Nat.le_of_ble_eq_true rfl) ⟨Nat.le_of_ble_eq_true rfl, Nat.le_of_ble_eq_true rfl⟩ ⟨Nat.zero_le _, Nat.zero_le _⟩ eW_speak_8 ?_
    refine v_if_ne X (pc := 11) (tgt := 21) h eW_speak_11 (by decide) (fun h => ?_) (fun h => ?_)
    · refine v_aload_n X (pc := 14) 0 rfl eW_speak_14 rfl ?_
      refine v_ldc X (pc := 15) qw_135 eW_speak_15 ?_
      obtain ⟨r4, m4, hc4, h⟩ := bd_some h
      refine v_callV X (pc := 17) [_] [] ok_V_W_52 (cW_finding  hc4) rfl (Nat.le_of_ble_eq_true rfl) ⟨Nat.le_of_ble_eq_true rfl, Nat.le_of_ble_eq_true rfl⟩ ⟨Nat.zero_le _, Nat.zero_le _⟩ (by decide) (by decide) rfl rfl eW_speak_17 ?_
      exact v_iret X (pc := 20) h hr eW_speak_20
    · refine v_aload_n X (pc := 21) 0 rfl eW_speak_21 rfl ?_
      refine v_get X (pc := 22) 0 (a := aR 1 0) (by decide) (by decide) rfl rfl rfl in_WallShifts (by decide) qw_96 rfl eW_speak_22 ?_
      refine v_get X (pc := 25) 0 (a := aI (gI m3 1 0 0)) (by decide) (by decide) rfl rfl rfl in_Palace (by decide) qw_31 rfl eW_speak_25 ?_
      refine v_ldc X (pc := 28) qw_211 eW_speak_28 ?_
      refine v_iload_n X (pc := 30) 2 rfl eW_speak_30 rfl ?_
      obtain ⟨r5, m5, hc5, h⟩ := bd_some h
      refine v_callS X (pc := 31) [_] [_, _] ok_S_W_134 (cJInt_bitCount  hc5) rfl (Nat.le_of_ble_eq_true rfl) ⟨Nat.le_of_ble_eq_true rfl, Nat.le_of_ble_eq_true rfl⟩ ⟨Nat.zero_le _, Nat.zero_le _⟩ eW_speak_31 ?_
      refine v_isub X (pc := 34) eW_speak_34 ?_
      refine v_icmp_le X (pc := 35) (tgt := 45) h eW_speak_35 (by decide) (fun h => ?_) (fun h => ?_)
      · refine v_aload_n X (pc := 38) 0 rfl eW_speak_38 rfl ?_
        refine v_ldc X (pc := 39) qw_212 eW_speak_39 ?_
        obtain ⟨r6, m6, hc6, h⟩ := bd_some h
        refine v_callV X (pc := 41) [_] [] ok_V_W_52 (cW_finding  hc6) rfl (Nat.le_of_ble_eq_true rfl) ⟨Nat.le_of_ble_eq_true rfl, Nat.le_of_ble_eq_true rfl⟩ ⟨Nat.zero_le _, Nat.zero_le _⟩ (by decide) (by decide) rfl rfl eW_speak_41 ?_
        exact v_iret X (pc := 44) h hr eW_speak_44
      · refine v_aload_n X (pc := 45) 0 rfl eW_speak_45 rfl ?_
        refine v_get X (pc := 46) 0 (a := aR 1 0) (by decide) (by decide) rfl rfl rfl in_WallShifts (by decide) qw_96 rfl eW_speak_46 ?_
        refine v_iload_n X (pc := 49) 1 rfl eW_speak_49 rfl ?_
        refine v_iload_n X (pc := 50) 2 rfl eW_speak_50 rfl ?_
        obtain ⟨r7, m7, hc7, h⟩ := bd_some h
        refine v_callV X (pc := 51) [_, _] [] ok_V_W_139 (cP_utterAll (by decide) hc7) rfl (Nat.le_of_ble_eq_true rfl) ⟨Nat.le_of_ble_eq_true rfl, Nat.le_of_ble_eq_true rfl⟩ ⟨Nat.zero_le _, Nat.zero_le _⟩ (by decide) (by decide) rfl rfl eW_speak_51 ?_
        exact v_iret X (pc := 54) h hr eW_speak_54
set_option maxHeartbeats 4000000 in
set_option maxRecDepth 100000 in
theorem cW_duty {f : Nat} {a1 : Int32} {mem : Mem} {o : Int32} {mem' : Mem}  (h : dW_duty f a1 mem = some (o, mem')) : RT yW_duty prog_1_method_13_code 2 (Option.some Jvm.ClassFile.FieldType.int) (rmM 2 53) [aR 0 0, aI a1] mem (some (aI o)) mem' := by
  refine RT.of (by decide +kernel) (Nat.le_of_ble_eq_true rfl) (fun p l e s m args below meth c k X hr => ?_)
  replace X : CX p s m args meth c k prog_1_method_13_code 2 "WallShifts" := X
  unfold dW_duty at h
  refine v_sub (lv' := [(0, _), (1, _)]) [0, 1] rfl ?_
  refine v_iload_n X (pc := 0) 1 rfl eW_duty_0 rfl ?_
  refine v_iconst X (pc := 1) (v := (0 : Int32)) eW_duty_1 (by decide) ?_
  refine v_ldc X (pc := 2) qw_211 eW_duty_2 ?_
  obtain ⟨r1, m1, hc1, h⟩ := bd_some h
  refine v_callS X (pc := 4) [_, _, _] [] ok_S_W_82 (cW_isIn  hc1) rfl (Nat.le_of_ble_eq_true rfl) ⟨Nat.le_of_ble_eq_true rfl, Nat.le_of_ble_eq_true rfl⟩ ⟨Nat.zero_le _, Nat.zero_le _⟩ eW_duty_4 ?_
  refine v_if_ne X (pc := 7) (tgt := 17) h eW_duty_7 (by decide) (fun h => ?_) (fun h => ?_)
  · refine v_aload_n X (pc := 10) 0 rfl eW_duty_10 rfl ?_
    refine v_ldc X (pc := 11) qw_135 eW_duty_11 ?_
    obtain ⟨r2, m2, hc2, h⟩ := bd_some h
    refine v_callV X (pc := 13) [_] [] ok_V_W_52 (cW_finding  hc2) rfl (Nat.le_of_ble_eq_true rfl) ⟨Nat.le_of_ble_eq_true rfl, Nat.le_of_ble_eq_true rfl⟩ ⟨Nat.zero_le _, Nat.zero_le _⟩ (by decide) (by decide) rfl rfl eW_duty_13 ?_
    exact v_iret X (pc := 16) h hr eW_duty_16
  · refine v_aload_n X (pc := 17) 0 rfl eW_duty_17 rfl ?_
    refine v_get X (pc := 18) 0 (a := aR 1 0) (by decide) (by decide) rfl rfl rfl in_WallShifts (by decide) qw_96 rfl eW_duty_18 ?_
    refine v_iload_n X (pc := 21) 1 rfl eW_duty_21 rfl ?_
    refine v_aload_n X (pc := 22) 0 rfl eW_duty_22 rfl ?_
    refine v_get X (pc := 23) 0 (a := aR 1 0) (by decide) (by decide) rfl rfl rfl in_WallShifts (by decide) qw_96 rfl eW_duty_23 ?_
    refine v_get X (pc := 26) 1 (a := aR 2 0) (by decide) (by decide) rfl rfl rfl in_Palace (by decide) qw_33 rfl eW_duty_26 ?_
    refine v_iconst X (pc := 29) (v := (0 : Int32)) eW_duty_29 (by decide) ?_
    refine v_ialdK X (pc := 30) (n := 4) 0 (by decide) (by decide) (by decide) (by decide) rfl eW_duty_30 ?_
    obtain ⟨r3, m3, hc3, h⟩ := bd_some h
    refine v_callV X (pc := 31) [_, _] [] ok_V_W_145 (cP_onDuty (by decide) hc3) rfl (Nat.le_of_ble_eq_true rfl) ⟨Nat.le_of_ble_eq_true rfl, Nat.le_of_ble_eq_true rfl⟩ ⟨Nat.zero_le _, Nat.zero_le _⟩ (by decide) (by decide) rfl rfl eW_duty_31 ?_
    exact v_iret X (pc := 34) h hr eW_duty_34
set_option maxHeartbeats 4000000 in
set_option maxRecDepth 100000 in
theorem cP_wordsInFiles_4 {p : Program} {l : Launch} {e : Env} {s : State} {m : MethodId} {args : Array Value} {below : List Frame} {meth : Method} {c : Code} {k : KK} {f : Nat} {o : Int32} {mem' : Mem} (X : CX p s m args meth c k prog_2_method_17_code 3 "WallShifts$Palace") (hr : meth.sig.returnType = (Option.some Jvm.ClassFile.FieldType.int)) : ∀ (n : Nat) (q0 : Nat) (x1 : Int32) (x2 : Int32) (mem : Mem), q0 < 3 → dP_wordsInFiles_4 f n q0 x1 x2 mem = some (o, mem') → V p l e (rmM 0 0) s m args below meth c 0 0 (MQ below (RQc k (some (aI o)) mem') args s 0 0 (kA k)) k 3 mem 4 [(0, aR 1 q0), (1, aI x1), (2, aI x2)] [] := by
  intro n
  induction n with
  | zero =>
    intro q0 x1 x2 mem hq0 h
    exact nomatch (show (none : Option (Int32 × Mem)) = some _ from h)
  | succ n ih =>
    intro q0 x1 x2 mem hq0 h
    rw [dP_wordsInFiles_4] at h
    refine v_iload_n X (pc := 4) 2 rfl eP_wordsInFiles_4 rfl ?_
    refine v_aload_n X (pc := 5) 0 rfl eP_wordsInFiles_5 rfl ?_
    refine v_get X (pc := 6) 2 (a := aI (gI mem 1 q0 2)) (by decide) hq0 rfl rfl rfl in_Palace (by decide) qw_34 rfl eP_wordsInFiles_6 ?_
    refine v_icmp_ge X (pc := 9) (tgt := 29) h eP_wordsInFiles_9 (by decide) (fun h => ?_) (fun h => ?_)
    · refine v_iload_n X (pc := 12) 1 rfl eP_wordsInFiles_12 rfl ?_
      refine v_aload_n X (pc := 13) 0 rfl eP_wordsInFiles_13 rfl ?_
      refine v_get X (pc := 14) 3 (a := aR 3 q0) (by decide) hq0 rfl rfl rfl in_Palace (by decide) qw_36 rfl eP_wordsInFiles_14 ?_
      refine v_iload_n X (pc := 17) 2 rfl eP_wordsInFiles_17 rfl ?_
      refine v_aaldW X (pc := 18) h hq0 eP_wordsInFiles_18 (fun hb1 h => ?_)
      refine v_iconst X (pc := 19) (v := (4 : Int32)) eP_wordsInFiles_19 (by decide) ?_
      refine v_ialdK X (pc := 20) (n := 6) 4 (by decide) (by decide) (by decide) hb1 rfl eP_wordsInFiles_20 ?_
      refine v_ior X (pc := 21) eP_wordsInFiles_21 ?_
      refine v_istore_n X (pc := 22) (lv' := [(1, _), (0, _), (2, _)]) eP_wordsInFiles_22 rfl (Nat.le_of_ble_eq_true rfl) rfl ?_
      refine v_iinc X (pc := 23) (v := (x2 + (1 : Int32))) (lv' := [(2, _), (1, _), (0, _)]) 2 rfl (by rfl) eP_wordsInFiles_23 (Nat.le_of_ble_eq_true rfl) rfl ?_
      refine v_goto X (pc := 26) (tgt := 4) eP_wordsInFiles_26 (by decide) ?_
      exact v_sub [2, 1, 0] rfl (ih _ _ _ _ hq0 h)
    · refine v_iload_n X (pc := 29) 1 rfl eP_wordsInFiles_29 rfl ?_
      exact v_iret X (pc := 30) h hr eP_wordsInFiles_30
set_option maxHeartbeats 4000000 in
set_option maxRecDepth 100000 in
theorem cP_wordsInFiles {f : Nat} {q0 : Nat} {mem : Mem} {o : Int32} {mem' : Mem} (hq0 : q0 < 3) (h : dP_wordsInFiles f q0 mem = some (o, mem')) : RT yP_wordsInFiles prog_2_method_17_code 3 (Option.some Jvm.ClassFile.FieldType.int) (rmM 0 0) [aR 1 q0] mem (some (aI o)) mem' := by
  refine RT.of (by decide +kernel) (Nat.le_of_ble_eq_true rfl) (fun p l e s m args below meth c k X hr => ?_)
  replace X : CX p s m args meth c k prog_2_method_17_code 3 "WallShifts$Palace" := X
  unfold dP_wordsInFiles at h
  refine v_sub (lv' := [(0, _)]) [0] rfl ?_
  refine v_iconst X (pc := 0) (v := (0 : Int32)) eP_wordsInFiles_0 (by decide) ?_
  refine v_istore_n X (pc := 1) (lv' := [(1, _), (0, _)]) eP_wordsInFiles_1 rfl (Nat.le_of_ble_eq_true rfl) rfl ?_
  refine v_iconst X (pc := 2) (v := (0 : Int32)) eP_wordsInFiles_2 (by decide) ?_
  refine v_istore_n X (pc := 3) (lv' := [(2, _), (1, _), (0, _)]) eP_wordsInFiles_3 rfl (Nat.le_of_ble_eq_true rfl) rfl ?_
  exact v_sub [2, 1, 0] rfl (cP_wordsInFiles_4 X hr _ _ _ _ _ hq0 h)
set_option maxHeartbeats 4000000 in
set_option maxRecDepth 100000 in
theorem cP_tiredTogether_4 {p : Program} {l : Launch} {e : Env} {s : State} {m : MethodId} {args : Array Value} {below : List Frame} {meth : Method} {c : Code} {k : KK} {f : Nat} {o : Int32} {mem' : Mem} (X : CX p s m args meth c k prog_2_method_20_code 3 "WallShifts$Palace") (hr : meth.sig.returnType = (Option.some Jvm.ClassFile.FieldType.int)) : ∀ (n : Nat) (q0 : Nat) (x1 : Int32) (x2 : Int32) (mem : Mem), q0 < 3 → dP_tiredTogether_4 f n q0 x1 x2 mem = some (o, mem') → V p l e (rmM 0 0) s m args below meth c 0 0 (MQ below (RQc k (some (aI o)) mem') args s 0 0 (kA k)) k 3 mem 4 [(0, aR 1 q0), (1, aI x1), (2, aI x2)] [] := by
  intro n
  induction n with
  | zero =>
    intro q0 x1 x2 mem hq0 h
    exact nomatch (show (none : Option (Int32 × Mem)) = some _ from h)
  | succ n ih =>
    intro q0 x1 x2 mem hq0 h
    rw [dP_tiredTogether_4] at h
    refine v_iload_n X (pc := 4) 2 rfl eP_tiredTogether_4 rfl ?_
    refine v_aload_n X (pc := 5) 0 rfl eP_tiredTogether_5 rfl ?_
    refine v_get X (pc := 6) 2 (a := aI (gI mem 1 q0 2)) (by decide) hq0 rfl rfl rfl in_Palace (by decide) qw_34 rfl eP_tiredTogether_6 ?_
    refine v_icmp_ge X (pc := 9) (tgt := 29) h eP_tiredTogether_9 (by decide) (fun h => ?_) (fun h => ?_)
    · refine v_iload_n X (pc := 12) 1 rfl eP_tiredTogether_12 rfl ?_
      refine v_aload_n X (pc := 13) 0 rfl eP_tiredTogether_13 rfl ?_
      refine v_get X (pc := 14) 3 (a := aR 3 q0) (by decide) hq0 rfl rfl rfl in_Palace (by decide) qw_36 rfl eP_tiredTogether_14 ?_
      refine v_iload_n X (pc := 17) 2 rfl eP_tiredTogether_17 rfl ?_
      refine v_aaldW X (pc := 18) h hq0 eP_tiredTogether_18 (fun hb1 h => ?_)
      refine v_iconst X (pc := 19) (v := (5 : Int32)) eP_tiredTogether_19 (by decide) ?_
      refine v_ialdK X (pc := 20) (n := 6) 5 (by decide) (by decide) (by decide) hb1 rfl eP_tiredTogether_20 ?_
      refine v_iadd X (pc := 21) eP_tiredTogether_21 ?_
      refine v_istore_n X (pc := 22) (lv' := [(1, _), (0, _), (2, _)]) eP_tiredTogether_22 rfl (Nat.le_of_ble_eq_true rfl) rfl ?_
      refine v_iinc X (pc := 23) (v := (x2 + (1 : Int32))) (lv' := [(2, _), (1, _), (0, _)]) 2 rfl (by rfl) eP_tiredTogether_23 (Nat.le_of_ble_eq_true rfl) rfl ?_
      refine v_goto X (pc := 26) (tgt := 4) eP_tiredTogether_26 (by decide) ?_
      exact v_sub [2, 1, 0] rfl (ih _ _ _ _ hq0 h)
    · refine v_iload_n X (pc := 29) 1 rfl eP_tiredTogether_29 rfl ?_
      exact v_iret X (pc := 30) h hr eP_tiredTogether_30
set_option maxHeartbeats 4000000 in
set_option maxRecDepth 100000 in
theorem cP_tiredTogether {f : Nat} {q0 : Nat} {mem : Mem} {o : Int32} {mem' : Mem} (hq0 : q0 < 3) (h : dP_tiredTogether f q0 mem = some (o, mem')) : RT yP_tiredTogether prog_2_method_20_code 3 (Option.some Jvm.ClassFile.FieldType.int) (rmM 0 0) [aR 1 q0] mem (some (aI o)) mem' := by
  refine RT.of (by decide +kernel) (Nat.le_of_ble_eq_true rfl) (fun p l e s m args below meth c k X hr => ?_)
  replace X : CX p s m args meth c k prog_2_method_20_code 3 "WallShifts$Palace" := X
  unfold dP_tiredTogether at h
  refine v_sub (lv' := [(0, _)]) [0] rfl ?_
  refine v_iconst X (pc := 0) (v := (0 : Int32)) eP_tiredTogether_0 (by decide) ?_
  refine v_istore_n X (pc := 1) (lv' := [(1, _), (0, _)]) eP_tiredTogether_1 rfl (Nat.le_of_ble_eq_true rfl) rfl ?_
  refine v_iconst X (pc := 2) (v := (0 : Int32)) eP_tiredTogether_2 (by decide) ?_
  refine v_istore_n X (pc := 3) (lv' := [(2, _), (1, _), (0, _)]) eP_tiredTogether_3 rfl (Nat.le_of_ble_eq_true rfl) rfl ?_
  exact v_sub [2, 1, 0] rfl (cP_tiredTogether_4 X hr _ _ _ _ _ hq0 h)
set_option maxHeartbeats 4000000 in
set_option maxRecDepth 100000 in
theorem cW_now {f : Nat} {a1 : Int32} {mem : Mem} {o : Int32} {mem' : Mem}  (h : dW_now f a1 mem = some (o, mem')) : RT yW_now prog_1_method_14_code 2 (Option.some Jvm.ClassFile.FieldType.int) (rmM 2 44) [aR 0 0, aI a1] mem (some (aI o)) mem' := by
  refine RT.of (by decide +kernel) (Nat.le_of_ble_eq_true rfl) (fun p l e s m args below meth c k X hr => ?_)
  replace X : CX p s m args meth c k prog_1_method_14_code 2 "WallShifts" := X
  unfold dW_now at h
  refine v_sub (lv' := [(0, _), (1, _)]) [0, 1] rfl ?_
  refine v_iload_n X (pc := 0) 1 rfl eW_now_0 rfl ?_
  by_cases g0 : a1 = (0 : Int32)
  · have h := it_t h g0
    refine v_tsw X (pc := 1) (tgt := 44) (0 : Int32) g0 eW_now_1 (by decide) (by decide) rfl (by decide) ?_
    refine v_aload_n X (pc := 44) 0 rfl eW_now_44 rfl ?_
    refine v_get X (pc := 45) 0 (a := aR 1 0) (by decide) (by decide) rfl rfl rfl in_WallShifts (by decide) qw_96 rfl eW_now_45 ?_
    refine v_get X (pc := 48) 0 (a := aI (gI mem 1 0 0)) (by decide) (by decide) rfl rfl rfl in_Palace (by decide) qw_31 rfl eW_now_48 ?_
    exact v_iret X (pc := 51) h hr eW_now_51
  have h := it_f h g0
  by_cases g1 : a1 = (1 : Int32)
  · have h := it_t h g1
    refine v_tsw X (pc := 1) (tgt := 52) (1 : Int32) g1 eW_now_1 (by decide) (by decide) rfl (by decide) ?_
    refine v_aload_n X (pc := 52) 0 rfl eW_now_52 rfl ?_
    refine v_get X (pc := 53) 0 (a := aR 1 0) (by decide) (by decide) rfl rfl rfl in_WallShifts (by decide) qw_96 rfl eW_now_53 ?_
    refine v_get X (pc := 56) 1 (a := aR 2 0) (by decide) (by decide) rfl rfl rfl in_Palace (by decide) qw_33 rfl eW_now_56 ?_
    refine v_iconst X (pc := 59) (v := (0 : Int32)) eW_now_59 (by decide) ?_
    refine v_ialdK X (pc := 60) (n := 4) 0 (by decide) (by decide) (by decide) (by decide) rfl eW_now_60 ?_
    exact v_iret X (pc := 61) h hr eW_now_61
  have h := it_f h g1
  by_cases g2 : a1 = (2 : Int32)
  · have h := it_t h g2
    refine v_tsw X (pc := 1) (tgt := 62) (2 : Int32) g2 eW_now_1 (by decide) (by decide) rfl (by decide) ?_
    refine v_aload_n X (pc := 62) 0 rfl eW_now_62 rfl ?_
    refine v_get X (pc := 63) 0 (a := aR 1 0) (by decide) (by decide) rfl rfl rfl in_WallShifts (by decide) qw_96 rfl eW_now_63 ?_
    refine v_get X (pc := 66) 1 (a := aR 2 0) (by decide) (by decide) rfl rfl rfl in_Palace (by decide) qw_33 rfl eW_now_66 ?_
    refine v_iconst X (pc := 69) (v := (1 : Int32)) eW_now_69 (by decide) ?_
    refine v_ialdK X (pc := 70) (n := 4) 1 (by decide) (by decide) (by decide) (by decide) rfl eW_now_70 ?_
    exact v_iret X (pc := 71) h hr eW_now_71
  have h := it_f h g2
  by_cases g3 : a1 = (3 : Int32)
  · have h := it_t h g3
    refine v_tsw X (pc := 1) (tgt := 72) (3 : Int32) g3 eW_now_1 (by decide) (by decide) rfl (by decide) ?_
    refine v_aload_n X (pc := 72) 0 rfl eW_now_72 rfl ?_
    refine v_get X (pc := 73) 0 (a := aR 1 0) (by decide) (by decide) rfl rfl rfl in_WallShifts (by decide) qw_96 rfl eW_now_73 ?_
    refine v_get X (pc := 76) 1 (a := aR 2 0) (by decide) (by decide) rfl rfl rfl in_Palace (by decide) qw_33 rfl eW_now_76 ?_
    refine v_iconst X (pc := 79) (v := (2 : Int32)) eW_now_79 (by decide) ?_
    refine v_ialdK X (pc := 80) (n := 4) 2 (by decide) (by decide) (by decide) (by decide) rfl eW_now_80 ?_
    exact v_iret X (pc := 81) h hr eW_now_81
  have h := it_f h g3
  by_cases g4 : a1 = (4 : Int32)
  · have h := it_t h g4
    refine v_tsw X (pc := 1) (tgt := 82) (4 : Int32) g4 eW_now_1 (by decide) (by decide) rfl (by decide) ?_
    refine v_aload_n X (pc := 82) 0 rfl eW_now_82 rfl ?_
    refine v_get X (pc := 83) 0 (a := aR 1 0) (by decide) (by decide) rfl rfl rfl in_WallShifts (by decide) qw_96 rfl eW_now_83 ?_
    refine v_get X (pc := 86) 1 (a := aR 2 0) (by decide) (by decide) rfl rfl rfl in_Palace (by decide) qw_33 rfl eW_now_86 ?_
    refine v_iconst X (pc := 89) (v := (3 : Int32)) eW_now_89 (by decide) ?_
    refine v_ialdK X (pc := 90) (n := 4) 3 (by decide) (by decide) (by decide) (by decide) rfl eW_now_90 ?_
    exact v_iret X (pc := 91) h hr eW_now_91
  have h := it_f h g4
  by_cases g5 : a1 = (5 : Int32)
  · have h := it_t h g5
    refine v_tsw X (pc := 1) (tgt := 92) (5 : Int32) g5 eW_now_1 (by decide) (by decide) rfl (by decide) ?_
    refine v_aload_n X (pc := 92) 0 rfl eW_now_92 rfl ?_
    refine v_get X (pc := 93) 0 (a := aR 1 0) (by decide) (by decide) rfl rfl rfl in_WallShifts (by decide) qw_96 rfl eW_now_93 ?_
    obtain ⟨r1, m1, hc1, h⟩ := bd_some h
    refine v_callV X (pc := 96) [] [] ok_V_W_148 (cP_wordsInFiles (by decide) hc1) rfl (Nat.le_of_ble_eq_true rfl) ⟨Nat.le_of_ble_eq_true rfl, Nat.le_of_ble_eq_true rfl⟩ ⟨Nat.zero_le _, Nat.zero_le _⟩ (by decide) (by decide) rfl rfl eW_now_96 ?_
    exact v_iret X (pc := 99) h hr eW_now_99
  have h := it_f h g5
  by_cases g6 : a1 = (6 : Int32)
  · have h := it_t h g6
    refine v_tsw X (pc := 1) (tgt := 100) (6 : Int32) g6 eW_now_1 (by decide) (by decide) rfl (by decide) ?_
    refine v_aload_n X (pc := 100) 0 rfl eW_now_100 rfl ?_
    refine v_get X (pc := 101) 0 (a := aR 1 0) (by decide) (by decide) rfl rfl rfl in_WallShifts (by decide) qw_96 rfl eW_now_101 ?_
    obtain ⟨r2, m2, hc2, h⟩ := bd_some h
    refine v_callV X (pc := 104) [] [] ok_V_W_152 (cP_tiredTogether (by decide) hc2) rfl (Nat.le_of_ble_eq_true rfl) ⟨Nat.le_of_ble_eq_true rfl, Nat.le_of_ble_eq_true rfl⟩ ⟨Nat.zero_le _, Nat.zero_le _⟩ (by decide) (by decide) rfl rfl eW_now_104 ?_
    exact v_iret X (pc := 107) h hr eW_now_107
  have h := it_f h g6
  refine v_tswD X (pc := 1) (tgt := 108) (tsw_out_0_6 g0 g1 g2 g3 g4 g5 g6) eW_now_1 (by decide) ?_
  refine v_aload_n X (pc := 108) 0 rfl eW_now_108 rfl ?_
  refine v_ldc X (pc := 109) qw_135 eW_now_109 ?_
  obtain ⟨r3, m3, hc3, h⟩ := bd_some h
  refine v_callV X (pc := 111) [_] [] ok_V_W_52 (cW_finding  hc3) rfl (Nat.le_of_ble_eq_true rfl) ⟨Nat.le_of_ble_eq_true rfl, Nat.le_of_ble_eq_true rfl⟩ ⟨Nat.zero_le _, Nat.zero_le _⟩ (by decide) (by decide) rfl rfl eW_now_111 ?_
  exact v_iret X (pc := 114) h hr eW_now_114
set_option maxHeartbeats 4000000 in
set_option maxRecDepth 100000 in
theorem cW_foresee_2 {p : Program} {l : Launch} {e : Env} {s : State} {m : MethodId} {args : Array Value} {below : List Frame} {meth : Method} {c : Code} {k : KK} {f : Nat} {o : Unit} {mem' : Mem} (X : CX p s m args meth c k prog_1_method_41_code 3 "WallShifts") (hr : meth.sig.returnType = (Option.none : Option Jvm.ClassFile.FieldType)) : ∀ (n : Nat) (x1 : Int32) (x2 : Int32) (mem : Mem), dW_foresee_2 f n x1 x2 mem = some (o, mem') → V p l e (rmM 2 53) s m args below meth c 0 0 (MQ below (RQc k none mem') args s 0 0 (kA k)) k 3 mem 2 [(0, aR 0 0), (1, aI x1), (2, aI x2)] [] := by
  intro n
  induction n with
  | zero =>
    intro x1 x2 mem  h
    exact nomatch (show (none : Option (Unit × Mem)) = some _ from h)
  | succ n ih =>
    intro x1 x2 mem  h
    rw [dW_foresee_2] at h
    refine v_iload_n X (pc := 2) 2 rfl eW_foresee_2 rfl ?_
    refine v_iload_n X (pc := 3) 1 rfl eW_foresee_3 rfl ?_
    refine v_icmp_ge X (pc := 4) (tgt := 53) h eW_foresee_4 (by decide) (fun h => ?_) (fun h => ?_)
    · refine v_iload_n X (pc := 7) 2 rfl eW_foresee_7 rfl ?_
      refine v_aload_n X (pc := 8) 0 rfl eW_foresee_8 rfl ?_
      refine v_get X (pc := 9) 7 (a := aR 11 0) (by decide) (by decide) rfl rfl rfl in_WallShifts (by decide) qw_103 rfl eW_foresee_9 ?_
      refine v_alenI X (pc := 12) (v := (270 : Int32)) rfl (by decide) (by decide) rfl eW_foresee_12 ?_
      refine v_icmp_ge X (pc := 13) (tgt := 53) h eW_foresee_13 (by decide) (fun h => ?_) (fun h => ?_)
      · refine v_aload_n X (pc := 16) 0 rfl eW_foresee_16 rfl ?_
        refine v_get X (pc := 17) 7 (a := aR 11 0) (by decide) (by decide) rfl rfl rfl in_WallShifts (by decide) qw_103 rfl eW_foresee_17 ?_
        refine v_iload_n X (pc := 20) 2 rfl eW_foresee_20 rfl ?_
        refine v_aload_n X (pc := 21) 0 rfl eW_foresee_21 rfl ?_
        refine v_get X (pc := 22) 0 (a := aR 1 0) (by decide) (by decide) rfl rfl rfl in_WallShifts (by decide) qw_96 rfl eW_foresee_22 ?_
        refine v_aload_n X (pc := 25) 0 rfl eW_foresee_25 rfl ?_
        refine v_get X (pc := 26) 0 (a := aR 1 0) (by decide) (by decide) rfl rfl rfl in_WallShifts (by decide) qw_96 rfl eW_foresee_26 ?_
        refine v_get X (pc := 29) 0 (a := aI (gI mem 1 0 0)) (by decide) (by decide) rfl rfl rfl in_Palace (by decide) qw_31 rfl eW_foresee_29 ?_
        refine v_iload_n X (pc := 32) 2 rfl eW_foresee_32 rfl ?_
        refine v_iadd X (pc := 33) eW_foresee_33 ?_
        refine v_aload_n X (pc := 34) 0 rfl eW_foresee_34 rfl ?_
        refine v_get X (pc := 35) 0 (a := aR 1 0) (by decide) (by decide) rfl rfl rfl in_WallShifts (by decide) qw_96 rfl eW_foresee_35 ?_
        refine v_get X (pc := 38) 1 (a := aR 2 0) (by decide) (by decide) rfl rfl rfl in_Palace (by decide) qw_33 rfl eW_foresee_38 ?_
        refine v_iconst X (pc := 41) (v := (0 : Int32)) eW_foresee_41 (by decide) ?_
        refine v_ialdK X (pc := 42) (n := 4) 0 (by decide) (by decide) (by decide) (by decide) rfl eW_foresee_42 ?_
        obtain ⟨r1, m1, hc1, h⟩ := bd_some h
        refine v_callV X (pc := 43) [_, _] [_, _] ok_V_W_145 (cP_onDuty (by decide) hc1) rfl (Nat.le_of_ble_eq_true rfl) ⟨Nat.le_of_ble_eq_true rfl, Nat.le_of_ble_eq_true rfl⟩ ⟨Nat.zero_le _, Nat.zero_le _⟩ (by decide) (by decide) rfl rfl eW_foresee_43 ?_
        refine v_iast X (pc := 46) h (by decide) (by decide) (fun _ => rfl) eW_foresee_46 (fun h => ?_)
        refine v_iinc X (pc := 47) (v := (x2 + (1 : Int32))) (lv' := [(2, _), (0, _), (1, _)]) 2 rfl (by rfl) eW_foresee_47 (Nat.le_of_ble_eq_true rfl) rfl ?_
        refine v_goto X (pc := 50) (tgt := 2) eW_foresee_50 (by decide) ?_
        exact v_sub [1, 2, 0] rfl (ih _ _ _  h)
      · exact v_vret X (pc := 53) h hr eW_foresee_53
    · exact v_vret X (pc := 53) h hr eW_foresee_53
set_option maxHeartbeats 4000000 in
set_option maxRecDepth 100000 in
theorem cW_foresee {f : Nat} {a1 : Int32} {mem : Mem} {o : Unit} {mem' : Mem}  (h : dW_foresee f a1 mem = some (o, mem')) : RT yW_foresee prog_1_method_41_code 3 (Option.none : Option Jvm.ClassFile.FieldType) (rmM 2 53) [aR 0 0, aI a1] mem none mem' := by
  refine RT.of (by decide +kernel) (Nat.le_of_ble_eq_true rfl) (fun p l e s m args below meth c k X hr => ?_)
  replace X : CX p s m args meth c k prog_1_method_41_code 3 "WallShifts" := X
  unfold dW_foresee at h
  refine v_sub (lv' := [(0, _), (1, _)]) [0, 1] rfl ?_
  refine v_iconst X (pc := 0) (v := (0 : Int32)) eW_foresee_0 (by decide) ?_
  refine v_istore_n X (pc := 1) (lv' := [(2, _), (0, _), (1, _)]) eW_foresee_1 rfl (Nat.le_of_ble_eq_true rfl) rfl ?_
  exact v_sub [1, 2, 0] rfl (cW_foresee_2 X hr _ _ _ _  h)
set_option maxHeartbeats 4000000 in
set_option maxRecDepth 100000 in
theorem cW_firstSilence_55 {p : Program} {l : Launch} {e : Env} {s : State} {m : MethodId} {args : Array Value} {below : List Frame} {meth : Method} {c : Code} {k : KK} {f : Nat} {o : Int32} {mem' : Mem} (X : CX p s m args meth c k prog_1_method_44_code 6 "WallShifts") (hr : meth.sig.returnType = (Option.some Jvm.ClassFile.FieldType.int)) {k15 : Int32 → Int32 → Int32 → Int32 → Mem → Option (Int32 × Mem)} (hk15 : ∀ (x2 : Int32) (x3 : Int32) (x4 : Int32) (x5 : Int32) (mem : Mem), k15 x2 x3 x4 x5 mem = some (o, mem') → V p l e (rmM 3 70) s m args below meth c 0 0 (MQ below (RQc k (some (aI o)) mem') args s 0 0 (kA k)) k 6 mem 15 [(0, aR 0 0), (2, aI x2), (3, aI x3), (4, aI x4), (5, aI x5)] []) : ∀ (x2 : Int32) (x3 : Int32) (x5 : Int32) (s0 : Int32) (mem : Mem), dW_firstSilence_55 f k15 x2 x3 x5 s0 mem = some (o, mem') → V p l e (rmM 3 70) s m args below meth c 0 0 (MQ below (RQc k (some (aI o)) mem') args s 0 0 (kA k)) k 6 mem 55 [(0, aR 0 0), (2, aI x2), (3, aI x3), (5, aI x5)] [aI s0] := by
  intro x2 x3 x5 s0 mem  h
  unfold dW_firstSilence_55 at h
  refine v_istore X (pc := 55) (lv' := [(4, _), (0, _), (2, _), (3, _), (5, _)]) eW_firstSilence_55 (Nat.le_of_ble_eq_true rfl) rfl ?_
  refine v_iload X (pc := 57) 0 rfl eW_firstSilence_57 ?_
  refine v_iload_n X (pc := 59) 2 rfl eW_firstSilence_59 rfl ?_
  refine v_icmp_lt X (pc := 60) (tgt := 70) h eW_firstSilence_60 (by decide) (fun h => ?_) (fun h => ?_)
  · refine v_iinc X (pc := 70) (v := (x5 + (1 : Int32))) (lv' := [(5, _), (4, _), (0, _), (2, _), (3, _)]) 4 rfl (by rfl) eW_firstSilence_70 (Nat.le_of_ble_eq_true rfl) rfl ?_
    refine v_goto X (pc := 73) (tgt := 15) eW_firstSilence_73 (by decide) ?_
    exact v_sub [2, 3, 4, 1, 0] rfl (hk15 _ _ _ _ _  h)
  · refine v_iload X (pc := 63) 4 rfl eW_firstSilence_63 ?_
    refine v_iload_n X (pc := 65) 2 rfl eW_firstSilence_65 rfl ?_
    refine v_isub X (pc := 66) eW_firstSilence_66 ?_
    refine v_iconst X (pc := 67) (v := (1 : Int32)) eW_firstSilence_67 (by decide) ?_
    refine v_iadd X (pc := 68) eW_firstSilence_68 ?_
    exact v_iret X (pc := 69) h hr eW_firstSilence_69
set_option maxHeartbeats 4000000 in
set_option maxRecDepth 100000 in
theorem cW_firstSilence_15 {p : Program} {l : Launch} {e : Env} {s : State} {m : MethodId} {args : Array Value} {below : List Frame} {meth : Method} {c : Code} {k : KK} {f : Nat} {o : Int32} {mem' : Mem} (X : CX p s m args meth c k prog_1_method_44_code 6 "WallShifts") (hr : meth.sig.returnType = (Option.some Jvm.ClassFile.FieldType.int)) : ∀ (n : Nat) (x2 : Int32) (x3 : Int32) (x4 : Int32) (x5 : Int32) (mem : Mem), dW_firstSilence_15 f n x2 x3 x4 x5 mem = some (o, mem') → V p l e (rmM 3 70) s m args below meth c 0 0 (MQ below (RQc k (some (aI o)) mem') args s 0 0 (kA k)) k 6 mem 15 [(0, aR 0 0), (2, aI x2), (3, aI x3), (4, aI x4), (5, aI x5)] [] := by
  intro n
  induction n with
  | zero =>
    intro x2 x3 x4 x5 mem  h
    exact nomatch (show (none : Option (Int32 × Mem)) = some _ from h)
  | succ n ih =>
    intro x2 x3 x4 x5 mem  h
    rw [dW_firstSilence_15] at h
    refine v_iload X (pc := 15) 4 rfl eW_firstSilence_15 ?_
    refine v_sipush X (pc := 17) (v := (240 : Int32)) eW_firstSilence_17 (by decide) ?_
    refine v_iload_n X (pc := 20) 1 rfl eW_firstSilence_20 rfl ?_
    refine v_iadd X (pc := 21) eW_firstSilence_21 ?_
    refine v_icmp_ge X (pc := 22) (tgt := 76) h eW_firstSilence_22 (by decide) (fun h => ?_) (fun h => ?_)
    · refine v_iload X (pc := 25) 4 rfl eW_firstSilence_25 ?_
      refine v_aload_n X (pc := 27) 0 rfl eW_firstSilence_27 rfl ?_
      refine v_get X (pc := 28) 7 (a := aR 11 0) (by decide) (by decide) rfl rfl rfl in_WallShifts (by decide) qw_103 rfl eW_firstSilence_28 ?_
      refine v_alenI X (pc := 31) (v := (270 : Int32)) rfl (by decide) (by decide) rfl eW_firstSilence_31 ?_
      refine v_icmp_ge X (pc := 32) (tgt := 76) h eW_firstSilence_32 (by decide) (fun h => ?_) (fun h => ?_)
      · refine v_aload_n X (pc := 35) 0 rfl eW_firstSilence_35 rfl ?_
        refine v_get X (pc := 36) 7 (a := aR 11 0) (by decide) (by decide) rfl rfl rfl in_WallShifts (by decide) qw_103 rfl eW_firstSilence_36 ?_
        refine v_iload X (pc := 39) 4 rfl eW_firstSilence_39 ?_
        refine v_iald X (pc := 41) h (by decide) (by decide) rfl eW_firstSilence_41 (fun h => ?_)
        refine v_iload_n X (pc := 42) 2 rfl eW_firstSilence_42 rfl ?_
        refine v_iand X (pc := 43) eW_firstSilence_43 ?_
        refine v_if_ne X (pc := 44) (tgt := 54) h eW_firstSilence_44 (by decide) (fun h => ?_) (fun h => ?_)
        · refine v_iload X (pc := 47) 3 rfl eW_firstSilence_47 ?_
          refine v_iconst X (pc := 49) (v := (1 : Int32)) eW_firstSilence_49 (by decide) ?_
          refine v_iadd X (pc := 50) eW_firstSilence_50 ?_
          refine v_goto X (pc := 51) (tgt := 55) eW_firstSilence_51 (by decide) ?_
          exact v_sub [0, 1, 2, 4] rfl (cW_firstSilence_55 X hr ih _ _ _ _ _  h)
        · refine v_iconst X (pc := 54) (v := (0 : Int32)) eW_firstSilence_54 (by decide) ?_
          exact v_sub [0, 1, 2, 4] rfl (cW_firstSilence_55 X hr ih _ _ _ _ _  h)
      · refine v_iconst X (pc := 76) (v := (-1 : Int32)) eW_firstSilence_76 (by decide) ?_
        exact v_iret X (pc := 77) h hr eW_firstSilence_77
    · refine v_iconst X (pc := 76) (v := (-1 : Int32)) eW_firstSilence_76 (by decide) ?_
      exact v_iret X (pc := 77) h hr eW_firstSilence_77
set_option maxHeartbeats 4000000 in
set_option maxRecDepth 100000 in
theorem cW_firstSilence {f : Nat} {a1 : Int32} {a2 : Int32} {mem : Mem} {o : Int32} {mem' : Mem}  (h : dW_firstSilence f a1 a2 mem = some (o, mem')) : RT yW_firstSilence prog_1_method_44_code 6 (Option.some Jvm.ClassFile.FieldType.int) (rmM 3 70) [aR 0 0, aI a1, aI a2] mem (some (aI o)) mem' := by
  refine RT.of (by decide +kernel) (Nat.le_of_ble_eq_true rfl) (fun p l e s m args below meth c k X hr => ?_)
  replace X : CX p s m args meth c k prog_1_method_44_code 6 "WallShifts" := X
  unfold dW_firstSilence at h
  refine v_sub (lv' := [(0, _), (1, _), (2, _)]) [0, 1, 2] rfl ?_
  refine v_aload_n X (pc := 0) 0 rfl eW_firstSilence_0 rfl ?_
  refine v_get X (pc := 1) 0 (a := aR 1 0) (by decide) (by decide) rfl rfl rfl in_WallShifts (by decide) qw_96 rfl eW_firstSilence_1 ?_
  refine v_iload_n X (pc := 4) 1 rfl eW_firstSilence_4 rfl ?_
  obtain ⟨r1, m1, hc1, h⟩ := bd_some h
  refine v_callV X (pc := 5) [_] [] ok_V_W_119 (cP_near (by decide) hc1) rfl (Nat.le_of_ble_eq_true rfl) ⟨Nat.le_of_ble_eq_true rfl, Nat.le_of_ble_eq_true rfl⟩ ⟨Nat.zero_le _, Nat.zero_le _⟩ (by decide) (by decide) rfl rfl eW_firstSilence_5 ?_
  refine v_istore_n X (pc := 8) (lv' := [(3, _), (0, _), (1, _), (2, _)]) eW_firstSilence_8 rfl (Nat.le_of_ble_eq_true rfl) rfl ?_
  refine v_iconst X (pc := 9) (v := (0 : Int32)) eW_firstSilence_9 (by decide) ?_
  refine v_istore X (pc := 10) (lv' := [(4, _), (3, _), (0, _), (1, _), (2, _)]) eW_firstSilence_10 (Nat.le_of_ble_eq_true rfl) rfl ?_
  refine v_iconst X (pc := 12) (v := (0 : Int32)) eW_firstSilence_12 (by decide) ?_
  refine v_istore X (pc := 13) (lv' := [(5, _), (4, _), (3, _), (0, _), (1, _), (2, _)]) eW_firstSilence_13 (Nat.le_of_ble_eq_true rfl) rfl ?_
  exact v_sub [3, 5, 2, 1, 0] rfl (cW_firstSilence_15 X hr _ _ _ _ _ _  h)
set_option maxHeartbeats 4000000 in
set_option maxRecDepth 100000 in
theorem cW_safe {f : Nat} {a1 : Int32} {a2 : Int32} {mem : Mem} {o : Int32} {mem' : Mem}  (h : dW_safe f a1 a2 mem = some (o, mem')) : RT yW_safe prog_1_method_16_code 4 (Option.some Jvm.ClassFile.FieldType.int) (rmM 4 95) [aR 0 0, aI a1, aI a2] mem (some (aI o)) mem' := by
  refine RT.of (by decide +kernel) (Nat.le_of_ble_eq_true rfl) (fun p l e s m args below meth c k X hr => ?_)
  replace X : CX p s m args meth c k prog_1_method_16_code 4 "WallShifts" := X
  unfold dW_safe at h
  refine v_sub (lv' := [(0, _), (1, _), (2, _)]) [0, 1, 2] rfl ?_
  refine v_iload_n X (pc := 0) 1 rfl eW_safe_0 rfl ?_
  obtain ⟨r1, m1, hc1, h⟩ := bd_some h
  refine v_callS X (pc := 1) [_] [] ok_S_W_63 (cW_isRoom  hc1) rfl (Nat.le_of_ble_eq_true rfl) ⟨Nat.le_of_ble_eq_true rfl, Nat.le_of_ble_eq_true rfl⟩ ⟨Nat.zero_le _, Nat.zero_le _⟩ eW_safe_1 ?_
  refine v_if_eq X (pc := 4) (tgt := 17) h eW_safe_4 (by decide) (fun h => ?_) (fun h => ?_)
  · refine v_aload_n X (pc := 17) 0 rfl eW_safe_17 rfl ?_
    refine v_ldc X (pc := 18) qw_135 eW_safe_18 ?_
    obtain ⟨r2, m2, hc2, h⟩ := bd_some h
    refine v_callV X (pc := 20) [_] [] ok_V_W_52 (cW_finding  hc2) rfl (Nat.le_of_ble_eq_true rfl) ⟨Nat.le_of_ble_eq_true rfl, Nat.le_of_ble_eq_true rfl⟩ ⟨Nat.zero_le _, Nat.zero_le _⟩ (by decide) (by decide) rfl rfl eW_safe_20 ?_
    exact v_iret X (pc := 23) h hr eW_safe_23
  · refine v_iload_n X (pc := 7) 2 rfl eW_safe_7 rfl ?_
    refine v_iconst X (pc := 8) (v := (1 : Int32)) eW_safe_8 (by decide) ?_
    refine v_bipush X (pc := 9) (v := (30 : Int32)) eW_safe_9 (by decide) ?_
    obtain ⟨r3, m3, hc3, h⟩ := bd_some h
    refine v_callS X (pc := 11) [_, _, _] [] ok_S_W_82 (cW_isIn  hc3) rfl (Nat.le_of_ble_eq_true rfl) ⟨Nat.le_of_ble_eq_true rfl, Nat.le_of_ble_eq_true rfl⟩ ⟨Nat.zero_le _, Nat.zero_le _⟩ eW_safe_11 ?_
    refine v_if_ne X (pc := 14) (tgt := 24) h eW_safe_14 (by decide) (fun h => ?_) (fun h => ?_)
    · refine v_aload_n X (pc := 17) 0 rfl eW_safe_17 rfl ?_
      refine v_ldc X (pc := 18) qw_135 eW_safe_18 ?_
      obtain ⟨r4, m4, hc4, h⟩ := bd_some h
      refine v_callV X (pc := 20) [_] [] ok_V_W_52 (cW_finding  hc4) rfl (Nat.le_of_ble_eq_true rfl) ⟨Nat.le_of_ble_eq_true rfl, Nat.le_of_ble_eq_true rfl⟩ ⟨Nat.zero_le _, Nat.zero_le _⟩ (by decide) (by decide) rfl rfl eW_safe_20 ?_
      exact v_iret X (pc := 23) h hr eW_safe_23
    · refine v_aload_n X (pc := 24) 0 rfl eW_safe_24 rfl ?_
      refine v_sipush X (pc := 25) (v := (240 : Int32)) eW_safe_25 (by decide) ?_
      refine v_iload_n X (pc := 28) 2 rfl eW_safe_28 rfl ?_
      refine v_iadd X (pc := 29) eW_safe_29 ?_
      obtain ⟨r5, m5, hc5, h⟩ := bd_some h
      refine v_callV X (pc := 30) [_] [] ok_V_W_158 (cW_foresee  hc5) rfl (Nat.le_of_ble_eq_true rfl) ⟨Nat.le_of_ble_eq_true rfl, Nat.le_of_ble_eq_true rfl⟩ ⟨Nat.zero_le _, Nat.zero_le _⟩ (by decide) (by decide) rfl rfl eW_safe_30 ?_
      refine v_aload_n X (pc := 33) 0 rfl eW_safe_33 rfl ?_
      refine v_iload_n X (pc := 34) 1 rfl eW_safe_34 rfl ?_
      refine v_iload_n X (pc := 35) 2 rfl eW_safe_35 rfl ?_
      obtain ⟨r6, m6, hc6, h⟩ := bd_some h
      refine v_callV X (pc := 36) [_, _] [] ok_V_W_162 (cW_firstSilence  hc6) rfl (Nat.le_of_ble_eq_true rfl) ⟨Nat.le_of_ble_eq_true rfl, Nat.le_of_ble_eq_true rfl⟩ ⟨Nat.zero_le _, Nat.zero_le _⟩ (by decide) (by decide) rfl rfl eW_safe_36 ?_
      refine v_istore_n X (pc := 39) (lv' := [(3, _), (0, _), (1, _), (2, _)]) eW_safe_39 rfl (Nat.le_of_ble_eq_true rfl) rfl ?_
      refine v_iload_n X (pc := 40) 0 rfl eW_safe_40 rfl ?_
      refine v_if_ge X (pc := 41) (tgt := 53) h eW_safe_41 (by decide) (fun h => ?_) (fun h => ?_)
      · refine v_aload_n X (pc := 44) 1 rfl eW_safe_44 rfl ?_
        refine v_ldc X (pc := 45) qw_268 eW_safe_45 ?_
        obtain ⟨r7, m7, hc7, h⟩ := bd_some h
        refine v_callV X (pc := 47) [_] [] ok_V_W_52 (cW_finding  hc7) rfl (Nat.le_of_ble_eq_true rfl) ⟨Nat.le_of_ble_eq_true rfl, Nat.le_of_ble_eq_true rfl⟩ ⟨Nat.zero_le _, Nat.zero_le _⟩ (by decide) (by decide) rfl rfl eW_safe_47 ?_
        refine v_goto X (pc := 50) (tgt := 54) eW_safe_50 (by decide) ?_
        exact v_iret X (pc := 54) h hr eW_safe_54
      · refine v_iload_n X (pc := 53) 0 rfl eW_safe_53 rfl ?_
        exact v_iret X (pc := 54) h hr eW_safe_54
