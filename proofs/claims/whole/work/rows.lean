section
-- ===== PART A: goes FIRST, ahead of the names: the tables' words, and 'selects' of the private methods out of them =====
/-- a private method of a class that the tables say can be made, by its rows of tables_1 -/
def lw_okq (q : MethodName × Nat) : Prop := (q.1.cls ≠ "java/lang/invoke/MethodHandle" ∧ q.1.cls ≠ "java/lang/invoke/VarHandle") ∧ Cond.instantiable q.1.cls q.2 ∈ tables_1 ∧ Cond.privateMethod q.1 ∈ tables_1 ∧ Cond.instanceMethod q.1 ∈ tables_1
theorem lw_p0 : lw_okq (⟨"WallShifts", "finding", "(I)I"⟩, 8) := ⟨⟨by decide +kernel, by decide +kernel⟩, List.mem_of_getElem? (i := 15) (by decide +kernel), List.mem_of_getElem? (i := 141) (by decide +kernel), List.mem_of_getElem? (i := 142) (by decide +kernel)⟩
theorem lw_p1 : lw_okq (⟨"WallShifts", "isWall", "(I)Z"⟩, 8) := ⟨⟨by decide +kernel, by decide +kernel⟩, List.mem_of_getElem? (i := 15) (by decide +kernel), List.mem_of_getElem? (i := 168) (by decide +kernel), List.mem_of_getElem? (i := 169) (by decide +kernel)⟩
theorem lw_p2 : lw_okq (⟨"WallShifts", "foresee", "(I)V"⟩, 8) := ⟨⟨by decide +kernel, by decide +kernel⟩, List.mem_of_getElem? (i := 15) (by decide +kernel), List.mem_of_getElem? (i := 324) (by decide +kernel), List.mem_of_getElem? (i := 325) (by decide +kernel)⟩
theorem lw_p3 : lw_okq (⟨"WallShifts", "firstSilence", "(II)I"⟩, 8) := ⟨⟨by decide +kernel, by decide +kernel⟩, List.mem_of_getElem? (i := 15) (by decide +kernel), List.mem_of_getElem? (i := 328) (by decide +kernel), List.mem_of_getElem? (i := 329) (by decide +kernel)⟩
theorem lw_p4 : lw_okq (⟨"WallShifts", "minutesAlone", "(III)I"⟩, 8) := ⟨⟨by decide +kernel, by decide +kernel⟩, List.mem_of_getElem? (i := 15) (by decide +kernel), List.mem_of_getElem? (i := 348) (by decide +kernel), List.mem_of_getElem? (i := 349) (by decide +kernel)⟩
theorem lw_p5 : lw_okq (⟨"WallShifts", "hearsAlways", "(II)Z"⟩, 8) := ⟨⟨by decide +kernel, by decide +kernel⟩, List.mem_of_getElem? (i := 15) (by decide +kernel), List.mem_of_getElem? (i := 356) (by decide +kernel), List.mem_of_getElem? (i := 357) (by decide +kernel)⟩
theorem lw_p6 : lw_okq (⟨"WallShifts", "isBookOf", "(LWallShifts$Sheet;II)Z"⟩, 8) := ⟨⟨by decide +kernel, by decide +kernel⟩, List.mem_of_getElem? (i := 15) (by decide +kernel), List.mem_of_getElem? (i := 568) (by decide +kernel), List.mem_of_getElem? (i := 569) (by decide +kernel)⟩
theorem lw_p7 : lw_okq (⟨"WallShiftsModel", "becomes", "(II)I"⟩, 19) := ⟨⟨by decide +kernel, by decide +kernel⟩, List.mem_of_getElem? (i := 603) (by decide +kernel), List.mem_of_getElem? (i := 674) (by decide +kernel), List.mem_of_getElem? (i := 675) (by decide +kernel)⟩
theorem lw_p8 : lw_okq (⟨"WallShiftsModel", "finds", "(I)I"⟩, 19) := ⟨⟨by decide +kernel, by decide +kernel⟩, List.mem_of_getElem? (i := 603) (by decide +kernel), List.mem_of_getElem? (i := 679) (by decide +kernel), List.mem_of_getElem? (i := 680) (by decide +kernel)⟩
theorem lw_p9 : lw_okq (⟨"WallShiftsModel", "addWall", "(IIII)V"⟩, 19) := ⟨⟨by decide +kernel, by decide +kernel⟩, List.mem_of_getElem? (i := 603) (by decide +kernel), List.mem_of_getElem? (i := 694) (by decide +kernel), List.mem_of_getElem? (i := 695) (by decide +kernel)⟩
theorem lw_p10 : lw_okq (⟨"WallShiftsModel", "puts", "(III)V"⟩, 19) := ⟨⟨by decide +kernel, by decide +kernel⟩, List.mem_of_getElem? (i := 603) (by decide +kernel), List.mem_of_getElem? (i := 698) (by decide +kernel), List.mem_of_getElem? (i := 699) (by decide +kernel)⟩
theorem lw_p11 : lw_okq (⟨"WallShiftsModel", "isOne", "(I)Z"⟩, 19) := ⟨⟨by decide +kernel, by decide +kernel⟩, List.mem_of_getElem? (i := 603) (by decide +kernel), List.mem_of_getElem? (i := 706) (by decide +kernel), List.mem_of_getElem? (i := 707) (by decide +kernel)⟩
theorem lw_p12 : lw_okq (⟨"WallShiftsModel", "isOnDuty", "(II)Z"⟩, 19) := ⟨⟨by decide +kernel, by decide +kernel⟩, List.mem_of_getElem? (i := 603) (by decide +kernel), List.mem_of_getElem? (i := 710) (by decide +kernel), List.mem_of_getElem? (i := 711) (by decide +kernel)⟩
theorem lw_p13 : lw_okq (⟨"WallShiftsModel", "its", "(II)I"⟩, 19) := ⟨⟨by decide +kernel, by decide +kernel⟩, List.mem_of_getElem? (i := 603) (by decide +kernel), List.mem_of_getElem? (i := 714) (by decide +kernel), List.mem_of_getElem? (i := 715) (by decide +kernel)⟩
theorem lw_p14 : lw_okq (⟨"WallShiftsModel", "isAwake", "(I)Z"⟩, 19) := ⟨⟨by decide +kernel, by decide +kernel⟩, List.mem_of_getElem? (i := 603) (by decide +kernel), List.mem_of_getElem? (i := 718) (by decide +kernel), List.mem_of_getElem? (i := 719) (by decide +kernel)⟩
theorem lw_p15 : lw_okq (⟨"WallShiftsModel", "tires", "(I)I"⟩, 19) := ⟨⟨by decide +kernel, by decide +kernel⟩, List.mem_of_getElem? (i := 603) (by decide +kernel), List.mem_of_getElem? (i := 722) (by decide +kernel), List.mem_of_getElem? (i := 723) (by decide +kernel)⟩
def lw_privs_1 : List (MethodName × Nat) := [(⟨"WallShifts", "finding", "(I)I"⟩, 8), (⟨"WallShifts", "isWall", "(I)Z"⟩, 8), (⟨"WallShifts", "foresee", "(I)V"⟩, 8), (⟨"WallShifts", "firstSilence", "(II)I"⟩, 8), (⟨"WallShifts", "minutesAlone", "(III)I"⟩, 8), (⟨"WallShifts", "hearsAlways", "(II)Z"⟩, 8), (⟨"WallShifts", "isBookOf", "(LWallShifts$Sheet;II)Z"⟩, 8), (⟨"WallShiftsModel", "becomes", "(II)I"⟩, 19), (⟨"WallShiftsModel", "finds", "(I)I"⟩, 19), (⟨"WallShiftsModel", "addWall", "(IIII)V"⟩, 19), (⟨"WallShiftsModel", "puts", "(III)V"⟩, 19), (⟨"WallShiftsModel", "isOne", "(I)Z"⟩, 19), (⟨"WallShiftsModel", "isOnDuty", "(II)Z"⟩, 19), (⟨"WallShiftsModel", "its", "(II)I"⟩, 19), (⟨"WallShiftsModel", "isAwake", "(I)Z"⟩, 19), (⟨"WallShiftsModel", "tires", "(I)I"⟩, 19)]
theorem lw_r1 : ∀ q ∈ lw_privs_1, lw_okq q := List.forall_mem_cons.mpr ⟨lw_p0, List.forall_mem_cons.mpr ⟨lw_p1, List.forall_mem_cons.mpr ⟨lw_p2, List.forall_mem_cons.mpr ⟨lw_p3, List.forall_mem_cons.mpr ⟨lw_p4, List.forall_mem_cons.mpr ⟨lw_p5, List.forall_mem_cons.mpr ⟨lw_p6, List.forall_mem_cons.mpr ⟨lw_p7, List.forall_mem_cons.mpr ⟨lw_p8, List.forall_mem_cons.mpr ⟨lw_p9, List.forall_mem_cons.mpr ⟨lw_p10, List.forall_mem_cons.mpr ⟨lw_p11, List.forall_mem_cons.mpr ⟨lw_p12, List.forall_mem_cons.mpr ⟨lw_p13, List.forall_mem_cons.mpr ⟨lw_p14, List.forall_mem_cons.mpr ⟨lw_p15, fun _ h => absurd h List.not_mem_nil⟩⟩⟩⟩⟩⟩⟩⟩⟩⟩⟩⟩⟩⟩⟩⟩
theorem lw_p16 : lw_okq (⟨"WallShiftsModel", "heard", "(II)I"⟩, 19) := ⟨⟨by decide +kernel, by decide +kernel⟩, List.mem_of_getElem? (i := 603) (by decide +kernel), List.mem_of_getElem? (i := 747) (by decide +kernel), List.mem_of_getElem? (i := 748) (by decide +kernel)⟩
theorem lw_p17 : lw_okq (⟨"WallShiftsModel", "saidIn", "(II)I"⟩, 19) := ⟨⟨by decide +kernel, by decide +kernel⟩, List.mem_of_getElem? (i := 603) (by decide +kernel), List.mem_of_getElem? (i := 756) (by decide +kernel), List.mem_of_getElem? (i := 757) (by decide +kernel)⟩
theorem lw_p18 : lw_okq (⟨"WallShiftsModel", "reachOf", "(I)I"⟩, 19) := ⟨⟨by decide +kernel, by decide +kernel⟩, List.mem_of_getElem? (i := 603) (by decide +kernel), List.mem_of_getElem? (i := 760) (by decide +kernel), List.mem_of_getElem? (i := 761) (by decide +kernel)⟩
theorem lw_p19 : lw_okq (⟨"WallShiftsModel", "isAt", "(II)Z"⟩, 19) := ⟨⟨by decide +kernel, by decide +kernel⟩, List.mem_of_getElem? (i := 603) (by decide +kernel), List.mem_of_getElem? (i := 767) (by decide +kernel), List.mem_of_getElem? (i := 768) (by decide +kernel)⟩
theorem lw_p20 : lw_okq (⟨"WallShiftsModel", "oneMinute", "()V"⟩, 19) := ⟨⟨by decide +kernel, by decide +kernel⟩, List.mem_of_getElem? (i := 603) (by decide +kernel), List.mem_of_getElem? (i := 780) (by decide +kernel), List.mem_of_getElem? (i := 781) (by decide +kernel)⟩
theorem lw_p21 : lw_okq (⟨"WallShiftsModel", "speaks", "(II)I"⟩, 19) := ⟨⟨by decide +kernel, by decide +kernel⟩, List.mem_of_getElem? (i := 603) (by decide +kernel), List.mem_of_getElem? (i := 791) (by decide +kernel), List.mem_of_getElem? (i := 792) (by decide +kernel)⟩
theorem lw_p22 : lw_okq (⟨"WallShiftsModel", "inFiles", "()I"⟩, 19) := ⟨⟨by decide +kernel, by decide +kernel⟩, List.mem_of_getElem? (i := 603) (by decide +kernel), List.mem_of_getElem? (i := 807) (by decide +kernel), List.mem_of_getElem? (i := 808) (by decide +kernel)⟩
theorem lw_p23 : lw_okq (⟨"WallShiftsModel", "tiredAll", "()I"⟩, 19) := ⟨⟨by decide +kernel, by decide +kernel⟩, List.mem_of_getElem? (i := 603) (by decide +kernel), List.mem_of_getElem? (i := 811) (by decide +kernel), List.mem_of_getElem? (i := 812) (by decide +kernel)⟩
theorem lw_p24 : lw_okq (⟨"WallShiftsModel", "safeIn", "(II)I"⟩, 19) := ⟨⟨by decide +kernel, by decide +kernel⟩, List.mem_of_getElem? (i := 603) (by decide +kernel), List.mem_of_getElem? (i := 823) (by decide +kernel), List.mem_of_getElem? (i := 824) (by decide +kernel)⟩
theorem lw_p25 : lw_okq (⟨"WallShiftsModel", "isUnheard", "(III)Z"⟩, 19) := ⟨⟨by decide +kernel, by decide +kernel⟩, List.mem_of_getElem? (i := 603) (by decide +kernel), List.mem_of_getElem? (i := 827) (by decide +kernel), List.mem_of_getElem? (i := 828) (by decide +kernel)⟩
theorem lw_p26 : lw_okq (⟨"WallShiftsModel", "unheardIn", "(III)I"⟩, 19) := ⟨⟨by decide +kernel, by decide +kernel⟩, List.mem_of_getElem? (i := 603) (by decide +kernel), List.mem_of_getElem? (i := 839) (by decide +kernel), List.mem_of_getElem? (i := 840) (by decide +kernel)⟩
theorem lw_p27 : lw_okq (⟨"WallShiftsModel", "moveAll", "(Z[I)V"⟩, 19) := ⟨⟨by decide +kernel, by decide +kernel⟩, List.mem_of_getElem? (i := 603) (by decide +kernel), List.mem_of_getElem? (i := 863) (by decide +kernel), List.mem_of_getElem? (i := 864) (by decide +kernel)⟩
theorem lw_p28 : lw_okq (⟨"WallShiftsModel", "advance", "()V"⟩, 19) := ⟨⟨by decide +kernel, by decide +kernel⟩, List.mem_of_getElem? (i := 603) (by decide +kernel), List.mem_of_getElem? (i := 883) (by decide +kernel), List.mem_of_getElem? (i := 884) (by decide +kernel)⟩
theorem lw_p29 : lw_okq (⟨"WallShiftsModel", "byteAt", "(I)I"⟩, 19) := ⟨⟨by decide +kernel, by decide +kernel⟩, List.mem_of_getElem? (i := 603) (by decide +kernel), List.mem_of_getElem? (i := 887) (by decide +kernel), List.mem_of_getElem? (i := 888) (by decide +kernel)⟩
theorem lw_p30 : lw_okq (⟨"WallShiftsModel", "wantItem", "()V"⟩, 19) := ⟨⟨by decide +kernel, by decide +kernel⟩, List.mem_of_getElem? (i := 603) (by decide +kernel), List.mem_of_getElem? (i := 900) (by decide +kernel), List.mem_of_getElem? (i := 901) (by decide +kernel)⟩
theorem lw_p31 : lw_okq (⟨"WallShiftsModel", "kindHere", "()I"⟩, 19) := ⟨⟨by decide +kernel, by decide +kernel⟩, List.mem_of_getElem? (i := 603) (by decide +kernel), List.mem_of_getElem? (i := 904) (by decide +kernel), List.mem_of_getElem? (i := 905) (by decide +kernel)⟩
def lw_privs_2 : List (MethodName × Nat) := [(⟨"WallShiftsModel", "heard", "(II)I"⟩, 19), (⟨"WallShiftsModel", "saidIn", "(II)I"⟩, 19), (⟨"WallShiftsModel", "reachOf", "(I)I"⟩, 19), (⟨"WallShiftsModel", "isAt", "(II)Z"⟩, 19), (⟨"WallShiftsModel", "oneMinute", "()V"⟩, 19), (⟨"WallShiftsModel", "speaks", "(II)I"⟩, 19), (⟨"WallShiftsModel", "inFiles", "()I"⟩, 19), (⟨"WallShiftsModel", "tiredAll", "()I"⟩, 19), (⟨"WallShiftsModel", "safeIn", "(II)I"⟩, 19), (⟨"WallShiftsModel", "isUnheard", "(III)Z"⟩, 19), (⟨"WallShiftsModel", "unheardIn", "(III)I"⟩, 19), (⟨"WallShiftsModel", "moveAll", "(Z[I)V"⟩, 19), (⟨"WallShiftsModel", "advance", "()V"⟩, 19), (⟨"WallShiftsModel", "byteAt", "(I)I"⟩, 19), (⟨"WallShiftsModel", "wantItem", "()V"⟩, 19), (⟨"WallShiftsModel", "kindHere", "()I"⟩, 19)]
theorem lw_r2 : ∀ q ∈ lw_privs_2, lw_okq q := List.forall_mem_cons.mpr ⟨lw_p16, List.forall_mem_cons.mpr ⟨lw_p17, List.forall_mem_cons.mpr ⟨lw_p18, List.forall_mem_cons.mpr ⟨lw_p19, List.forall_mem_cons.mpr ⟨lw_p20, List.forall_mem_cons.mpr ⟨lw_p21, List.forall_mem_cons.mpr ⟨lw_p22, List.forall_mem_cons.mpr ⟨lw_p23, List.forall_mem_cons.mpr ⟨lw_p24, List.forall_mem_cons.mpr ⟨lw_p25, List.forall_mem_cons.mpr ⟨lw_p26, List.forall_mem_cons.mpr ⟨lw_p27, List.forall_mem_cons.mpr ⟨lw_p28, List.forall_mem_cons.mpr ⟨lw_p29, List.forall_mem_cons.mpr ⟨lw_p30, List.forall_mem_cons.mpr ⟨lw_p31, fun _ h => absurd h List.not_mem_nil⟩⟩⟩⟩⟩⟩⟩⟩⟩⟩⟩⟩⟩⟩⟩⟩
theorem lw_p32 : lw_okq (⟨"WallShiftsModel", "isWord", "(J)Z"⟩, 19) := ⟨⟨by decide +kernel, by decide +kernel⟩, List.mem_of_getElem? (i := 603) (by decide +kernel), List.mem_of_getElem? (i := 909) (by decide +kernel), List.mem_of_getElem? (i := 910) (by decide +kernel)⟩
theorem lw_p33 : lw_okq (⟨"WallShiftsModel", "wantWall", "(I)V"⟩, 19) := ⟨⟨by decide +kernel, by decide +kernel⟩, List.mem_of_getElem? (i := 603) (by decide +kernel), List.mem_of_getElem? (i := 918) (by decide +kernel), List.mem_of_getElem? (i := 919) (by decide +kernel)⟩
theorem lw_p34 : lw_okq (⟨"WallShiftsModel", "wantNumber", "(II)I"⟩, 19) := ⟨⟨by decide +kernel, by decide +kernel⟩, List.mem_of_getElem? (i := 603) (by decide +kernel), List.mem_of_getElem? (i := 923) (by decide +kernel), List.mem_of_getElem? (i := 924) (by decide +kernel)⟩
theorem lw_p35 : lw_okq (⟨"WallShiftsModel", "mayWant", "(JIII)I"⟩, 19) := ⟨⟨by decide +kernel, by decide +kernel⟩, List.mem_of_getElem? (i := 603) (by decide +kernel), List.mem_of_getElem? (i := 928) (by decide +kernel), List.mem_of_getElem? (i := 929) (by decide +kernel)⟩
theorem lw_p36 : lw_okq (⟨"WallShiftsModel", "wantRota", "(III)V"⟩, 19) := ⟨⟨by decide +kernel, by decide +kernel⟩, List.mem_of_getElem? (i := 603) (by decide +kernel), List.mem_of_getElem? (i := 934) (by decide +kernel), List.mem_of_getElem? (i := 935) (by decide +kernel)⟩
theorem lw_p37 : lw_okq (⟨"WallShiftsModel", "isPart", "(III)Z"⟩, 19) := ⟨⟨by decide +kernel, by decide +kernel⟩, List.mem_of_getElem? (i := 603) (by decide +kernel), List.mem_of_getElem? (i := 960) (by decide +kernel), List.mem_of_getElem? (i := 961) (by decide +kernel)⟩
theorem lw_p38 : lw_okq (⟨"WallShiftsModel", "badSheet", "(I)I"⟩, 19) := ⟨⟨by decide +kernel, by decide +kernel⟩, List.mem_of_getElem? (i := 603) (by decide +kernel), List.mem_of_getElem? (i := 968) (by decide +kernel), List.mem_of_getElem? (i := 969) (by decide +kernel)⟩
theorem lw_p39 : lw_okq (⟨"WallShiftsModel", "isSo", "(II)Z"⟩, 19) := ⟨⟨by decide +kernel, by decide +kernel⟩, List.mem_of_getElem? (i := 603) (by decide +kernel), List.mem_of_getElem? (i := 981) (by decide +kernel), List.mem_of_getElem? (i := 982) (by decide +kernel)⟩
def lw_privs_3 : List (MethodName × Nat) := [(⟨"WallShiftsModel", "isWord", "(J)Z"⟩, 19), (⟨"WallShiftsModel", "wantWall", "(I)V"⟩, 19), (⟨"WallShiftsModel", "wantNumber", "(II)I"⟩, 19), (⟨"WallShiftsModel", "mayWant", "(JIII)I"⟩, 19), (⟨"WallShiftsModel", "wantRota", "(III)V"⟩, 19), (⟨"WallShiftsModel", "isPart", "(III)Z"⟩, 19), (⟨"WallShiftsModel", "badSheet", "(I)I"⟩, 19), (⟨"WallShiftsModel", "isSo", "(II)Z"⟩, 19)]
theorem lw_r3 : ∀ q ∈ lw_privs_3, lw_okq q := List.forall_mem_cons.mpr ⟨lw_p32, List.forall_mem_cons.mpr ⟨lw_p33, List.forall_mem_cons.mpr ⟨lw_p34, List.forall_mem_cons.mpr ⟨lw_p35, List.forall_mem_cons.mpr ⟨lw_p36, List.forall_mem_cons.mpr ⟨lw_p37, List.forall_mem_cons.mpr ⟨lw_p38, List.forall_mem_cons.mpr ⟨lw_p39, fun _ h => absurd h List.not_mem_nil⟩⟩⟩⟩⟩⟩⟩⟩
def lw_privs : List (MethodName × Nat) := lw_privs_1 ++ (lw_privs_2 ++ (lw_privs_3))
def lw_tbl : List Cond := k2_sels lw_privs ++ tables_1
theorem lw_privs_ok : ∀ q ∈ lw_privs, lw_okq q := by
  show ∀ q ∈ lw_privs_1 ++ (lw_privs_2 ++ (lw_privs_3)), lw_okq q
  exact List.forall_mem_append.mpr ⟨lw_r1, List.forall_mem_append.mpr ⟨lw_r2, lw_r3⟩⟩
-- ===== end of PART A; then your names; then what follows =====

/-! The words of the tables that every method may lean on: those that hold from any caller on. -/
def wG : List Cond := lw_tbl.filter goodWord
theorem wG_mem {i : Nat} {w : Cond} (h : lw_tbl[i]? = some w) (hg : goodWord w = true) : w ∈ wG := List.mem_filter.mpr ⟨List.mem_of_getElem? h, hg⟩
theorem wG_in {w : Cond} (h : w ∈ wG) : w ∈ lw_tbl := (List.mem_filter.mp h).1
theorem wG_good {w : Cond} (h : w ∈ wG) : (w.onTables && w.keeps) = true ∨ ∃ ty, w = .arrayClass ty := good_of_word (List.mem_filter.mp h).2
theorem wG_all {ws : List Cond} (h : ∀ w ∈ ws, w ∈ wG) : GoodIn wG ws := fun w hw => ⟨h w hw, wG_good (h w hw)⟩
end
section
/-! THE WORLD: what the class's and the reference's objects hold, as one memory of numbers: kind of cell, which of that kind, which slot.
Kinds: 0 WallShifts, 1 Palace (3), 2 its rotas, 3 its walls, 4 a wall's numbers (30), 5 Tape, 6 its bytes, 7 the row of sheets, 8 Sheet (4), 9 its numbers, 10 answered, 11 ahead,
12 the reference, 13 row, 14 found, 15 tried, 16 tape, 17 bitsOf, 18 sizeOf, 19 sheets, 20 lent, 21 image, 22 before; read only: 23 static rows (4), 24 the script, 25 literals (12), 26 their bytes. -/
abbrev AV : Type := Int32 ⊕ (Int64 ⊕ ((Nat × Nat) ⊕ Unit))
abbrev aI (x : Int32) : AV := .inl x
abbrev aL (x : Int64) : AV := .inr (.inl x)
abbrev aR (t i : Nat) : AV := .inr (.inr (.inl (t, i)))
/-- a reference, or null, that nobody looks at -/
abbrev aQ : AV := .inr (.inr (.inr ()))
abbrev Mem : Type := (Nat → Nat → Nat → Int32) × (Nat → Nat → Nat → Int64)
def gI (m : Mem) (t i j : Nat) : Int32 := m.1 t i j
def gL (m : Mem) (t i j : Nat) : Int64 := m.2 t i j
def sI (m : Mem) (t i j : Nat) (v : Int32) : Mem := (fun t' i' j' => if t' = t ∧ i' = i ∧ j' = j then v else m.1 t' i' j', m.2)
def sL (m : Mem) (t i j : Nat) (v : Int64) : Mem := (m.1, fun t' i' j' => if t' = t ∧ i' = i ∧ j' = j then v else m.2 t' i' j')
/-- a row of ints of one cell put whole -/
def sIr (m : Mem) (t i : Nat) (f : Nat → Int32) : Mem := (fun t' i' j' => if t' = t ∧ i' = i then f j' else m.1 t' i' j', m.2)
def sLr (m : Mem) (t i : Nat) (f : Nat → Int64) : Mem := (m.1, fun t' i' j' => if t' = t ∧ i' = i then f j' else m.2 t' i' j')
/-- where a kind's cells begin, and how many there are -/
def oT (t : Nat) : Nat := [0, 1, 4, 7, 10, 40, 41, 42, 43, 47, 51, 52, 53, 54, 55, 56, 57, 58, 59, 60, 61, 62, 63, 64, 68, 69, 81].getD t 93
def nT (t : Nat) : Nat := [1, 3, 3, 3, 30, 1, 1, 1, 4, 4, 1, 1, 1, 1, 1, 1, 1, 1, 1, 1, 1, 1, 1, 4, 1, 12, 12].getD t 0
def kTs : List (Nat × Nat) := (List.range 23).flatMap (fun t => (List.range (nT t)).map (fun i => (t, i)))
def kT (k : Nat) : Nat := (kTs.getD k (0, 0)).1
def kI (k : Nat) : Nat := (kTs.getD k (0, 0)).2
theorem kT_at : ∀ t, t < 23 → ∀ i, i < nT t → oT t + i < 64 ∧ kT (oT t + i) = t ∧ kI (oT t + i) = i := by decide +kernel
theorem kT_of : ∀ k, k < 64 → oT (kT k) + kI k = k := by decide +kernel
def T_Palace : u_T := fun k => match k with
  | 0 => ("WallShifts$Palace", "minute", "I", false)
  | 1 => ("WallShifts$Palace", "rotas", "[I", true)
  | 2 => ("WallShifts$Palace", "count", "I", false)
  | 3 => ("WallShifts$Palace", "walls", "[[I", true)
  | _ => ("WallShifts$Palace", "unheardWords", "I", false)
def ty_Palace : Nat → FieldType := fun k => match k with
  | 0 => .int
  | 1 => .array .int
  | 2 => .int
  | 3 => .array (.array .int)
  | _ => .int
theorem nm_Palace : ∀ a, a < 5 → ∀ b, b < 5 → a ≠ b → (T_Palace a).2.1 ≠ (T_Palace b).2.1 := by decide +kernel
theorem ty_Palace_ok : ∀ k, k < 5 → parseFieldDescriptor (T_Palace k).2.2.1 = some (ty_Palace k) := by decide +kernel
def T_Sheet : u_T := fun k => match k with
  | 0 => ("WallShifts$Sheet", "bits", "I", false)
  | 1 => ("WallShifts$Sheet", "size", "I", false)
  | _ => ("WallShifts$Sheet", "numbers", "[J", true)
def ty_Sheet : Nat → FieldType := fun k => match k with
  | 0 => .int
  | 1 => .int
  | _ => .array .long
theorem nm_Sheet : ∀ a, a < 3 → ∀ b, b < 3 → a ≠ b → (T_Sheet a).2.1 ≠ (T_Sheet b).2.1 := by decide +kernel
theorem ty_Sheet_ok : ∀ k, k < 3 → parseFieldDescriptor (T_Sheet k).2.2.1 = some (ty_Sheet k) := by decide +kernel
def T_Tape : u_T := fun k => match k with
  | 0 => ("WallShifts$Tape", "bytes", "[I", true)
  | 1 => ("WallShifts$Tape", "size", "I", false)
  | 2 => ("WallShifts$Tape", "begin", "I", false)
  | 3 => ("WallShifts$Tape", "end", "I", false)
  | 4 => ("WallShifts$Tape", "sort", "I", false)
  | _ => ("WallShifts$Tape", "number", "I", false)
def ty_Tape : Nat → FieldType := fun k => match k with
  | 0 => .array .int
  | 1 => .int
  | 2 => .int
  | 3 => .int
  | 4 => .int
  | _ => .int
theorem nm_Tape : ∀ a, a < 6 → ∀ b, b < 6 → a ≠ b → (T_Tape a).2.1 ≠ (T_Tape b).2.1 := by decide +kernel
theorem ty_Tape_ok : ∀ k, k < 6 → parseFieldDescriptor (T_Tape k).2.2.1 = some (ty_Tape k) := by decide +kernel
def T_WallShifts : u_T := fun k => match k with
  | 0 => ("WallShifts", "state", "LWallShifts$Palace;", true)
  | 1 => ("WallShifts", "kept", "LWallShifts$Palace;", true)
  | 2 => ("WallShifts", "hasKept", "Z", false)
  | 3 => ("WallShifts", "trial", "LWallShifts$Palace;", true)
  | 4 => ("WallShifts", "tape", "LWallShifts$Tape;", true)
  | 5 => ("WallShifts", "sheets", "[LWallShifts$Sheet;", true)
  | 6 => ("WallShifts", "answered", "[I", true)
  | _ => ("WallShifts", "ahead", "[I", true)
def ty_WallShifts : Nat → FieldType := fun k => match k with
  | 0 => .object "WallShifts$Palace"
  | 1 => .object "WallShifts$Palace"
  | 2 => .boolean
  | 3 => .object "WallShifts$Palace"
  | 4 => .object "WallShifts$Tape"
  | 5 => .array (.object "WallShifts$Sheet")
  | 6 => .array .int
  | _ => .array .int
theorem nm_WallShifts : ∀ a, a < 8 → ∀ b, b < 8 → a ≠ b → (T_WallShifts a).2.1 ≠ (T_WallShifts b).2.1 := by decide +kernel
theorem ty_WallShifts_ok : ∀ k, k < 8 → parseFieldDescriptor (T_WallShifts k).2.2.1 = some (ty_WallShifts k) := by decide +kernel
def T_Model : u_T := fun k => match k with
  | 0 => ("WallShiftsModel", "row", "[I", true)
  | 1 => ("WallShiftsModel", "found", "[I", true)
  | 2 => ("WallShiftsModel", "lostWords", "I", false)
  | 3 => ("WallShiftsModel", "tried", "[I", true)
  | 4 => ("WallShiftsModel", "tape", "[I", true)
  | 5 => ("WallShiftsModel", "tapeMany", "I", false)
  | 6 => ("WallShiftsModel", "sort", "I", false)
  | 7 => ("WallShiftsModel", "begins", "I", false)
  | 8 => ("WallShiftsModel", "tokenEnds", "I", false)
  | 9 => ("WallShiftsModel", "word", "J", false)
  | 10 => ("WallShiftsModel", "value", "I", false)
  | 11 => ("WallShiftsModel", "good", "Z", false)
  | 12 => ("WallShiftsModel", "bitsOf", "[I", true)
  | 13 => ("WallShiftsModel", "sizeOf", "[I", true)
  | 14 => ("WallShiftsModel", "sheets", "[J", true)
  | 15 => ("WallShiftsModel", "lent", "[J", true)
  | 16 => ("WallShiftsModel", "image", "[I", true)
  | 17 => ("WallShiftsModel", "before", "[I", true)
  | _ => ("WallShiftsModel", "isKept", "Z", false)
def ty_Model : Nat → FieldType := fun k => match k with
  | 0 => .array .int
  | 1 => .array .int
  | 2 => .int
  | 3 => .array .int
  | 4 => .array .int
  | 5 => .int
  | 6 => .int
  | 7 => .int
  | 8 => .int
  | 9 => .long
  | 10 => .int
  | 11 => .boolean
  | 12 => .array .int
  | 13 => .array .int
  | 14 => .array .long
  | 15 => .array .long
  | 16 => .array .int
  | 17 => .array .int
  | _ => .boolean
theorem nm_Model : ∀ a, a < 19 → ∀ b, b < 19 → a ≠ b → (T_Model a).2.1 ≠ (T_Model b).2.1 := by decide +kernel
theorem ty_Model_ok : ∀ k, k < 19 → parseFieldDescriptor (T_Model k).2.2.1 = some (ty_Model k) := by decide +kernel
abbrev wcl : List vw_C := [("WallShifts$Palace", T_Palace, 5), ("WallShifts$Sheet", T_Sheet, 3), ("WallShifts$Tape", T_Tape, 6), ("WallShifts", T_WallShifts, 8), ("WallShiftsModel", T_Model, 19)]
theorem in_Palace : ∀ w ∈ u_ws "WallShifts$Palace" T_Palace 5, w ∈ wG := by decide +kernel
theorem in_Sheet : ∀ w ∈ u_ws "WallShifts$Sheet" T_Sheet 3, w ∈ wG := by decide +kernel
theorem in_Tape : ∀ w ∈ u_ws "WallShifts$Tape" T_Tape 6, w ∈ wG := by decide +kernel
theorem in_WallShifts : ∀ w ∈ u_ws "WallShifts" T_WallShifts 8, w ∈ wG := by decide +kernel
theorem in_Model : ∀ w ∈ u_ws "WallShiftsModel" T_Model 19, w ∈ wG := by decide +kernel

/-- what a cell of a kind holds -/
def ce (cT : Nat → ClassId) (ad : Nat → Nat) (m : Mem) (t i : Nat) : va_E := match t with
  | 0 => .inr (3, [.ref (ad (oT 1 + 0)), .ref (ad (oT 1 + 1)), .int (gI m 0 i 2), .ref (ad (oT 1 + 2)), .ref (ad (oT 5 + 0)), .ref (ad (oT 7 + 0)), .ref (ad (oT 10 + 0)), .ref (ad (oT 11 + 0))])
  | 1 => .inr (0, [.int (gI m 1 i 0), .ref (ad (oT 2 + i)), .int (gI m 1 i 2), .ref (ad (oT 3 + i)), .int (gI m 1 i 4)])
  | 2 => .inl (cT 0, 4, .inl (gI m 2 i))
  | 3 => .inl (cT 2, 10, .inr (.inr (.inr (.inr (fun j => some (ad (oT 4 + (10 * i + j))))))))
  | 4 => .inl (cT 0, 6, .inl (gI m 4 i))
  | 5 => .inr (2, [.ref (ad (oT 6 + 0)), .int (gI m 5 i 1), .int (gI m 5 i 2), .int (gI m 5 i 3), .int (gI m 5 i 4), .int (gI m 5 i 5)])
  | 6 => .inl (cT 0, 120, .inl (gI m 6 i))
  | 7 => .inl (cT 3, 4, .inr (.inr (.inr (.inr (fun j => some (ad (oT 8 + j)))))))
  | 8 => .inr (1, [.int (gI m 8 i 0), .int (gI m 8 i 1), .ref (ad (oT 9 + i))])
  | 9 => .inl (cT 1, 40, .inr (.inl (gL m 9 i)))
  | 10 => .inl (cT 0, 7, .inl (gI m 10 i))
  | 11 => .inl (cT 0, 270, .inl (gI m 11 i))
  | 12 => .inr (4, [.ref (ad (oT 13 + 0)), .ref (ad (oT 14 + 0)), .int (gI m 12 i 2), .ref (ad (oT 15 + 0)), .ref (ad (oT 16 + 0)), .int (gI m 12 i 5), .int (gI m 12 i 6), .int (gI m 12 i 7), .int (gI m 12 i 8), .long (gL m 12 i 9), .int (gI m 12 i 10), .int (gI m 12 i 11), .ref (ad (oT 17 + 0)), .ref (ad (oT 18 + 0)), .ref (ad (oT 19 + 0)), .ref (ad (oT 20 + 0)), .ref (ad (oT 21 + 0)), .ref (ad (oT 22 + 0)), .int (gI m 12 i 18)])
  | 13 => .inl (cT 0, 66, .inl (gI m 13 i))
  | 14 => .inl (cT 0, 7, .inl (gI m 14 i))
  | 15 => .inl (cT 0, 66, .inl (gI m 15 i))
  | 16 => .inl (cT 0, 120, .inl (gI m 16 i))
  | 17 => .inl (cT 0, 4, .inl (gI m 17 i))
  | 18 => .inl (cT 0, 4, .inl (gI m 18 i))
  | 19 => .inl (cT 1, 160, .inr (.inl (gL m 19 i)))
  | 20 => .inl (cT 1, 40, .inr (.inl (gL m 20 i)))
  | 21 => .inl (cT 0, 66, .inl (gI m 21 i))
  | _ => .inl (cT 0, 66, .inl (gI m 22 i))
theorem ce_congr {cT : Nat → ClassId} {ad : Nat → Nat} {m m' : Mem} {t i : Nat} (h1 : gI m' t i = gI m t i) (h2 : gL m' t i = gL m t i) (ht : t < 23) : ce cT ad m' t i = ce cT ad m t i := by
  have key : ∀ t, t < 23 → gI m' t i = gI m t i → gL m' t i = gL m t i → ce cT ad m' t i = ce cT ad m t i := by
    intro t ht h1 h2
    match t, ht, h1, h2 with
    | 0, _, h1, h2 => simp only [ce, h1]
    | 1, _, h1, h2 => simp only [ce, h1]
    | 2, _, h1, h2 => simp only [ce, h1]
    | 3, _, h1, h2 => simp only [ce]
    | 4, _, h1, h2 => simp only [ce, h1]
    | 5, _, h1, h2 => simp only [ce, h1]
    | 6, _, h1, h2 => simp only [ce, h1]
    | 7, _, h1, h2 => simp only [ce]
    | 8, _, h1, h2 => simp only [ce, h1]
    | 9, _, h1, h2 => simp only [ce, h2]
    | 10, _, h1, h2 => simp only [ce, h1]
    | 11, _, h1, h2 => simp only [ce, h1]
    | 12, _, h1, h2 => simp only [ce, h1, h2]
    | 13, _, h1, h2 => simp only [ce, h1]
    | 14, _, h1, h2 => simp only [ce, h1]
    | 15, _, h1, h2 => simp only [ce, h1]
    | 16, _, h1, h2 => simp only [ce, h1]
    | 17, _, h1, h2 => simp only [ce, h1]
    | 18, _, h1, h2 => simp only [ce, h1]
    | 19, _, h1, h2 => simp only [ce, h2]
    | 20, _, h1, h2 => simp only [ce, h2]
    | 21, _, h1, h2 => simp only [ce, h1]
    | 22, _, h1, h2 => simp only [ce, h1]
    | n + 23, ht, _, _ => exact absurd ht (by omega)
  exact key t ht h1 h2
/-- the world as the kit has it: a list of cells -/
def wl (cT : Nat → ClassId) (ad : Nat → Nat) (m : Mem) : va_W := (List.range 64).map (fun k => (ad k, ce cT ad m (kT k) (kI k)))
theorem wl_at {cT : Nat → ClassId} {ad : Nat → Nat} {m : Mem} {t i : Nat} (ht : t < 23) (hi : i < nT t) : (wl cT ad m)[oT t + i]? = some (ad (oT t + i), ce cT ad m t i) := by
  obtain ⟨h1, h2, h3⟩ := kT_at t ht i hi
  unfold wl
  rw [List.getElem?_map, List.getElem?_range h1]
  simp only [Option.map_some, h2, h3]
theorem wl_set {cT : Nat → ClassId} {ad : Nat → Nat} {m m' : Mem} {t i : Nat} (ht : t < 23) (hi : i < nT t) (h : ∀ t' i', ¬ (t' = t ∧ i' = i) → gI m' t' i' = gI m t' i' ∧ gL m' t' i' = gL m t' i') : (wl cT ad m).set (oT t + i) (ad (oT t + i), ce cT ad m' t i) = wl cT ad m' := by
  obtain ⟨h1, h2, h3⟩ := kT_at t ht i hi
  apply List.ext_getElem?
  intro k
  by_cases hk : k = oT t + i
  · subst hk
    rw [List.getElem?_set_self (by simp [wl]; exact h1), wl_at ht hi]
  · rw [List.getElem?_set_ne (Ne.symm hk)]
    unfold wl
    rw [List.getElem?_map, List.getElem?_map]
    by_cases hk2 : k < 64
    · rw [List.getElem?_range hk2]
      have hne : ¬ (kT k = t ∧ kI k = i) := by
        rintro ⟨e1, e2⟩
        have := kT_of k hk2
        rw [e1, e2] at this
        exact hk this.symm
      obtain ⟨g1, g2⟩ := h _ _ hne
      have hkt : kT k < 23 := (by decide +kernel : ∀ k, k < 64 → kT k < 23) k hk2
      simp only [Option.map_some, ce_congr g1 g2 hkt]
    · rw [List.getElem?_eq_none (by simp; omega)]
      rfl
end
section
/-! THE FRAME: what a method finds (CX, KF), where it stands (V), what it does (RT). -/
/-- the constants of a run: class numbers, array classes, addresses, how big the heap was at first, the script, one value that nobody looks at -/
abbrev KK : Type := va_G × (Nat → ClassId) × (Nat → Nat) × Nat × Nat × (Nat → Int32) × Option Nat
abbrev kD (k : KK) : va_G := k.1
abbrev kC (k : KK) : Nat → ClassId := k.2.1
abbrev ka (k : KK) : Nat → Nat := k.2.2.1
abbrev kh (k : KK) : Nat := k.2.2.2.1
abbrev kL (k : KK) : Nat := k.2.2.2.2.1
abbrev kx (k : KK) : Nat → Int32 := k.2.2.2.2.2.1
abbrev ko (k : KK) : Option Nat := k.2.2.2.2.2.2
def kA (k : KK) : Nat → Prop := fun q => kh k ≤ q
def cv (k : KK) : AV → Value
  | .inl x => .int x
  | .inr (.inl y) => .long y
  | .inr (.inr (.inl q)) => .ref (ka k (oT q.1 + q.2))
  | .inr (.inr (.inr _)) => va_rf (ko k)
def acat : AV → Nat
  | .inr (.inl _) => 2
  | _ => 1
theorem cv_cat (k : KK) (v : AV) : (cv k v).category = acat v := by
  rcases v with x | y | q | q
  · rfl
  · rfl
  · rfl
  · show (va_rf (ko k)).category = 1
    cases ko k <;> rfl
abbrev cvl (k : KK) (l : List (Nat × AV)) : List (Nat × Value) := l.map (fun q => (q.1, cv k q.2))
abbrev tysK (k : KK) : List (ClassId × FieldType) := [(kC k 0, .int), (kC k 1, .long), (kC k 2, .array .int), (kC k 3, .object "WallShifts$Sheet")]
def wNests : List Cond := [.methodLinkNest "WallShifts$Palace" 40 ⟨"WallShifts", "quarterOf", "(II)I"⟩ "WallShifts", .methodLinkNest "WallShifts$Palace" 43 ⟨"WallShifts", "restOf", "(II)I"⟩ "WallShifts", .methodLinkNest "WallShifts$Palace" 58 ⟨"WallShifts", "becomes", "([II)I"⟩ "WallShifts", .methodLinkNest "WallShifts$Palace" 66 ⟨"WallShifts", "tires", "(I)I"⟩ "WallShifts", .methodLinkNest "WallShifts$Tape" 117 ⟨"WallShifts", "isIn", "(III)Z"⟩ "WallShifts", .fieldLinkNest "WallShifts$Tape" 49 "WallShifts" "LEAST_OF_ROTA" "[I" "WallShifts", .fieldLinkNest "WallShifts$Tape" 52 "WallShifts" "MOST_OF_ROTA" "[I" "WallShifts"]
def stN (i : Nat) : String := ["ABOVE", "MOST_OF_PART", "LEAST_OF_ROTA", "MOST_OF_ROTA"].getD i ""
def stV (i : Nat) : List Int32 := [[-1, 0, 0, 0, 1, 2], [5, 9, 9, 3, 65535, 99], [1, 0, 0, 1], [60, 60, 3, 20]].getD i []
/-- what the static rows hold -/
def stc (i j : Nat) : Int32 := (stV i).getD j 0
def lit (i : Nat) : Nat × String × List Int32 := [(92, "north", [110, 111, 114, 116, 104]), (94, "papered", [112, 97, 112, 101, 114, 101, 100]), (96, "thin", [116, 104, 105, 110]), (98, "stone", [115, 116, 111, 110, 101]), (100, "tapestry", [116, 97, 112, 101, 115, 116, 114, 121]), (102, "wall", [119, 97, 108, 108]), (68, "of", [111, 102]), (74, "and", [97, 110, 100]), (76, "side", [115, 105, 100, 101]), (86, "shift", [115, 104, 105, 102, 116]), (88, "change", [99, 104, 97, 110, 103, 101]), (90, "season", [115, 101, 97, 115, 111, 110])].getD i (0, "", [])
def litB : List (List Int32) := (List.range 12).map (fun i => (lit i).2.2)
def litL : List Nat := litB.map List.length
/-- what the tables and the cells that nobody writes say -/
def KF (k : KK) (s : State) : Prop :=
  va_K (kD k) wcl (tysK k) s ∧ (∀ m, va_D (kA k) (wl (kC k) (ka k) m)) ∧ kh k ≤ s.heap.size ∧ (∀ w ∈ wNests, va_Nw w s) ∧
  (∀ i, i < 4 → va_Z "WallShifts" (stN i) "[I" (.ref (ka k (oT 23 + i))) (kA k) s s.heap ∧ va_T .int (ka k (oT 23 + i)) (stV i).length (fun j => .int (stc i j)) (kA k) s s.heap) ∧
  va_Z "java/lang/String" "COMPACT_STRINGS" "Z" (.int 1) (kA k) s s.heap ∧
  va_Z "jdk/internal/util/Preconditions" "SIOOBE_FORMATTER" "Ljava/util/function/BiFunction;" (va_rf (ko k)) (kA k) s s.heap ∧
  (∀ i, i < 12 → vk_R "WallShifts$Tape" (lit i).1 (lit i).2.1 (ka k (oT 25 + i)) s) ∧ vk_S 12 litL litB (fun i => ka k (oT 25 + i)) (fun i => ka k (oT 26 + i)) (kA k) s s.heap ∧
  va_X (ka k (oT 24 + 0)) (kL k) (kx k) s s.heap ∧ ka k (oT 24 + 0) < kh k
theorem wNests_same {u U : State} (h : u.vm = U.vm) (hZ : ∀ w ∈ wNests, va_Nw w u) : ∀ w ∈ wNests, va_Nw w U := by
  intro w hw
  have hz := hZ w hw
  simp only [wNests, List.mem_cons, List.not_mem_nil, or_false] at hw
  rcases hw with rfl | rfl | rfl | rfl | rfl | rfl | rfl <;> exact va_Nw.same rfl h hz
theorem wNests_warm {s U : State} (hW : s.WarmedH U.vm) (hZ : ∀ w ∈ wNests, va_Nw w s) : ∀ w ∈ wNests, va_Nw w U := by
  intro w hw
  have hz := hZ w hw
  simp only [wNests, List.mem_cons, List.not_mem_nil, or_false] at hw
  rcases hw with rfl | rfl | rfl | rfl | rfl | rfl | rfl <;> first | exact va_Nw.warmM hW hz | exact va_Nw.warmF hW hz
theorem KF.same {k : KK} {u U : State} (hv : u.vm = U.vm) (hh : u.heap = U.heap) (h : KF k u) : KF k U := by
  obtain ⟨h1, h2, h3, h4, h5, h6, h7, h8, h9, h10, h11⟩ := h
  have hal : u.vm.Alike U.vm := by rw [hv]; exact Vm.Alike.refl _
  rw [hh] at h3 h5 h6 h7 h9 h10
  exact ⟨h1.moved hal, h2, h3, wNests_same hv h4, fun i hi => ⟨(h5 i hi).1.moved hal, (h5 i hi).2.moved hal⟩, h6.moved hal, h7.moved hal, fun i hi => vk_R.same hv.symm (h8 i hi), h9.moved hal, h10.moved hal, h11⟩
theorem KF.go {k : KK} {s U : State} {H : Heap} {locs : List Loc} (hW : s.WarmedH U.vm) (hH : U.heap = H) (hS : va_S (kA k) s.heap H locs) (h : KF k s) : KF k U := by
  obtain ⟨h1, h2, h3, h4, h5, h6, h7, h8, h9, h10, h11⟩ := h
  have hal : s.vm.Alike U.vm := hW.alike
  subst hH
  have hk : ∀ a : Nat, a < s.heap.size → ¬ kA k a → U.heap[a]? = s.heap[a]? := hS.2.1
  refine ⟨h1.moved hal, h2, Nat.le_trans h3 hS.1, wNests_warm hW h4, fun i hi => ⟨((h5 i hi).1.moved hal).kept hk, ((h5 i hi).2.moved hal).kept hk⟩, (h6.moved hal).kept hk, (h7.moved hal).kept hk, fun i hi => vk_R.warm hW (h8 i hi), (h9.moved hal).kept hk, (h10.moved hal).kept (hk _ (Nat.lt_of_lt_of_le h11 h3) (Nat.not_le.mpr h11)), h11⟩
/-- what a method finds -/
def CX (p : Program) (s : State) (m : MethodId) (args : Array Value) (meth : Method) (c : Code) (k : KK) (cc : ByteArray) (nL : Nat) (own : String) : Prop :=
  p.tables.exec = Jvm.exec ∧ c.code = cc ∧ c.maxLocals = nL ∧ s.vm.findClass own = some m.cls ∧ (∀ w ∈ wG, w.before args s = true) ∧ KF k s ∧ meth.locks = false
/-- where it stands: at pc, with these locals and this stack, the world holding mem -/
def V (p : Program) (l : Launch) (e : Env) (R : Room) (s : State) (m : MethodId) (args : Array Value) (below : List Frame) (meth : Method) (c : Code) (cells slots : Nat) (Q : State → Prop) (k : KK) (nL : Nat) (mem : Mem) (pc : Nat) (lv : List (Nat × AV)) (st : List AV) : Prop :=
  ∀ (H : Heap) (locs : List Loc) (ls : Array Slot), va_P (kD k) wcl (wl (kC k) (ka k) mem) H → va_S (kA k) s.heap H locs → lv_has ls nL (cvl k lv) →
    W p l e R s m args below meth c H locs cells slots Q (F0 m pc ls (st.map (cv k)))
def RPc (k : KK) (as : List AV) (mem : Mem) : Array Value → State → Prop := fun v U => v = (as.map (cv k)).toArray ∧ KF k U ∧ va_P (kD k) wcl (wl (kC k) (ka k) mem) U.heap
def RQc (k : KK) (r : Option AV) (mem : Mem) : Array Value → State → Outcome → State → Prop := fun _ st oc t => oc = .returned (r.map (cv k)) ∧ va_P (kD k) wcl (wl (kC k) (ka k) mem) t.heap ∧ va_F (kA k) st t
abbrev wM (y : MethodName) (b : ByteArray) (n : Nat) (ret : Option FieldType) : List Cond := .code y b n ret :: wG
abbrev rmM (fr lo : Nat) : Room := { frames := fr, cells := 0, slots := 0, locals := lo }
/-- what a method does: called with these, the world holding mem, it returns r and leaves mem' -/
def RT (y : MethodName) (b : ByteArray) (n : Nat) (ret : Option FieldType) (rm : Room) (as : List AV) (mem : Mem) (r : Option AV) (mem' : Mem) : Prop :=
  ∀ (l : Launch) (k : KK), Met l y (wM y b n ret) rm (RPc k as mem) (RQc k r mem') 0 0 (kA k)
def lvA : Nat → List AV → List (Nat × AV)
  | _, [] => []
  | i, v :: vs => (i, v) :: lvA (if acat v = 2 then i + 2 else i + 1) vs
theorem lvA_args (k : KK) : ∀ (vs : List AV) (i : Nat), lv_args i (vs.map (cv k)) = cvl k (lvA i vs)
  | [], _ => rfl
  | v :: vs, i => by
    show (i, cv k v) :: lv_args (if (cv k v).category = 2 then i + 2 else i + 1) (vs.map (cv k)) = (i, cv k v) :: cvl k (lvA (if acat v = 2 then i + 2 else i + 1) vs)
    rw [cv_cat, lvA_args k vs]
def slA (vs : List AV) : Nat := (vs.map acat).sum
theorem slA_sl (k : KK) : ∀ vs : List AV, (lg_sl (vs.map (cv k))).length = slA vs
  | [] => rfl
  | v :: vs => by
    have ih := slA_sl k vs
    have hc := cv_cat k v
    unfold lg_sl at ih ⊢
    rw [List.map_cons, List.flatMap_cons, List.length_append, ih]
    unfold slA
    rw [List.map_cons, List.sum_cons, hc]
    rcases v with x | y | q | q <;> rfl
theorem RT.of {y : MethodName} {b : ByteArray} {n : Nat} {ret : Option FieldType} {rm : Room} {as : List AV} {mem : Mem} {r : Option AV} {mem' : Mem} (hy : plainName y.cls = true) (hn : slA as ≤ n)
    (body : ∀ (p : Program) (l : Launch) (e : Env) (s : State) (m : MethodId) (args : Array Value) (below : List Frame) (meth : Method) (c : Code) (k : KK), CX p s m args meth c k b n y.cls → meth.sig.returnType = ret →
      V p l e rm s m args below meth c 0 0 (MQ below (RQc k r mem') args s 0 0 (kA k)) k n mem 0 (lvA 0 as) []) : RT y b n ret rm as mem r mem' := by
  intro l k
  refine Met.ofW (cc := b) (maxL := n) (ret := ret) hy rfl ?_
  intro p e s m args below meth c s₁ B hml hv
  obtain ⟨rfl, hK, hP⟩ := hv
  have hts := atoms_spec (ws := wM y b n ret) B.pre
  have hown : s.vm.findClass y.cls = some m.cls := findClass_of_methodNamed B.named
  rw [lg_entry_eq]
  exact body p l e s m _ below meth c k ⟨B.exec, B.bytes, hml, hown, fun w hw => hts w (List.mem_cons_of_mem _ hw), hK, B.notSynchronized⟩ B.returns s.heap [] _ hP va_S.rf (by rw [← lvA_args]; exact lv_entry (as.map (cv k)) (n := n) (by rw [slA_sl]; exact hn))
end
section
/-! THE ROWS: one instruction each. 'h' carries what the method's program text comes to. -/
def lst (i : Nat) (v : AV) (lv : List (Nat × AV)) : List (Nat × AV) := (i, v) :: lv.filter (fun q => !(q.1 == i) && !(q.1 + 1 == i && acat q.2 == 2))
def lst2 (i : Nat) (v : AV) (lv : List (Nat × AV)) : List (Nat × AV) := (i, v) :: lv.filter (fun q => !(q.1 == i) && (!(q.1 == i + 1) && !(q.1 + 1 == i && acat q.2 == 2)))
theorem cvl_lst (k : KK) (i : Nat) (v : AV) (lv : List (Nat × AV)) : (i, cv k v) :: (cvl k lv).filter (fun q => !(q.1 == i) && !(q.1 + 1 == i && q.2.category == 2)) = cvl k (lst i v lv) := by
  show _ = (i, cv k v) :: List.map _ (List.filter _ lv)
  congr 1
  unfold cvl
  rw [List.filter_map]
  congr 1
  apply List.filter_congr
  intro q _
  simp only [Function.comp, cv_cat]
theorem cvl_lst2 (k : KK) (i : Nat) (v : AV) (lv : List (Nat × AV)) : (i, cv k v) :: (cvl k lv).filter (fun q => !(q.1 == i) && (!(q.1 == i + 1) && !(q.1 + 1 == i && q.2.category == 2))) = cvl k (lst2 i v lv) := by
  show _ = (i, cv k v) :: List.map _ (List.filter _ lv)
  congr 1
  unfold cvl
  rw [List.filter_map]
  congr 1
  apply List.filter_congr
  intro q _
  simp only [Function.comp, cv_cat]
theorem cvl_at {k : KK} {lv : List (Nat × AV)} {j i : Nat} {v : AV} (h : lv[j]? = some (i, v)) : (cvl k lv)[j]? = some (i, cv k v) := by
  unfold cvl
  rw [List.getElem?_map, h]
  rfl
def ck {α : Type} (x : Int32) (n : Nat) (A : Option α) : Option α := if x < 0 ∨ n ≤ x.toNatClampNeg then none else A
theorem ck_some {α : Type} {x : Int32} {n : Nat} {A : Option α} {o : α} (h : ck x n A = some o) : vp_in x n ∧ x.toNatClampNeg < n ∧ A = some o := by
  unfold ck at h
  by_cases c : x < 0 ∨ n ≤ x.toNatClampNeg
  · rw [if_pos c] at h
    cases h
  · rw [if_neg c] at h
    exact ⟨c, Nat.not_le.mp (fun q => c (Or.inr q)), h⟩
def bd {α β : Type} (x : Option (α × Mem)) (F : α → Mem → Option β) : Option β := match x with
  | none => none
  | some q => F q.1 q.2
theorem bd_some {α β : Type} {x : Option (α × Mem)} {F : α → Mem → Option β} {o : β} (h : bd x F = some o) : ∃ (r : α) (m1 : Mem), x = some (r, m1) ∧ F r m1 = some o := by
  cases x with
  | none => cases h
  | some q => exact ⟨q.1, q.2, rfl, h⟩
theorem it_t {α : Type} {c : Prop} [Decidable c] {A B : Option α} {o : α} (h : (if c then A else B) = some o) (hc : c) : A = some o := by rw [if_pos hc] at h; exact h
theorem it_f {α : Type} {c : Prop} [Decidable c] {A B : Option α} {o : α} (h : (if c then A else B) = some o) (hc : ¬ c) : B = some o := by rw [if_neg hc] at h; exact h
theorem rowI_ne {m : Mem} {t i j : Nat} {v : Int32} (t' i' : Nat) (h : ¬ (t' = t ∧ i' = i)) : gI (sI m t i j v) t' i' = gI m t' i' ∧ gL (sI m t i j v) t' i' = gL m t' i' := by
  refine ⟨funext fun j' => ?_, rfl⟩
  show (if t' = t ∧ i' = i ∧ j' = j then v else m.1 t' i' j') = m.1 t' i' j'
  rw [if_neg (fun q => h ⟨q.1, q.2.1⟩)]
theorem rowL_ne {m : Mem} {t i j : Nat} {v : Int64} (t' i' : Nat) (h : ¬ (t' = t ∧ i' = i)) : gI (sL m t i j v) t' i' = gI m t' i' ∧ gL (sL m t i j v) t' i' = gL m t' i' := by
  refine ⟨rfl, funext fun j' => ?_⟩
  show (if t' = t ∧ i' = i ∧ j' = j then v else m.2 t' i' j') = m.2 t' i' j'
  rw [if_neg (fun q => h ⟨q.1, q.2.1⟩)]
theorem rowIr_ne {m : Mem} {t i : Nat} {f : Nat → Int32} (t' i' : Nat) (h : ¬ (t' = t ∧ i' = i)) : gI (sIr m t i f) t' i' = gI m t' i' ∧ gL (sIr m t i f) t' i' = gL m t' i' := by
  refine ⟨funext fun j' => ?_, rfl⟩
  show (if t' = t ∧ i' = i then f j' else m.1 t' i' j') = m.1 t' i' j'
  rw [if_neg h]
theorem rowLr_ne {m : Mem} {t i : Nat} {f : Nat → Int64} (t' i' : Nat) (h : ¬ (t' = t ∧ i' = i)) : gI (sLr m t i f) t' i' = gI m t' i' ∧ gL (sLr m t i f) t' i' = gL m t' i' := by
  refine ⟨rfl, funext fun j' => ?_⟩
  show (if t' = t ∧ i' = i then f j' else m.2 t' i' j') = m.2 t' i' j'
  rw [if_neg h]
theorem rowI_eq (m : Mem) (t i j : Nat) (v : Int32) : gI (sI m t i j v) t i = upd (gI m t i) j v := by
  funext j'
  show (if t = t ∧ i = i ∧ j' = j then v else m.1 t i j') = if j' = j then v else m.1 t i j'
  by_cases h : j' = j
  · rw [if_pos h, if_pos ⟨rfl, rfl, h⟩]
  · rw [if_neg h, if_neg (fun q => h q.2.2)]
theorem rowL_eq (m : Mem) (t i j : Nat) (v : Int64) : gL (sL m t i j v) t i = vp_updL (gL m t i) j v := by
  funext j'
  show (if t = t ∧ i = i ∧ j' = j then v else m.2 t i j') = if j' = j then v else m.2 t i j'
  by_cases h : j' = j
  · rw [if_pos h, if_pos ⟨rfl, rfl, h⟩]
  · rw [if_neg h, if_neg (fun q => h q.2.2)]
theorem rowIr_eq (m : Mem) (t i : Nat) (f : Nat → Int32) : gI (sIr m t i f) t i = f := by
  funext j'
  show (if t = t ∧ i = i then f j' else m.1 t i j') = f j'
  rw [if_pos ⟨rfl, rfl⟩]
theorem rowLr_eq (m : Mem) (t i : Nat) (f : Nat → Int64) : gL (sLr m t i f) t i = f := by
  funext j'
  show (if t = t ∧ i = i then f j' else m.2 t i j') = f j'
  rw [if_pos ⟨rfl, rfl⟩]
section ROWS
variable {p : Program} {l : Launch} {e : Env} {R : Room} {s : State} {m : MethodId} {args : Array Value} {below : List Frame} {meth : Method} {c : Code} {cells slots : Nat} {Q : State → Prop} {k : KK} {nL : Nat} {mem : Mem} {pc : Nat} {lv lv' : List (Nat × AV)} {st : List AV} {cc : ByteArray} {own : String}
theorem v_iconst (X : CX p s m args meth c k cc nL own) {n : Int} {v : Int32} (hd : decode cc pc = .ok (.iconst n, 1)) (hv : Int32.ofInt n = v) (kk : V p l e R s m args below meth c cells slots Q k nL mem (pc + 1) lv (aI v :: st)) : V p l e R s m args below meth c cells slots Q k nL mem pc lv st :=
  fun H locs ls hP hS hl => lv_iconst X.1 X.2.1 hd hv (kk H locs ls hP hS hl)
theorem v_bipush (X : CX p s m args meth c k cc nL own) {n : Int} {v : Int32} (hd : decode cc pc = .ok (.bipush n, 2)) (hv : (Int8.ofInt n).toInt32 = v) (kk : V p l e R s m args below meth c cells slots Q k nL mem (pc + 2) lv (aI v :: st)) : V p l e R s m args below meth c cells slots Q k nL mem pc lv st :=
  fun H locs ls hP hS hl => lv_bipush X.1 X.2.1 hd hv (kk H locs ls hP hS hl)
theorem v_sipush (X : CX p s m args meth c k cc nL own) {n : Int} {v : Int32} (hd : decode cc pc = .ok (.sipush n, 3)) (hv : (Int16.ofInt n).toInt32 = v) (kk : V p l e R s m args below meth c cells slots Q k nL mem (pc + 3) lv (aI v :: st)) : V p l e R s m args below meth c cells slots Q k nL mem pc lv st :=
  fun H locs ls hP hS hl => lv_sipush X.1 X.2.1 hd hv (kk H locs ls hP hS hl)
theorem v_lconst (X : CX p s m args meth c k cc nL own) {n : Fin 2} {v : Int64} (hd : decode cc pc = .ok (.lconst n, 1)) (hv : Int64.ofNat (n : Nat) = v) (kk : V p l e R s m args below meth c cells slots Q k nL mem (pc + 1) lv (aL v :: st)) : V p l e R s m args below meth c cells slots Q k nL mem pc lv st :=
  fun H locs ls hP hS hl => lv_lconst X.1 X.2.1 hd hv (kk H locs ls hP hS hl)
theorem v_ldc (X : CX p s m args meth c k cc nL own) {idx : Nat} {v : Int32} (hq : Cond.constant own idx v ∈ wG) (hd : decode cc pc = .ok (.ldc idx, 2)) (kk : V p l e R s m args below meth c cells slots Q k nL mem (pc + 2) lv (aI v :: st)) : V p l e R s m args below meth c cells slots Q k nL mem pc lv st :=
  fun H locs ls hP hS hl => lv_ldc X.1 X.2.1 X.2.2.2.1 (X.2.2.2.2.1 _ hq) hd (kk H locs ls hP hS hl)
theorem v_ldcw (X : CX p s m args meth c k cc nL own) {idx : Nat} {v : Int32} (hq : Cond.constant own idx v ∈ wG) (hd : decode cc pc = .ok (.ldc_w idx, 3)) (kk : V p l e R s m args below meth c cells slots Q k nL mem (pc + 3) lv (aI v :: st)) : V p l e R s m args below meth c cells slots Q k nL mem pc lv st :=
  fun H locs ls hP hS hl => lv_ldcw X.1 X.2.1 X.2.2.2.1 (X.2.2.2.2.1 _ hq) hd (kk H locs ls hP hS hl)
theorem v_ldc2 (X : CX p s m args meth c k cc nL own) {idx : Nat} {v : Int64} (hq : Cond.constantLong own idx v ∈ wG) (hd : decode cc pc = .ok (.ldc2_w idx, 3)) (kk : V p l e R s m args below meth c cells slots Q k nL mem (pc + 3) lv (aL v :: st)) : V p l e R s m args below meth c cells slots Q k nL mem pc lv st :=
  fun H locs ls hP hS hl => lv_ldc2 X.1 X.2.1 X.2.2.2.1 (X.2.2.2.2.1 _ hq) hd (kk H locs ls hP hS hl)
theorem v_iload (X : CX p s m args meth c k cc nL own) {i : Nat} {x : Int32} (j : Nat) (hj : lv[j]? = some (i, aI x)) (hd : decode cc pc = .ok (.iload i, 2)) (kk : V p l e R s m args below meth c cells slots Q k nL mem (pc + 2) lv (aI x :: st)) : V p l e R s m args below meth c cells slots Q k nL mem pc lv st :=
  fun H locs ls hP hS hl => lv_iload X.1 X.2.1 hd (lv_at hl j (cvl_at hj)) (kk H locs ls hP hS hl)
theorem v_iload_n (X : CX p s m args meth c k cc nL own) {kk0 : Fin 4} {i : Nat} {x : Int32} (j : Nat) (hj : lv[j]? = some (i, aI x)) (hd : decode cc pc = .ok (.iload_n kk0, 1)) (hi : (kk0 : Nat) = i) (kk : V p l e R s m args below meth c cells slots Q k nL mem (pc + 1) lv (aI x :: st)) : V p l e R s m args below meth c cells slots Q k nL mem pc lv st :=
  fun H locs ls hP hS hl => lv_iload_n X.1 X.2.1 hd hi (lv_at hl j (cvl_at hj)) (kk H locs ls hP hS hl)
theorem v_lload (X : CX p s m args meth c k cc nL own) {i : Nat} {x : Int64} (j : Nat) (hj : lv[j]? = some (i, aL x)) (hd : decode cc pc = .ok (.lload i, 2)) (kk : V p l e R s m args below meth c cells slots Q k nL mem (pc + 2) lv (aL x :: st)) : V p l e R s m args below meth c cells slots Q k nL mem pc lv st :=
  fun H locs ls hP hS hl => lv_lload X.1 X.2.1 hd (lv_at hl j (cvl_at hj)) (kk H locs ls hP hS hl)
theorem v_lload_n (X : CX p s m args meth c k cc nL own) {kk0 : Fin 4} {i : Nat} {x : Int64} (j : Nat) (hj : lv[j]? = some (i, aL x)) (hd : decode cc pc = .ok (.lload_n kk0, 1)) (hi : (kk0 : Nat) = i) (kk : V p l e R s m args below meth c cells slots Q k nL mem (pc + 1) lv (aL x :: st)) : V p l e R s m args below meth c cells slots Q k nL mem pc lv st :=
  fun H locs ls hP hS hl => lv_lload_n X.1 X.2.1 hd hi (lv_at hl j (cvl_at hj)) (kk H locs ls hP hS hl)
theorem v_aload (X : CX p s m args meth c k cc nL own) {i : Nat} {t q : Nat} (j : Nat) (hj : lv[j]? = some (i, aR t q)) (hd : decode cc pc = .ok (.aload i, 2)) (kk : V p l e R s m args below meth c cells slots Q k nL mem (pc + 2) lv (aR t q :: st)) : V p l e R s m args below meth c cells slots Q k nL mem pc lv st :=
  fun H locs ls hP hS hl => lv_aload X.1 X.2.1 hd (lv_at hl j (cvl_at hj)) (kk H locs ls hP hS hl)
theorem v_aload_n (X : CX p s m args meth c k cc nL own) {kk0 : Fin 4} {i : Nat} {t q : Nat} (j : Nat) (hj : lv[j]? = some (i, aR t q)) (hd : decode cc pc = .ok (.aload_n kk0, 1)) (hi : (kk0 : Nat) = i) (kk : V p l e R s m args below meth c cells slots Q k nL mem (pc + 1) lv (aR t q :: st)) : V p l e R s m args below meth c cells slots Q k nL mem pc lv st :=
  fun H locs ls hP hS hl => lv_aload_n X.1 X.2.1 hd hi (lv_at hl j (cvl_at hj)) (kk H locs ls hP hS hl)
theorem v_istore (X : CX p s m args meth c k cc nL own) {i : Nat} {x : Int32} (hd : decode cc pc = .ok (.istore i, 2)) (hn : i < nL) (hl : lst i (aI x) lv = lv') (kk : V p l e R s m args below meth c cells slots Q k nL mem (pc + 2) lv' st) : V p l e R s m args below meth c cells slots Q k nL mem pc lv (aI x :: st) :=
  fun H locs ls hP hS h => lv_istore X.1 X.2.1 hd h hn (cvl_lst k i (aI x) lv) (fun ls' h' => kk H locs ls' hP hS (by rw [← hl]; exact h'))
theorem v_istore_n (X : CX p s m args meth c k cc nL own) {kk0 : Fin 4} {i : Nat} {x : Int32} (hd : decode cc pc = .ok (.istore_n kk0, 1)) (hi : (kk0 : Nat) = i) (hn : i < nL) (hl : lst i (aI x) lv = lv') (kk : V p l e R s m args below meth c cells slots Q k nL mem (pc + 1) lv' st) : V p l e R s m args below meth c cells slots Q k nL mem pc lv (aI x :: st) :=
  fun H locs ls hP hS h => lv_istore_n X.1 X.2.1 hd hi h hn (cvl_lst k i (aI x) lv) (fun ls' h' => kk H locs ls' hP hS (by rw [← hl]; exact h'))
theorem v_lstore (X : CX p s m args meth c k cc nL own) {i : Nat} {x : Int64} (hd : decode cc pc = .ok (.lstore i, 2)) (hn : i + 1 < nL) (hl : lst2 i (aL x) lv = lv') (kk : V p l e R s m args below meth c cells slots Q k nL mem (pc + 2) lv' st) : V p l e R s m args below meth c cells slots Q k nL mem pc lv (aL x :: st) :=
  fun H locs ls hP hS h => lv_lstore X.1 X.2.1 hd h hn (cvl_lst2 k i (aL x) lv) (fun ls' h' => kk H locs ls' hP hS (by rw [← hl]; exact h'))
theorem v_lstore_n (X : CX p s m args meth c k cc nL own) {kk0 : Fin 4} {i : Nat} {x : Int64} (hd : decode cc pc = .ok (.lstore_n kk0, 1)) (hi : (kk0 : Nat) = i) (hn : i + 1 < nL) (hl : lst2 i (aL x) lv = lv') (kk : V p l e R s m args below meth c cells slots Q k nL mem (pc + 1) lv' st) : V p l e R s m args below meth c cells slots Q k nL mem pc lv (aL x :: st) :=
  fun H locs ls hP hS h => lv_lstore_n X.1 X.2.1 hd hi h hn (cvl_lst2 k i (aL x) lv) (fun ls' h' => kk H locs ls' hP hS (by rw [← hl]; exact h'))
theorem v_astore (X : CX p s m args meth c k cc nL own) {i : Nat} {t q : Nat} (hd : decode cc pc = .ok (.astore i, 2)) (hn : i < nL) (hl : lst i (aR t q) lv = lv') (kk : V p l e R s m args below meth c cells slots Q k nL mem (pc + 2) lv' st) : V p l e R s m args below meth c cells slots Q k nL mem pc lv (aR t q :: st) :=
  fun H locs ls hP hS h => lv_astore X.1 X.2.1 hd h hn (cvl_lst k i (aR t q) lv) (fun ls' h' => kk H locs ls' hP hS (by rw [← hl]; exact h'))
theorem v_astore_n (X : CX p s m args meth c k cc nL own) {kk0 : Fin 4} {i : Nat} {t q : Nat} (hd : decode cc pc = .ok (.astore_n kk0, 1)) (hi : (kk0 : Nat) = i) (hn : i < nL) (hl : lst i (aR t q) lv = lv') (kk : V p l e R s m args below meth c cells slots Q k nL mem (pc + 1) lv' st) : V p l e R s m args below meth c cells slots Q k nL mem pc lv (aR t q :: st) :=
  fun H locs ls hP hS h => lv_astore_n X.1 X.2.1 hd hi h hn (cvl_lst k i (aR t q) lv) (fun ls' h' => kk H locs ls' hP hS (by rw [← hl]; exact h'))
theorem v_aloadQ (X : CX p s m args meth c k cc nL own) {kk0 : Fin 4} {i : Nat} (j : Nat) (hj : lv[j]? = some (i, aQ)) (hd : decode cc pc = .ok (.aload_n kk0, 1)) (hi : (kk0 : Nat) = i) (kk : V p l e R s m args below meth c cells slots Q k nL mem (pc + 1) lv (aQ :: st)) : V p l e R s m args below meth c cells slots Q k nL mem pc lv st :=
  fun H locs ls hP hS hl => by
    have h1 := lv_at hl j (cvl_at hj)
    have h2 : ls[i]? = some (.val (va_rf (ko k))) := h1
    have k2 : W p l e R s m args below meth c H locs cells slots Q (F0 m (pc + 1) ls (va_rf (ko k) :: st.map (cv k))) := kk H locs ls hP hS hl
    have hz : va_rf (ko k) = .null ∨ ∃ a, va_rf (ko k) = .ref a := by
      cases ko k with
      | none => exact Or.inl rfl
      | some a => exact Or.inr ⟨a, rfl⟩
    rcases hz with hz | ⟨a, hz⟩
    · rw [hz] at h2 k2
      exact lv_aload_nN X.1 X.2.1 hd hi h2 k2
    · rw [hz] at h2 k2
      exact lv_aload_n X.1 X.2.1 hd hi h2 k2
theorem v_iinc (X : CX p s m args meth c k cc nL own) {i : Nat} {n : Int} {x v : Int32} (j : Nat) (hj : lv[j]? = some (i, aI x)) (hv : x + Int32.ofInt n = v) (hd : decode cc pc = .ok (.iinc i n, 3)) (hn : i < nL) (hl : lst i (aI v) lv = lv') (kk : V p l e R s m args below meth c cells slots Q k nL mem (pc + 3) lv' st) : V p l e R s m args below meth c cells slots Q k nL mem pc lv st :=
  fun H locs ls hP hS h => lv_iinc X.1 X.2.1 hd h (cvl_at hj) hv hn (cvl_lst k i (aI v) lv) (fun ls' h' => kk H locs ls' hP hS (by rw [← hl]; exact h'))
theorem v_iadd (X : CX p s m args meth c k cc nL own) {x y : Int32} (hd : decode cc pc = .ok (.iadd, 1)) (kk : V p l e R s m args below meth c cells slots Q k nL mem (pc + 1) lv (aI (x + y) :: st)) : V p l e R s m args below meth c cells slots Q k nL mem pc lv (aI y :: aI x :: st) :=
  fun H locs ls hP hS hl => lv_iadd X.1 X.2.1 hd (kk H locs ls hP hS hl)
theorem v_isub (X : CX p s m args meth c k cc nL own) {x y : Int32} (hd : decode cc pc = .ok (.isub, 1)) (kk : V p l e R s m args below meth c cells slots Q k nL mem (pc + 1) lv (aI (x - y) :: st)) : V p l e R s m args below meth c cells slots Q k nL mem pc lv (aI y :: aI x :: st) :=
  fun H locs ls hP hS hl => lv_isub X.1 X.2.1 hd (kk H locs ls hP hS hl)
theorem v_imul (X : CX p s m args meth c k cc nL own) {x y : Int32} (hd : decode cc pc = .ok (.imul, 1)) (kk : V p l e R s m args below meth c cells slots Q k nL mem (pc + 1) lv (aI (x * y) :: st)) : V p l e R s m args below meth c cells slots Q k nL mem pc lv (aI y :: aI x :: st) :=
  fun H locs ls hP hS hl => lv_imul X.1 X.2.1 hd (kk H locs ls hP hS hl)
theorem v_iand (X : CX p s m args meth c k cc nL own) {x y : Int32} (hd : decode cc pc = .ok (.iand, 1)) (kk : V p l e R s m args below meth c cells slots Q k nL mem (pc + 1) lv (aI (x &&& y) :: st)) : V p l e R s m args below meth c cells slots Q k nL mem pc lv (aI y :: aI x :: st) :=
  fun H locs ls hP hS hl => lv_iand X.1 X.2.1 hd (kk H locs ls hP hS hl)
theorem v_ior (X : CX p s m args meth c k cc nL own) {x y : Int32} (hd : decode cc pc = .ok (.ior, 1)) (kk : V p l e R s m args below meth c cells slots Q k nL mem (pc + 1) lv (aI (x ||| y) :: st)) : V p l e R s m args below meth c cells slots Q k nL mem pc lv (aI y :: aI x :: st) :=
  fun H locs ls hP hS hl => lv_ior X.1 X.2.1 hd (kk H locs ls hP hS hl)
theorem v_ixor (X : CX p s m args meth c k cc nL own) {x y : Int32} (hd : decode cc pc = .ok (.ixor, 1)) (kk : V p l e R s m args below meth c cells slots Q k nL mem (pc + 1) lv (aI (x ^^^ y) :: st)) : V p l e R s m args below meth c cells slots Q k nL mem pc lv (aI y :: aI x :: st) :=
  fun H locs ls hP hS hl => lv_ixor X.1 X.2.1 hd (kk H locs ls hP hS hl)
theorem v_ishl (X : CX p s m args meth c k cc nL own) {x y : Int32} (hd : decode cc pc = .ok (.ishl, 1)) (kk : V p l e R s m args below meth c cells slots Q k nL mem (pc + 1) lv (aI (x <<< (y &&& 31)) :: st)) : V p l e R s m args below meth c cells slots Q k nL mem pc lv (aI y :: aI x :: st) :=
  fun H locs ls hP hS hl => lv_ishl X.1 X.2.1 hd (kk H locs ls hP hS hl)
theorem v_ishr (X : CX p s m args meth c k cc nL own) {x y : Int32} (hd : decode cc pc = .ok (.ishr, 1)) (kk : V p l e R s m args below meth c cells slots Q k nL mem (pc + 1) lv (aI (x >>> (y &&& 31)) :: st)) : V p l e R s m args below meth c cells slots Q k nL mem pc lv (aI y :: aI x :: st) :=
  fun H locs ls hP hS hl => lv_ishr X.1 X.2.1 hd (kk H locs ls hP hS hl)
theorem v_ladd (X : CX p s m args meth c k cc nL own) {x y : Int64} (hd : decode cc pc = .ok (.ladd, 1)) (kk : V p l e R s m args below meth c cells slots Q k nL mem (pc + 1) lv (aL (x + y) :: st)) : V p l e R s m args below meth c cells slots Q k nL mem pc lv (aL y :: aL x :: st) :=
  fun H locs ls hP hS hl => lv_ladd X.1 X.2.1 hd (kk H locs ls hP hS hl)
theorem v_lsub (X : CX p s m args meth c k cc nL own) {x y : Int64} (hd : decode cc pc = .ok (.lsub, 1)) (kk : V p l e R s m args below meth c cells slots Q k nL mem (pc + 1) lv (aL (x - y) :: st)) : V p l e R s m args below meth c cells slots Q k nL mem pc lv (aL y :: aL x :: st) :=
  fun H locs ls hP hS hl => lv_lsub X.1 X.2.1 hd (kk H locs ls hP hS hl)
theorem v_lmul (X : CX p s m args meth c k cc nL own) {x y : Int64} (hd : decode cc pc = .ok (.lmul, 1)) (kk : V p l e R s m args below meth c cells slots Q k nL mem (pc + 1) lv (aL (x * y) :: st)) : V p l e R s m args below meth c cells slots Q k nL mem pc lv (aL y :: aL x :: st) :=
  fun H locs ls hP hS hl => lv_lmul X.1 X.2.1 hd (kk H locs ls hP hS hl)
theorem v_land (X : CX p s m args meth c k cc nL own) {x y : Int64} (hd : decode cc pc = .ok (.land, 1)) (kk : V p l e R s m args below meth c cells slots Q k nL mem (pc + 1) lv (aL (x &&& y) :: st)) : V p l e R s m args below meth c cells slots Q k nL mem pc lv (aL y :: aL x :: st) :=
  fun H locs ls hP hS hl => lv_land X.1 X.2.1 hd (kk H locs ls hP hS hl)
theorem v_lor (X : CX p s m args meth c k cc nL own) {x y : Int64} (hd : decode cc pc = .ok (.lor, 1)) (kk : V p l e R s m args below meth c cells slots Q k nL mem (pc + 1) lv (aL (x ||| y) :: st)) : V p l e R s m args below meth c cells slots Q k nL mem pc lv (aL y :: aL x :: st) :=
  fun H locs ls hP hS hl => lv_lor X.1 X.2.1 hd (kk H locs ls hP hS hl)
theorem v_iushr (X : CX p s m args meth c k cc nL own) {x y v : Int32} (hv : (x.toUInt32 >>> (y &&& 31).toUInt32).toInt32 = v) (hd : decode cc pc = .ok (.iushr, 1)) (kk : V p l e R s m args below meth c cells slots Q k nL mem (pc + 1) lv (aI v :: st)) : V p l e R s m args below meth c cells slots Q k nL mem pc lv (aI y :: aI x :: st) :=
  fun H locs ls hP hS hl => lv_iushr X.1 X.2.1 hd hv (kk H locs ls hP hS hl)
theorem v_idiv (X : CX p s m args meth c k cc nL own) {x y : Int32} {α : Type} {A : Option α} {o : α} (h : (if y = 0 then none else A) = some o) (hd : decode cc pc = .ok (.idiv, 1)) (kk : A = some o → V p l e R s m args below meth c cells slots Q k nL mem (pc + 1) lv (aI (x / y) :: st)) : V p l e R s m args below meth c cells slots Q k nL mem pc lv (aI y :: aI x :: st) := by
  intro H locs ls hP hS hl
  by_cases hz : y = 0
  · rw [if_pos hz] at h; cases h
  · rw [if_neg hz] at h
    exact lv_idiv X.1 X.2.1 hd hz (kk h H locs ls hP hS hl)
theorem v_irem (X : CX p s m args meth c k cc nL own) {x y : Int32} {α : Type} {A : Option α} {o : α} (h : (if y = 0 then none else A) = some o) (hd : decode cc pc = .ok (.irem, 1)) (kk : A = some o → V p l e R s m args below meth c cells slots Q k nL mem (pc + 1) lv (aI (x % y) :: st)) : V p l e R s m args below meth c cells slots Q k nL mem pc lv (aI y :: aI x :: st) := by
  intro H locs ls hP hS hl
  by_cases hz : y = 0
  · rw [if_pos hz] at h; cases h
  · rw [if_neg hz] at h
    have e : x - x / y * y = x % y := irem_eq_mod x y
    have kk2 := kk h H locs ls hP hS hl
    rw [← e] at kk2
    exact lv_irem X.1 X.2.1 hd hz kk2
theorem v_i2l (X : CX p s m args meth c k cc nL own) {x : Int32} (hd : decode cc pc = .ok (.i2l, 1)) (kk : V p l e R s m args below meth c cells slots Q k nL mem (pc + 1) lv (aL (x.toInt64) :: st)) : V p l e R s m args below meth c cells slots Q k nL mem pc lv (aI x :: st) :=
  fun H locs ls hP hS hl => lv_i2l X.1 X.2.1 hd rfl (kk H locs ls hP hS hl)
theorem v_l2i (X : CX p s m args meth c k cc nL own) {x : Int64} (hd : decode cc pc = .ok (.l2i, 1)) (kk : V p l e R s m args below meth c cells slots Q k nL mem (pc + 1) lv (aI (x.toInt32) :: st)) : V p l e R s m args below meth c cells slots Q k nL mem pc lv (aL x :: st) :=
  fun H locs ls hP hS hl => lv_l2i X.1 X.2.1 hd rfl (kk H locs ls hP hS hl)
theorem v_i2b (X : CX p s m args meth c k cc nL own) {x : Int32} (hd : decode cc pc = .ok (.i2b, 1)) (kk : V p l e R s m args below meth c cells slots Q k nL mem (pc + 1) lv (aI (x.toInt8.toInt32) :: st)) : V p l e R s m args below meth c cells slots Q k nL mem pc lv (aI x :: st) :=
  fun H locs ls hP hS hl => lv_i2b X.1 X.2.1 hd rfl (kk H locs ls hP hS hl)
theorem v_i2s (X : CX p s m args meth c k cc nL own) {x : Int32} (hd : decode cc pc = .ok (.i2s, 1)) (kk : V p l e R s m args below meth c cells slots Q k nL mem (pc + 1) lv (aI (x.toInt16.toInt32) :: st)) : V p l e R s m args below meth c cells slots Q k nL mem pc lv (aI x :: st) :=
  fun H locs ls hP hS hl => lv_i2s X.1 X.2.1 hd rfl (kk H locs ls hP hS hl)
theorem v_i2c (X : CX p s m args meth c k cc nL own) {x : Int32} (hd : decode cc pc = .ok (.i2c, 1)) (kk : V p l e R s m args below meth c cells slots Q k nL mem (pc + 1) lv (aI ((x.toUInt32 % 65536).toInt32) :: st)) : V p l e R s m args below meth c cells slots Q k nL mem pc lv (aI x :: st) :=
  fun H locs ls hP hS hl => lv_i2c X.1 X.2.1 hd rfl (kk H locs ls hP hS hl)
theorem v_lshl (X : CX p s m args meth c k cc nL own) {x : Int64} {y : Int32} (hd : decode cc pc = .ok (.lshl, 1)) (kk : V p l e R s m args below meth c cells slots Q k nL mem (pc + 1) lv (aL (x <<< (y.toInt64 &&& 63)) :: st)) : V p l e R s m args below meth c cells slots Q k nL mem pc lv (aI y :: aL x :: st) :=
  fun H locs ls hP hS hl => lv_lshl X.1 X.2.1 hd rfl (kk H locs ls hP hS hl)
theorem v_lshr (X : CX p s m args meth c k cc nL own) {x : Int64} {y : Int32} (hd : decode cc pc = .ok (.lshr, 1)) (kk : V p l e R s m args below meth c cells slots Q k nL mem (pc + 1) lv (aL (x >>> (y.toInt64 &&& 63)) :: st)) : V p l e R s m args below meth c cells slots Q k nL mem pc lv (aI y :: aL x :: st) :=
  fun H locs ls hP hS hl => lv_lshr X.1 X.2.1 hd rfl (kk H locs ls hP hS hl)
theorem v_lcmp (X : CX p s m args meth c k cc nL own) {x y : Int64} (hd : decode cc pc = .ok (.lcmp, 1)) (kk : V p l e R s m args below meth c cells slots Q k nL mem (pc + 1) lv (aI (lg_cmp x y) :: st)) : V p l e R s m args below meth c cells slots Q k nL mem pc lv (aL y :: aL x :: st) :=
  fun H locs ls hP hS hl => W.lcmp X.1 X.2.1 hd (kk H locs ls hP hS hl)
theorem v_dup (X : CX p s m args meth c k cc nL own) {a : AV} (ha : acat a = 1) (hd : decode cc pc = .ok (.dup, 1)) (kk : V p l e R s m args below meth c cells slots Q k nL mem (pc + 1) lv (a :: a :: st)) : V p l e R s m args below meth c cells slots Q k nL mem pc lv (a :: st) :=
  fun H locs ls hP hS hl => lv_dup X.1 X.2.1 hd ((cv_cat k a).trans ha) (kk H locs ls hP hS hl)
theorem v_pop (X : CX p s m args meth c k cc nL own) {a : AV} (ha : acat a = 1) (hd : decode cc pc = .ok (.pop, 1)) (kk : V p l e R s m args below meth c cells slots Q k nL mem (pc + 1) lv st) : V p l e R s m args below meth c cells slots Q k nL mem pc lv (a :: st) :=
  fun H locs ls hP hS hl => lv_pop X.1 X.2.1 hd ((cv_cat k a).trans ha) (kk H locs ls hP hS hl)
theorem v_dup_x1 (X : CX p s m args meth c k cc nL own) {a b : AV} (ha : acat a = 1) (hb : acat b = 1) (hd : decode cc pc = .ok (.dup_x1, 1)) (kk : V p l e R s m args below meth c cells slots Q k nL mem (pc + 1) lv (a :: b :: a :: st)) : V p l e R s m args below meth c cells slots Q k nL mem pc lv (a :: b :: st) :=
  fun H locs ls hP hS hl => lv_dup_x1 X.1 X.2.1 hd ((cv_cat k a).trans ha) ((cv_cat k b).trans hb) (kk H locs ls hP hS hl)
theorem v_dup2 (X : CX p s m args meth c k cc nL own) {a b : AV} (ha : acat a = 1) (hb : acat b = 1) (hd : decode cc pc = .ok (.dup2, 1)) (kk : V p l e R s m args below meth c cells slots Q k nL mem (pc + 1) lv (a :: b :: a :: b :: st)) : V p l e R s m args below meth c cells slots Q k nL mem pc lv (a :: b :: st) :=
  fun H locs ls hP hS hl => lv_dup2_11 X.1 X.2.1 hd ((cv_cat k a).trans ha) ((cv_cat k b).trans hb) (kk H locs ls hP hS hl)
theorem v_goto (X : CX p s m args meth c k cc nL own) {off : Int} {tgt : Nat} (hd : decode cc pc = .ok (.goto off, 3)) (ht : (pc : Int) + off = (tgt : Int)) (kk : V p l e R s m args below meth c cells slots Q k nL mem tgt lv st) : V p l e R s m args below meth c cells slots Q k nL mem pc lv st :=
  fun H locs ls hP hS hl => lv_goto X.1 X.2.1 hd ht (kk H locs ls hP hS hl)
theorem v_icmp_eq (X : CX p s m args meth c k cc nL own) {x y : Int32} {off : Int} {tgt : Nat} {α : Type} {A B : Option α} {o : α} (h : (if x = y then A else B) = some o) (hd : decode cc pc = .ok (.if_icmp .eq off, 3)) (ht : (pc : Int) + off = (tgt : Int)) (k1 : A = some o → V p l e R s m args below meth c cells slots Q k nL mem tgt lv st) (k2 : B = some o → V p l e R s m args below meth c cells slots Q k nL mem (pc + 3) lv st) : V p l e R s m args below meth c cells slots Q k nL mem pc lv (aI y :: aI x :: st) :=
  fun H locs ls hP hS hl => lv_icmp_eq X.1 X.2.1 hd ht (fun q => k1 (it_t h q) H locs ls hP hS hl) (fun q => k2 (it_f h q) H locs ls hP hS hl)
theorem v_icmp_ne (X : CX p s m args meth c k cc nL own) {x y : Int32} {off : Int} {tgt : Nat} {α : Type} {A B : Option α} {o : α} (h : (if x = y then A else B) = some o) (hd : decode cc pc = .ok (.if_icmp .ne off, 3)) (ht : (pc : Int) + off = (tgt : Int)) (k1 : A = some o → V p l e R s m args below meth c cells slots Q k nL mem (pc + 3) lv st) (k2 : B = some o → V p l e R s m args below meth c cells slots Q k nL mem tgt lv st) : V p l e R s m args below meth c cells slots Q k nL mem pc lv (aI y :: aI x :: st) :=
  fun H locs ls hP hS hl => lv_icmp_ne X.1 X.2.1 hd ht (fun q => k2 (it_f h q) H locs ls hP hS hl) (fun q => k1 (it_t h q) H locs ls hP hS hl)
theorem v_icmp_lt (X : CX p s m args meth c k cc nL own) {x y : Int32} {off : Int} {tgt : Nat} {α : Type} {A B : Option α} {o : α} (h : (if x < y then A else B) = some o) (hd : decode cc pc = .ok (.if_icmp .lt off, 3)) (ht : (pc : Int) + off = (tgt : Int)) (k1 : A = some o → V p l e R s m args below meth c cells slots Q k nL mem tgt lv st) (k2 : B = some o → V p l e R s m args below meth c cells slots Q k nL mem (pc + 3) lv st) : V p l e R s m args below meth c cells slots Q k nL mem pc lv (aI y :: aI x :: st) :=
  fun H locs ls hP hS hl => lv_icmp_lt X.1 X.2.1 hd ht (fun q => k1 (it_t h q) H locs ls hP hS hl) (fun q => k2 (it_f h q) H locs ls hP hS hl)
theorem v_icmp_ge (X : CX p s m args meth c k cc nL own) {x y : Int32} {off : Int} {tgt : Nat} {α : Type} {A B : Option α} {o : α} (h : (if x < y then A else B) = some o) (hd : decode cc pc = .ok (.if_icmp .ge off, 3)) (ht : (pc : Int) + off = (tgt : Int)) (k1 : A = some o → V p l e R s m args below meth c cells slots Q k nL mem (pc + 3) lv st) (k2 : B = some o → V p l e R s m args below meth c cells slots Q k nL mem tgt lv st) : V p l e R s m args below meth c cells slots Q k nL mem pc lv (aI y :: aI x :: st) :=
  fun H locs ls hP hS hl => lv_icmp_ge X.1 X.2.1 hd ht (fun q => k2 (it_f h (Int32.not_lt.mpr q)) H locs ls hP hS hl) (fun q => k1 (it_t h (Int32.not_le.mp q)) H locs ls hP hS hl)
theorem v_icmp_gt (X : CX p s m args meth c k cc nL own) {x y : Int32} {off : Int} {tgt : Nat} {α : Type} {A B : Option α} {o : α} (h : (if y < x then A else B) = some o) (hd : decode cc pc = .ok (.if_icmp .gt off, 3)) (ht : (pc : Int) + off = (tgt : Int)) (k1 : A = some o → V p l e R s m args below meth c cells slots Q k nL mem tgt lv st) (k2 : B = some o → V p l e R s m args below meth c cells slots Q k nL mem (pc + 3) lv st) : V p l e R s m args below meth c cells slots Q k nL mem pc lv (aI y :: aI x :: st) :=
  fun H locs ls hP hS hl => lv_icmp_gt X.1 X.2.1 hd ht (fun q => k1 (it_t h q) H locs ls hP hS hl) (fun q => k2 (it_f h q) H locs ls hP hS hl)
theorem v_icmp_le (X : CX p s m args meth c k cc nL own) {x y : Int32} {off : Int} {tgt : Nat} {α : Type} {A B : Option α} {o : α} (h : (if y < x then A else B) = some o) (hd : decode cc pc = .ok (.if_icmp .le off, 3)) (ht : (pc : Int) + off = (tgt : Int)) (k1 : A = some o → V p l e R s m args below meth c cells slots Q k nL mem (pc + 3) lv st) (k2 : B = some o → V p l e R s m args below meth c cells slots Q k nL mem tgt lv st) : V p l e R s m args below meth c cells slots Q k nL mem pc lv (aI y :: aI x :: st) :=
  fun H locs ls hP hS hl => lv_icmp_le X.1 X.2.1 hd ht (fun q => k2 (it_f h (Int32.not_lt.mpr q)) H locs ls hP hS hl) (fun q => k1 (it_t h (Int32.not_le.mp q)) H locs ls hP hS hl)
theorem v_if_eq (X : CX p s m args meth c k cc nL own) {x : Int32} {off : Int} {tgt : Nat} {α : Type} {A B : Option α} {o : α} (h : (if x = 0 then A else B) = some o) (hd : decode cc pc = .ok (.ifCond .eq off, 3)) (ht : (pc : Int) + off = (tgt : Int)) (k1 : A = some o → V p l e R s m args below meth c cells slots Q k nL mem tgt lv st) (k2 : B = some o → V p l e R s m args below meth c cells slots Q k nL mem (pc + 3) lv st) : V p l e R s m args below meth c cells slots Q k nL mem pc lv (aI x :: st) :=
  fun H locs ls hP hS hl => lv_if_eq X.1 X.2.1 hd ht (fun q => k1 (it_t h q) H locs ls hP hS hl) (fun q => k2 (it_f h q) H locs ls hP hS hl)
theorem v_if_ne (X : CX p s m args meth c k cc nL own) {x : Int32} {off : Int} {tgt : Nat} {α : Type} {A B : Option α} {o : α} (h : (if x = 0 then A else B) = some o) (hd : decode cc pc = .ok (.ifCond .ne off, 3)) (ht : (pc : Int) + off = (tgt : Int)) (k1 : A = some o → V p l e R s m args below meth c cells slots Q k nL mem (pc + 3) lv st) (k2 : B = some o → V p l e R s m args below meth c cells slots Q k nL mem tgt lv st) : V p l e R s m args below meth c cells slots Q k nL mem pc lv (aI x :: st) :=
  fun H locs ls hP hS hl => lv_if_ne X.1 X.2.1 hd ht (fun q => k2 (it_f h q) H locs ls hP hS hl) (fun q => k1 (it_t h q) H locs ls hP hS hl)
theorem v_if_lt (X : CX p s m args meth c k cc nL own) {x : Int32} {off : Int} {tgt : Nat} {α : Type} {A B : Option α} {o : α} (h : (if x < 0 then A else B) = some o) (hd : decode cc pc = .ok (.ifCond .lt off, 3)) (ht : (pc : Int) + off = (tgt : Int)) (k1 : A = some o → V p l e R s m args below meth c cells slots Q k nL mem tgt lv st) (k2 : B = some o → V p l e R s m args below meth c cells slots Q k nL mem (pc + 3) lv st) : V p l e R s m args below meth c cells slots Q k nL mem pc lv (aI x :: st) :=
  fun H locs ls hP hS hl => lv_if_lt X.1 X.2.1 hd ht (fun q => k1 (it_t h q) H locs ls hP hS hl) (fun q => k2 (it_f h q) H locs ls hP hS hl)
theorem v_if_ge (X : CX p s m args meth c k cc nL own) {x : Int32} {off : Int} {tgt : Nat} {α : Type} {A B : Option α} {o : α} (h : (if x < 0 then A else B) = some o) (hd : decode cc pc = .ok (.ifCond .ge off, 3)) (ht : (pc : Int) + off = (tgt : Int)) (k1 : A = some o → V p l e R s m args below meth c cells slots Q k nL mem (pc + 3) lv st) (k2 : B = some o → V p l e R s m args below meth c cells slots Q k nL mem tgt lv st) : V p l e R s m args below meth c cells slots Q k nL mem pc lv (aI x :: st) :=
  fun H locs ls hP hS hl => lv_if_ge X.1 X.2.1 hd ht (fun q => k2 (it_f h (Int32.not_lt.mpr q)) H locs ls hP hS hl) (fun q => k1 (it_t h (Int32.not_le.mp q)) H locs ls hP hS hl)
theorem v_if_gt (X : CX p s m args meth c k cc nL own) {x : Int32} {off : Int} {tgt : Nat} {α : Type} {A B : Option α} {o : α} (h : (if 0 < x then A else B) = some o) (hd : decode cc pc = .ok (.ifCond .gt off, 3)) (ht : (pc : Int) + off = (tgt : Int)) (k1 : A = some o → V p l e R s m args below meth c cells slots Q k nL mem tgt lv st) (k2 : B = some o → V p l e R s m args below meth c cells slots Q k nL mem (pc + 3) lv st) : V p l e R s m args below meth c cells slots Q k nL mem pc lv (aI x :: st) :=
  fun H locs ls hP hS hl => lv_if_gt X.1 X.2.1 hd ht (fun q => k1 (it_t h q) H locs ls hP hS hl) (fun q => k2 (it_f h q) H locs ls hP hS hl)
theorem v_if_le (X : CX p s m args meth c k cc nL own) {x : Int32} {off : Int} {tgt : Nat} {α : Type} {A B : Option α} {o : α} (h : (if 0 < x then A else B) = some o) (hd : decode cc pc = .ok (.ifCond .le off, 3)) (ht : (pc : Int) + off = (tgt : Int)) (k1 : A = some o → V p l e R s m args below meth c cells slots Q k nL mem (pc + 3) lv st) (k2 : B = some o → V p l e R s m args below meth c cells slots Q k nL mem tgt lv st) : V p l e R s m args below meth c cells slots Q k nL mem pc lv (aI x :: st) :=
  fun H locs ls hP hS hl => lv_if_le X.1 X.2.1 hd ht (fun q => k2 (it_f h (Int32.not_lt.mpr q)) H locs ls hP hS hl) (fun q => k1 (it_t h (Int32.not_le.mp q)) H locs ls hP hS hl)
theorem v_tsw (X : CX p s m args meth c k cc nL own) {dflt lo hi : Int} {offs : Array Int} {len : Nat} {x : Int32} {off : Int} {tgt : Nat} (v : Int32) (hx : x = v) (hd : decode cc pc = .ok (.tableswitch dflt lo hi offs, len)) (h1 : ¬ v.toInt < lo) (h2 : ¬ hi < v.toInt) (ho : offs[(v.toInt - lo).toNat]? = some off) (ht : (pc : Int) + off = (tgt : Int)) (kk : V p l e R s m args below meth c cells slots Q k nL mem tgt lv st) : V p l e R s m args below meth c cells slots Q k nL mem pc lv (aI x :: st) :=
  fun H locs ls hP hS hl => lv_tableIn X.1 X.2.1 hd (by rw [hx]; exact h1) (by rw [hx]; exact h2) (by rw [hx]; exact ho) ht (kk H locs ls hP hS hl)
theorem v_tswD (X : CX p s m args meth c k cc nL own) {dflt lo hi : Int} {offs : Array Int} {len : Nat} {x : Int32} {tgt : Nat} (hx : x.toInt < lo ∨ hi < x.toInt) (hd : decode cc pc = .ok (.tableswitch dflt lo hi offs, len)) (ht : (pc : Int) + dflt = (tgt : Int)) (kk : V p l e R s m args below meth c cells slots Q k nL mem tgt lv st) : V p l e R s m args below meth c cells slots Q k nL mem pc lv (aI x :: st) :=
  fun H locs ls hP hS hl => lv_tableOut X.1 X.2.1 hd hx ht (kk H locs ls hP hS hl)
end ROWS
end
section
/-! THE ROWS of cells: fields, arrays, statics, literals, copies, calls, ends. -/
theorem vp_of_lt {x : Int32} {n : Nat} (h : vp_in x n) : x.toNatClampNeg < n := Nat.not_le.mp (fun q => h (Or.inr q))
section CELLS
variable {p : Program} {l : Launch} {e : Env} {R : Room} {s : State} {m : MethodId} {args : Array Value} {below : List Frame} {meth : Method} {c : Code} {cells slots : Nat} {Q : State → Prop} {k : KK} {nL : Nat} {mem : Mem} {pc : Nat} {lv lv' : List (Nat × AV)} {st : List AV} {cc : ByteArray} {own : String}
theorem v_get (X : CX p s m args meth c k cc nL own) {t i ci idx : Nat} {C ref n d : String} {T : u_T} {N : Nat} {fs : List Value} (j : Nat) {a : AV} (ht : t < 23) (hi : i < nT t) (hc : ce (kC k) (ka k) mem t i = .inr (ci, fs)) (hv : fs[j]? = some (cv k a)) (hcl : wcl[ci]? = some (C, T, N)) (hin : ∀ w ∈ u_ws C T N, w ∈ wG) (hj : j < N)
    (hq : Cond.fieldLink own idx ref n d ∈ wG) (hn : T j = (ref, n, d, (T j).2.2.2)) (hd : decode cc pc = .ok (.getfield idx, 3)) (kk : V p l e R s m args below meth c cells slots Q k nL mem (pc + 3) lv (a :: st)) : V p l e R s m args below meth c cells slots Q k nL mem pc lv (aR t i :: st) := by
  intro H locs ls hP hS hl
  have e1 : (T j).1 = ref := by rw [hn]
  have e2 : (T j).2.1 = n := by rw [hn]
  have e3 : (T j).2.2.1 = d := by rw [hn]
  have hw := wl_at (cT := kC k) (ad := ka k) (m := mem) ht hi
  rw [hc] at hw
  exact va_get (D := kD k) X.1 X.2.1 X.2.2.2.2.1 hin X.2.2.2.1 X.2.2.2.2.2.1.1 hP (oT t + i) hw hcl j hj (by rw [e2, e3]; exact X.2.2.2.2.1 _ hq) (fun x hx => by rw [e1] at hx; exact hx) hv hd (kk H locs ls hP hS hl)
theorem v_put (X : CX p s m args meth c k cc nL own) {t i ci idx : Nat} {C ref n d : String} {T : u_T} {ty : Nat → FieldType} {N : Nat} {fs : List Value} (j : Nat) {a : AV} {mem' : Mem} (ht : t < 23) (hi : i < nT t) (hc : ce (kC k) (ka k) mem t i = .inr (ci, fs)) (hc' : ce (kC k) (ka k) mem' t i = .inr (ci, fs.set j (cv k a))) (hm : ∀ t' i', ¬ (t' = t ∧ i' = i) → gI mem' t' i' = gI mem t' i' ∧ gL mem' t' i' = gL mem t' i') (hcl : wcl[ci]? = some (C, T, N)) (hin : ∀ w ∈ u_ws C T N, w ∈ wG) (hty : ∀ k, k < N → parseFieldDescriptor (T k).2.2.1 = some (ty k)) (hnm : ∀ a, a < N → ∀ b, b < N → a ≠ b → (T a).2.1 ≠ (T b).2.1) (hj : j < N)
    (hq : Cond.fieldLink own idx ref n d ∈ wG) (hn : T j = (ref, n, d, false)) (hna : narrow (ty j) (cv k a) = cv k a) (hfi : fits (ty j) (cv k a) = true) (hlf : j < fs.length) (hd : decode cc pc = .ok (.putfield idx, 3)) (kk : V p l e R s m args below meth c cells slots Q k nL mem' (pc + 3) lv st) : V p l e R s m args below meth c cells slots Q k nL mem pc lv (a :: aR t i :: st) := by
  intro H locs ls hP hS hl
  have e1 : (T j).1 = ref := by rw [hn]
  have e2 : (T j).2.1 = n := by rw [hn]
  have e3 : (T j).2.2.1 = d := by rw [hn]
  have hw := wl_at (cT := kC k) (ad := ka k) (m := mem) ht hi
  rw [hc] at hw
  refine va_put (D := kD k) X.1 X.2.1 X.2.2.2.2.1 hin ty hty hnm X.2.2.2.1 X.2.2.2.2.2.1.1 hP (X.2.2.2.2.2.1.2.1 mem) hS (oT t + i) hw hcl j hj (by rw [e2, e3]; exact X.2.2.2.2.1 _ hq) (fun x hx => by rw [e1] at hx; exact hx) (by rw [hn]) (hty j hj) hna hfi hlf hd (fun H1 locs1 hP1 _ hS1 => ?_)
  rw [← hc', wl_set ht hi hm] at hP1
  exact kk H1 locs1 ls hP1 hS1 hl
theorem v_iald (X : CX p s m args meth c k cc nL own) {t i n : Nat} {x : Int32} {α : Type} {A : Option α} {o : α} (h : ck x n A = some o) (ht : t < 23) (hi : i < nT t) (hc : ce (kC k) (ka k) mem t i = .inl (kC k 0, n, .inl (gI mem t i))) (hd : decode cc pc = .ok (.iaload, 1)) (kk : A = some o → V p l e R s m args below meth c cells slots Q k nL mem (pc + 1) lv (aI (gI mem t i x.toNatClampNeg) :: st)) : V p l e R s m args below meth c cells slots Q k nL mem pc lv (aI x :: aR t i :: st) := by
  intro H locs ls hP hS hl
  obtain ⟨h1, h2, h3⟩ := ck_some h
  have hw := wl_at (cT := kC k) (ad := ka k) (m := mem) ht hi
  rw [hc] at hw
  exact va_iald (D := kD k) X.1 X.2.1 X.2.2.2.2.2.1.1 hP (oT t + i) 0 hw rfl h1 hd (kk h3 H locs ls hP hS hl)
theorem v_lald (X : CX p s m args meth c k cc nL own) {t i n : Nat} {x : Int32} {α : Type} {A : Option α} {o : α} (h : ck x n A = some o) (ht : t < 23) (hi : i < nT t) (hc : ce (kC k) (ka k) mem t i = .inl (kC k 1, n, .inr (.inl (gL mem t i)))) (hd : decode cc pc = .ok (.laload, 1)) (kk : A = some o → V p l e R s m args below meth c cells slots Q k nL mem (pc + 1) lv (aL (gL mem t i x.toNatClampNeg) :: st)) : V p l e R s m args below meth c cells slots Q k nL mem pc lv (aI x :: aR t i :: st) := by
  intro H locs ls hP hS hl
  obtain ⟨h1, h2, h3⟩ := ck_some h
  have hw := wl_at (cT := kC k) (ad := ka k) (m := mem) ht hi
  rw [hc] at hw
  exact va_lald (D := kD k) X.1 X.2.1 X.2.2.2.2.2.1.1 hP (oT t + i) 1 hw rfl h1 hd (kk h3 H locs ls hP hS hl)
theorem v_iast (X : CX p s m args meth c k cc nL own) {t i n : Nat} {x y : Int32} {α : Type} {A : Option α} {o : α} (h : ck x n A = some o) (ht : t < 23) (hi : i < nT t) (hc : ∀ mem, ce (kC k) (ka k) mem t i = .inl (kC k 0, n, .inl (gI mem t i))) (hd : decode cc pc = .ok (.iastore, 1)) (kk : A = some o → V p l e R s m args below meth c cells slots Q k nL (sI mem t i x.toNatClampNeg y) (pc + 1) lv st) : V p l e R s m args below meth c cells slots Q k nL mem pc lv (aI y :: aI x :: aR t i :: st) := by
  intro H locs ls hP hS hl
  obtain ⟨h1, h2, h3⟩ := ck_some h
  have hw := wl_at (cT := kC k) (ad := ka k) (m := mem) ht hi
  rw [hc] at hw
  refine va_iast (D := kD k) X.1 X.2.1 X.2.2.2.2.2.1.1 hP (X.2.2.2.2.2.1.2.1 mem) hS (oT t + i) 0 hw rfl h1 hd (fun H1 locs1 hP1 _ hS1 => ?_)
  have hc' := hc (sI mem t i x.toNatClampNeg y)
  rw [rowI_eq] at hc'
  rw [← hc', wl_set ht hi rowI_ne] at hP1
  exact kk h3 H1 locs1 ls hP1 hS1 hl
theorem v_last (X : CX p s m args meth c k cc nL own) {t i n : Nat} {x : Int32} {y : Int64} {α : Type} {A : Option α} {o : α} (h : ck x n A = some o) (ht : t < 23) (hi : i < nT t) (hc : ∀ mem, ce (kC k) (ka k) mem t i = .inl (kC k 1, n, .inr (.inl (gL mem t i)))) (hd : decode cc pc = .ok (.lastore, 1)) (kk : A = some o → V p l e R s m args below meth c cells slots Q k nL (sL mem t i x.toNatClampNeg y) (pc + 1) lv st) : V p l e R s m args below meth c cells slots Q k nL mem pc lv (aL y :: aI x :: aR t i :: st) := by
  intro H locs ls hP hS hl
  obtain ⟨h1, h2, h3⟩ := ck_some h
  have hw := wl_at (cT := kC k) (ad := ka k) (m := mem) ht hi
  rw [hc] at hw
  refine va_last (D := kD k) X.1 X.2.1 X.2.2.2.2.2.1.1 hP (X.2.2.2.2.2.1.2.1 mem) hS (oT t + i) 1 hw rfl h1 hd (fun H1 locs1 hP1 _ hS1 => ?_)
  have hc' := hc (sL mem t i x.toNatClampNeg y)
  rw [rowL_eq] at hc'
  rw [← hc', wl_set ht hi rowL_ne] at hP1
  exact kk h3 H1 locs1 ls hP1 hS1 hl
/-- a row of the walls -/
theorem v_aaldW (X : CX p s m args meth c k cc nL own) {i : Nat} {x : Int32} {α : Type} {A : Option α} {o : α} (h : ck x 10 A = some o) (hi : i < 3) (hd : decode cc pc = .ok (.aaload, 1)) (kk : 10 * i + x.toNatClampNeg < 30 → A = some o → V p l e R s m args below meth c cells slots Q k nL mem (pc + 1) lv (aR 4 (10 * i + x.toNatClampNeg) :: st)) : V p l e R s m args below meth c cells slots Q k nL mem pc lv (aI x :: aR 3 i :: st) := by
  intro H locs ls hP hS hl
  obtain ⟨h1, h2, h3⟩ := ck_some h
  have hw := wl_at (cT := kC k) (ad := ka k) (m := mem) (t := 3) (i := i) (by decide) hi
  exact W.aald (v := .ref (ka k (oT 4 + (10 * i + x.toNatClampNeg)))) (ty := .array .int) X.1 X.2.1 (hP (oT 3 + i) _ hw) ((X.2.2.2.2.2.1.1.2 2 _ rfl).1 10 (fun j => va_rf (some (ka k (oT 4 + (10 * i + j)))))) rfl (fun q => by cases q) (by show ¬ (x < 0 ∨ (arrV _ _ _).slots.size ≤ _); rw [arrV_size]; exact h1) (by show (arrV _ _ _).slots[_]? = _; rw [arrV_read _ _ h2]; rfl) rfl rfl hd (kk (by omega) h3 H locs ls hP hS hl)
/-- one of the sheets -/
theorem v_aaldS (X : CX p s m args meth c k cc nL own) {i : Nat} {x : Int32} {α : Type} {A : Option α} {o : α} (h : ck x 4 A = some o) (hi : i < 1) (hd : decode cc pc = .ok (.aaload, 1)) (kk : x.toNatClampNeg < 4 → A = some o → V p l e R s m args below meth c cells slots Q k nL mem (pc + 1) lv (aR 8 x.toNatClampNeg :: st)) : V p l e R s m args below meth c cells slots Q k nL mem pc lv (aI x :: aR 7 i :: st) := by
  intro H locs ls hP hS hl
  obtain ⟨h1, h2, h3⟩ := ck_some h
  have hw := wl_at (cT := kC k) (ad := ka k) (m := mem) (t := 7) (i := i) (by decide) hi
  exact va_aldq (D := kD k) X.1 X.2.1 X.2.2.2.2.2.1.1 hP (oT 7 + i) 3 hw rfl h1 hd (kk h2 h3 H locs ls hP hS hl)
theorem v_alenI (X : CX p s m args meth c k cc nL own) {t i n : Nat} {v : Int32} (hv : Int32.ofNat n = v) (ht : t < 23) (hi : i < nT t) (hc : ce (kC k) (ka k) mem t i = .inl (kC k 0, n, .inl (gI mem t i))) (hd : decode cc pc = .ok (.arraylength, 1)) (kk : V p l e R s m args below meth c cells slots Q k nL mem (pc + 1) lv (aI v :: st)) : V p l e R s m args below meth c cells slots Q k nL mem pc lv (aR t i :: st) := by
  intro H locs ls hP hS hl
  have hw := wl_at (cT := kC k) (ad := ka k) (m := mem) ht hi
  rw [hc] at hw
  exact va_alen (D := kD k) X.1 X.2.1 X.2.2.2.2.2.1.1 hP (oT t + i) 0 hw rfl hv hd (kk H locs ls hP hS hl)
theorem v_alenL (X : CX p s m args meth c k cc nL own) {t i n : Nat} {v : Int32} (hv : Int32.ofNat n = v) (ht : t < 23) (hi : i < nT t) (hc : ce (kC k) (ka k) mem t i = .inl (kC k 1, n, .inr (.inl (gL mem t i)))) (hd : decode cc pc = .ok (.arraylength, 1)) (kk : V p l e R s m args below meth c cells slots Q k nL mem (pc + 1) lv (aI v :: st)) : V p l e R s m args below meth c cells slots Q k nL mem pc lv (aR t i :: st) := by
  intro H locs ls hP hS hl
  have hw := wl_at (cT := kC k) (ad := ka k) (m := mem) ht hi
  rw [hc] at hw
  exact va_alen (D := kD k) X.1 X.2.1 X.2.2.2.2.2.1.1 hP (oT t + i) 1 hw rfl hv hd (kk H locs ls hP hS hl)
/-- the script -/
theorem v_sld (X : CX p s m args meth c k cc nL own) {x : Int32} {α : Type} {A : Option α} {o : α} (h : ck x (kL k) A = some o) (hd : decode cc pc = .ok (.iaload, 1)) (kk : A = some o → V p l e R s m args below meth c cells slots Q k nL mem (pc + 1) lv (aI (kx k x.toNatClampNeg) :: st)) : V p l e R s m args below meth c cells slots Q k nL mem pc lv (aI x :: aR 24 0 :: st) := by
  intro H locs ls hP hS hl
  obtain ⟨h1, h2, h3⟩ := ck_some h
  obtain ⟨-, -, g3, -, -, -, -, -, -, g10, g11⟩ := X.2.2.2.2.2.1
  exact va_sld (A := kA k) X.1 X.2.1 g10 (Nat.lt_of_lt_of_le g11 g3) (Nat.not_le.mpr g11) hS h1 hd (kk h3 H locs ls hP hS hl)
theorem v_slen (X : CX p s m args meth c k cc nL own) (hd : decode cc pc = .ok (.arraylength, 1)) (kk : V p l e R s m args below meth c cells slots Q k nL mem (pc + 1) lv (aI (Int32.ofNat (kL k)) :: st)) : V p l e R s m args below meth c cells slots Q k nL mem pc lv (aR 24 0 :: st) := by
  intro H locs ls hP hS hl
  obtain ⟨-, -, g3, -, -, -, -, -, -, g10, g11⟩ := X.2.2.2.2.2.1
  exact va_slen (A := kA k) X.1 X.2.1 g10 (Nat.lt_of_lt_of_le g11 g3) (Nat.not_le.mpr g11) hS hd (kk H locs ls hP hS hl)
/-- static rows -/
theorem v_gets (X : CX p s m args meth c k cc nL own) {idx : Nat} (i : Nat) (hi : i < 4) (hq : Cond.fieldLink own idx "WallShifts" (stN i) "[I" ∈ wG) (hd : decode cc pc = .ok (.getstatic idx, 3)) (kk : V p l e R s m args below meth c cells slots Q k nL mem (pc + 3) lv (aR 23 i :: st)) : V p l e R s m args below meth c cells slots Q k nL mem pc lv st :=
  fun H locs ls hP hS hl => va_gets (A := kA k) X.1 X.2.1 (X.2.2.2.2.2.1.2.2.2.2.1 i hi).1 hS X.2.2.2.1 (X.2.2.2.2.1 _ hq) (fun _ h => h) hd (kk H locs ls hP hS hl)
theorem v_getsN (X : CX p s m args meth c k cc nL own) {idx : Nat} (i : Nat) (hi : i < 4) (hq : Cond.fieldLinkNest own idx "WallShifts" (stN i) "[I" "WallShifts" ∈ wNests) (hd : decode cc pc = .ok (.getstatic idx, 3)) (kk : V p l e R s m args below meth c cells slots Q k nL mem (pc + 3) lv (aR 23 i :: st)) : V p l e R s m args below meth c cells slots Q k nL mem pc lv st :=
  fun H locs ls hP hS hl => va_getsN (A := kA k) X.1 X.2.1 (X.2.2.2.2.2.1.2.2.2.2.1 i hi).1 hS X.2.2.2.1 (va_Nw.use rfl (X.2.2.2.2.2.1.2.2.2.1 _ hq)) (fun _ h => h) hd (kk H locs ls hP hS hl)
theorem v_getsC (X : CX p s m args meth c k cc nL own) {idx : Nat} (hq : Cond.fieldLink own idx "java/lang/String" "COMPACT_STRINGS" "Z" ∈ wG) (hd : decode cc pc = .ok (.getstatic idx, 3)) (kk : V p l e R s m args below meth c cells slots Q k nL mem (pc + 3) lv (aI 1 :: st)) : V p l e R s m args below meth c cells slots Q k nL mem pc lv st :=
  fun H locs ls hP hS hl => va_gets (A := kA k) X.1 X.2.1 X.2.2.2.2.2.1.2.2.2.2.2.1 hS X.2.2.2.1 (X.2.2.2.2.1 _ hq) (fun _ h => h) hd (kk H locs ls hP hS hl)
theorem v_getsQ (X : CX p s m args meth c k cc nL own) {idx : Nat} (hq : Cond.fieldLink own idx "jdk/internal/util/Preconditions" "SIOOBE_FORMATTER" "Ljava/util/function/BiFunction;" ∈ wG) (hd : decode cc pc = .ok (.getstatic idx, 3)) (kk : V p l e R s m args below meth c cells slots Q k nL mem (pc + 3) lv (aQ :: st)) : V p l e R s m args below meth c cells slots Q k nL mem pc lv st :=
  fun H locs ls hP hS hl => va_gets (A := kA k) X.1 X.2.1 X.2.2.2.2.2.1.2.2.2.2.2.2.1 hS X.2.2.2.1 (X.2.2.2.2.1 _ hq) (fun _ h => h) hd (kk H locs ls hP hS hl)
theorem v_stld (X : CX p s m args meth c k cc nL own) {i : Nat} {x : Int32} {α : Type} {A : Option α} {o : α} (h : ck x (stV i).length A = some o) (hi : i < 4) (hd : decode cc pc = .ok (.iaload, 1)) (kk : A = some o → V p l e R s m args below meth c cells slots Q k nL mem (pc + 1) lv (aI (stc i x.toNatClampNeg) :: st)) : V p l e R s m args below meth c cells slots Q k nL mem pc lv (aI x :: aR 23 i :: st) := by
  intro H locs ls hP hS hl
  obtain ⟨h1, h2, h3⟩ := ck_some h
  exact va_ti (A := kA k) X.1 X.2.1 (X.2.2.2.2.2.1.2.2.2.2.1 i hi).2 hS h1 rfl hd (kk h3 H locs ls hP hS hl)
/-- literals -/
theorem v_ldcS (X : CX p s m args meth c k cc nL "WallShifts$Tape") {idx : Nat} (i : Nat) (hi : i < 12) (hx : (lit i).1 = idx) (hd : decode cc pc = .ok (.ldc idx, 2)) (kk : V p l e R s m args below meth c cells slots Q k nL mem (pc + 2) lv (aR 25 i :: st)) : V p l e R s m args below meth c cells slots Q k nL mem pc lv st :=
  fun H locs ls hP hS hl => va_ldcS X.1 X.2.1 X.2.2.2.1 (hx ▸ X.2.2.2.2.2.1.2.2.2.2.2.2.2.1 i hi) hd (kk H locs ls hP hS hl)
theorem v_getSv (X : CX p s m args meth c k cc nL own) {idx i : Nat} (hi : i < 12) (hq : Cond.fieldLink own idx "java/lang/String" "value" "[B" ∈ wG) (hd : decode cc pc = .ok (.getfield idx, 3)) (kk : V p l e R s m args below meth c cells slots Q k nL mem (pc + 3) lv (aR 26 i :: st)) : V p l e R s m args below meth c cells slots Q k nL mem pc lv (aR 25 i :: st) :=
  fun H locs ls hP hS hl => vk_getf (A := kA k) X.1 X.2.1 (X.2.2.2.2.2.1.2.2.2.2.2.2.2.2.1.1 i hi).2.2.1 hS X.2.2.2.1 (X.2.2.2.2.1 _ hq) (fun _ h => h) hd (kk H locs ls hP hS hl)
theorem v_getSc (X : CX p s m args meth c k cc nL own) {idx i : Nat} (hi : i < 12) (hq : Cond.fieldLink own idx "java/lang/String" "coder" "B" ∈ wG) (hd : decode cc pc = .ok (.getfield idx, 3)) (kk : V p l e R s m args below meth c cells slots Q k nL mem (pc + 3) lv (aI 0 :: st)) : V p l e R s m args below meth c cells slots Q k nL mem pc lv (aR 25 i :: st) :=
  fun H locs ls hP hS hl => vk_getf (A := kA k) X.1 X.2.1 (X.2.2.2.2.2.1.2.2.2.2.2.2.2.2.1.1 i hi).2.1 hS X.2.2.2.1 (X.2.2.2.2.1 _ hq) (fun _ h => h) hd (kk H locs ls hP hS hl)
/-- how long a literal is; its byte at a place -/
def litN (i : Nat) : Nat := litL.getD i 0
def litC (i j : Nat) : Int32 := (litB.getD i []).getD j 0
theorem v_slenB (X : CX p s m args meth c k cc nL own) {i : Nat} (hi : i < 12) (hd : decode cc pc = .ok (.arraylength, 1)) (kk : V p l e R s m args below meth c cells slots Q k nL mem (pc + 1) lv (aI (Int32.ofNat (litN i)) :: st)) : V p l e R s m args below meth c cells slots Q k nL mem pc lv (aR 26 i :: st) :=
  fun H locs ls hP hS hl => va_tlen (A := kA k) X.1 X.2.1 (X.2.2.2.2.2.1.2.2.2.2.2.2.2.2.1.1 i hi).2.2.2 hS rfl hd (kk H locs ls hP hS hl)
theorem v_bald (X : CX p s m args meth c k cc nL own) {i : Nat} {x : Int32} {α : Type} {A : Option α} {o : α} (h : ck x (litN i) A = some o) (hi : i < 12) (hd : decode cc pc = .ok (.baload, 1)) (kk : A = some o → V p l e R s m args below meth c cells slots Q k nL mem (pc + 1) lv (aI (litC i x.toNatClampNeg) :: st)) : V p l e R s m args below meth c cells slots Q k nL mem pc lv (aI x :: aR 26 i :: st) := by
  intro H locs ls hP hS hl
  obtain ⟨h1, h2, h3⟩ := ck_some h
  exact va_tb (A := kA k) X.1 X.2.1 (X.2.2.2.2.2.1.2.2.2.2.2.2.2.2.1.1 i hi).2.2.2 hS h1 rfl hd (kk h3 H locs ls hP hS hl)
end CELLS
end
section
/-! THE ROWS of calls, copies and ends. -/
abbrev rmO (fr lo fr' lo' n : Nat) : Prop := fr + 1 ≤ fr' ∧ 8 + (n + 11) + lo ≤ lo'
section CALLS
variable {p : Program} {l : Launch} {e : Env} {R : Room} {s : State} {m : MethodId} {args : Array Value} {below : List Frame} {meth : Method} {c : Code} {cells slots : Nat} {Q : State → Prop} {k : KK} {nL : Nat} {mem : Mem} {pc : Nat} {lv lv' : List (Nat × AV)} {st : List AV} {cc : ByteArray} {own : String}
/-- behind a call -/
theorem v_goes {H : Heap} {locs : List Loc} {ls : Array Slot} {st0 rest : List Value} {r : Option AV} {mem1 : Mem} {a : Array Value} (hr : va_Run p l e R s m args below meth c H locs cells slots 0 0 (F0 m pc ls st0) rest (RQc k r mem1 a) (kA k)) (hS : va_S (kA k) s.heap H locs)
    (kk : ∀ (H1 : Heap) (locs1 : List Loc), va_P (kD k) wcl (wl (kC k) (ka k) mem1) H1 → va_S (kA k) s.heap H1 locs1 → W p l e R s m args below meth c H1 locs1 cells slots Q (F0 m (pc + 3) ls ((r.map (cv k)).toList ++ rest))) : W p l e R s m args below meth c H locs cells slots Q (F0 m pc ls st0) := by
  intro T hT X
  obtain ⟨v, st₀, t, T', L, h0, X', hL, e1, e2, ⟨hv, hP1, hz, hk⟩, st⟩ := hr T hT X
  have hv' : v = r.map (cv k) := Outcome.returned.inj hv
  subst hv'
  rw [h0] at hz hk
  obtain ⟨t2, a1, b1⟩ := kk t.heap (locs ++ L) hP1 ⟨Nat.le_trans hS.1 hz, fun q h1 h2 => by rw [hk q (Nat.lt_of_lt_of_le h1 hS.1) h2]; exact hS.2.1 q h1 h2, fun q hq => by
      rcases List.mem_append.mp hq with h | h
      · exact hS.2.2 q h
      · exact hL q h⟩ T' e1 X'
  exact ⟨t2, st t2 a1, b1⟩
theorem blindK (as : List AV) : FrameBlind (RPc k as mem) := fun a U g mk q => by
  obtain ⟨q1, q2, q3⟩ := q
  exact ⟨q1, KF.same (u := U) (U := U.calling g mk a) rfl rfl q2, q3⟩
theorem preS_of (X : CX p s m args meth c k cc nL own) {H : Heap} {locs : List Loc} (hP : va_P (kD k) wcl (wl (kC k) (ka k) mem) H) (hS : va_S (kA k) s.heap H locs) (as : List AV) : PreS s H (RPc k as mem) (as.map (cv k)) :=
  ⟨blindK as, fun U hU hW => ⟨rfl, X.2.2.2.2.2.1.go hW hU hS, by rw [hU]; exact hP⟩⟩
theorem cat_of (k : KK) (st : List AV) (h : slA st ≤ 8) : ((st.map (cv k)).map fun v => v.category).sum ≤ 8 := by
  rw [List.map_map]
  have : (fun v => v.category) ∘ cv k = acat := funext fun v => cv_cat k v
  rw [this]
  exact h
/-- the words of a call of an own class's method on an object -/
def okV (own : String) (idx : Nat) (y : MethodName) (b : ByteArray) (n : Nat) (ret : Option FieldType) (na : Nat) : Prop :=
  (∀ w ∈ wsV own idx y.cls y (wM y b n ret), w ∈ wG) ∧ y.cls ≠ "java/lang/invoke/MethodHandle" ∧ y.cls ≠ "java/lang/invoke/VarHandle" ∧ (parseMethodDescriptor y.desc).map (fun d => d.parameters.length) = some na
def okS (own : String) (idx : Nat) (y : MethodName) (b : ByteArray) (n : Nat) (ret : Option FieldType) (na : Nat) : Prop :=
  (∀ w ∈ va_wsS own idx y (wM y b n ret), w ∈ wG) ∧ y.cls ≠ "java/lang/invoke/MethodHandle" ∧ y.cls ≠ "java/lang/invoke/VarHandle" ∧ (parseMethodDescriptor y.desc).map (fun d => d.parameters.length) = some na
def okN (own : String) (idx : Nat) (y : MethodName) (b : ByteArray) (n : Nat) (ret : Option FieldType) (na : Nat) : Prop :=
  (∀ w ∈ [Cond.static y, .initialized y.cls] ++ wM y b n ret, w ∈ wG) ∧ Cond.methodLinkNest own idx y "WallShifts" ∈ wNests ∧ y.cls ≠ "java/lang/invoke/MethodHandle" ∧ y.cls ≠ "java/lang/invoke/VarHandle" ∧ (parseMethodDescriptor y.desc).map (fun d => d.parameters.length) = some na
theorem okV_of {own : String} {idx : Nat} {y : MethodName} {b : ByteArray} {n : Nat} {ret : Option FieldType} {na : Nat} (h1 : Cond.methodLink own idx y ∈ wG) (h2 : Cond.instanceMethod y ∈ wG) (h3 : Cond.selects y.cls y y ∈ wG) (h4 : Cond.initialized y.cls ∈ wG) (h5 : Cond.code y b n ret ∈ wG)
    (h6 : y.cls ≠ "java/lang/invoke/MethodHandle" ∧ y.cls ≠ "java/lang/invoke/VarHandle" ∧ (parseMethodDescriptor y.desc).map (fun d => d.parameters.length) = some na) : okV own idx y b n ret na := by
  refine ⟨fun w hw => ?_, h6⟩
  unfold wsV at hw
  simp only [List.mem_append, List.mem_cons, List.not_mem_nil, or_false] at hw
  rcases hw with (rfl | rfl | rfl | rfl) | rfl | hw
  · exact h1
  · exact h2
  · exact h3
  · exact h4
  · exact h5
  · exact hw
theorem okS_of {own : String} {idx : Nat} {y : MethodName} {b : ByteArray} {n : Nat} {ret : Option FieldType} {na : Nat} (h1 : Cond.methodLink own idx y ∈ wG) (h2 : Cond.static y ∈ wG) (h4 : Cond.initialized y.cls ∈ wG) (h5 : Cond.code y b n ret ∈ wG)
    (h6 : y.cls ≠ "java/lang/invoke/MethodHandle" ∧ y.cls ≠ "java/lang/invoke/VarHandle" ∧ (parseMethodDescriptor y.desc).map (fun d => d.parameters.length) = some na) : okS own idx y b n ret na := by
  refine ⟨fun w hw => ?_, h6⟩
  unfold va_wsS at hw
  simp only [List.mem_append, List.mem_cons, List.not_mem_nil, or_false] at hw
  rcases hw with (rfl | rfl | rfl) | rfl | hw
  · exact h1
  · exact h2
  · exact h4
  · exact h5
  · exact hw
theorem okN_of {own : String} {idx : Nat} {y : MethodName} {b : ByteArray} {n : Nat} {ret : Option FieldType} {na : Nat} (h1 : Cond.methodLinkNest own idx y "WallShifts" ∈ wNests) (h2 : Cond.static y ∈ wG) (h4 : Cond.initialized y.cls ∈ wG) (h5 : Cond.code y b n ret ∈ wG)
    (h6 : y.cls ≠ "java/lang/invoke/MethodHandle" ∧ y.cls ≠ "java/lang/invoke/VarHandle" ∧ (parseMethodDescriptor y.desc).map (fun d => d.parameters.length) = some na) : okN own idx y b n ret na := by
  refine ⟨fun w hw => ?_, h1, h6⟩
  simp only [List.mem_append, List.mem_cons, List.not_mem_nil, or_false] at hw
  rcases hw with (rfl | rfl) | rfl | hw
  · exact h2
  · exact h4
  · exact h5
  · exact hw
/-- a call on an object of a class of ours -/
theorem v_callV (X : CX p s m args meth c k cc nL own) {idx na n fr lo : Nat} {y : MethodName} {b : ByteArray} {ret : Option FieldType} {t i ci : Nat} {T : u_T} {N : Nat} {fs : List Value} (as : List AV) (st : List AV) {r : Option AV} {mem1 : Mem} (ok : okV own idx y b n ret na) (hM : RT y b n ret (rmM fr lo) (aR t i :: as) mem r mem1)
    (hn : as.length = na) (hst : slA st ≤ 8) (hR : rmO fr lo R.frames R.locals n) (hf : cells ≤ R.cells ∧ slots ≤ R.slots) (ht : t < 23) (hi : i < nT t) (hc : ce (kC k) (ka k) mem t i = .inr (ci, fs)) (hcl : wcl[ci]? = some (y.cls, T, N)) (hd : decode cc pc = .ok (.invokevirtual idx, 3))
    (kk : V p l e R s m args below meth c cells slots Q k nL mem1 (pc + 3) lv (r.toList ++ st)) : V p l e R s m args below meth c cells slots Q k nL mem pc lv (as.reverse ++ aR t i :: st) := by
  intro H locs ls hP hS hl
  have hw := wl_at (cT := kC k) (ad := ka k) (m := mem) ht hi
  rw [hc] at hw
  have pre := preS_of X hP hS (aR t i :: as)
  refine v_goes (r := r) (va_runV (As := as.map (cv k)) (rest := st.map (cv k)) (b := ka k (oT t + i)) ⟨X.1, X.2.1, X.2.2.1, X.2.2.2.1, X.2.2.2.2.1⟩ (hM l k) (cwV na X.2.2.2.2.1 (wG_all ok.1) rfl rfl rfl ⟨rfl, ok.2⟩ ⟨hR.1, hR.2⟩) ⟨pre.1, va_recv X.2.2.2.2.2.1.1 hP hcl hw, pre.2⟩ rfl (by rw [List.length_map, hn]) hl.1 ?_ (lv_room (ls := ls) (cat_of k st hst)) hd hf) hS (fun H1 locs1 hP1 hS1 => ?_)
  · show List.map (cv k) (as.reverse ++ aR t i :: st) = _
    rw [List.map_append, List.map_reverse]
    rfl
  · have := kk H1 locs1 ls hP1 hS1 hl
    rw [List.map_append] at this
    cases r <;> exact this
/-- a call on a literal -/
theorem v_callT (X : CX p s m args meth c k cc nL own) {idx na n fr lo : Nat} {y : MethodName} {b : ByteArray} {ret : Option FieldType} {i : Nat} (as : List AV) (st : List AV) {r : Option AV} {mem1 : Mem} (ok : okV own idx y b n ret na) (hM : RT y b n ret (rmM fr lo) (aR 25 i :: as) mem r mem1)
    (hn : as.length = na) (hst : slA st ≤ 8) (hR : rmO fr lo R.frames R.locals n) (hf : cells ≤ R.cells ∧ slots ≤ R.slots) (hi : i < 12) (hy : y.cls = "java/lang/String") (hd : decode cc pc = .ok (.invokevirtual idx, 3))
    (kk : V p l e R s m args below meth c cells slots Q k nL mem1 (pc + 3) lv (r.toList ++ st)) : V p l e R s m args below meth c cells slots Q k nL mem pc lv (as.reverse ++ aR 25 i :: st) := by
  intro H locs ls hP hS hl
  have pre := preS_of X hP hS (aR 25 i :: as)
  have hv : ∃ cell : Cell, H[ka k (oT 25 + i)]? = some cell ∧ cell.vm.isStatics = false ∧ s.vm.findClass y.cls = some cell.cls := by
    rw [hy]
    exact vk_recv (A := kA k) (adK := fun i => ka k (oT 25 + i)) (i := i) X.2.2.2.2.2.1.2.2.2.2.2.2.2.2.1 hi hS
  refine v_goes (r := r) (va_runV (As := as.map (cv k)) (rest := st.map (cv k)) (b := ka k (oT 25 + i)) ⟨X.1, X.2.1, X.2.2.1, X.2.2.2.1, X.2.2.2.2.1⟩ (hM l k) (cwV na X.2.2.2.2.1 (wG_all ok.1) rfl rfl rfl ⟨rfl, ok.2⟩ ⟨hR.1, hR.2⟩) ⟨pre.1, hv, pre.2⟩ rfl (by rw [List.length_map, hn]) hl.1 ?_ (lv_room (ls := ls) (cat_of k st hst)) hd hf) hS (fun H1 locs1 hP1 hS1 => ?_)
  · show List.map (cv k) (as.reverse ++ aR 25 i :: st) = _
    rw [List.map_append, List.map_reverse]
    rfl
  · have := kk H1 locs1 ls hP1 hS1 hl
    rw [List.map_append] at this
    cases r <;> exact this
theorem v_callS (X : CX p s m args meth c k cc nL own) {idx na n fr lo : Nat} {y : MethodName} {b : ByteArray} {ret : Option FieldType} (as : List AV) (st : List AV) {r : Option AV} {mem1 : Mem} (ok : okS own idx y b n ret na) (hM : RT y b n ret (rmM fr lo) as mem r mem1)
    (hn : as.length = na) (hst : slA st ≤ 8) (hR : rmO fr lo R.frames R.locals n) (hf : cells ≤ R.cells ∧ slots ≤ R.slots) (hd : decode cc pc = .ok (.invokestatic idx, 3))
    (kk : V p l e R s m args below meth c cells slots Q k nL mem1 (pc + 3) lv (r.toList ++ st)) : V p l e R s m args below meth c cells slots Q k nL mem pc lv (as.reverse ++ st) := by
  intro H locs ls hP hS hl
  have pre := preS_of X hP hS as
  refine v_goes (r := r) (va_runS (As := as.map (cv k)) (rest := st.map (cv k)) ⟨X.1, X.2.1, X.2.2.1, X.2.2.2.1, X.2.2.2.2.1⟩ (hM l k) (va_cwS na X.2.2.2.2.1 (wG_all ok.1) rfl rfl rfl ok.2 ⟨hR.1, hR.2⟩) pre rfl (by rw [List.length_map, hn]) hl.1 ?_ (lv_room (ls := ls) (cat_of k st hst)) hd hf) hS (fun H1 locs1 hP1 hS1 => ?_)
  · show List.map (cv k) (as.reverse ++ st) = _
    rw [List.map_append, List.map_reverse]
  · have := kk H1 locs1 ls hP1 hS1 hl
    rw [List.map_append] at this
    cases r <;> exact this
theorem v_callN (X : CX p s m args meth c k cc nL own) {idx na n fr lo : Nat} {y : MethodName} {b : ByteArray} {ret : Option FieldType} (as : List AV) (st : List AV) {r : Option AV} {mem1 : Mem} (ok : okN own idx y b n ret na) (hM : RT y b n ret (rmM fr lo) as mem r mem1)
    (hn : as.length = na) (hst : slA st ≤ 8) (hR : rmO fr lo R.frames R.locals n) (hf : cells ≤ R.cells ∧ slots ≤ R.slots) (hd : decode cc pc = .ok (.invokestatic idx, 3))
    (kk : V p l e R s m args below meth c cells slots Q k nL mem1 (pc + 3) lv (r.toList ++ st)) : V p l e R s m args below meth c cells slots Q k nL mem pc lv (as.reverse ++ st) := by
  intro H locs ls hP hS hl
  have pre := preS_of X hP hS as
  have hg : ∀ w ∈ wM y b n ret, w ∈ wG := fun w hw => ok.1 w (List.mem_append_right _ hw)
  refine v_goes (r := r) (va_runSN (host := "WallShifts") (As := as.map (cv k)) (rest := st.map (cv k)) ⟨X.1, X.2.1, X.2.2.1, X.2.2.2.1, X.2.2.2.2.1⟩ (hM l k) ⟨va_cnB na X.2.2.2.2.1 (wG_all hg) rfl rfl rfl (X.2.2.2.2.2.1.2.2.2.1 _ ok.2.1) (X.2.2.2.2.1 _ (ok.1 _ (by simp))) ok.2.2 ⟨hR.1, hR.2⟩, X.2.2.2.2.1 _ (ok.1 _ (by simp)), trivial⟩ pre rfl (by rw [List.length_map, hn]) hl.1 ?_ (lv_room (ls := ls) (cat_of k st hst)) hd hf) hS (fun H1 locs1 hP1 hS1 => ?_)
  · show List.map (cv k) (as.reverse ++ st) = _
    rw [List.map_append, List.map_reverse]
  · have := kk H1 locs1 ls hP1 hS1 hl
    rw [List.map_append] at this
    cases r <;> exact this
/-- System.arraycopy between rows of ints, of longs -/
def cp (x y n : Int32) (a b : Nat) : Prop := x < 0 ∨ y < 0 ∨ n < 0 ∨ a < x.toNatClampNeg + n.toNatClampNeg ∨ b < y.toNatClampNeg + n.toNatClampNeg
def cpy {α : Type} (x y n : Int32) (a b : Nat) (A : Option α) : Option α := if x < 0 ∨ y < 0 ∨ n < 0 ∨ a < x.toNatClampNeg + n.toNatClampNeg ∨ b < y.toNatClampNeg + n.toNatClampNeg then none else A
theorem cpy_some {α : Type} {x y n : Int32} {a b : Nat} {A : Option α} {o : α} (h : cpy x y n a b A = some o) : ¬ x < 0 ∧ ¬ y < 0 ∧ ¬ n < 0 ∧ x.toNatClampNeg + n.toNatClampNeg ≤ a ∧ y.toNatClampNeg + n.toNatClampNeg ≤ b ∧ A = some o := by
  unfold cpy at h
  by_cases c : x < 0 ∨ y < 0 ∨ n < 0 ∨ a < x.toNatClampNeg + n.toNatClampNeg ∨ b < y.toNatClampNeg + n.toNatClampNeg
  · rw [if_pos c] at h
    cases h
  · rw [if_neg c] at h
    simp only [not_or, Nat.not_lt] at c
    exact ⟨c.1, c.2.1, c.2.2.1, c.2.2.2.1, c.2.2.2.2, h⟩
def okC (own : String) (idx : Nat) : Prop := Cond.methodLink own idx arraycopyName ∈ wG ∧ Cond.native arraycopyName ∈ wG ∧ Cond.static arraycopyName ∈ wG ∧ Cond.initialized "java/lang/System" ∈ wG
theorem v_copyI (X : CX p s m args meth c k cc nL own) {idx t0 i0 t1 i1 n0 n1 : Nat} {x y z : Int32} {α : Type} {A : Option α} {o : α} (h : cpy x y z n0 n1 A = some o) (ok : okC own idx) (h0 : t0 < 23) (hi0 : i0 < nT t0) (h1 : t1 < 23) (hi1 : i1 < nT t1) (hc0 : ce (kC k) (ka k) mem t0 i0 = .inl (kC k 0, n0, .inl (gI mem t0 i0))) (hc1 : ∀ mem, ce (kC k) (ka k) mem t1 i1 = .inl (kC k 0, n1, .inl (gI mem t1 i1))) (st : List AV) (hst : slA st + (nativeFrameWords "java/lang/System" "arraycopy" 5 + 11) ≤ R.locals) (hfr : 1 ≤ R.frames) (hd : decode cc pc = .ok (.invokestatic idx, 3))
    (kk : A = some o → V p l e R s m args below meth c cells slots Q k nL (sIr mem t1 i1 (va_cpy (gI mem t0 i0) (gI mem t1 i1) x.toNatClampNeg y.toNatClampNeg z.toNatClampNeg)) (pc + 3) lv st) : V p l e R s m args below meth c cells slots Q k nL mem pc lv (aI z :: aI y :: aR t1 i1 :: aI x :: aR t0 i0 :: st) := by
  intro H locs ls hP hS hl
  obtain ⟨g1, g2, g3, g4, g5, g6⟩ := cpy_some h
  have hw0 := wl_at (cT := kC k) (ad := ka k) (m := mem) h0 hi0
  rw [hc0] at hw0
  have hw1 := wl_at (cT := kC k) (ad := ka k) (m := mem) h1 hi1
  rw [hc1] at hw1
  have hcat : ((st.map (cv k)).map fun v => v.category).sum = slA st := by
    rw [List.map_map]
    have : (fun v => v.category) ∘ cv k = acat := funext fun v => cv_cat k v
    rw [this]
    rfl
  refine va_copyi (D := kD k) X.1 X.2.1 (X.2.2.1.trans hl.1.symm) X.2.2.2.1 (X.2.2.2.2.1 _ ok.1) (X.2.2.2.2.1 _ ok.2.1) (X.2.2.2.2.1 _ ok.2.2.1) (X.2.2.2.2.1 _ ok.2.2.2) X.2.2.2.2.2.1.1 hP (X.2.2.2.2.2.1.2.1 mem) hS (oT t0 + i0) (oT t1 + i1) 0 0 hw0 hw1 rfl rfl rfl g1 g2 g3 g4 g5 (fun _ _ => rfl) hfr (by rw [hcat]; exact hst) hd (fun H1 locs1 hP1 _ hS1 => ?_)
  have hc' := hc1 (sIr mem t1 i1 (va_cpy (gI mem t0 i0) (gI mem t1 i1) x.toNatClampNeg y.toNatClampNeg z.toNatClampNeg))
  rw [rowIr_eq] at hc'
  rw [← hc', wl_set h1 hi1 rowIr_ne] at hP1
  exact kk g6 H1 locs1 ls hP1 hS1 hl
theorem v_copyL (X : CX p s m args meth c k cc nL own) {idx t0 i0 t1 i1 n0 n1 : Nat} {x y z : Int32} {α : Type} {A : Option α} {o : α} (h : cpy x y z n0 n1 A = some o) (ok : okC own idx) (h0 : t0 < 23) (hi0 : i0 < nT t0) (h1 : t1 < 23) (hi1 : i1 < nT t1) (hc0 : ce (kC k) (ka k) mem t0 i0 = .inl (kC k 1, n0, .inr (.inl (gL mem t0 i0)))) (hc1 : ∀ mem, ce (kC k) (ka k) mem t1 i1 = .inl (kC k 1, n1, .inr (.inl (gL mem t1 i1)))) (st : List AV) (hst : slA st + (nativeFrameWords "java/lang/System" "arraycopy" 5 + 11) ≤ R.locals) (hfr : 1 ≤ R.frames) (hd : decode cc pc = .ok (.invokestatic idx, 3))
    (kk : A = some o → V p l e R s m args below meth c cells slots Q k nL (sLr mem t1 i1 (va_cpy (gL mem t0 i0) (gL mem t1 i1) x.toNatClampNeg y.toNatClampNeg z.toNatClampNeg)) (pc + 3) lv st) : V p l e R s m args below meth c cells slots Q k nL mem pc lv (aI z :: aI y :: aR t1 i1 :: aI x :: aR t0 i0 :: st) := by
  intro H locs ls hP hS hl
  obtain ⟨g1, g2, g3, g4, g5, g6⟩ := cpy_some h
  have hw0 := wl_at (cT := kC k) (ad := ka k) (m := mem) h0 hi0
  rw [hc0] at hw0
  have hw1 := wl_at (cT := kC k) (ad := ka k) (m := mem) h1 hi1
  rw [hc1] at hw1
  have hcat : ((st.map (cv k)).map fun v => v.category).sum = slA st := by
    rw [List.map_map]
    have : (fun v => v.category) ∘ cv k = acat := funext fun v => cv_cat k v
    rw [this]
    rfl
  refine va_copyl (D := kD k) X.1 X.2.1 (X.2.2.1.trans hl.1.symm) X.2.2.2.1 (X.2.2.2.2.1 _ ok.1) (X.2.2.2.2.1 _ ok.2.1) (X.2.2.2.2.1 _ ok.2.2.1) (X.2.2.2.2.1 _ ok.2.2.2) X.2.2.2.2.2.1.1 hP (X.2.2.2.2.2.1.2.1 mem) hS (oT t0 + i0) (oT t1 + i1) 1 1 hw0 hw1 rfl rfl rfl g1 g2 g3 g4 g5 (fun _ _ => rfl) hfr (by rw [hcat]; exact hst) hd (fun H1 locs1 hP1 _ hS1 => ?_)
  have hc' := hc1 (sLr mem t1 i1 (va_cpy (gL mem t0 i0) (gL mem t1 i1) x.toNatClampNeg y.toNatClampNeg z.toNatClampNeg))
  rw [rowLr_eq] at hc'
  rw [← hc', wl_set h1 hi1 rowLr_ne] at hP1
  exact kk g6 H1 locs1 ls hP1 hS1 hl
/-- ends -/
theorem v_iret (X : CX p s m args meth c k cc nL own) {x r : Int32} {mem' : Mem} (h : some (x, mem) = some (r, mem')) (hr : meth.sig.returnType = some .int) (hd : decode cc pc = .ok (.ireturn, 1)) : V p l e R s m args below meth c 0 0 (MQ below (RQc k (some (aI r)) mem') args s 0 0 (kA k)) k nL mem pc lv [aI x] := by
  obtain ⟨rfl, rfl⟩ := Prod.mk.inj (Option.some.inj h)
  intro H locs ls hP hS hl
  exact W.iret (v := x) X.1 X.2.1 hr (fun t ht hW => ⟨rfl, by rw [ht]; exact hP, hS.F ht⟩) hS.2.2 hd X.2.2.2.2.2.2
theorem v_zret (X : CX p s m args meth c k cc nL own) {ty : FieldType} {x r : Int32} {mem' : Mem} (h : some (x, mem) = some (r, mem')) (hr : meth.sig.returnType = some ty) (hn : narrow ty (.int x) = .int x) (hd : decode cc pc = .ok (.ireturn, 1)) : V p l e R s m args below meth c 0 0 (MQ below (RQc k (some (aI r)) mem') args s 0 0 (kA k)) k nL mem pc lv [aI x] := by
  obtain ⟨rfl, rfl⟩ := Prod.mk.inj (Option.some.inj h)
  intro H locs ls hP hS hl
  exact W.zret (v := x) X.1 X.2.1 hr hn (fun t ht hW => ⟨rfl, by rw [ht]; exact hP, hS.F ht⟩) hS.2.2 hd X.2.2.2.2.2.2
theorem v_lret (X : CX p s m args meth c k cc nL own) {x r : Int64} {mem' : Mem} (h : some (x, mem) = some (r, mem')) (hr : meth.sig.returnType = some .long) (hd : decode cc pc = .ok (.lreturn, 1)) : V p l e R s m args below meth c 0 0 (MQ below (RQc k (some (aL r)) mem') args s 0 0 (kA k)) k nL mem pc lv [aL x] := by
  obtain ⟨rfl, rfl⟩ := Prod.mk.inj (Option.some.inj h)
  intro H locs ls hP hS hl
  exact W.lret (v := x) X.1 X.2.1 hr (fun t ht hW => ⟨rfl, by rw [ht]; exact hP, hS.F ht⟩) hS.2.2 hd X.2.2.2.2.2.2
theorem v_vret (X : CX p s m args meth c k cc nL own) {r : Unit} {mem' : Mem} (h : some ((), mem) = some (r, mem')) (hr : meth.sig.returnType = none) (hd : decode cc pc = .ok (.return_, 1)) : V p l e R s m args below meth c 0 0 (MQ below (RQc k none mem') args s 0 0 (kA k)) k nL mem pc lv [] := by
  obtain ⟨-, rfl⟩ := Prod.mk.inj (Option.some.inj h)
  intro H locs ls hP hS hl
  exact W.vret X.1 X.2.1 hr (fun t ht hW => ⟨rfl, by rw [ht]; exact hP, hS.F ht⟩) hS.2.2 hd X.2.2.2.2.2.2
theorem v_aret (X : CX p s m args meth c k cc nL own) {C : String} {t x r : Nat} {mem' : Mem} (h : some (x, mem) = some (r, mem')) (hr : meth.sig.returnType = some (.object C)) (hd : decode cc pc = .ok (.areturn, 1)) : V p l e R s m args below meth c 0 0 (MQ below (RQc k (some (aR t r)) mem') args s 0 0 (kA k)) k nL mem pc lv [aR t x] := by
  obtain ⟨rfl, rfl⟩ := Prod.mk.inj (Option.some.inj h)
  intro H locs ls hP hS hl
  exact W.aret (v := .ref (ka k (oT t + x))) (rt := .object C) X.1 X.2.1 hr (Or.inl ⟨C, rfl⟩) (Or.inr ⟨_, rfl⟩) (fun t ht hW => ⟨rfl, by rw [ht]; exact hP, hS.F ht⟩) hS.2.2 hd X.2.2.2.2.2.2
end CALLS
end
section
/-! MORE ROWS: fewer locals; places that are written numbers; values of small types. -/
def nz {α : Type} (ty : FieldType) (x : Int32) (A : Option α) : Option α := if vp_nar ty x = x then A else none
theorem nz_some {α : Type} {ty : FieldType} {x : Int32} {A : Option α} {o : α} (h : nz ty x A = some o) : vp_nar ty x = x ∧ A = some o := by
  unfold nz at h
  by_cases c : vp_nar ty x = x
  · rw [if_pos c] at h
    exact ⟨c, h⟩
  · rw [if_neg c] at h
    cases h
theorem nz_bool {x : Int32} (h : vp_nar .boolean x = x) : narrow .boolean (.int x) = .int x := by
  have e : narrow .boolean (.int x) = .int (vp_nar .boolean x) := rfl
  rw [e, h]
theorem nz_char {x : Int32} (h : vp_nar .char x = x) : narrow .char (.int x) = .int x := by
  have e : narrow .char (.int x) = .int (vp_nar .char x) := rfl
  rw [e, h]
theorem nz_byte {x : Int32} (h : vp_nar .byte x = x) : narrow .byte (.int x) = .int x := by
  have e : narrow .byte (.int x) = .int (vp_nar .byte x) := rfl
  rw [e, h]
section MORE
variable {p : Program} {l : Launch} {e : Env} {R : Room} {s : State} {m : MethodId} {args : Array Value} {below : List Frame} {meth : Method} {c : Code} {cells slots : Nat} {Q : State → Prop} {k : KK} {nL : Nat} {mem : Mem} {pc : Nat} {lv lv' : List (Nat × AV)} {st : List AV} {cc : ByteArray} {own : String}
theorem v_sub (js : List Nat) (hl : js.filterMap (fun j => lv[j]?) = lv') (kk : V p l e R s m args below meth c cells slots Q k nL mem pc lv' st) : V p l e R s m args below meth c cells slots Q k nL mem pc lv st := by
  intro H locs ls hP hS h
  refine kk H locs ls hP hS (lv_sub h js ?_)
  rw [← hl]
  unfold lv_pick cvl
  rw [List.map_filterMap]
  congr 1
  funext j
  rw [List.getElem?_map]
theorem v_ialdK (X : CX p s m args meth c k cc nL own) {t i n : Nat} {x : Int32} (j : Nat) (hin : ck x n (some ()) = some ()) (hj : x.toNatClampNeg = j) (ht : t < 23) (hi : i < nT t) (hc : ce (kC k) (ka k) mem t i = .inl (kC k 0, n, .inl (gI mem t i))) (hd : decode cc pc = .ok (.iaload, 1)) (kk : V p l e R s m args below meth c cells slots Q k nL mem (pc + 1) lv (aI (gI mem t i j) :: st)) : V p l e R s m args below meth c cells slots Q k nL mem pc lv (aI x :: aR t i :: st) := by
  subst hj
  exact v_iald X hin ht hi hc hd (fun _ => kk)
theorem v_iastK (X : CX p s m args meth c k cc nL own) {t i n : Nat} {x y : Int32} (j : Nat) (hin : ck x n (some ()) = some ()) (hj : x.toNatClampNeg = j) (ht : t < 23) (hi : i < nT t) (hc : ∀ mem, ce (kC k) (ka k) mem t i = .inl (kC k 0, n, .inl (gI mem t i))) (hd : decode cc pc = .ok (.iastore, 1)) (kk : V p l e R s m args below meth c cells slots Q k nL (sI mem t i j y) (pc + 1) lv st) : V p l e R s m args below meth c cells slots Q k nL mem pc lv (aI y :: aI x :: aR t i :: st) := by
  subst hj
  exact v_iast X hin ht hi hc hd (fun _ => kk)
end MORE
end
