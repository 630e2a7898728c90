section
-- ===== PART A: goes FIRST, ahead of the names: the tables' words, and 'selects' of the private methods out of them =====
/-- a private method of a class that the tables say can be made, by its rows of tables_1 -/
def lw_okq (q : MethodName × Nat) : Prop := (q.1.cls ≠ "java/lang/invoke/MethodHandle" ∧ q.1.cls ≠ "java/lang/invoke/VarHandle") ∧ Cond.instantiable q.1.cls q.2 ∈ tables_1 ∧ Cond.privateMethod q.1 ∈ tables_1 ∧ Cond.instanceMethod q.1 ∈ tables_1
theorem lw_p0 : lw_okq (⟨"WallShifts", "finding", "(I)I"⟩, 8) := ⟨⟨by decide +kernel, by decide +kernel⟩, List.mem_of_getElem? (i := 9) (by decide +kernel), List.mem_of_getElem? (i := 131) (by decide +kernel), List.mem_of_getElem? (i := 132) (by decide +kernel)⟩
theorem lw_p1 : lw_okq (⟨"WallShifts", "isWall", "(I)Z"⟩, 8) := ⟨⟨by decide +kernel, by decide +kernel⟩, List.mem_of_getElem? (i := 9) (by decide +kernel), List.mem_of_getElem? (i := 139) (by decide +kernel), List.mem_of_getElem? (i := 140) (by decide +kernel)⟩
theorem lw_p2 : lw_okq (⟨"WallShifts", "foresee", "(I)V"⟩, 8) := ⟨⟨by decide +kernel, by decide +kernel⟩, List.mem_of_getElem? (i := 9) (by decide +kernel), List.mem_of_getElem? (i := 255) (by decide +kernel), List.mem_of_getElem? (i := 256) (by decide +kernel)⟩
theorem lw_p3 : lw_okq (⟨"WallShifts", "firstSilence", "(II)I"⟩, 8) := ⟨⟨by decide +kernel, by decide +kernel⟩, List.mem_of_getElem? (i := 9) (by decide +kernel), List.mem_of_getElem? (i := 259) (by decide +kernel), List.mem_of_getElem? (i := 260) (by decide +kernel)⟩
theorem lw_p4 : lw_okq (⟨"WallShifts", "minutesAlone", "(III)I"⟩, 8) := ⟨⟨by decide +kernel, by decide +kernel⟩, List.mem_of_getElem? (i := 9) (by decide +kernel), List.mem_of_getElem? (i := 280) (by decide +kernel), List.mem_of_getElem? (i := 281) (by decide +kernel)⟩
theorem lw_p5 : lw_okq (⟨"WallShifts", "hearsAlways", "(II)Z"⟩, 8) := ⟨⟨by decide +kernel, by decide +kernel⟩, List.mem_of_getElem? (i := 9) (by decide +kernel), List.mem_of_getElem? (i := 288) (by decide +kernel), List.mem_of_getElem? (i := 289) (by decide +kernel)⟩
def lw_privs_1 : List (MethodName × Nat) := [(⟨"WallShifts", "finding", "(I)I"⟩, 8), (⟨"WallShifts", "isWall", "(I)Z"⟩, 8), (⟨"WallShifts", "foresee", "(I)V"⟩, 8), (⟨"WallShifts", "firstSilence", "(II)I"⟩, 8), (⟨"WallShifts", "minutesAlone", "(III)I"⟩, 8), (⟨"WallShifts", "hearsAlways", "(II)Z"⟩, 8)]
theorem lw_r1 : ∀ q ∈ lw_privs_1, lw_okq q := List.forall_mem_cons.mpr ⟨lw_p0, List.forall_mem_cons.mpr ⟨lw_p1, List.forall_mem_cons.mpr ⟨lw_p2, List.forall_mem_cons.mpr ⟨lw_p3, List.forall_mem_cons.mpr ⟨lw_p4, List.forall_mem_cons.mpr ⟨lw_p5, fun _ h => absurd h List.not_mem_nil⟩⟩⟩⟩⟩⟩
def lw_privs : List (MethodName × Nat) := lw_privs_1
def lw_tbl : List Cond := k2_sels lw_privs ++ tables_1
theorem lw_privs_ok : ∀ q ∈ lw_privs, lw_okq q := lw_r1
-- ===== end of PART A; then your names; then what follows =====

/-! The words of the tables that every method may lean on: those that hold from any caller on. -/
def wG : List Cond := lw_tbl.filter goodWord
theorem wG_mem {i : Nat} {w : Cond} (h : lw_tbl[i]? = some w) (hg : goodWord w = true) : w ∈ wG := List.mem_filter.mpr ⟨List.mem_of_getElem? h, hg⟩
theorem wG_in {w : Cond} (h : w ∈ wG) : w ∈ lw_tbl := (List.mem_filter.mp h).1
theorem wG_good {w : Cond} (h : w ∈ wG) : (w.onTables && w.keeps) = true ∨ ∃ ty, w = .arrayClass ty := good_of_word (List.mem_filter.mp h).2
theorem wG_all {ws : List Cond} (h : ∀ w ∈ ws, w ∈ wG) : GoodIn wG ws := fun w hw => ⟨h w hw, wG_good (h w hw)⟩
end
section
/-! THE WORLD: what the class's and the reference's objects hold, as one memory of numbers: kind of cell, which of that kind, which slot.
Kinds: 0 WallShifts, 1 Palace (3), 2 its rotas, 3 its walls, 4 a wall's numbers (30), 5 Tape, 6 its bytes, 7 the row of sheets, 8 Sheet (4), 9 its numbers, 10 answered, 11 ahead,
13 the row s of the law; 12, 14 to 22: none; read only: 23 static rows (3), 24 the script. -/
abbrev AV : Type := Int32 ⊕ (Int64 ⊕ ((Nat × Nat) ⊕ Unit))
abbrev aI (x : Int32) : AV := .inl x
abbrev aL (x : Int64) : AV := .inr (.inl x)
abbrev aR (t i : Nat) : AV := .inr (.inr (.inl (t, i)))
/-- a reference, or null, that nobody looks at -/
abbrev aQ : AV := .inr (.inr (.inr ()))
abbrev Mem : Type := (Nat → Nat → Nat → Int32) × (Nat → Nat → Nat → Int64)
def gI (m : Mem) (t i j : Nat) : Int32 := m.1 t i j
def gL (m : Mem) (t i j : Nat) : Int64 := m.2 t i j
def sI (m : Mem) (t i j : Nat) (v : Int32) : Mem := (fun t' i' j' => if t' = t ∧ i' = i ∧ j' = j then v else m.1 t' i' j', m.2)
def sL (m : Mem) (t i j : Nat) (v : Int64) : Mem := (m.1, fun t' i' j' => if t' = t ∧ i' = i ∧ j' = j then v else m.2 t' i' j')
/-- a row of ints of one cell put whole -/
def sIr (m : Mem) (t i : Nat) (f : Nat → Int32) : Mem := (fun t' i' j' => if t' = t ∧ i' = i then f j' else m.1 t' i' j', m.2)
def sLr (m : Mem) (t i : Nat) (f : Nat → Int64) : Mem := (m.1, fun t' i' j' => if t' = t ∧ i' = i then f j' else m.2 t' i' j')
/-- where a kind's cells begin, and how many there are -/
def oT (t : Nat) : Nat := [0, 1, 4, 7, 10, 40, 41, 42, 43, 47, 51, 52, 53, 53, 54, 54, 54, 54, 54, 54, 54, 54, 54, 54, 57].getD t 58
def nT (t : Nat) : Nat := [1, 3, 3, 3, 30, 1, 1, 1, 4, 4, 1, 1, 0, 1, 0, 0, 0, 0, 0, 0, 0, 0, 0, 3, 1].getD t 0
def kTs : List (Nat × Nat) := (List.range 23).flatMap (fun t => (List.range (nT t)).map (fun i => (t, i)))
def kT (k : Nat) : Nat := (kTs.getD k (0, 0)).1
def kI (k : Nat) : Nat := (kTs.getD k (0, 0)).2
theorem kT_at : ∀ t, t < 23 → ∀ i, i < nT t → oT t + i < 54 ∧ kT (oT t + i) = t ∧ kI (oT t + i) = i := by decide +kernel
theorem kT_of : ∀ k, k < 54 → oT (kT k) + kI k = k := by decide +kernel
def T_Palace : u_T := fun k => match k with
  | 0 => ("WallShifts$Palace", "minute", "I", false)
  | 1 => ("WallShifts$Palace", "rotas", "[I", true)
  | 2 => ("WallShifts$Palace", "count", "I", false)
  | 3 => ("WallShifts$Palace", "walls", "[[I", true)
  | _ => ("WallShifts$Palace", "unheardWords", "I", false)
def ty_Palace : Nat → FieldType := fun k => match k with
  | 0 => .int
  | 1 => .array .int
  | 2 => .int
  | 3 => .array (.array .int)
  | _ => .int
theorem nm_Palace : ∀ a, a < 5 → ∀ b, b < 5 → a ≠ b → (T_Palace a).2.1 ≠ (T_Palace b).2.1 := by decide +kernel
theorem ty_Palace_ok : ∀ k, k < 5 → parseFieldDescriptor (T_Palace k).2.2.1 = some (ty_Palace k) := by decide +kernel
def T_Sheet : u_T := fun k => match k with
  | 0 => ("WallShifts$Sheet", "bits", "I", false)
  | 1 => ("WallShifts$Sheet", "size", "I", false)
  | _ => ("WallShifts$Sheet", "numbers", "[J", true)
def ty_Sheet : Nat → FieldType := fun k => match k with
  | 0 => .int
  | 1 => .int
  | _ => .array .long
theorem nm_Sheet : ∀ a, a < 3 → ∀ b, b < 3 → a ≠ b → (T_Sheet a).2.1 ≠ (T_Sheet b).2.1 := by decide +kernel
theorem ty_Sheet_ok : ∀ k, k < 3 → parseFieldDescriptor (T_Sheet k).2.2.1 = some (ty_Sheet k) := by decide +kernel
def T_Tape : u_T := fun k => match k with
  | 0 => ("WallShifts$Tape", "bytes", "[I", true)
  | 1 => ("WallShifts$Tape", "size", "I", false)
  | 2 => ("WallShifts$Tape", "begin", "I", false)
  | 3 => ("WallShifts$Tape", "end", "I", false)
  | 4 => ("WallShifts$Tape", "sort", "I", false)
  | _ => ("WallShifts$Tape", "number", "I", false)
def ty_Tape : Nat → FieldType := fun k => match k with
  | 0 => .array .int
  | 1 => .int
  | 2 => .int
  | 3 => .int
  | 4 => .int
  | _ => .int
theorem nm_Tape : ∀ a, a < 6 → ∀ b, b < 6 → a ≠ b → (T_Tape a).2.1 ≠ (T_Tape b).2.1 := by decide +kernel
theorem ty_Tape_ok : ∀ k, k < 6 → parseFieldDescriptor (T_Tape k).2.2.1 = some (ty_Tape k) := by decide +kernel
def T_WallShifts : u_T := fun k => match k with
  | 0 => ("WallShifts", "state", "LWallShifts$Palace;", true)
  | 1 => ("WallShifts", "kept", "LWallShifts$Palace;", true)
  | 2 => ("WallShifts", "hasKept", "Z", false)
  | 3 => ("WallShifts", "trial", "LWallShifts$Palace;", true)
  | 4 => ("WallShifts", "tape", "LWallShifts$Tape;", true)
  | 5 => ("WallShifts", "sheets", "[LWallShifts$Sheet;", true)
  | 6 => ("WallShifts", "answered", "[I", true)
  | _ => ("WallShifts", "ahead", "[I", true)
def ty_WallShifts : Nat → FieldType := fun k => match k with
  | 0 => .object "WallShifts$Palace"
  | 1 => .object "WallShifts$Palace"
  | 2 => .boolean
  | 3 => .object "WallShifts$Palace"
  | 4 => .object "WallShifts$Tape"
  | 5 => .array (.object "WallShifts$Sheet")
  | 6 => .array .int
  | _ => .array .int
theorem nm_WallShifts : ∀ a, a < 8 → ∀ b, b < 8 → a ≠ b → (T_WallShifts a).2.1 ≠ (T_WallShifts b).2.1 := by decide +kernel
theorem ty_WallShifts_ok : ∀ k, k < 8 → parseFieldDescriptor (T_WallShifts k).2.2.1 = some (ty_WallShifts k) := by decide +kernel
abbrev wcl : List vw_C := [("WallShifts$Palace", T_Palace, 5), ("WallShifts$Sheet", T_Sheet, 3), ("WallShifts$Tape", T_Tape, 6), ("WallShifts", T_WallShifts, 8)]
theorem in_Palace : ∀ w ∈ u_ws "WallShifts$Palace" T_Palace 5, w ∈ wG := by decide +kernel
theorem in_Sheet : ∀ w ∈ u_ws "WallShifts$Sheet" T_Sheet 3, w ∈ wG := by decide +kernel
theorem in_Tape : ∀ w ∈ u_ws "WallShifts$Tape" T_Tape 6, w ∈ wG := by decide +kernel
theorem in_WallShifts : ∀ w ∈ u_ws "WallShifts" T_WallShifts 8, w ∈ wG := by decide +kernel
/-- what a cell of a kind holds -/
def ce (cT : Nat → ClassId) (ad : Nat → Nat) (m : Mem) (t i : Nat) : va_E := match t with
  | 0 => .inr (3, [.ref (ad (oT 1 + 0)), .ref (ad (oT 1 + 1)), .int (gI m 0 i 2), .ref (ad (oT 1 + 2)), .ref (ad (oT 5 + 0)), .ref (ad (oT 7 + 0)), .ref (ad (oT 10 + 0)), .ref (ad (oT 11 + 0))])
  | 1 => .inr (0, [.int (gI m 1 i 0), .ref (ad (oT 2 + i)), .int (gI m 1 i 2), .ref (ad (oT 3 + i)), .int (gI m 1 i 4)])
  | 2 => .inl (cT 0, 4, .inl (gI m 2 i))
  | 3 => .inl (cT 2, 10, .inr (.inr (.inr (.inr (fun j => some (ad (oT 4 + (10 * i + j))))))))
  | 4 => .inl (cT 0, 6, .inl (gI m 4 i))
  | 5 => .inr (2, [.ref (ad (oT 6 + 0)), .int (gI m 5 i 1), .int (gI m 5 i 2), .int (gI m 5 i 3), .int (gI m 5 i 4), .int (gI m 5 i 5)])
  | 6 => .inl (cT 0, 120, .inl (gI m 6 i))
  | 7 => .inl (cT 3, 4, .inr (.inr (.inr (.inr (fun j => some (ad (oT 8 + j)))))))
  | 8 => .inr (1, [.int (gI m 8 i 0), .int (gI m 8 i 1), .ref (ad (oT 9 + i))])
  | 9 => .inl (cT 1, 40, .inr (.inl (gL m 9 i)))
  | 10 => .inl (cT 0, 7, .inl (gI m 10 i))
  | 11 => .inl (cT 0, 270, .inl (gI m 11 i))
  | 13 => .inl (cT 0, 66, .inl (gI m 13 i))
  | _ => .inl (cT 0, 66, .inl (gI m t i))
theorem ce_congr {cT : Nat → ClassId} {ad : Nat → Nat} {m m' : Mem} {t i : Nat} (h1 : gI m' t i = gI m t i) (h2 : gL m' t i = gL m t i) (ht : t < 23) : ce cT ad m' t i = ce cT ad m t i := by
  have key : ∀ t, t < 23 → gI m' t i = gI m t i → gL m' t i = gL m t i → ce cT ad m' t i = ce cT ad m t i := by
    intro t ht h1 h2
    match t, ht, h1, h2 with
    | 0, _, h1, h2 => simp only [ce, h1]
    | 1, _, h1, h2 => simp only [ce, h1]
    | 2, _, h1, h2 => simp only [ce, h1]
    | 3, _, h1, h2 => simp only [ce]
    | 4, _, h1, h2 => simp only [ce, h1]
    | 5, _, h1, h2 => simp only [ce, h1]
    | 6, _, h1, h2 => simp only [ce, h1]
    | 7, _, h1, h2 => simp only [ce]
    | 8, _, h1, h2 => simp only [ce, h1]
    | 9, _, h1, h2 => simp only [ce, h2]
    | 10, _, h1, h2 => simp only [ce, h1]
    | 11, _, h1, h2 => simp only [ce, h1]
    | 12, _, h1, h2 => simp only [ce, h1]
    | 13, _, h1, h2 => simp only [ce, h1]
    | 14, _, h1, h2 => simp only [ce, h1]
    | 15, _, h1, h2 => simp only [ce, h1]
    | 16, _, h1, h2 => simp only [ce, h1]
    | 17, _, h1, h2 => simp only [ce, h1]
    | 18, _, h1, h2 => simp only [ce, h1]
    | 19, _, h1, h2 => simp only [ce, h1]
    | 20, _, h1, h2 => simp only [ce, h1]
    | 21, _, h1, h2 => simp only [ce, h1]
    | 22, _, h1, h2 => simp only [ce, h1]
    | n + 23, ht, _, _ => exact absurd ht (by omega)
  exact key t ht h1 h2
/-- the world as the kit has it: a list of cells -/
def wl (cT : Nat → ClassId) (ad : Nat → Nat) (m : Mem) : va_W := (List.range 54).map (fun k => (ad k, ce cT ad m (kT k) (kI k)))
theorem wl_at {cT : Nat → ClassId} {ad : Nat → Nat} {m : Mem} {t i : Nat} (ht : t < 23) (hi : i < nT t) : (wl cT ad m)[oT t + i]? = some (ad (oT t + i), ce cT ad m t i) := by
  obtain ⟨h1, h2, h3⟩ := kT_at t ht i hi
  unfold wl
  rw [List.getElem?_map, List.getElem?_range h1]
  simp only [Option.map_some, h2, h3]
theorem wl_set {cT : Nat → ClassId} {ad : Nat → Nat} {m m' : Mem} {t i : Nat} (ht : t < 23) (hi : i < nT t) (h : ∀ t' i', ¬ (t' = t ∧ i' = i) → gI m' t' i' = gI m t' i' ∧ gL m' t' i' = gL m t' i') : (wl cT ad m).set (oT t + i) (ad (oT t + i), ce cT ad m' t i) = wl cT ad m' := by
  obtain ⟨h1, h2, h3⟩ := kT_at t ht i hi
  apply List.ext_getElem?
  intro k
  by_cases hk : k = oT t + i
  · subst hk
    rw [List.getElem?_set_self (by simp [wl]; exact h1), wl_at ht hi]
  · rw [List.getElem?_set_ne (Ne.symm hk)]
    unfold wl
    rw [List.getElem?_map, List.getElem?_map]
    by_cases hk2 : k < 54
    · rw [List.getElem?_range hk2]
      have hne : ¬ (kT k = t ∧ kI k = i) := by
        rintro ⟨e1, e2⟩
        have := kT_of k hk2
        rw [e1, e2] at this
        exact hk this.symm
      obtain ⟨g1, g2⟩ := h _ _ hne
      have hkt : kT k < 23 := (by decide +kernel : ∀ k, k < 54 → kT k < 23) k hk2
      simp only [Option.map_some, ce_congr g1 g2 hkt]
    · rw [List.getElem?_eq_none (by simp; omega)]
      rfl
end
section
/-! THE FRAME: what a method finds (CX, KF), where it stands (V), what it does (RT). -/
/-- the constants of a run: class numbers, array classes, addresses, how big the heap was at first, the script, one value that nobody looks at -/
abbrev KK : Type := va_G × (Nat → ClassId) × (Nat → Nat) × Nat × Nat × (Nat → Int32) × Option Nat
abbrev kD (k : KK) : va_G := k.1
abbrev kC (k : KK) : Nat → ClassId := k.2.1
abbrev ka (k : KK) : Nat → Nat := k.2.2.1
abbrev kh (k : KK) : Nat := k.2.2.2.1
abbrev kL (k : KK) : Nat := k.2.2.2.2.1
abbrev kx (k : KK) : Nat → Int32 := k.2.2.2.2.2.1
abbrev ko (k : KK) : Option Nat := k.2.2.2.2.2.2
def kA (k : KK) : Nat → Prop := fun q => kh k ≤ q
def cv (k : KK) : AV → Value
  | .inl x => .int x
  | .inr (.inl y) => .long y
  | .inr (.inr (.inl q)) => .ref (ka k (oT q.1 + q.2))
  | .inr (.inr (.inr _)) => va_rf (ko k)
def acat : AV → Nat
  | .inr (.inl _) => 2
  | _ => 1
theorem cv_cat (k : KK) (v : AV) : (cv k v).category = acat v := by
  rcases v with x | y | q | q
  · rfl
  · rfl
  · rfl
  · show (va_rf (ko k)).category = 1
    cases ko k <;> rfl
abbrev cvl (k : KK) (l : List (Nat × AV)) : List (Nat × Value) := l.map (fun q => (q.1, cv k q.2))
abbrev tysK (k : KK) : List (ClassId × FieldType) := [(kC k 0, .int), (kC k 1, .long), (kC k 2, .array .int), (kC k 3, .object "WallShifts$Sheet")]
def wNests : List Cond := [.methodLinkNest "WallShifts$Palace" 40 ⟨"WallShifts", "quarterOf", "(II)I"⟩ "WallShifts", .methodLinkNest "WallShifts$Palace" 43 ⟨"WallShifts", "restOf", "(II)I"⟩ "WallShifts", .methodLinkNest "WallShifts$Palace" 58 ⟨"WallShifts", "becomes", "([II)I"⟩ "WallShifts", .methodLinkNest "WallShifts$Palace" 66 ⟨"WallShifts", "tires", "(I)I"⟩ "WallShifts"]
def stN (i : Nat) : String := ["MOST_OF_PART", "LEAST_OF_ROTA", "MOST_OF_ROTA"].getD i ""
def stV (i : Nat) : List Int32 := [[5, 9, 9, 3, 65535, 99], [1, 0, 0, 1], [60, 60, 3, 20]].getD i []
/-- what the static rows hold -/
def stc (i j : Nat) : Int32 := (stV i).getD j 0
/-- what the tables and the cells that nobody writes say -/
def KF (k : KK) (s : State) : Prop :=
  va_K (kD k) wcl (tysK k) s ∧ (∀ m, va_D (kA k) (wl (kC k) (ka k) m)) ∧ kh k ≤ s.heap.size ∧ (∀ w ∈ wNests, va_Nw w s) ∧
  (∀ i, i < 3 → va_Z "WallShifts" (stN i) "[I" (.ref (ka k (oT 23 + i))) (kA k) s s.heap ∧ va_T .int (ka k (oT 23 + i)) (stV i).length (fun j => .int (stc i j)) (kA k) s s.heap) ∧
  va_X (ka k (oT 24 + 0)) (kL k) (kx k) s s.heap ∧ ka k (oT 24 + 0) < kh k
theorem wNests_same {u U : State} (h : u.vm = U.vm) (hZ : ∀ w ∈ wNests, va_Nw w u) : ∀ w ∈ wNests, va_Nw w U := by
  intro w hw
  have hz := hZ w hw
  simp only [wNests, List.mem_cons, List.not_mem_nil, or_false] at hw
  rcases hw with rfl | rfl | rfl | rfl <;> exact va_Nw.same rfl h hz
theorem wNests_warm {s U : State} (hW : s.WarmedH U.vm) (hZ : ∀ w ∈ wNests, va_Nw w s) : ∀ w ∈ wNests, va_Nw w U := by
  intro w hw
  have hz := hZ w hw
  simp only [wNests, List.mem_cons, List.not_mem_nil, or_false] at hw
  rcases hw with rfl | rfl | rfl | rfl <;> exact va_Nw.warmM hW hz
theorem KF.same {k : KK} {u U : State} (hv : u.vm = U.vm) (hh : u.heap = U.heap) (h : KF k u) : KF k U := by
  obtain ⟨h1, h2, h3, h4, h5, h10, h11⟩ := h
  have hal : u.vm.Alike U.vm := by rw [hv]; exact Vm.Alike.refl _
  rw [hh] at h3 h5 h10
  exact ⟨h1.moved hal, h2, h3, wNests_same hv h4, fun i hi => ⟨(h5 i hi).1.moved hal, (h5 i hi).2.moved hal⟩, h10.moved hal, h11⟩
theorem KF.go {k : KK} {s U : State} {H : Heap} {locs : List Loc} (hW : s.WarmedH U.vm) (hH : U.heap = H) (hS : va_S (kA k) s.heap H locs) (h : KF k s) : KF k U := by
  obtain ⟨h1, h2, h3, h4, h5, h10, h11⟩ := h
  have hal : s.vm.Alike U.vm := hW.alike
  subst hH
  have hk : ∀ a : Nat, a < s.heap.size → ¬ kA k a → U.heap[a]? = s.heap[a]? := hS.2.1
  refine ⟨h1.moved hal, h2, Nat.le_trans h3 hS.1, wNests_warm hW h4, fun i hi => ⟨((h5 i hi).1.moved hal).kept hk, ((h5 i hi).2.moved hal).kept hk⟩, (h10.moved hal).kept (hk _ (Nat.lt_of_lt_of_le h11 h3) (Nat.not_le.mpr h11)), h11⟩
/-- what a method finds -/
def CX (p : Program) (s : State) (m : MethodId) (args : Array Value) (meth : Method) (c : Code) (k : KK) (cc : ByteArray) (nL : Nat) (own : String) : Prop :=
  p.tables.exec = Jvm.exec ∧ c.code = cc ∧ c.maxLocals = nL ∧ s.vm.findClass own = some m.cls ∧ (∀ w ∈ wG, w.before args s = true) ∧ KF k s ∧ meth.locks = false
/-- where it stands: at pc, with these locals and this stack, the world holding mem -/
def V (p : Program) (l : Launch) (e : Env) (R : Room) (s : State) (m : MethodId) (args : Array Value) (below : List Frame) (meth : Method) (c : Code) (cells slots : Nat) (Q : State → Prop) (k : KK) (nL : Nat) (mem : Mem) (pc : Nat) (lv : List (Nat × AV)) (st : List AV) : Prop :=
  ∀ (H : Heap) (locs : List Loc) (ls : Array Slot), va_P (kD k) wcl (wl (kC k) (ka k) mem) H → va_S (kA k) s.heap H locs → lv_has ls nL (cvl k lv) →
    W p l e R s m args below meth c H locs cells slots Q (F0 m pc ls (st.map (cv k)))
def RPc (k : KK) (as : List AV) (mem : Mem) : Array Value → State → Prop := fun v U => v = (as.map (cv k)).toArray ∧ KF k U ∧ va_P (kD k) wcl (wl (kC k) (ka k) mem) U.heap
def RQc (k : KK) (r : Option AV) (mem : Mem) : Array Value → State → Outcome → State → Prop := fun _ st oc t => oc = .returned (r.map (cv k)) ∧ va_P (kD k) wcl (wl (kC k) (ka k) mem) t.heap ∧ va_F (kA k) st t
abbrev wM (y : MethodName) (b : ByteArray) (n : Nat) (ret : Option FieldType) : List Cond := .code y b n ret :: wG
abbrev rmM (fr lo : Nat) : Room := { frames := fr, cells := 0, slots := 0, locals := lo }
/-- what a method does: called with these, the world holding mem, it returns r and leaves mem' -/
def RT (y : MethodName) (b : ByteArray) (n : Nat) (ret : Option FieldType) (rm : Room) (as : List AV) (mem : Mem) (r : Option AV) (mem' : Mem) : Prop :=
  ∀ (l : Launch) (k : KK), Met l y (wM y b n ret) rm (RPc k as mem) (RQc k r mem') 0 0 (kA k)
def lvA : Nat → List AV → List (Nat × AV)
  | _, [] => []
  | i, v :: vs => (i, v) :: lvA (if acat v = 2 then i + 2 else i + 1) vs
theorem lvA_args (k : KK) : ∀ (vs : List AV) (i : Nat), lv_args i (vs.map (cv k)) = cvl k (lvA i vs)
  | [], _ => rfl
  | v :: vs, i => by
    show (i, cv k v) :: lv_args (if (cv k v).category = 2 then i + 2 else i + 1) (vs.map (cv k)) = (i, cv k v) :: cvl k (lvA (if acat v = 2 then i + 2 else i + 1) vs)
    rw [cv_cat, lvA_args k vs]
def slA (vs : List AV) : Nat := (vs.map acat).sum
theorem slA_sl (k : KK) : ∀ vs : List AV, (lg_sl (vs.map (cv k))).length = slA vs
  | [] => rfl
  | v :: vs => by
    have ih := slA_sl k vs
    have hc := cv_cat k v
    unfold lg_sl at ih ⊢
    rw [List.map_cons, List.flatMap_cons, List.length_append, ih]
    unfold slA
    rw [List.map_cons, List.sum_cons, hc]
    rcases v with x | y | q | q <;> rfl
theorem RT.of {y : MethodName} {b : ByteArray} {n : Nat} {ret : Option FieldType} {rm : Room} {as : List AV} {mem : Mem} {r : Option AV} {mem' : Mem} (hy : plainName y.cls = true) (hn : slA as ≤ n)
    (body : ∀ (p : Program) (l : Launch) (e : Env) (s : State) (m : MethodId) (args : Array Value) (below : List Frame) (meth : Method) (c : Code) (k : KK), CX p s m args meth c k b n y.cls → meth.sig.returnType = ret →
      V p l e rm s m args below meth c 0 0 (MQ below (RQc k r mem') args s 0 0 (kA k)) k n mem 0 (lvA 0 as) []) : RT y b n ret rm as mem r mem' := by
  intro l k
  refine Met.ofW (cc := b) (maxL := n) (ret := ret) hy rfl ?_
  intro p e s m args below meth c s₁ B hml hv
  obtain ⟨rfl, hK, hP⟩ := hv
  have hts := atoms_spec (ws := wM y b n ret) B.pre
  have hown : s.vm.findClass y.cls = some m.cls := findClass_of_methodNamed B.named
  rw [lg_entry_eq]
  exact body p l e s m _ below meth c k ⟨B.exec, B.bytes, hml, hown, fun w hw => hts w (List.mem_cons_of_mem _ hw), hK, B.notSynchronized⟩ B.returns s.heap [] _ hP va_S.rf (by rw [← lvA_args]; exact lv_entry (as.map (cv k)) (n := n) (by rw [slA_sl]; exact hn))
/-- what a method does that reads the script -/
def RTx (LL : Nat) (xs : Nat → Int32) (y : MethodName) (b : ByteArray) (n : Nat) (ret : Option FieldType) (rm : Room) (as : List AV) (mem : Mem) (r : Option AV) (mem' : Mem) : Prop :=
  ∀ (l : Launch) (k : KK), kL k = LL → kx k = xs → Met l y (wM y b n ret) rm (RPc k as mem) (RQc k r mem') 0 0 (kA k)
theorem RTx.of {LL : Nat} {xs : Nat → Int32} {y : MethodName} {b : ByteArray} {n : Nat} {ret : Option FieldType} {rm : Room} {as : List AV} {mem : Mem} {r : Option AV} {mem' : Mem} (hy : plainName y.cls = true) (hn : slA as ≤ n)
    (body : ∀ (p : Program) (l : Launch) (e : Env) (s : State) (m : MethodId) (args : Array Value) (below : List Frame) (meth : Method) (c : Code) (k : KK), kL k = LL → kx k = xs → CX p s m args meth c k b n y.cls → meth.sig.returnType = ret →
      V p l e rm s m args below meth c 0 0 (MQ below (RQc k r mem') args s 0 0 (kA k)) k n mem 0 (lvA 0 as) []) : RTx LL xs y b n ret rm as mem r mem' := by
  intro l k hL hx
  refine Met.ofW (cc := b) (maxL := n) (ret := ret) hy rfl ?_
  intro p e s m args below meth c s₁ B hml hv
  obtain ⟨rfl, hK, hP⟩ := hv
  have hts := atoms_spec (ws := wM y b n ret) B.pre
  have hown : s.vm.findClass y.cls = some m.cls := findClass_of_methodNamed B.named
  rw [lg_entry_eq]
  exact body p l e s m _ below meth c k hL hx ⟨B.exec, B.bytes, hml, hown, fun w hw => hts w (List.mem_cons_of_mem _ hw), hK, B.notSynchronized⟩ B.returns s.heap [] _ hP va_S.rf (by rw [← lvA_args]; exact lv_entry (as.map (cv k)) (n := n) (by rw [slA_sl]; exact hn))
end
section
/-! THE ROWS: one instruction each. 'h' carries what the method's program text comes to. -/
def lst (i : Nat) (v : AV) (lv : List (Nat × AV)) : List (Nat × AV) := (i, v) :: lv.filter (fun q => !(q.1 == i) && !(q.1 + 1 == i && acat q.2 == 2))
def lst2 (i : Nat) (v : AV) (lv : List (Nat × AV)) : List (Nat × AV) := (i, v) :: lv.filter (fun q => !(q.1 == i) && (!(q.1 == i + 1) && !(q.1 + 1 == i && acat q.2 == 2)))
theorem cvl_lst (k : KK) (i : Nat) (v : AV) (lv : List (Nat × AV)) : (i, cv k v) :: (cvl k lv).filter (fun q => !(q.1 == i) && !(q.1 + 1 == i && q.2.category == 2)) = cvl k (lst i v lv) := by
  show _ = (i, cv k v) :: List.map _ (List.filter _ lv)
  congr 1
  unfold cvl
  rw [List.filter_map]
  congr 1
  apply List.filter_congr
  intro q _
  simp only [Function.comp, cv_cat]
theorem cvl_lst2 (k : KK) (i : Nat) (v : AV) (lv : List (Nat × AV)) : (i, cv k v) :: (cvl k lv).filter (fun q => !(q.1 == i) && (!(q.1 == i + 1) && !(q.1 + 1 == i && q.2.category == 2))) = cvl k (lst2 i v lv) := by
  show _ = (i, cv k v) :: List.map _ (List.filter _ lv)
  congr 1
  unfold cvl
  rw [List.filter_map]
  congr 1
  apply List.filter_congr
  intro q _
  simp only [Function.comp, cv_cat]
theorem cvl_at {k : KK} {lv : List (Nat × AV)} {j i : Nat} {v : AV} (h : lv[j]? = some (i, v)) : (cvl k lv)[j]? = some (i, cv k v) := by
  unfold cvl
  rw [List.getElem?_map, h]
  rfl
def ck {α : Type} (x : Int32) (n : Nat) (A : Option α) : Option α := if x < 0 ∨ n ≤ x.toNatClampNeg then none else A
theorem ck_some {α : Type} {x : Int32} {n : Nat} {A : Option α} {o : α} (h : ck x n A = some o) : vp_in x n ∧ x.toNatClampNeg < n ∧ A = some o := by
  unfold ck at h
  by_cases c : x < 0 ∨ n ≤ x.toNatClampNeg
  · rw [if_pos c] at h
    cases h
  · rw [if_neg c] at h
    exact ⟨c, Nat.not_le.mp (fun q => c (Or.inr q)), h⟩
def bd {α β : Type} (x : Option (α × Mem)) (F : α → Mem → Option β) : Option β := match x with
  | none => none
  | some q => F q.1 q.2
theorem bd_some {α β : Type} {x : Option (α × Mem)} {F : α → Mem → Option β} {o : β} (h : bd x F = some o) : ∃ (r : α) (m1 : Mem), x = some (r, m1) ∧ F r m1 = some o := by
  cases x with
  | none => cases h
  | some q => exact ⟨q.1, q.2, rfl, h⟩
theorem it_t {α : Type} {c : Prop} [Decidable c] {A B : Option α} {o : α} (h : (if c then A else B) = some o) (hc : c) : A = some o := by rw [if_pos hc] at h; exact h
theorem it_f {α : Type} {c : Prop} [Decidable c] {A B : Option α} {o : α} (h : (if c then A else B) = some o) (hc : ¬ c) : B = some o := by rw [if_neg hc] at h; exact h
theorem rowI_ne {m : Mem} {t i j : Nat} {v : Int32} (t' i' : Nat) (h : ¬ (t' = t ∧ i' = i)) : gI (sI m t i j v) t' i' = gI m t' i' ∧ gL (sI m t i j v) t' i' = gL m t' i' := by
  refine ⟨funext fun j' => ?_, rfl⟩
  show (if t' = t ∧ i' = i ∧ j' = j then v else m.1 t' i' j') = m.1 t' i' j'
  rw [if_neg (fun q => h ⟨q.1, q.2.1⟩)]
theorem rowL_ne {m : Mem} {t i j : Nat} {v : Int64} (t' i' : Nat) (h : ¬ (t' = t ∧ i' = i)) : gI (sL m t i j v) t' i' = gI m t' i' ∧ gL (sL m t i j v) t' i' = gL m t' i' := by
  refine ⟨rfl, funext fun j' => ?_⟩
  show (if t' = t ∧ i' = i ∧ j' = j then v else m.2 t' i' j') = m.2 t' i' j'
  rw [if_neg (fun q => h ⟨q.1, q.2.1⟩)]
theorem rowIr_ne {m : Mem} {t i : Nat} {f : Nat → Int32} (t' i' : Nat) (h : ¬ (t' = t ∧ i' = i)) : gI (sIr m t i f) t' i' = gI m t' i' ∧ gL (sIr m t i f) t' i' = gL m t' i' := by
  refine ⟨funext fun j' => ?_, rfl⟩
  show (if t' = t ∧ i' = i then f j' else m.1 t' i' j') = m.1 t' i' j'
  rw [if_neg h]
theorem rowLr_ne {m : Mem} {t i : Nat} {f : Nat → Int64} (t' i' : Nat) (h : ¬ (t' = t ∧ i' = i)) : gI (sLr m t i f) t' i' = gI m t' i' ∧ gL (sLr m t i f) t' i' = gL m t' i' := by
  refine ⟨rfl, funext fun j' => ?_⟩
  show (if t' = t ∧ i' = i then f j' else m.2 t' i' j') = m.2 t' i' j'
  rw [if_neg h]
theorem rowI_eq (m : Mem) (t i j : Nat) (v : Int32) : gI (sI m t i j v) t i = upd (gI m t i) j v := by
  funext j'
  show (if t = t ∧ i = i ∧ j' = j then v else m.1 t i j') = if j' = j then v else m.1 t i j'
  by_cases h : j' = j
  · rw [if_pos h, if_pos ⟨rfl, rfl, h⟩]
  · rw [if_neg h, if_neg (fun q => h q.2.2)]
theorem rowL_eq (m : Mem) (t i j : Nat) (v : Int64) : gL (sL m t i j v) t i = vp_updL (gL m t i) j v := by
  funext j'
  show (if t = t ∧ i = i ∧ j' = j then v else m.2 t i j') = if j' = j then v else m.2 t i j'
  by_cases h : j' = j
  · rw [if_pos h, if_pos ⟨rfl, rfl, h⟩]
  · rw [if_neg h, if_neg (fun q => h q.2.2)]
theorem rowIr_eq (m : Mem) (t i : Nat) (f : Nat → Int32) : gI (sIr m t i f) t i = f := by
  funext j'
  show (if t = t ∧ i = i then f j' else m.1 t i j') = f j'
  rw [if_pos ⟨rfl, rfl⟩]
theorem rowLr_eq (m : Mem) (t i : Nat) (f : Nat → Int64) : gL (sLr m t i f) t i = f := by
  funext j'
  show (if t = t ∧ i = i then f j' else m.2 t i j') = f j'
  rw [if_pos ⟨rfl, rfl⟩]
section ROWS
variable {p : Program} {l : Launch} {e : Env} {R : Room} {s : State} {m : MethodId} {args : Array Value} {below : List Frame} {meth : Method} {c : Code} {cells slots : Nat} {Q : State → Prop} {k : KK} {nL : Nat} {mem : Mem} {pc : Nat} {lv lv' : List (Nat × AV)} {st : List AV} {cc : ByteArray} {own : String}
theorem v_iconst (X : CX p s m args meth c k cc nL own) {n : Int} {v : Int32} (hd : decode cc pc = .ok (.iconst n, 1)) (hv : Int32.ofInt n = v) (kk : V p l e R s m args below meth c cells slots Q k nL mem (pc + 1) lv (aI v :: st)) : V p l e R s m args below meth c cells slots Q k nL mem pc lv st :=
  fun H locs ls hP hS hl => lv_iconst X.1 X.2.1 hd hv (kk H locs ls hP hS hl)
theorem v_bipush (X : CX p s m args meth c k cc nL own) {n : Int} {v : Int32} (hd : decode cc pc = .ok (.bipush n, 2)) (hv : (Int8.ofInt n).toInt32 = v) (kk : V p l e R s m args below meth c cells slots Q k nL mem (pc + 2) lv (aI v :: st)) : V p l e R s m args below meth c cells slots Q k nL mem pc lv st :=
  fun H locs ls hP hS hl => lv_bipush X.1 X.2.1 hd hv (kk H locs ls hP hS hl)
theorem v_sipush (X : CX p s m args meth c k cc nL own) {n : Int} {v : Int32} (hd : decode cc pc = .ok (.sipush n, 3)) (hv : (Int16.ofInt n).toInt32 = v) (kk : V p l e R s m args below meth c cells slots Q k nL mem (pc + 3) lv (aI v :: st)) : V p l e R s m args below meth c cells slots Q k nL mem pc lv st :=
  fun H locs ls hP hS hl => lv_sipush X.1 X.2.1 hd hv (kk H locs ls hP hS hl)
theorem v_lconst (X : CX p s m args meth c k cc nL own) {n : Fin 2} {v : Int64} (hd : decode cc pc = .ok (.lconst n, 1)) (hv : Int64.ofNat (n : Nat) = v) (kk : V p l e R s m args below meth c cells slots Q k nL mem (pc + 1) lv (aL v :: st)) : V p l e R s m args below meth c cells slots Q k nL mem pc lv st :=
  fun H locs ls hP hS hl => lv_lconst X.1 X.2.1 hd hv (kk H locs ls hP hS hl)
theorem v_ldc (X : CX p s m args meth c k cc nL own) {idx : Nat} {v : Int32} (hq : Cond.constant own idx v ∈ wG) (hd : decode cc pc = .ok (.ldc idx, 2)) (kk : V p l e R s m args below meth c cells slots Q k nL mem (pc + 2) lv (aI v :: st)) : V p l e R s m args below meth c cells slots Q k nL mem pc lv st :=
  fun H locs ls hP hS hl => lv_ldc X.1 X.2.1 X.2.2.2.1 (X.2.2.2.2.1 _ hq) hd (kk H locs ls hP hS hl)
theorem v_ldcw (X : CX p s m args meth c k cc nL own) {idx : Nat} {v : Int32} (hq : Cond.constant own idx v ∈ wG) (hd : decode cc pc = .ok (.ldc_w idx, 3)) (kk : V p l e R s m args below meth c cells slots Q k nL mem (pc + 3) lv (aI v :: st)) : V p l e R s m args below meth c cells slots Q k nL mem pc lv st :=
  fun H locs ls hP hS hl => lv_ldcw X.1 X.2.1 X.2.2.2.1 (X.2.2.2.2.1 _ hq) hd (kk H locs ls hP hS hl)
theorem v_ldc2 (X : CX p s m args meth c k cc nL own) {idx : Nat} {v : Int64} (hq : Cond.constantLong own idx v ∈ wG) (hd : decode cc pc = .ok (.ldc2_w idx, 3)) (kk : V p l e R s m args below meth c cells slots Q k nL mem (pc + 3) lv (aL v :: st)) : V p l e R s m args below meth c cells slots Q k nL mem pc lv st :=
  fun H locs ls hP hS hl => lv_ldc2 X.1 X.2.1 X.2.2.2.1 (X.2.2.2.2.1 _ hq) hd (kk H locs ls hP hS hl)
theorem v_iload (X : CX p s m args meth c k cc nL own) {i : Nat} {x : Int32} (j : Nat) (hj : lv[j]? = some (i, aI x)) (hd : decode cc pc = .ok (.iload i, 2)) (kk : V p l e R s m args below meth c cells slots Q k nL mem (pc + 2) lv (aI x :: st)) : V p l e R s m args below meth c cells slots Q k nL mem pc lv st :=
  fun H locs ls hP hS hl => lv_iload X.1 X.2.1 hd (lv_at hl j (cvl_at hj)) (kk H locs ls hP hS hl)
theorem v_iload_n (X : CX p s m args meth c k cc nL own) {kk0 : Fin 4} {i : Nat} {x : Int32} (j : Nat) (hj : lv[j]? = some (i, aI x)) (hd : decode cc pc = .ok (.iload_n kk0, 1)) (hi : (kk0 : Nat) = i) (kk : V p l e R s m args below meth c cells slots Q k nL mem (pc + 1) lv (aI x :: st)) : V p l e R s m args below meth c cells slots Q k nL mem pc lv st :=
  fun H locs ls hP hS hl => lv_iload_n X.1 X.2.1 hd hi (lv_at hl j (cvl_at hj)) (kk H locs ls hP hS hl)
theorem v_lload (X : CX p s m args meth c k cc nL own) {i : Nat} {x : Int64} (j : Nat) (hj : lv[j]? = some (i, aL x)) (hd : decode cc pc = .ok (.lload i, 2)) (kk : V p l e R s m args below meth c cells slots Q k nL mem (pc + 2) lv (aL x :: st)) : V p l e R s m args below meth c cells slots Q k nL mem pc lv st :=
  fun H locs ls hP hS hl => lv_lload X.1 X.2.1 hd (lv_at hl j (cvl_at hj)) (kk H locs ls hP hS hl)
theorem v_lload_n (X : CX p s m args meth c k cc nL own) {kk0 : Fin 4} {i : Nat} {x : Int64} (j : Nat) (hj : lv[j]? = some (i, aL x)) (hd : decode cc pc = .ok (.lload_n kk0, 1)) (hi : (kk0 : Nat) = i) (kk : V p l e R s m args below meth c cells slots Q k nL mem (pc + 1) lv (aL x :: st)) : V p l e R s m args below meth c cells slots Q k nL mem pc lv st :=
  fun H locs ls hP hS hl => lv_lload_n X.1 X.2.1 hd hi (lv_at hl j (cvl_at hj)) (kk H locs ls hP hS hl)
theorem v_aload (X : CX p s m args meth c k cc nL own) {i : Nat} {t q : Nat} (j : Nat) (hj : lv[j]? = some (i, aR t q)) (hd : decode cc pc = .ok (.aload i, 2)) (kk : V p l e R s m args below meth c cells slots Q k nL mem (pc + 2) lv (aR t q :: st)) : V p l e R s m args below meth c cells slots Q k nL mem pc lv st :=
  fun H locs ls hP hS hl => lv_aload X.1 X.2.1 hd (lv_at hl j (cvl_at hj)) (kk H locs ls hP hS hl)
theorem v_aload_n (X : CX p s m args meth c k cc nL own) {kk0 : Fin 4} {i : Nat} {t q : Nat} (j : Nat) (hj : lv[j]? = some (i, aR t q)) (hd : decode cc pc = .ok (.aload_n kk0, 1)) (hi : (kk0 : Nat) = i) (kk : V p l e R s m args below meth c cells slots Q k nL mem (pc + 1) lv (aR t q :: st)) : V p l e R s m args below meth c cells slots Q k nL mem pc lv st :=
  fun H locs ls hP hS hl => lv_aload_n X.1 X.2.1 hd hi (lv_at hl j (cvl_at hj)) (kk H locs ls hP hS hl)
theorem v_istore (X : CX p s m args meth c k cc nL own) {i : Nat} {x : Int32} (hd : decode cc pc = .ok (.istore i, 2)) (hn : i < nL) (hl : lst i (aI x) lv = lv') (kk : V p l e R s m args below meth c cells slots Q k nL mem (pc + 2) lv' st) : V p l e R s m args below meth c cells slots Q k nL mem pc lv (aI x :: st) :=
  fun H locs ls hP hS h => lv_istore X.1 X.2.1 hd h hn (cvl_lst k i (aI x) lv) (fun ls' h' => kk H locs ls' hP hS (by rw [← hl]; exact h'))
theorem v_istore_n (X : CX p s m args meth c k cc nL own) {kk0 : Fin 4} {i : Nat} {x : Int32} (hd : decode cc pc = .ok (.istore_n kk0, 1)) (hi : (kk0 : Nat) = i) (hn : i < nL) (hl : lst i (aI x) lv = lv') (kk : V p l e R s m args below meth c cells slots Q k nL mem (pc + 1) lv' st) : V p l e R s m args below meth c cells slots Q k nL mem pc lv (aI x :: st) :=
  fun H locs ls hP hS h => lv_istore_n X.1 X.2.1 hd hi h hn (cvl_lst k i (aI x) lv) (fun ls' h' => kk H locs ls' hP hS (by rw [← hl]; exact h'))
theorem v_lstore (X : CX p s m args meth c k cc nL own) {i : Nat} {x : Int64} (hd : decode cc pc = .ok (.lstore i, 2)) (hn : i + 1 < nL) (hl : lst2 i (aL x) lv = lv') (kk : V p l e R s m args below meth c cells slots Q k nL mem (pc + 2) lv' st) : V p l e R s m args below meth c cells slots Q k nL mem pc lv (aL x :: st) :=
  fun H locs ls hP hS h => lv_lstore X.1 X.2.1 hd h hn (cvl_lst2 k i (aL x) lv) (fun ls' h' => kk H locs ls' hP hS (by rw [← hl]; exact h'))
theorem v_lstore_n (X : CX p s m args meth c k cc nL own) {kk0 : Fin 4} {i : Nat} {x : Int64} (hd : decode cc pc = .ok (.lstore_n kk0, 1)) (hi : (kk0 : Nat) = i) (hn : i + 1 < nL) (hl : lst2 i (aL x) lv = lv') (kk : V p l e R s m args below meth c cells slots Q k nL mem (pc + 1) lv' st) : V p l e R s m args below meth c cells slots Q k nL mem pc lv (aL x :: st) :=
  fun H locs ls hP hS h => lv_lstore_n X.1 X.2.1 hd hi h hn (cvl_lst2 k i (aL x) lv) (fun ls' h' => kk H locs ls' hP hS (by rw [← hl]; exact h'))
theorem v_astore (X : CX p s m args meth c k cc nL own) {i : Nat} {t q : Nat} (hd : decode cc pc = .ok (.astore i, 2)) (hn : i < nL) (hl : lst i (aR t q) lv = lv') (kk : V p l e R s m args below meth c cells slots Q k nL mem (pc + 2) lv' st) : V p l e R s m args below meth c cells slots Q k nL mem pc lv (aR t q :: st) :=
  fun H locs ls hP hS h => lv_astore X.1 X.2.1 hd h hn (cvl_lst k i (aR t q) lv) (fun ls' h' => kk H locs ls' hP hS (by rw [← hl]; exact h'))
theorem v_astore_n (X : CX p s m args meth c k cc nL own) {kk0 : Fin 4} {i : Nat} {t q : Nat} (hd : decode cc pc = .ok (.astore_n kk0, 1)) (hi : (kk0 : Nat) = i) (hn : i < nL) (hl : lst i (aR t q) lv = lv') (kk : V p l e R s m args below meth c cells slots Q k nL mem (pc + 1) lv' st) : V p l e R s m args below meth c cells slots Q k nL mem pc lv (aR t q :: st) :=
  fun H locs ls hP hS h => lv_astore_n X.1 X.2.1 hd hi h hn (cvl_lst k i (aR t q) lv) (fun ls' h' => kk H locs ls' hP hS (by rw [← hl]; exact h'))
theorem v_aloadQ (X : CX p s m args meth c k cc nL own) {kk0 : Fin 4} {i : Nat} (j : Nat) (hj : lv[j]? = some (i, aQ)) (hd : decode cc pc = .ok (.aload_n kk0, 1)) (hi : (kk0 : Nat) = i) (kk : V p l e R s m args below meth c cells slots Q k nL mem (pc + 1) lv (aQ :: st)) : V p l e R s m args below meth c cells slots Q k nL mem pc lv st :=
  fun H locs ls hP hS hl => by
    have h1 := lv_at hl j (cvl_at hj)
    have h2 : ls[i]? = some (.val (va_rf (ko k))) := h1
    have k2 : W p l e R s m args below meth c H locs cells slots Q (F0 m (pc + 1) ls (va_rf (ko k) :: st.map (cv k))) := kk H locs ls hP hS hl
    have hz : va_rf (ko k) = .null ∨ ∃ a, va_rf (ko k) = .ref a := by
      cases ko k with
      | none => exact Or.inl rfl
      | some a => exact Or.inr ⟨a, rfl⟩
    rcases hz with hz | ⟨a, hz⟩
    · rw [hz] at h2 k2
      exact lv_aload_nN X.1 X.2.1 hd hi h2 k2
    · rw [hz] at h2 k2
      exact lv_aload_n X.1 X.2.1 hd hi h2 k2
theorem v_iinc (X : CX p s m args meth c k cc nL own) {i : Nat} {n : Int} {x v : Int32} (j : Nat) (hj : lv[j]? = some (i, aI x)) (hv : x + Int32.ofInt n = v) (hd : decode cc pc = .ok (.iinc i n, 3)) (hn : i < nL) (hl : lst i (aI v) lv = lv') (kk : V p l e R s m args below meth c cells slots Q k nL mem (pc + 3) lv' st) : V p l e R s m args below meth c cells slots Q k nL mem pc lv st :=
  fun H locs ls hP hS h => lv_iinc X.1 X.2.1 hd h (cvl_at hj) hv hn (cvl_lst k i (aI v) lv) (fun ls' h' => kk H locs ls' hP hS (by rw [← hl]; exact h'))
theorem v_iadd (X : CX p s m args meth c k cc nL own) {x y : Int32} (hd : decode cc pc = .ok (.iadd, 1)) (kk : V p l e R s m args below meth c cells slots Q k nL mem (pc + 1) lv (aI (x + y) :: st)) : V p l e R s m args below meth c cells slots Q k nL mem pc lv (aI y :: aI x :: st) :=
  fun H locs ls hP hS hl => lv_iadd X.1 X.2.1 hd (kk H locs ls hP hS hl)
theorem v_isub (X : CX p s m args meth c k cc nL own) {x y : Int32} (hd : decode cc pc = .ok (.isub, 1)) (kk : V p l e R s m args below meth c cells slots Q k nL mem (pc + 1) lv (aI (x - y) :: st)) : V p l e R s m args below meth c cells slots Q k nL mem pc lv (aI y :: aI x :: st) :=
  fun H locs ls hP hS hl => lv_isub X.1 X.2.1 hd (kk H locs ls hP hS hl)
theorem v_imul (X : CX p s m args meth c k cc nL own) {x y : Int32} (hd : decode cc pc = .ok (.imul, 1)) (kk : V p l e R s m args below meth c cells slots Q k nL mem (pc + 1) lv (aI (x * y) :: st)) : V p l e R s m args below meth c cells slots Q k nL mem pc lv (aI y :: aI x :: st) :=
  fun H locs ls hP hS hl => lv_imul X.1 X.2.1 hd (kk H locs ls hP hS hl)
theorem v_iand (X : CX p s m args meth c k cc nL own) {x y : Int32} (hd : decode cc pc = .ok (.iand, 1)) (kk : V p l e R s m args below meth c cells slots Q k nL mem (pc + 1) lv (aI (x &&& y) :: st)) : V p l e R s m args below meth c cells slots Q k nL mem pc lv (aI y :: aI x :: st) :=
  fun H locs ls hP hS hl => lv_iand X.1 X.2.1 hd (kk H locs ls hP hS hl)
theorem v_ior (X : CX p s m args meth c k cc nL own) {x y : Int32} (hd : decode cc pc = .ok (.ior, 1)) (kk : V p l e R s m args below meth c cells slots Q k nL mem (pc + 1) lv (aI (x ||| y) :: st)) : V p l e R s m args below meth c cells slots Q k nL mem pc lv (aI y :: aI x :: st) :=
  fun H locs ls hP hS hl => lv_ior X.1 X.2.1 hd (kk H locs ls hP hS hl)
theorem v_ixor (X : CX p s m args meth c k cc nL own) {x y : Int32} (hd : decode cc pc = .ok (.ixor, 1)) (kk : V p l e R s m args below meth c cells slots Q k nL mem (pc + 1) lv (aI (x ^^^ y) :: st)) : V p l e R s m args below meth c cells slots Q k nL mem pc lv (aI y :: aI x :: st) :=
  fun H locs ls hP hS hl => lv_ixor X.1 X.2.1 hd (kk H locs ls hP hS hl)
theorem v_ishl (X : CX p s m args meth c k cc nL own) {x y : Int32} (hd : decode cc pc = .ok (.ishl, 1)) (kk : V p l e R s m args below meth c cells slots Q k nL mem (pc + 1) lv (aI (x <<< (y &&& 31)) :: st)) : V p l e R s m args below meth c cells slots Q k nL mem pc lv (aI y :: aI x :: st) :=
  fun H locs ls hP hS hl => lv_ishl X.1 X.2.1 hd (kk H locs ls hP hS hl)
theorem v_ishr (X : CX p s m args meth c k cc nL own) {x y : Int32} (hd : decode cc pc = .ok (.ishr, 1)) (kk : V p l e R s m args below meth c cells slots Q k nL mem (pc + 1) lv (aI (x >>> (y &&& 31)) :: st)) : V p l e R s m args below meth c cells slots Q k nL mem pc lv (aI y :: aI x :: st) :=
  fun H locs ls hP hS hl => lv_ishr X.1 X.2.1 hd (kk H locs ls hP hS hl)
theorem v_ladd (X : CX p s m args meth c k cc nL own) {x y : Int64} (hd : decode cc pc = .ok (.ladd, 1)) (kk : V p l e R s m args below meth c cells slots Q k nL mem (pc + 1) lv (aL (x + y) :: st)) : V p l e R s m args below meth c cells slots Q k nL mem pc lv (aL y :: aL x :: st) :=
  fun H locs ls hP hS hl => lv_ladd X.1 X.2.1 hd (kk H locs ls hP hS hl)
theorem v_lsub (X : CX p s m args meth c k cc nL own) {x y : Int64} (hd : decode cc pc = .ok (.lsub, 1)) (kk : V p l e R s m args below meth c cells slots Q k nL mem (pc + 1) lv (aL (x - y) :: st)) : V p l e R s m args below meth c cells slots Q k nL mem pc lv (aL y :: aL x :: st) :=
  fun H locs ls hP hS hl => lv_lsub X.1 X.2.1 hd (kk H locs ls hP hS hl)
theorem v_lmul (X : CX p s m args meth c k cc nL own) {x y : Int64} (hd : decode cc pc = .ok (.lmul, 1)) (kk : V p l e R s m args below meth c cells slots Q k nL mem (pc + 1) lv (aL (x * y) :: st)) : V p l e R s m args below meth c cells slots Q k nL mem pc lv (aL y :: aL x :: st) :=
  fun H locs ls hP hS hl => lv_lmul X.1 X.2.1 hd (kk H locs ls hP hS hl)
theorem v_land (X : CX p s m args meth c k cc nL own) {x y : Int64} (hd : decode cc pc = .ok (.land, 1)) (kk : V p l e R s m args below meth c cells slots Q k nL mem (pc + 1) lv (aL (x &&& y) :: st)) : V p l e R s m args below meth c cells slots Q k nL mem pc lv (aL y :: aL x :: st) :=
  fun H locs ls hP hS hl => lv_land X.1 X.2.1 hd (kk H locs ls hP hS hl)
theorem v_lor (X : CX p s m args meth c k cc nL own) {x y : Int64} (hd : decode cc pc = .ok (.lor, 1)) (kk : V p l e R s m args below meth c cells slots Q k nL mem (pc + 1) lv (aL (x ||| y) :: st)) : V p l e R s m args below meth c cells slots Q k nL mem pc lv (aL y :: aL x :: st) :=
  fun H locs ls hP hS hl => lv_lor X.1 X.2.1 hd (kk H locs ls hP hS hl)
theorem v_iushr (X : CX p s m args meth c k cc nL own) {x y v : Int32} (hv : (x.toUInt32 >>> (y &&& 31).toUInt32).toInt32 = v) (hd : decode cc pc = .ok (.iushr, 1)) (kk : V p l e R s m args below meth c cells slots Q k nL mem (pc + 1) lv (aI v :: st)) : V p l e R s m args below meth c cells slots Q k nL mem pc lv (aI y :: aI x :: st) :=
  fun H locs ls hP hS hl => lv_iushr X.1 X.2.1 hd hv (kk H locs ls hP hS hl)
theorem v_idiv (X : CX p s m args meth c k cc nL own) {x y : Int32} {α : Type} {A : Option α} {o : α} (h : (if y = 0 then none else A) = some o) (hd : decode cc pc = .ok (.idiv, 1)) (kk : A = some o → V p l e R s m args below meth c cells slots Q k nL mem (pc + 1) lv (aI (x / y) :: st)) : V p l e R s m args below meth c cells slots Q k nL mem pc lv (aI y :: aI x :: st) := by
  intro H locs ls hP hS hl
  by_cases hz : y = 0
  · rw [if_pos hz] at h; cases h
  · rw [if_neg hz] at h
    exact lv_idiv X.1 X.2.1 hd hz (kk h H locs ls hP hS hl)
theorem v_irem (X : CX p s m args meth c k cc nL own) {x y : Int32} {α : Type} {A : Option α} {o : α} (h : (if y = 0 then none else A) = some o) (hd : decode cc pc = .ok (.irem, 1)) (kk : A = some o → V p l e R s m args below meth c cells slots Q k nL mem (pc + 1) lv (aI (x % y) :: st)) : V p l e R s m args below meth c cells slots Q k nL mem pc lv (aI y :: aI x :: st) := by
  intro H locs ls hP hS hl
  by_cases hz : y = 0
  · rw [if_pos hz] at h; cases h
  · rw [if_neg hz] at h
    have e : x - x / y * y = x % y := irem_eq_mod x y
    have kk2 := kk h H locs ls hP hS hl
    rw [← e] at kk2
    exact lv_irem X.1 X.2.1 hd hz kk2
theorem v_i2l (X : CX p s m args meth c k cc nL own) {x : Int32} (hd : decode cc pc = .ok (.i2l, 1)) (kk : V p l e R s m args below meth c cells slots Q k nL mem (pc + 1) lv (aL (x.toInt64) :: st)) : V p l e R s m args below meth c cells slots Q k nL mem pc lv (aI x :: st) :=
  fun H locs ls hP hS hl => lv_i2l X.1 X.2.1 hd rfl (kk H locs ls hP hS hl)
theorem v_l2i (X : CX p s m args meth c k cc nL own) {x : Int64} (hd : decode cc pc = .ok (.l2i, 1)) (kk : V p l e R s m args below meth c cells slots Q k nL mem (pc + 1) lv (aI (x.toInt32) :: st)) : V p l e R s m args below meth c cells slots Q k nL mem pc lv (aL x :: st) :=
  fun H locs ls hP hS hl => lv_l2i X.1 X.2.1 hd rfl (kk H locs ls hP hS hl)
theorem v_i2b (X : CX p s m args meth c k cc nL own) {x : Int32} (hd : decode cc pc = .ok (.i2b, 1)) (kk : V p l e R s m args below meth c cells slots Q k nL mem (pc + 1) lv (aI (x.toInt8.toInt32) :: st)) : V p l e R s m args below meth c cells slots Q k nL mem pc lv (aI x :: st) :=
  fun H locs ls hP hS hl => lv_i2b X.1 X.2.1 hd rfl (kk H locs ls hP hS hl)
theorem v_i2s (X : CX p s m args meth c k cc nL own) {x : Int32} (hd : decode cc pc = .ok (.i2s, 1)) (kk : V p l e R s m args below meth c cells slots Q k nL mem (pc + 1) lv (aI (x.toInt16.toInt32) :: st)) : V p l e R s m args below meth c cells slots Q k nL mem pc lv (aI x :: st) :=
  fun H locs ls hP hS hl => lv_i2s X.1 X.2.1 hd rfl (kk H locs ls hP hS hl)
theorem v_i2c (X : CX p s m args meth c k cc nL own) {x : Int32} (hd : decode cc pc = .ok (.i2c, 1)) (kk : V p l e R s m args below meth c cells slots Q k nL mem (pc + 1) lv (aI ((x.toUInt32 % 65536).toInt32) :: st)) : V p l e R s m args below meth c cells slots Q k nL mem pc lv (aI x :: st) :=
  fun H locs ls hP hS hl => lv_i2c X.1 X.2.1 hd rfl (kk H locs ls hP hS hl)
theorem v_lshl (X : CX p s m args meth c k cc nL own) {x : Int64} {y : Int32} (hd : decode cc pc = .ok (.lshl, 1)) (kk : V p l e R s m args below meth c cells slots Q k nL mem (pc + 1) lv (aL (x <<< (y.toInt64 &&& 63)) :: st)) : V p l e R s m args below meth c cells slots Q k nL mem pc lv (aI y :: aL x :: st) :=
  fun H locs ls hP hS hl => lv_lshl X.1 X.2.1 hd rfl (kk H locs ls hP hS hl)
theorem v_lshr (X : CX p s m args meth c k cc nL own) {x : Int64} {y : Int32} (hd : decode cc pc = .ok (.lshr, 1)) (kk : V p l e R s m args below meth c cells slots Q k nL mem (pc + 1) lv (aL (x >>> (y.toInt64 &&& 63)) :: st)) : V p l e R s m args below meth c cells slots Q k nL mem pc lv (aI y :: aL x :: st) :=
  fun H locs ls hP hS hl => lv_lshr X.1 X.2.1 hd rfl (kk H locs ls hP hS hl)
theorem v_lcmp (X : CX p s m args meth c k cc nL own) {x y : Int64} (hd : decode cc pc = .ok (.lcmp, 1)) (kk : V p l e R s m args below meth c cells slots Q k nL mem (pc + 1) lv (aI (lg_cmp x y) :: st)) : V p l e R s m args below meth c cells slots Q k nL mem pc lv (aL y :: aL x :: st) :=
  fun H locs ls hP hS hl => W.lcmp X.1 X.2.1 hd (kk H locs ls hP hS hl)
theorem v_dup (X : CX p s m args meth c k cc nL own) {a : AV} (ha : acat a = 1) (hd : decode cc pc = .ok (.dup, 1)) (kk : V p l e R s m args below meth c cells slots Q k nL mem (pc + 1) lv (a :: a :: st)) : V p l e R s m args below meth c cells slots Q k nL mem pc lv (a :: st) :=
  fun H locs ls hP hS hl => lv_dup X.1 X.2.1 hd ((cv_cat k a).trans ha) (kk H locs ls hP hS hl)
theorem v_pop (X : CX p s m args meth c k cc nL own) {a : AV} (ha : acat a = 1) (hd : decode cc pc = .ok (.pop, 1)) (kk : V p l e R s m args below meth c cells slots Q k nL mem (pc + 1) lv st) : V p l e R s m args below meth c cells slots Q k nL mem pc lv (a :: st) :=
  fun H locs ls hP hS hl => lv_pop X.1 X.2.1 hd ((cv_cat k a).trans ha) (kk H locs ls hP hS hl)
theorem v_dup_x1 (X : CX p s m args meth c k cc nL own) {a b : AV} (ha : acat a = 1) (hb : acat b = 1) (hd : decode cc pc = .ok (.dup_x1, 1)) (kk : V p l e R s m args below meth c cells slots Q k nL mem (pc + 1) lv (a :: b :: a :: st)) : V p l e R s m args below meth c cells slots Q k nL mem pc lv (a :: b :: st) :=
  fun H locs ls hP hS hl => lv_dup_x1 X.1 X.2.1 hd ((cv_cat k a).trans ha) ((cv_cat k b).trans hb) (kk H locs ls hP hS hl)
theorem v_dup2 (X : CX p s m args meth c k cc nL own) {a b : AV} (ha : acat a = 1) (hb : acat b = 1) (hd : decode cc pc = .ok (.dup2, 1)) (kk : V p l e R s m args below meth c cells slots Q k nL mem (pc + 1) lv (a :: b :: a :: b :: st)) : V p l e R s m args below meth c cells slots Q k nL mem pc lv (a :: b :: st) :=
  fun H locs ls hP hS hl => lv_dup2_11 X.1 X.2.1 hd ((cv_cat k a).trans ha) ((cv_cat k b).trans hb) (kk H locs ls hP hS hl)
theorem v_goto (X : CX p s m args meth c k cc nL own) {off : Int} {tgt : Nat} (hd : decode cc pc = .ok (.goto off, 3)) (ht : (pc : Int) + off = (tgt : Int)) (kk : V p l e R s m args below meth c cells slots Q k nL mem tgt lv st) : V p l e R s m args below meth c cells slots Q k nL mem pc lv st :=
  fun H locs ls hP hS hl => lv_goto X.1 X.2.1 hd ht (kk H locs ls hP hS hl)
theorem v_icmp_eq (X : CX p s m args meth c k cc nL own) {x y : Int32} {off : Int} {tgt : Nat} {α : Type} {A B : Option α} {o : α} (h : (if x = y then A else B) = some o) (hd : decode cc pc = .ok (.if_icmp .eq off, 3)) (ht : (pc : Int) + off = (tgt : Int)) (k1 : A = some o → V p l e R s m args below meth c cells slots Q k nL mem tgt lv st) (k2 : B = some o → V p l e R s m args below meth c cells slots Q k nL mem (pc + 3) lv st) : V p l e R s m args below meth c cells slots Q k nL mem pc lv (aI y :: aI x :: st) :=
  fun H locs ls hP hS hl => lv_icmp_eq X.1 X.2.1 hd ht (fun q => k1 (it_t h q) H locs ls hP hS hl) (fun q => k2 (it_f h q) H locs ls hP hS hl)
theorem v_icmp_ne (X : CX p s m args meth c k cc nL own) {x y : Int32} {off : Int} {tgt : Nat} {α : Type} {A B : Option α} {o : α} (h : (if x = y then A else B) = some o) (hd : decode cc pc = .ok (.if_icmp .ne off, 3)) (ht : (pc : Int) + off = (tgt : Int)) (k1 : A = some o → V p l e R s m args below meth c cells slots Q k nL mem (pc + 3) lv st) (k2 : B = some o → V p l e R s m args below meth c cells slots Q k nL mem tgt lv st) : V p l e R s m args below meth c cells slots Q k nL mem pc lv (aI y :: aI x :: st) :=
  fun H locs ls hP hS hl => lv_icmp_ne X.1 X.2.1 hd ht (fun q => k2 (it_f h q) H locs ls hP hS hl) (fun q => k1 (it_t h q) H locs ls hP hS hl)
theorem v_icmp_lt (X : CX p s m args meth c k cc nL own) {x y : Int32} {off : Int} {tgt : Nat} {α : Type} {A B : Option α} {o : α} (h : (if x < y then A else B) = some o) (hd : decode cc pc = .ok (.if_icmp .lt off, 3)) (ht : (pc : Int) + off = (tgt : Int)) (k1 : A = some o → V p l e R s m args below meth c cells slots Q k nL mem tgt lv st) (k2 : B = some o → V p l e R s m args below meth c cells slots Q k nL mem (pc + 3) lv st) : V p l e R s m args below meth c cells slots Q k nL mem pc lv (aI y :: aI x :: st) :=
  fun H locs ls hP hS hl => lv_icmp_lt X.1 X.2.1 hd ht (fun q => k1 (it_t h q) H locs ls hP hS hl) (fun q => k2 (it_f h q) H locs ls hP hS hl)
theorem v_icmp_ge (X : CX p s m args meth c k cc nL own) {x y : Int32} {off : Int} {tgt : Nat} {α : Type} {A B : Option α} {o : α} (h : (if x < y then A else B) = some o) (hd : decode cc pc = .ok (.if_icmp .ge off, 3)) (ht : (pc : Int) + off = (tgt : Int)) (k1 : A = some o → V p l e R s m args below meth c cells slots Q k nL mem (pc + 3) lv st) (k2 : B = some o → V p l e R s m args below meth c cells slots Q k nL mem tgt lv st) : V p l e R s m args below meth c cells slots Q k nL mem pc lv (aI y :: aI x :: st) :=
  fun H locs ls hP hS hl => lv_icmp_ge X.1 X.2.1 hd ht (fun q => k2 (it_f h (Int32.not_lt.mpr q)) H locs ls hP hS hl) (fun q => k1 (it_t h (Int32.not_le.mp q)) H locs ls hP hS hl)
theorem v_icmp_gt (X : CX p s m args meth c k cc nL own) {x y : Int32} {off : Int} {tgt : Nat} {α : Type} {A B : Option α} {o : α} (h : (if y < x then A else B) = some o) (hd : decode cc pc = .ok (.if_icmp .gt off, 3)) (ht : (pc : Int) + off = (tgt : Int)) (k1 : A = some o → V p l e R s m args below meth c cells slots Q k nL mem tgt lv st) (k2 : B = some o → V p l e R s m args below meth c cells slots Q k nL mem (pc + 3) lv st) : V p l e R s m args below meth c cells slots Q k nL mem pc lv (aI y :: aI x :: st) :=
  fun H locs ls hP hS hl => lv_icmp_gt X.1 X.2.1 hd ht (fun q => k1 (it_t h q) H locs ls hP hS hl) (fun q => k2 (it_f h q) H locs ls hP hS hl)
theorem v_icmp_le (X : CX p s m args meth c k cc nL own) {x y : Int32} {off : Int} {tgt : Nat} {α : Type} {A B : Option α} {o : α} (h : (if y < x then A else B) = some o) (hd : decode cc pc = .ok (.if_icmp .le off, 3)) (ht : (pc : Int) + off = (tgt : Int)) (k1 : A = some o → V p l e R s m args below meth c cells slots Q k nL mem (pc + 3) lv st) (k2 : B = some o → V p l e R s m args below meth c cells slots Q k nL mem tgt lv st) : V p l e R s m args below meth c cells slots Q k nL mem pc lv (aI y :: aI x :: st) :=
  fun H locs ls hP hS hl => lv_icmp_le X.1 X.2.1 hd ht (fun q => k2 (it_f h (Int32.not_lt.mpr q)) H locs ls hP hS hl) (fun q => k1 (it_t h (Int32.not_le.mp q)) H locs ls hP hS hl)
theorem v_if_eq (X : CX p s m args meth c k cc nL own) {x : Int32} {off : Int} {tgt : Nat} {α : Type} {A B : Option α} {o : α} (h : (if x = 0 then A else B) = some o) (hd : decode cc pc = .ok (.ifCond .eq off, 3)) (ht : (pc : Int) + off = (tgt : Int)) (k1 : A = some o → V p l e R s m args below meth c cells slots Q k nL mem tgt lv st) (k2 : B = some o → V p l e R s m args below meth c cells slots Q k nL mem (pc + 3) lv st) : V p l e R s m args below meth c cells slots Q k nL mem pc lv (aI x :: st) :=
  fun H locs ls hP hS hl => lv_if_eq X.1 X.2.1 hd ht (fun q => k1 (it_t h q) H locs ls hP hS hl) (fun q => k2 (it_f h q) H locs ls hP hS hl)
theorem v_if_ne (X : CX p s m args meth c k cc nL own) {x : Int32} {off : Int} {tgt : Nat} {α : Type} {A B : Option α} {o : α} (h : (if x = 0 then A else B) = some o) (hd : decode cc pc = .ok (.ifCond .ne off, 3)) (ht : (pc : Int) + off = (tgt : Int)) (k1 : A = some o → V p l e R s m args below meth c cells slots Q k nL mem (pc + 3) lv st) (k2 : B = some o → V p l e R s m args below meth c cells slots Q k nL mem tgt lv st) : V p l e R s m args below meth c cells slots Q k nL mem pc lv (aI x :: st) :=
  fun H locs ls hP hS hl => lv_if_ne X.1 X.2.1 hd ht (fun q => k2 (it_f h q) H locs ls hP hS hl) (fun q => k1 (it_t h q) H locs ls hP hS hl)
theorem v_if_lt (X : CX p s m args meth c k cc nL own) {x : Int32} {off : Int} {tgt : Nat} {α : Type} {A B : Option α} {o : α} (h : (if x < 0 then A else B) = some o) (hd : decode cc pc = .ok (.ifCond .lt off, 3)) (ht : (pc : Int) + off = (tgt : Int)) (k1 : A = some o → V p l e R s m args below meth c cells slots Q k nL mem tgt lv st) (k2 : B = some o → V p l e R s m args below meth c cells slots Q k nL mem (pc + 3) lv st) : V p l e R s m args below meth c cells slots Q k nL mem pc lv (aI x :: st) :=
  fun H locs ls hP hS hl => lv_if_lt X.1 X.2.1 hd ht (fun q => k1 (it_t h q) H locs ls hP hS hl) (fun q => k2 (it_f h q) H locs ls hP hS hl)
theorem v_if_ge (X : CX p s m args meth c k cc nL own) {x : Int32} {off : Int} {tgt : Nat} {α : Type} {A B : Option α} {o : α} (h : (if x < 0 then A else B) = some o) (hd : decode cc pc = .ok (.ifCond .ge off, 3)) (ht : (pc : Int) + off = (tgt : Int)) (k1 : A = some o → V p l e R s m args below meth c cells slots Q k nL mem (pc + 3) lv st) (k2 : B = some o → V p l e R s m args below meth c cells slots Q k nL mem tgt lv st) : V p l e R s m args below meth c cells slots Q k nL mem pc lv (aI x :: st) :=
  fun H locs ls hP hS hl => lv_if_ge X.1 X.2.1 hd ht (fun q => k2 (it_f h (Int32.not_lt.mpr q)) H locs ls hP hS hl) (fun q => k1 (it_t h (Int32.not_le.mp q)) H locs ls hP hS hl)
theorem v_if_gt (X : CX p s m args meth c k cc nL own) {x : Int32} {off : Int} {tgt : Nat} {α : Type} {A B : Option α} {o : α} (h : (if 0 < x then A else B) = some o) (hd : decode cc pc = .ok (.ifCond .gt off, 3)) (ht : (pc : Int) + off = (tgt : Int)) (k1 : A = some o → V p l e R s m args below meth c cells slots Q k nL mem tgt lv st) (k2 : B = some o → V p l e R s m args below meth c cells slots Q k nL mem (pc + 3) lv st) : V p l e R s m args below meth c cells slots Q k nL mem pc lv (aI x :: st) :=
  fun H locs ls hP hS hl => lv_if_gt X.1 X.2.1 hd ht (fun q => k1 (it_t h q) H locs ls hP hS hl) (fun q => k2 (it_f h q) H locs ls hP hS hl)
theorem v_if_le (X : CX p s m args meth c k cc nL own) {x : Int32} {off : Int} {tgt : Nat} {α : Type} {A B : Option α} {o : α} (h : (if 0 < x then A else B) = some o) (hd : decode cc pc = .ok (.ifCond .le off, 3)) (ht : (pc : Int) + off = (tgt : Int)) (k1 : A = some o → V p l e R s m args below meth c cells slots Q k nL mem (pc + 3) lv st) (k2 : B = some o → V p l e R s m args below meth c cells slots Q k nL mem tgt lv st) : V p l e R s m args below meth c cells slots Q k nL mem pc lv (aI x :: st) :=
  fun H locs ls hP hS hl => lv_if_le X.1 X.2.1 hd ht (fun q => k2 (it_f h (Int32.not_lt.mpr q)) H locs ls hP hS hl) (fun q => k1 (it_t h (Int32.not_le.mp q)) H locs ls hP hS hl)
theorem v_tsw (X : CX p s m args meth c k cc nL own) {dflt lo hi : Int} {offs : Array Int} {len : Nat} {x : Int32} {off : Int} {tgt : Nat} (v : Int32) (hx : x = v) (hd : decode cc pc = .ok (.tableswitch dflt lo hi offs, len)) (h1 : ¬ v.toInt < lo) (h2 : ¬ hi < v.toInt) (ho : offs[(v.toInt - lo).toNat]? = some off) (ht : (pc : Int) + off = (tgt : Int)) (kk : V p l e R s m args below meth c cells slots Q k nL mem tgt lv st) : V p l e R s m args below meth c cells slots Q k nL mem pc lv (aI x :: st) :=
  fun H locs ls hP hS hl => lv_tableIn X.1 X.2.1 hd (by rw [hx]; exact h1) (by rw [hx]; exact h2) (by rw [hx]; exact ho) ht (kk H locs ls hP hS hl)
theorem v_tswD (X : CX p s m args meth c k cc nL own) {dflt lo hi : Int} {offs : Array Int} {len : Nat} {x : Int32} {tgt : Nat} (hx : x.toInt < lo ∨ hi < x.toInt) (hd : decode cc pc = .ok (.tableswitch dflt lo hi offs, len)) (ht : (pc : Int) + dflt = (tgt : Int)) (kk : V p l e R s m args below meth c cells slots Q k nL mem tgt lv st) : V p l e R s m args below meth c cells slots Q k nL mem pc lv (aI x :: st) :=
  fun H locs ls hP hS hl => lv_tableOut X.1 X.2.1 hd hx ht (kk H locs ls hP hS hl)
end ROWS
end
section
/-! THE ROWS of cells: fields, arrays, statics, literals, copies, calls, ends. -/
theorem vp_of_lt {x : Int32} {n : Nat} (h : vp_in x n) : x.toNatClampNeg < n := Nat.not_le.mp (fun q => h (Or.inr q))
section CELLS
variable {p : Program} {l : Launch} {e : Env} {R : Room} {s : State} {m : MethodId} {args : Array Value} {below : List Frame} {meth : Method} {c : Code} {cells slots : Nat} {Q : State → Prop} {k : KK} {nL : Nat} {mem : Mem} {pc : Nat} {lv lv' : List (Nat × AV)} {st : List AV} {cc : ByteArray} {own : String}
theorem v_get (X : CX p s m args meth c k cc nL own) {t i ci idx : Nat} {C ref n d : String} {T : u_T} {N : Nat} {fs : List Value} (j : Nat) {a : AV} (ht : t < 23) (hi : i < nT t) (hc : ce (kC k) (ka k) mem t i = .inr (ci, fs)) (hv : fs[j]? = some (cv k a)) (hcl : wcl[ci]? = some (C, T, N)) (hin : ∀ w ∈ u_ws C T N, w ∈ wG) (hj : j < N)
    (hq : Cond.fieldLink own idx ref n d ∈ wG) (hn : T j = (ref, n, d, (T j).2.2.2)) (hd : decode cc pc = .ok (.getfield idx, 3)) (kk : V p l e R s m args below meth c cells slots Q k nL mem (pc + 3) lv (a :: st)) : V p l e R s m args below meth c cells slots Q k nL mem pc lv (aR t i :: st) := by
  intro H locs ls hP hS hl
  have e1 : (T j).1 = ref := by rw [hn]
  have e2 : (T j).2.1 = n := by rw [hn]
  have e3 : (T j).2.2.1 = d := by rw [hn]
  have hw := wl_at (cT := kC k) (ad := ka k) (m := mem) ht hi
  rw [hc] at hw
  exact va_get (D := kD k) X.1 X.2.1 X.2.2.2.2.1 hin X.2.2.2.1 X.2.2.2.2.2.1.1 hP (oT t + i) hw hcl j hj (by rw [e2, e3]; exact X.2.2.2.2.1 _ hq) (fun x hx => by rw [e1] at hx; exact hx) hv hd (kk H locs ls hP hS hl)
theorem v_put (X : CX p s m args meth c k cc nL own) {t i ci idx : Nat} {C ref n d : String} {T : u_T} {ty : Nat → FieldType} {N : Nat} {fs : List Value} (j : Nat) {a : AV} {mem' : Mem} (ht : t < 23) (hi : i < nT t) (hc : ce (kC k) (ka k) mem t i = .inr (ci, fs)) (hc' : ce (kC k) (ka k) mem' t i = .inr (ci, fs.set j (cv k a))) (hm : ∀ t' i', ¬ (t' = t ∧ i' = i) → gI mem' t' i' = gI mem t' i' ∧ gL mem' t' i' = gL mem t' i') (hcl : wcl[ci]? = some (C, T, N)) (hin : ∀ w ∈ u_ws C T N, w ∈ wG) (hty : ∀ k, k < N → parseFieldDescriptor (T k).2.2.1 = some (ty k)) (hnm : ∀ a, a < N → ∀ b, b < N → a ≠ b → (T a).2.1 ≠ (T b).2.1) (hj : j < N)
    (hq : Cond.fieldLink own idx ref n d ∈ wG) (hn : T j = (ref, n, d, false)) (hna : narrow (ty j) (cv k a) = cv k a) (hfi : fits (ty j) (cv k a) = true) (hlf : j < fs.length) (hd : decode cc pc = .ok (.putfield idx, 3)) (kk : V p l e R s m args below meth c cells slots Q k nL mem' (pc + 3) lv st) : V p l e R s m args below meth c cells slots Q k nL mem pc lv (a :: aR t i :: st) := by
  intro H locs ls hP hS hl
  have e1 : (T j).1 = ref := by rw [hn]
  have e2 : (T j).2.1 = n := by rw [hn]
  have e3 : (T j).2.2.1 = d := by rw [hn]
  have hw := wl_at (cT := kC k) (ad := ka k) (m := mem) ht hi
  rw [hc] at hw
  refine va_put (D := kD k) X.1 X.2.1 X.2.2.2.2.1 hin ty hty hnm X.2.2.2.1 X.2.2.2.2.2.1.1 hP (X.2.2.2.2.2.1.2.1 mem) hS (oT t + i) hw hcl j hj (by rw [e2, e3]; exact X.2.2.2.2.1 _ hq) (fun x hx => by rw [e1] at hx; exact hx) (by rw [hn]) (hty j hj) hna hfi hlf hd (fun H1 locs1 hP1 _ hS1 => ?_)
  rw [← hc', wl_set ht hi hm] at hP1
  exact kk H1 locs1 ls hP1 hS1 hl
theorem v_iald (X : CX p s m args meth c k cc nL own) {t i n : Nat} {x : Int32} {α : Type} {A : Option α} {o : α} (h : ck x n A = some o) (ht : t < 23) (hi : i < nT t) (hc : ce (kC k) (ka k) mem t i = .inl (kC k 0, n, .inl (gI mem t i))) (hd : decode cc pc = .ok (.iaload, 1)) (kk : A = some o → V p l e R s m args below meth c cells slots Q k nL mem (pc + 1) lv (aI (gI mem t i x.toNatClampNeg) :: st)) : V p l e R s m args below meth c cells slots Q k nL mem pc lv (aI x :: aR t i :: st) := by
  intro H locs ls hP hS hl
  obtain ⟨h1, h2, h3⟩ := ck_some h
  have hw := wl_at (cT := kC k) (ad := ka k) (m := mem) ht hi
  rw [hc] at hw
  exact va_iald (D := kD k) X.1 X.2.1 X.2.2.2.2.2.1.1 hP (oT t + i) 0 hw rfl h1 hd (kk h3 H locs ls hP hS hl)
theorem v_lald (X : CX p s m args meth c k cc nL own) {t i n : Nat} {x : Int32} {α : Type} {A : Option α} {o : α} (h : ck x n A = some o) (ht : t < 23) (hi : i < nT t) (hc : ce (kC k) (ka k) mem t i = .inl (kC k 1, n, .inr (.inl (gL mem t i)))) (hd : decode cc pc = .ok (.laload, 1)) (kk : A = some o → V p l e R s m args below meth c cells slots Q k nL mem (pc + 1) lv (aL (gL mem t i x.toNatClampNeg) :: st)) : V p l e R s m args below meth c cells slots Q k nL mem pc lv (aI x :: aR t i :: st) := by
  intro H locs ls hP hS hl
  obtain ⟨h1, h2, h3⟩ := ck_some h
  have hw := wl_at (cT := kC k) (ad := ka k) (m := mem) ht hi
  rw [hc] at hw
  exact va_lald (D := kD k) X.1 X.2.1 X.2.2.2.2.2.1.1 hP (oT t + i) 1 hw rfl h1 hd (kk h3 H locs ls hP hS hl)
theorem v_iast (X : CX p s m args meth c k cc nL own) {t i n : Nat} {x y : Int32} {α : Type} {A : Option α} {o : α} (h : ck x n A = some o) (ht : t < 23) (hi : i < nT t) (hc : ∀ mem, ce (kC k) (ka k) mem t i = .inl (kC k 0, n, .inl (gI mem t i))) (hd : decode cc pc = .ok (.iastore, 1)) (kk : A = some o → V p l e R s m args below meth c cells slots Q k nL (sI mem t i x.toNatClampNeg y) (pc + 1) lv st) : V p l e R s m args below meth c cells slots Q k nL mem pc lv (aI y :: aI x :: aR t i :: st) := by
  intro H locs ls hP hS hl
  obtain ⟨h1, h2, h3⟩ := ck_some h
  have hw := wl_at (cT := kC k) (ad := ka k) (m := mem) ht hi
  rw [hc] at hw
  refine va_iast (D := kD k) X.1 X.2.1 X.2.2.2.2.2.1.1 hP (X.2.2.2.2.2.1.2.1 mem) hS (oT t + i) 0 hw rfl h1 hd (fun H1 locs1 hP1 _ hS1 => ?_)
  have hc' := hc (sI mem t i x.toNatClampNeg y)
  rw [rowI_eq] at hc'
  rw [← hc', wl_set ht hi rowI_ne] at hP1
  exact kk h3 H1 locs1 ls hP1 hS1 hl
theorem v_last (X : CX p s m args meth c k cc nL own) {t i n : Nat} {x : Int32} {y : Int64} {α : Type} {A : Option α} {o : α} (h : ck x n A = some o) (ht : t < 23) (hi : i < nT t) (hc : ∀ mem, ce (kC k) (ka k) mem t i = .inl (kC k 1, n, .inr (.inl (gL mem t i)))) (hd : decode cc pc = .ok (.lastore, 1)) (kk : A = some o → V p l e R s m args below meth c cells slots Q k nL (sL mem t i x.toNatClampNeg y) (pc + 1) lv st) : V p l e R s m args below meth c cells slots Q k nL mem pc lv (aL y :: aI x :: aR t i :: st) := by
  intro H locs ls hP hS hl
  obtain ⟨h1, h2, h3⟩ := ck_some h
  have hw := wl_at (cT := kC k) (ad := ka k) (m := mem) ht hi
  rw [hc] at hw
  refine va_last (D := kD k) X.1 X.2.1 X.2.2.2.2.2.1.1 hP (X.2.2.2.2.2.1.2.1 mem) hS (oT t + i) 1 hw rfl h1 hd (fun H1 locs1 hP1 _ hS1 => ?_)
  have hc' := hc (sL mem t i x.toNatClampNeg y)
  rw [rowL_eq] at hc'
  rw [← hc', wl_set ht hi rowL_ne] at hP1
  exact kk h3 H1 locs1 ls hP1 hS1 hl
/-- a row of the walls -/
theorem v_aaldW (X : CX p s m args meth c k cc nL own) {i : Nat} {x : Int32} {α : Type} {A : Option α} {o : α} (h : ck x 10 A = some o) (hi : i < 3) (hd : decode cc pc = .ok (.aaload, 1)) (kk : 10 * i + x.toNatClampNeg < 30 → A = some o → V p l e R s m args below meth c cells slots Q k nL mem (pc + 1) lv (aR 4 (10 * i + x.toNatClampNeg) :: st)) : V p l e R s m args below meth c cells slots Q k nL mem pc lv (aI x :: aR 3 i :: st) := by
  intro H locs ls hP hS hl
  obtain ⟨h1, h2, h3⟩ := ck_some h
  have hw := wl_at (cT := kC k) (ad := ka k) (m := mem) (t := 3) (i := i) (by decide) hi
  exact W.aald (v := .ref (ka k (oT 4 + (10 * i + x.toNatClampNeg)))) (ty := .array .int) X.1 X.2.1 (hP (oT 3 + i) _ hw) ((X.2.2.2.2.2.1.1.2 2 _ rfl).1 10 (fun j => va_rf (some (ka k (oT 4 + (10 * i + j)))))) rfl (fun q => by cases q) (by show ¬ (x < 0 ∨ (arrV _ _ _).slots.size ≤ _); rw [arrV_size]; exact h1) (by show (arrV _ _ _).slots[_]? = _; rw [arrV_read _ _ h2]; rfl) rfl rfl hd (kk (by omega) h3 H locs ls hP hS hl)
/-- one of the sheets -/
theorem v_aaldS (X : CX p s m args meth c k cc nL own) {i : Nat} {x : Int32} {α : Type} {A : Option α} {o : α} (h : ck x 4 A = some o) (hi : i < 1) (hd : decode cc pc = .ok (.aaload, 1)) (kk : x.toNatClampNeg < 4 → A = some o → V p l e R s m args below meth c cells slots Q k nL mem (pc + 1) lv (aR 8 x.toNatClampNeg :: st)) : V p l e R s m args below meth c cells slots Q k nL mem pc lv (aI x :: aR 7 i :: st) := by
  intro H locs ls hP hS hl
  obtain ⟨h1, h2, h3⟩ := ck_some h
  have hw := wl_at (cT := kC k) (ad := ka k) (m := mem) (t := 7) (i := i) (by decide) hi
  exact va_aldq (D := kD k) X.1 X.2.1 X.2.2.2.2.2.1.1 hP (oT 7 + i) 3 hw rfl h1 hd (kk h2 h3 H locs ls hP hS hl)
theorem v_alenI (X : CX p s m args meth c k cc nL own) {t i n : Nat} {v : Int32} (hv : Int32.ofNat n = v) (ht : t < 23) (hi : i < nT t) (hc : ce (kC k) (ka k) mem t i = .inl (kC k 0, n, .inl (gI mem t i))) (hd : decode cc pc = .ok (.arraylength, 1)) (kk : V p l e R s m args below meth c cells slots Q k nL mem (pc + 1) lv (aI v :: st)) : V p l e R s m args below meth c cells slots Q k nL mem pc lv (aR t i :: st) := by
  intro H locs ls hP hS hl
  have hw := wl_at (cT := kC k) (ad := ka k) (m := mem) ht hi
  rw [hc] at hw
  exact va_alen (D := kD k) X.1 X.2.1 X.2.2.2.2.2.1.1 hP (oT t + i) 0 hw rfl hv hd (kk H locs ls hP hS hl)
theorem v_alenL (X : CX p s m args meth c k cc nL own) {t i n : Nat} {v : Int32} (hv : Int32.ofNat n = v) (ht : t < 23) (hi : i < nT t) (hc : ce (kC k) (ka k) mem t i = .inl (kC k 1, n, .inr (.inl (gL mem t i)))) (hd : decode cc pc = .ok (.arraylength, 1)) (kk : V p l e R s m args below meth c cells slots Q k nL mem (pc + 1) lv (aI v :: st)) : V p l e R s m args below meth c cells slots Q k nL mem pc lv (aR t i :: st) := by
  intro H locs ls hP hS hl
  have hw := wl_at (cT := kC k) (ad := ka k) (m := mem) ht hi
  rw [hc] at hw
  exact va_alen (D := kD k) X.1 X.2.1 X.2.2.2.2.2.1.1 hP (oT t + i) 1 hw rfl hv hd (kk H locs ls hP hS hl)
/-- the script -/
theorem v_sld (X : CX p s m args meth c k cc nL own) {x : Int32} {α : Type} {A : Option α} {o : α} (h : ck x (kL k) A = some o) (hd : decode cc pc = .ok (.iaload, 1)) (kk : A = some o → V p l e R s m args below meth c cells slots Q k nL mem (pc + 1) lv (aI (kx k x.toNatClampNeg) :: st)) : V p l e R s m args below meth c cells slots Q k nL mem pc lv (aI x :: aR 24 0 :: st) := by
  intro H locs ls hP hS hl
  obtain ⟨h1, h2, h3⟩ := ck_some h
  obtain ⟨-, -, g3, -, -, g10, g11⟩ := X.2.2.2.2.2.1
  exact va_sld (A := kA k) X.1 X.2.1 g10 (Nat.lt_of_lt_of_le g11 g3) (Nat.not_le.mpr g11) hS h1 hd (kk h3 H locs ls hP hS hl)
theorem v_slen (X : CX p s m args meth c k cc nL own) (hd : decode cc pc = .ok (.arraylength, 1)) (kk : V p l e R s m args below meth c cells slots Q k nL mem (pc + 1) lv (aI (Int32.ofNat (kL k)) :: st)) : V p l e R s m args below meth c cells slots Q k nL mem pc lv (aR 24 0 :: st) := by
  intro H locs ls hP hS hl
  obtain ⟨-, -, g3, -, -, g10, g11⟩ := X.2.2.2.2.2.1
  exact va_slen (A := kA k) X.1 X.2.1 g10 (Nat.lt_of_lt_of_le g11 g3) (Nat.not_le.mpr g11) hS hd (kk H locs ls hP hS hl)
/-- static rows -/
theorem v_gets (X : CX p s m args meth c k cc nL own) {idx : Nat} (i : Nat) (hi : i < 3) (hq : Cond.fieldLink own idx "WallShifts" (stN i) "[I" ∈ wG) (hd : decode cc pc = .ok (.getstatic idx, 3)) (kk : V p l e R s m args below meth c cells slots Q k nL mem (pc + 3) lv (aR 23 i :: st)) : V p l e R s m args below meth c cells slots Q k nL mem pc lv st :=
  fun H locs ls hP hS hl => va_gets (A := kA k) X.1 X.2.1 (X.2.2.2.2.2.1.2.2.2.2.1 i hi).1 hS X.2.2.2.1 (X.2.2.2.2.1 _ hq) (fun _ h => h) hd (kk H locs ls hP hS hl)
theorem v_getsN (X : CX p s m args meth c k cc nL own) {idx : Nat} (i : Nat) (hi : i < 3) (hq : Cond.fieldLinkNest own idx "WallShifts" (stN i) "[I" "WallShifts" ∈ wNests) (hd : decode cc pc = .ok (.getstatic idx, 3)) (kk : V p l e R s m args below meth c cells slots Q k nL mem (pc + 3) lv (aR 23 i :: st)) : V p l e R s m args below meth c cells slots Q k nL mem pc lv st :=
  fun H locs ls hP hS hl => va_getsN (A := kA k) X.1 X.2.1 (X.2.2.2.2.2.1.2.2.2.2.1 i hi).1 hS X.2.2.2.1 (va_Nw.use rfl (X.2.2.2.2.2.1.2.2.2.1 _ hq)) (fun _ h => h) hd (kk H locs ls hP hS hl)
theorem v_stld (X : CX p s m args meth c k cc nL own) {i : Nat} {x : Int32} {α : Type} {A : Option α} {o : α} (h : ck x (stV i).length A = some o) (hi : i < 3) (hd : decode cc pc = .ok (.iaload, 1)) (kk : A = some o → V p l e R s m args below meth c cells slots Q k nL mem (pc + 1) lv (aI (stc i x.toNatClampNeg) :: st)) : V p l e R s m args below meth c cells slots Q k nL mem pc lv (aI x :: aR 23 i :: st) := by
  intro H locs ls hP hS hl
  obtain ⟨h1, h2, h3⟩ := ck_some h
  exact va_ti (A := kA k) X.1 X.2.1 (X.2.2.2.2.2.1.2.2.2.2.1 i hi).2 hS h1 rfl hd (kk h3 H locs ls hP hS hl)
end CELLS
end
section
/-! THE ROWS of calls, copies and ends. -/
abbrev rmO (fr lo fr' lo' n : Nat) : Prop := fr + 1 ≤ fr' ∧ 8 + (n + 11) + lo ≤ lo'
section CALLS
variable {p : Program} {l : Launch} {e : Env} {R : Room} {s : State} {m : MethodId} {args : Array Value} {below : List Frame} {meth : Method} {c : Code} {cells slots : Nat} {Q : State → Prop} {k : KK} {nL : Nat} {mem : Mem} {pc : Nat} {lv lv' : List (Nat × AV)} {st : List AV} {cc : ByteArray} {own : String}
/-- behind a call -/
theorem v_goes {H : Heap} {locs : List Loc} {ls : Array Slot} {st0 rest : List Value} {r : Option AV} {mem1 : Mem} {a : Array Value} (hr : va_Run p l e R s m args below meth c H locs cells slots 0 0 (F0 m pc ls st0) rest (RQc k r mem1 a) (kA k)) (hS : va_S (kA k) s.heap H locs)
    (kk : ∀ (H1 : Heap) (locs1 : List Loc), va_P (kD k) wcl (wl (kC k) (ka k) mem1) H1 → va_S (kA k) s.heap H1 locs1 → W p l e R s m args below meth c H1 locs1 cells slots Q (F0 m (pc + 3) ls ((r.map (cv k)).toList ++ rest))) : W p l e R s m args below meth c H locs cells slots Q (F0 m pc ls st0) := by
  intro T hT X
  obtain ⟨v, st₀, t, T', L, h0, X', hL, e1, e2, ⟨hv, hP1, hz, hk⟩, st⟩ := hr T hT X
  have hv' : v = r.map (cv k) := Outcome.returned.inj hv
  subst hv'
  rw [h0] at hz hk
  obtain ⟨t2, a1, b1⟩ := kk t.heap (locs ++ L) hP1 ⟨Nat.le_trans hS.1 hz, fun q h1 h2 => by rw [hk q (Nat.lt_of_lt_of_le h1 hS.1) h2]; exact hS.2.1 q h1 h2, fun q hq => by
      rcases List.mem_append.mp hq with h | h
      · exact hS.2.2 q h
      · exact hL q h⟩ T' e1 X'
  exact ⟨t2, st t2 a1, b1⟩
theorem blindK (as : List AV) : FrameBlind (RPc k as mem) := fun a U g mk q => by
  obtain ⟨q1, q2, q3⟩ := q
  exact ⟨q1, KF.same (u := U) (U := U.calling g mk a) rfl rfl q2, q3⟩
theorem preS_of (X : CX p s m args meth c k cc nL own) {H : Heap} {locs : List Loc} (hP : va_P (kD k) wcl (wl (kC k) (ka k) mem) H) (hS : va_S (kA k) s.heap H locs) (as : List AV) : PreS s H (RPc k as mem) (as.map (cv k)) :=
  ⟨blindK as, fun U hU hW => ⟨rfl, X.2.2.2.2.2.1.go hW hU hS, by rw [hU]; exact hP⟩⟩
theorem cat_of (k : KK) (st : List AV) (h : slA st ≤ 8) : ((st.map (cv k)).map fun v => v.category).sum ≤ 8 := by
  rw [List.map_map]
  have : (fun v => v.category) ∘ cv k = acat := funext fun v => cv_cat k v
  rw [this]
  exact h
/-- the words of a call of an own class's method on an object -/
def okV (own : String) (idx : Nat) (y : MethodName) (b : ByteArray) (n : Nat) (ret : Option FieldType) (na : Nat) : Prop :=
  (∀ w ∈ wsV own idx y.cls y (wM y b n ret), w ∈ wG) ∧ y.cls ≠ "java/lang/invoke/MethodHandle" ∧ y.cls ≠ "java/lang/invoke/VarHandle" ∧ (parseMethodDescriptor y.desc).map (fun d => d.parameters.length) = some na
def okS (own : String) (idx : Nat) (y : MethodName) (b : ByteArray) (n : Nat) (ret : Option FieldType) (na : Nat) : Prop :=
  (∀ w ∈ va_wsS own idx y (wM y b n ret), w ∈ wG) ∧ y.cls ≠ "java/lang/invoke/MethodHandle" ∧ y.cls ≠ "java/lang/invoke/VarHandle" ∧ (parseMethodDescriptor y.desc).map (fun d => d.parameters.length) = some na
def okN (own : String) (idx : Nat) (y : MethodName) (b : ByteArray) (n : Nat) (ret : Option FieldType) (na : Nat) : Prop :=
  (∀ w ∈ [Cond.static y, .initialized y.cls] ++ wM y b n ret, w ∈ wG) ∧ Cond.methodLinkNest own idx y "WallShifts" ∈ wNests ∧ y.cls ≠ "java/lang/invoke/MethodHandle" ∧ y.cls ≠ "java/lang/invoke/VarHandle" ∧ (parseMethodDescriptor y.desc).map (fun d => d.parameters.length) = some na
theorem okV_of {own : String} {idx : Nat} {y : MethodName} {b : ByteArray} {n : Nat} {ret : Option FieldType} {na : Nat} (h1 : Cond.methodLink own idx y ∈ wG) (h2 : Cond.instanceMethod y ∈ wG) (h3 : Cond.selects y.cls y y ∈ wG) (h4 : Cond.initialized y.cls ∈ wG) (h5 : Cond.code y b n ret ∈ wG)
    (h6 : y.cls ≠ "java/lang/invoke/MethodHandle" ∧ y.cls ≠ "java/lang/invoke/VarHandle" ∧ (parseMethodDescriptor y.desc).map (fun d => d.parameters.length) = some na) : okV own idx y b n ret na := by
  refine ⟨fun w hw => ?_, h6⟩
  unfold wsV at hw
  simp only [List.mem_append, List.mem_cons, List.not_mem_nil, or_false] at hw
  rcases hw with (rfl | rfl | rfl | rfl) | rfl | hw
  · exact h1
  · exact h2
  · exact h3
  · exact h4
  · exact h5
  · exact hw
theorem okS_of {own : String} {idx : Nat} {y : MethodName} {b : ByteArray} {n : Nat} {ret : Option FieldType} {na : Nat} (h1 : Cond.methodLink own idx y ∈ wG) (h2 : Cond.static y ∈ wG) (h4 : Cond.initialized y.cls ∈ wG) (h5 : Cond.code y b n ret ∈ wG)
    (h6 : y.cls ≠ "java/lang/invoke/MethodHandle" ∧ y.cls ≠ "java/lang/invoke/VarHandle" ∧ (parseMethodDescriptor y.desc).map (fun d => d.parameters.length) = some na) : okS own idx y b n ret na := by
  refine ⟨fun w hw => ?_, h6⟩
  unfold va_wsS at hw
  simp only [List.mem_append, List.mem_cons, List.not_mem_nil, or_false] at hw
  rcases hw with (rfl | rfl | rfl) | rfl | hw
  · exact h1
  · exact h2
  · exact h4
  · exact h5
  · exact hw
theorem okN_of {own : String} {idx : Nat} {y : MethodName} {b : ByteArray} {n : Nat} {ret : Option FieldType} {na : Nat} (h1 : Cond.methodLinkNest own idx y "WallShifts" ∈ wNests) (h2 : Cond.static y ∈ wG) (h4 : Cond.initialized y.cls ∈ wG) (h5 : Cond.code y b n ret ∈ wG)
    (h6 : y.cls ≠ "java/lang/invoke/MethodHandle" ∧ y.cls ≠ "java/lang/invoke/VarHandle" ∧ (parseMethodDescriptor y.desc).map (fun d => d.parameters.length) = some na) : okN own idx y b n ret na := by
  refine ⟨fun w hw => ?_, h1, h6⟩
  simp only [List.mem_append, List.mem_cons, List.not_mem_nil, or_false] at hw
  rcases hw with (rfl | rfl) | rfl | hw
  · exact h2
  · exact h4
  · exact h5
  · exact hw
/-- a call on an object of a class of ours -/
theorem v_callV (X : CX p s m args meth c k cc nL own) {idx na n fr lo : Nat} {y : MethodName} {b : ByteArray} {ret : Option FieldType} {t i ci : Nat} {T : u_T} {N : Nat} {fs : List Value} (as : List AV) (st : List AV) {r : Option AV} {mem1 : Mem} (ok : okV own idx y b n ret na) (hM : RT y b n ret (rmM fr lo) (aR t i :: as) mem r mem1)
    (hn : as.length = na) (hst : slA st ≤ 8) (hR : rmO fr lo R.frames R.locals n) (hf : cells ≤ R.cells ∧ slots ≤ R.slots) (ht : t < 23) (hi : i < nT t) (hc : ce (kC k) (ka k) mem t i = .inr (ci, fs)) (hcl : wcl[ci]? = some (y.cls, T, N)) (hd : decode cc pc = .ok (.invokevirtual idx, 3))
    (kk : V p l e R s m args below meth c cells slots Q k nL mem1 (pc + 3) lv (r.toList ++ st)) : V p l e R s m args below meth c cells slots Q k nL mem pc lv (as.reverse ++ aR t i :: st) := by
  intro H locs ls hP hS hl
  have hw := wl_at (cT := kC k) (ad := ka k) (m := mem) ht hi
  rw [hc] at hw
  have pre := preS_of X hP hS (aR t i :: as)
  refine v_goes (r := r) (va_runV (As := as.map (cv k)) (rest := st.map (cv k)) (b := ka k (oT t + i)) ⟨X.1, X.2.1, X.2.2.1, X.2.2.2.1, X.2.2.2.2.1⟩ (hM l k) (cwV na X.2.2.2.2.1 (wG_all ok.1) rfl rfl rfl ⟨rfl, ok.2⟩ ⟨hR.1, hR.2⟩) ⟨pre.1, va_recv X.2.2.2.2.2.1.1 hP hcl hw, pre.2⟩ rfl (by rw [List.length_map, hn]) hl.1 ?_ (lv_room (ls := ls) (cat_of k st hst)) hd hf) hS (fun H1 locs1 hP1 hS1 => ?_)
  · show List.map (cv k) (as.reverse ++ aR t i :: st) = _
    rw [List.map_append, List.map_reverse]
    rfl
  · have := kk H1 locs1 ls hP1 hS1 hl
    rw [List.map_append] at this
    cases r <;> exact this
theorem v_callS (X : CX p s m args meth c k cc nL own) {idx na n fr lo : Nat} {y : MethodName} {b : ByteArray} {ret : Option FieldType} (as : List AV) (st : List AV) {r : Option AV} {mem1 : Mem} (ok : okS own idx y b n ret na) (hM : RT y b n ret (rmM fr lo) as mem r mem1)
    (hn : as.length = na) (hst : slA st ≤ 8) (hR : rmO fr lo R.frames R.locals n) (hf : cells ≤ R.cells ∧ slots ≤ R.slots) (hd : decode cc pc = .ok (.invokestatic idx, 3))
    (kk : V p l e R s m args below meth c cells slots Q k nL mem1 (pc + 3) lv (r.toList ++ st)) : V p l e R s m args below meth c cells slots Q k nL mem pc lv (as.reverse ++ st) := by
  intro H locs ls hP hS hl
  have pre := preS_of X hP hS as
  refine v_goes (r := r) (va_runS (As := as.map (cv k)) (rest := st.map (cv k)) ⟨X.1, X.2.1, X.2.2.1, X.2.2.2.1, X.2.2.2.2.1⟩ (hM l k) (va_cwS na X.2.2.2.2.1 (wG_all ok.1) rfl rfl rfl ok.2 ⟨hR.1, hR.2⟩) pre rfl (by rw [List.length_map, hn]) hl.1 ?_ (lv_room (ls := ls) (cat_of k st hst)) hd hf) hS (fun H1 locs1 hP1 hS1 => ?_)
  · show List.map (cv k) (as.reverse ++ st) = _
    rw [List.map_append, List.map_reverse]
  · have := kk H1 locs1 ls hP1 hS1 hl
    rw [List.map_append] at this
    cases r <;> exact this
/-- of a method that reads the script -/
theorem v_callSx (X : CX p s m args meth c k cc nL own) {idx na n fr lo : Nat} {y : MethodName} {b : ByteArray} {ret : Option FieldType} (as : List AV) (st : List AV) {r : Option AV} {mem1 : Mem} (ok : okS own idx y b n ret na) (hM : RTx (kL k) (kx k) y b n ret (rmM fr lo) as mem r mem1)
    (hn : as.length = na) (hst : slA st ≤ 8) (hR : rmO fr lo R.frames R.locals n) (hf : cells ≤ R.cells ∧ slots ≤ R.slots) (hd : decode cc pc = .ok (.invokestatic idx, 3))
    (kk : V p l e R s m args below meth c cells slots Q k nL mem1 (pc + 3) lv (r.toList ++ st)) : V p l e R s m args below meth c cells slots Q k nL mem pc lv (as.reverse ++ st) := by
  intro H locs ls hP hS hl
  have pre := preS_of X hP hS as
  refine v_goes (r := r) (va_runS (As := as.map (cv k)) (rest := st.map (cv k)) ⟨X.1, X.2.1, X.2.2.1, X.2.2.2.1, X.2.2.2.2.1⟩ (hM l k rfl rfl) (va_cwS na X.2.2.2.2.1 (wG_all ok.1) rfl rfl rfl ok.2 ⟨hR.1, hR.2⟩) pre rfl (by rw [List.length_map, hn]) hl.1 ?_ (lv_room (ls := ls) (cat_of k st hst)) hd hf) hS (fun H1 locs1 hP1 hS1 => ?_)
  · show List.map (cv k) (as.reverse ++ st) = _
    rw [List.map_append, List.map_reverse]
  · have := kk H1 locs1 ls hP1 hS1 hl
    rw [List.map_append] at this
    cases r <;> exact this
theorem v_callN (X : CX p s m args meth c k cc nL own) {idx na n fr lo : Nat} {y : MethodName} {b : ByteArray} {ret : Option FieldType} (as : List AV) (st : List AV) {r : Option AV} {mem1 : Mem} (ok : okN own idx y b n ret na) (hM : RT y b n ret (rmM fr lo) as mem r mem1)
    (hn : as.length = na) (hst : slA st ≤ 8) (hR : rmO fr lo R.frames R.locals n) (hf : cells ≤ R.cells ∧ slots ≤ R.slots) (hd : decode cc pc = .ok (.invokestatic idx, 3))
    (kk : V p l e R s m args below meth c cells slots Q k nL mem1 (pc + 3) lv (r.toList ++ st)) : V p l e R s m args below meth c cells slots Q k nL mem pc lv (as.reverse ++ st) := by
  intro H locs ls hP hS hl
  have pre := preS_of X hP hS as
  have hg : ∀ w ∈ wM y b n ret, w ∈ wG := fun w hw => ok.1 w (List.mem_append_right _ hw)
  refine v_goes (r := r) (va_runSN (host := "WallShifts") (As := as.map (cv k)) (rest := st.map (cv k)) ⟨X.1, X.2.1, X.2.2.1, X.2.2.2.1, X.2.2.2.2.1⟩ (hM l k) ⟨va_cnB na X.2.2.2.2.1 (wG_all hg) rfl rfl rfl (X.2.2.2.2.2.1.2.2.2.1 _ ok.2.1) (X.2.2.2.2.1 _ (ok.1 _ (by simp))) ok.2.2 ⟨hR.1, hR.2⟩, X.2.2.2.2.1 _ (ok.1 _ (by simp)), trivial⟩ pre rfl (by rw [List.length_map, hn]) hl.1 ?_ (lv_room (ls := ls) (cat_of k st hst)) hd hf) hS (fun H1 locs1 hP1 hS1 => ?_)
  · show List.map (cv k) (as.reverse ++ st) = _
    rw [List.map_append, List.map_reverse]
  · have := kk H1 locs1 ls hP1 hS1 hl
    rw [List.map_append] at this
    cases r <;> exact this
/-- System.arraycopy between rows of ints, of longs -/
def cp (x y n : Int32) (a b : Nat) : Prop := x < 0 ∨ y < 0 ∨ n < 0 ∨ a < x.toNatClampNeg + n.toNatClampNeg ∨ b < y.toNatClampNeg + n.toNatClampNeg
def cpy {α : Type} (x y n : Int32) (a b : Nat) (A : Option α) : Option α := if x < 0 ∨ y < 0 ∨ n < 0 ∨ a < x.toNatClampNeg + n.toNatClampNeg ∨ b < y.toNatClampNeg + n.toNatClampNeg then none else A
theorem cpy_some {α : Type} {x y n : Int32} {a b : Nat} {A : Option α} {o : α} (h : cpy x y n a b A = some o) : ¬ x < 0 ∧ ¬ y < 0 ∧ ¬ n < 0 ∧ x.toNatClampNeg + n.toNatClampNeg ≤ a ∧ y.toNatClampNeg + n.toNatClampNeg ≤ b ∧ A = some o := by
  unfold cpy at h
  by_cases c : x < 0 ∨ y < 0 ∨ n < 0 ∨ a < x.toNatClampNeg + n.toNatClampNeg ∨ b < y.toNatClampNeg + n.toNatClampNeg
  · rw [if_pos c] at h
    cases h
  · rw [if_neg c] at h
    simp only [not_or, Nat.not_lt] at c
    exact ⟨c.1, c.2.1, c.2.2.1, c.2.2.2.1, c.2.2.2.2, h⟩
def okC (own : String) (idx : Nat) : Prop := Cond.methodLink own idx arraycopyName ∈ wG ∧ Cond.native arraycopyName ∈ wG ∧ Cond.static arraycopyName ∈ wG ∧ Cond.initialized "java/lang/System" ∈ wG
theorem v_copyI (X : CX p s m args meth c k cc nL own) {idx t0 i0 t1 i1 n0 n1 : Nat} {x y z : Int32} {α : Type} {A : Option α} {o : α} (h : cpy x y z n0 n1 A = some o) (ok : okC own idx) (h0 : t0 < 23) (hi0 : i0 < nT t0) (h1 : t1 < 23) (hi1 : i1 < nT t1) (hc0 : ce (kC k) (ka k) mem t0 i0 = .inl (kC k 0, n0, .inl (gI mem t0 i0))) (hc1 : ∀ mem, ce (kC k) (ka k) mem t1 i1 = .inl (kC k 0, n1, .inl (gI mem t1 i1))) (st : List AV) (hst : slA st + (nativeFrameWords "java/lang/System" "arraycopy" 5 + 11) ≤ R.locals) (hfr : 1 ≤ R.frames) (hd : decode cc pc = .ok (.invokestatic idx, 3))
    (kk : A = some o → V p l e R s m args below meth c cells slots Q k nL (sIr mem t1 i1 (va_cpy (gI mem t0 i0) (gI mem t1 i1) x.toNatClampNeg y.toNatClampNeg z.toNatClampNeg)) (pc + 3) lv st) : V p l e R s m args below meth c cells slots Q k nL mem pc lv (aI z :: aI y :: aR t1 i1 :: aI x :: aR t0 i0 :: st) := by
  intro H locs ls hP hS hl
  obtain ⟨g1, g2, g3, g4, g5, g6⟩ := cpy_some h
  have hw0 := wl_at (cT := kC k) (ad := ka k) (m := mem) h0 hi0
  rw [hc0] at hw0
  have hw1 := wl_at (cT := kC k) (ad := ka k) (m := mem) h1 hi1
  rw [hc1] at hw1
  have hcat : ((st.map (cv k)).map fun v => v.category).sum = slA st := by
    rw [List.map_map]
    have : (fun v => v.category) ∘ cv k = acat := funext fun v => cv_cat k v
    rw [this]
    rfl
  refine va_copyi (D := kD k) X.1 X.2.1 (X.2.2.1.trans hl.1.symm) X.2.2.2.1 (X.2.2.2.2.1 _ ok.1) (X.2.2.2.2.1 _ ok.2.1) (X.2.2.2.2.1 _ ok.2.2.1) (X.2.2.2.2.1 _ ok.2.2.2) X.2.2.2.2.2.1.1 hP (X.2.2.2.2.2.1.2.1 mem) hS (oT t0 + i0) (oT t1 + i1) 0 0 hw0 hw1 rfl rfl rfl g1 g2 g3 g4 g5 (fun _ _ => rfl) hfr (by rw [hcat]; exact hst) hd (fun H1 locs1 hP1 _ hS1 => ?_)
  have hc' := hc1 (sIr mem t1 i1 (va_cpy (gI mem t0 i0) (gI mem t1 i1) x.toNatClampNeg y.toNatClampNeg z.toNatClampNeg))
  rw [rowIr_eq] at hc'
  rw [← hc', wl_set h1 hi1 rowIr_ne] at hP1
  exact kk g6 H1 locs1 ls hP1 hS1 hl
theorem v_copyL (X : CX p s m args meth c k cc nL own) {idx t0 i0 t1 i1 n0 n1 : Nat} {x y z : Int32} {α : Type} {A : Option α} {o : α} (h : cpy x y z n0 n1 A = some o) (ok : okC own idx) (h0 : t0 < 23) (hi0 : i0 < nT t0) (h1 : t1 < 23) (hi1 : i1 < nT t1) (hc0 : ce (kC k) (ka k) mem t0 i0 = .inl (kC k 1, n0, .inr (.inl (gL mem t0 i0)))) (hc1 : ∀ mem, ce (kC k) (ka k) mem t1 i1 = .inl (kC k 1, n1, .inr (.inl (gL mem t1 i1)))) (st : List AV) (hst : slA st + (nativeFrameWords "java/lang/System" "arraycopy" 5 + 11) ≤ R.locals) (hfr : 1 ≤ R.frames) (hd : decode cc pc = .ok (.invokestatic idx, 3))
    (kk : A = some o → V p l e R s m args below meth c cells slots Q k nL (sLr mem t1 i1 (va_cpy (gL mem t0 i0) (gL mem t1 i1) x.toNatClampNeg y.toNatClampNeg z.toNatClampNeg)) (pc + 3) lv st) : V p l e R s m args below meth c cells slots Q k nL mem pc lv (aI z :: aI y :: aR t1 i1 :: aI x :: aR t0 i0 :: st) := by
  intro H locs ls hP hS hl
  obtain ⟨g1, g2, g3, g4, g5, g6⟩ := cpy_some h
  have hw0 := wl_at (cT := kC k) (ad := ka k) (m := mem) h0 hi0
  rw [hc0] at hw0
  have hw1 := wl_at (cT := kC k) (ad := ka k) (m := mem) h1 hi1
  rw [hc1] at hw1
  have hcat : ((st.map (cv k)).map fun v => v.category).sum = slA st := by
    rw [List.map_map]
    have : (fun v => v.category) ∘ cv k = acat := funext fun v => cv_cat k v
    rw [this]
    rfl
  refine va_copyl (D := kD k) X.1 X.2.1 (X.2.2.1.trans hl.1.symm) X.2.2.2.1 (X.2.2.2.2.1 _ ok.1) (X.2.2.2.2.1 _ ok.2.1) (X.2.2.2.2.1 _ ok.2.2.1) (X.2.2.2.2.1 _ ok.2.2.2) X.2.2.2.2.2.1.1 hP (X.2.2.2.2.2.1.2.1 mem) hS (oT t0 + i0) (oT t1 + i1) 1 1 hw0 hw1 rfl rfl rfl g1 g2 g3 g4 g5 (fun _ _ => rfl) hfr (by rw [hcat]; exact hst) hd (fun H1 locs1 hP1 _ hS1 => ?_)
  have hc' := hc1 (sLr mem t1 i1 (va_cpy (gL mem t0 i0) (gL mem t1 i1) x.toNatClampNeg y.toNatClampNeg z.toNatClampNeg))
  rw [rowLr_eq] at hc'
  rw [← hc', wl_set h1 hi1 rowLr_ne] at hP1
  exact kk g6 H1 locs1 ls hP1 hS1 hl
/-- ends -/
theorem v_iret (X : CX p s m args meth c k cc nL own) {x r : Int32} {mem' : Mem} (h : some (x, mem) = some (r, mem')) (hr : meth.sig.returnType = some .int) (hd : decode cc pc = .ok (.ireturn, 1)) : V p l e R s m args below meth c 0 0 (MQ below (RQc k (some (aI r)) mem') args s 0 0 (kA k)) k nL mem pc lv [aI x] := by
  obtain ⟨rfl, rfl⟩ := Prod.mk.inj (Option.some.inj h)
  intro H locs ls hP hS hl
  exact W.iret (v := x) X.1 X.2.1 hr (fun t ht hW => ⟨rfl, by rw [ht]; exact hP, hS.F ht⟩) hS.2.2 hd X.2.2.2.2.2.2
theorem v_zret (X : CX p s m args meth c k cc nL own) {ty : FieldType} {x r : Int32} {mem' : Mem} (h : some (x, mem) = some (r, mem')) (hr : meth.sig.returnType = some ty) (hn : narrow ty (.int x) = .int x) (hd : decode cc pc = .ok (.ireturn, 1)) : V p l e R s m args below meth c 0 0 (MQ below (RQc k (some (aI r)) mem') args s 0 0 (kA k)) k nL mem pc lv [aI x] := by
  obtain ⟨rfl, rfl⟩ := Prod.mk.inj (Option.some.inj h)
  intro H locs ls hP hS hl
  exact W.zret (v := x) X.1 X.2.1 hr hn (fun t ht hW => ⟨rfl, by rw [ht]; exact hP, hS.F ht⟩) hS.2.2 hd X.2.2.2.2.2.2
theorem v_lret (X : CX p s m args meth c k cc nL own) {x r : Int64} {mem' : Mem} (h : some (x, mem) = some (r, mem')) (hr : meth.sig.returnType = some .long) (hd : decode cc pc = .ok (.lreturn, 1)) : V p l e R s m args below meth c 0 0 (MQ below (RQc k (some (aL r)) mem') args s 0 0 (kA k)) k nL mem pc lv [aL x] := by
  obtain ⟨rfl, rfl⟩ := Prod.mk.inj (Option.some.inj h)
  intro H locs ls hP hS hl
  exact W.lret (v := x) X.1 X.2.1 hr (fun t ht hW => ⟨rfl, by rw [ht]; exact hP, hS.F ht⟩) hS.2.2 hd X.2.2.2.2.2.2
theorem v_vret (X : CX p s m args meth c k cc nL own) {r : Unit} {mem' : Mem} (h : some ((), mem) = some (r, mem')) (hr : meth.sig.returnType = none) (hd : decode cc pc = .ok (.return_, 1)) : V p l e R s m args below meth c 0 0 (MQ below (RQc k none mem') args s 0 0 (kA k)) k nL mem pc lv [] := by
  obtain ⟨-, rfl⟩ := Prod.mk.inj (Option.some.inj h)
  intro H locs ls hP hS hl
  exact W.vret X.1 X.2.1 hr (fun t ht hW => ⟨rfl, by rw [ht]; exact hP, hS.F ht⟩) hS.2.2 hd X.2.2.2.2.2.2
theorem v_aret (X : CX p s m args meth c k cc nL own) {C : String} {t x r : Nat} {mem' : Mem} (h : some (x, mem) = some (r, mem')) (hr : meth.sig.returnType = some (.object C)) (hd : decode cc pc = .ok (.areturn, 1)) : V p l e R s m args below meth c 0 0 (MQ below (RQc k (some (aR t r)) mem') args s 0 0 (kA k)) k nL mem pc lv [aR t x] := by
  obtain ⟨rfl, rfl⟩ := Prod.mk.inj (Option.some.inj h)
  intro H locs ls hP hS hl
  exact W.aret (v := .ref (ka k (oT t + x))) (rt := .object C) X.1 X.2.1 hr (Or.inl ⟨C, rfl⟩) (Or.inr ⟨_, rfl⟩) (fun t ht hW => ⟨rfl, by rw [ht]; exact hP, hS.F ht⟩) hS.2.2 hd X.2.2.2.2.2.2
end CALLS
end
section
/-! MORE ROWS: fewer locals; places that are written numbers; values of small types. -/
def nz {α : Type} (ty : FieldType) (x : Int32) (A : Option α) : Option α := if vp_nar ty x = x then A else none
theorem nz_some {α : Type} {ty : FieldType} {x : Int32} {A : Option α} {o : α} (h : nz ty x A = some o) : vp_nar ty x = x ∧ A = some o := by
  unfold nz at h
  by_cases c : vp_nar ty x = x
  · rw [if_pos c] at h
    exact ⟨c, h⟩
  · rw [if_neg c] at h
    cases h
theorem nz_bool {x : Int32} (h : vp_nar .boolean x = x) : narrow .boolean (.int x) = .int x := by
  have e : narrow .boolean (.int x) = .int (vp_nar .boolean x) := rfl
  rw [e, h]
theorem nz_char {x : Int32} (h : vp_nar .char x = x) : narrow .char (.int x) = .int x := by
  have e : narrow .char (.int x) = .int (vp_nar .char x) := rfl
  rw [e, h]
theorem nz_byte {x : Int32} (h : vp_nar .byte x = x) : narrow .byte (.int x) = .int x := by
  have e : narrow .byte (.int x) = .int (vp_nar .byte x) := rfl
  rw [e, h]
def zb {α : Type} (x : Int32) (A : Option α) : Option α := if x = 0 ∨ x = 1 then A else none
theorem zb_some {α : Type} {x : Int32} {A : Option α} {o : α} (h : zb x A = some o) : (x = 0 ∨ x = 1) ∧ A = some o := by
  unfold zb at h
  by_cases c : x = 0 ∨ x = 1
  · rw [if_pos c] at h
    exact ⟨c, h⟩
  · rw [if_neg c] at h
    cases h
theorem zb_n {x : Int32} (h : x = 0 ∨ x = 1) : narrow .boolean (.int x) = .int x := by rcases h with rfl | rfl <;> rfl
theorem zb_f {x : Int32} (h : x = 0 ∨ x = 1) : fits .boolean (.int x) = true := by rcases h with rfl | rfl <;> rfl
section MORE
variable {p : Program} {l : Launch} {e : Env} {R : Room} {s : State} {m : MethodId} {args : Array Value} {below : List Frame} {meth : Method} {c : Code} {cells slots : Nat} {Q : State → Prop} {k : KK} {nL : Nat} {mem : Mem} {pc : Nat} {lv lv' : List (Nat × AV)} {st : List AV} {cc : ByteArray} {own : String}
theorem v_sub (js : List Nat) (hl : js.filterMap (fun j => lv[j]?) = lv') (kk : V p l e R s m args below meth c cells slots Q k nL mem pc lv' st) : V p l e R s m args below meth c cells slots Q k nL mem pc lv st := by
  intro H locs ls hP hS h
  refine kk H locs ls hP hS (lv_sub h js ?_)
  rw [← hl]
  unfold lv_pick cvl
  rw [List.map_filterMap]
  congr 1
  funext j
  rw [List.getElem?_map]
theorem v_ialdK (X : CX p s m args meth c k cc nL own) {t i n : Nat} {x : Int32} (j : Nat) (hin : ck x n (some ()) = some ()) (hj : x.toNatClampNeg = j) (ht : t < 23) (hi : i < nT t) (hc : ce (kC k) (ka k) mem t i = .inl (kC k 0, n, .inl (gI mem t i))) (hd : decode cc pc = .ok (.iaload, 1)) (kk : V p l e R s m args below meth c cells slots Q k nL mem (pc + 1) lv (aI (gI mem t i j) :: st)) : V p l e R s m args below meth c cells slots Q k nL mem pc lv (aI x :: aR t i :: st) := by
  subst hj
  exact v_iald X hin ht hi hc hd (fun _ => kk)
theorem v_iastK (X : CX p s m args meth c k cc nL own) {t i n : Nat} {x y : Int32} (j : Nat) (hin : ck x n (some ()) = some ()) (hj : x.toNatClampNeg = j) (ht : t < 23) (hi : i < nT t) (hc : ∀ mem, ce (kC k) (ka k) mem t i = .inl (kC k 0, n, .inl (gI mem t i))) (hd : decode cc pc = .ok (.iastore, 1)) (kk : V p l e R s m args below meth c cells slots Q k nL (sI mem t i j y) (pc + 1) lv st) : V p l e R s m args below meth c cells slots Q k nL mem pc lv (aI y :: aI x :: aR t i :: st) := by
  subst hj
  exact v_iast X hin ht hi hc hd (fun _ => kk)
def okM (own : String) (idx : Nat) : Prop := Cond.methodLink own idx Lib.Math.min.name ∈ wG ∧ Cond.static Lib.Math.min.name ∈ wG ∧ Cond.initialized "java/lang/Math" ∈ wG ∧ Cond.code Lib.Math.min.name Lib.Math.min.code 2 (some .int) ∈ wG
theorem v_mmin (X : CX p s m args meth c k cc nL own) {idx : Nat} {x y : Int32} (ok : okM own idx) (st : List AV) (hst : slA st + 13 ≤ R.locals) (hfr : 1 ≤ R.frames) (hf : cells ≤ R.cells ∧ slots ≤ R.slots) (hd : decode cc pc = .ok (.invokestatic idx, 3))
    (kk : V p l e R s m args below meth c cells slots Q k nL mem (pc + 3) lv (aI (if y < x then y else x) :: st)) : V p l e R s m args below meth c cells slots Q k nL mem pc lv (aI y :: aI x :: st) := by
  intro H locs ls hP hS hl
  have hcat : ((st.map (cv k)).map fun v => v.category).sum = slA st := by
    rw [List.map_map]
    have : (fun v => v.category) ∘ cv k = acat := funext fun v => cv_cat k v
    rw [this]
    rfl
  exact va_mmin X.1 X.2.1 (X.2.2.1.trans hl.1.symm) X.2.2.2.1 (X.2.2.2.2.1 _ ok.1) (X.2.2.2.2.1 _ ok.2.1) (X.2.2.2.2.1 _ ok.2.2.1) (X.2.2.2.2.1 _ ok.2.2.2) hfr (by rw [hcat]; exact hst) hf.1 hf.2 hd (kk H locs ls hP hS hl)
end MORE
end
section
/-! GENERATED by wip/p40/gen.py out of the claim's tables and decode rows: names, words, links. -/
abbrev yW_rota : MethodName := ⟨"WallShifts", "rota", "(II)I"⟩
abbrev yW_mayBeRota : MethodName := ⟨"WallShifts", "mayBeRota", "(II)Z"⟩
abbrev yW_isIn : MethodName := ⟨"WallShifts", "isIn", "(III)Z"⟩
abbrev yW_finding : MethodName := ⟨"WallShifts", "finding", "(I)I"⟩
abbrev yW_set : MethodName := ⟨"WallShifts", "set", "(III)I"⟩
abbrev yW_isWall : MethodName := ⟨"WallShifts", "isWall", "(I)Z"⟩
abbrev yP_replace : MethodName := ⟨"WallShifts$Palace", "replace", "(III)I"⟩
abbrev yW_say : MethodName := ⟨"WallShifts", "say", "(II)I"⟩
abbrev yW_isRoom : MethodName := ⟨"WallShifts", "isRoom", "(I)Z"⟩
abbrev yW_isWord : MethodName := ⟨"WallShifts", "isWord", "(I)Z"⟩
abbrev yP_near : MethodName := ⟨"WallShifts$Palace", "near", "(I)I"⟩
abbrev yP_leaks : MethodName := ⟨"WallShifts$Palace", "leaks", "(I)I"⟩
abbrev yP_roomsOf : MethodName := ⟨"WallShifts$Palace", "roomsOf", "([I)I"⟩
abbrev yP_utter : MethodName := ⟨"WallShifts$Palace", "utter", "(II)I"⟩
abbrev yP_onDuty : MethodName := ⟨"WallShifts$Palace", "onDuty", "(II)I"⟩
abbrev yW_quarterOf : MethodName := ⟨"WallShifts", "quarterOf", "(II)I"⟩
abbrev yW_restOf : MethodName := ⟨"WallShifts", "restOf", "(II)I"⟩
abbrev yP_listens : MethodName := ⟨"WallShifts$Palace", "listens", "(IIII)Z"⟩
abbrev yW_becomes : MethodName := ⟨"WallShifts", "becomes", "([II)I"⟩
abbrev yP_isAwake : MethodName := ⟨"WallShifts$Palace", "isAwake", "([I)Z"⟩
abbrev yW_tires : MethodName := ⟨"WallShifts", "tires", "(I)I"⟩
abbrev yW_pass : MethodName := ⟨"WallShifts", "pass", "(I)I"⟩
abbrev yP_goOn : MethodName := ⟨"WallShifts$Palace", "goOn", "()V"⟩
abbrev yW_speak : MethodName := ⟨"WallShifts", "speak", "(II)I"⟩
abbrev yW_isSetOfWords : MethodName := ⟨"WallShifts", "isSetOfWords", "(I)Z"⟩
abbrev yJInt_bitCount : MethodName := ⟨"java/lang/Integer", "bitCount", "(I)I"⟩
abbrev yP_utterAll : MethodName := ⟨"WallShifts$Palace", "utterAll", "(II)I"⟩
abbrev yW_duty : MethodName := ⟨"WallShifts", "duty", "(I)I"⟩
abbrev yW_now : MethodName := ⟨"WallShifts", "now", "(I)I"⟩
abbrev yP_wordsInFiles : MethodName := ⟨"WallShifts$Palace", "wordsInFiles", "()I"⟩
abbrev yP_tiredTogether : MethodName := ⟨"WallShifts$Palace", "tiredTogether", "()I"⟩
abbrev yW_safe : MethodName := ⟨"WallShifts", "safe", "(II)I"⟩
abbrev yW_foresee : MethodName := ⟨"WallShifts", "foresee", "(I)V"⟩
abbrev yW_firstSilence : MethodName := ⟨"WallShifts", "firstSilence", "(II)I"⟩
abbrev yW_where : MethodName := ⟨"WallShifts", "where", "(I)I"⟩
abbrev yW_quiet : MethodName := ⟨"WallShifts", "quiet", "(II)I"⟩
abbrev yP_silentMinutes : MethodName := ⟨"WallShifts$Palace", "silentMinutes", "(III)I"⟩
abbrev yW_worst : MethodName := ⟨"WallShifts", "worst", "(II)I"⟩
abbrev yW_minutesAlone : MethodName := ⟨"WallShifts", "minutesAlone", "(III)I"⟩
abbrev yW_cover : MethodName := ⟨"WallShifts", "cover", "(II)I"⟩
abbrev yW_hearsAlways : MethodName := ⟨"WallShifts", "hearsAlways", "(II)Z"⟩
abbrev yW_shift : MethodName := ⟨"WallShifts", "shift", "(II)I"⟩
abbrev yW_side : MethodName := ⟨"WallShifts", "side", "(III)I"⟩
abbrev yP_become : MethodName := ⟨"WallShifts$Palace", "become", "(LWallShifts$Palace;)V"⟩
abbrev yW_lost : MethodName := ⟨"WallShifts", "lost", "(II)I"⟩
abbrev yW_best : MethodName := ⟨"WallShifts", "best", "(I)I"⟩
abbrev yW_image : MethodName := ⟨"WallShifts", "image", "()I"⟩
abbrev yW_undo : MethodName := ⟨"WallShifts", "undo", "()I"⟩
abbrev yW_wall : MethodName := ⟨"WallShifts", "wall", "(III)I"⟩
abbrev yW_isKind : MethodName := ⟨"WallShifts", "isKind", "(I)Z"⟩
abbrev yP_isBuiltUp : MethodName := ⟨"WallShifts$Palace", "isBuiltUp", "()Z"⟩
abbrev yP_build : MethodName := ⟨"WallShifts$Palace", "build", "(IIII)I"⟩
abbrev yW_of : MethodName := ⟨"WallShifts", "of", "(II)I"⟩
abbrev yP_dutyOf : MethodName := ⟨"WallShifts$Palace", "dutyOf", "(II)Z"⟩
abbrev yW_reach : MethodName := ⟨"WallShifts", "reach", "(I)I"⟩
abbrev yW_count : MethodName := ⟨"WallShifts", "count", "(I)I"⟩
abbrev yP_wordsCountedEach : MethodName := ⟨"WallShifts$Palace", "wordsCountedEach", "()I"⟩
abbrev yP_howManyAwake : MethodName := ⟨"WallShifts$Palace", "howManyAwake", "()I"⟩
theorem qw_130 : Cond.code yW_isIn prog_1_method_46_code 3 (Option.some Jvm.ClassFile.FieldType.boolean) ∈ wG := wG_mem (i := 130) (by decide +kernel) (by decide +kernel)
theorem qw_7 : Cond.initialized yW_isIn.cls ∈ wG := wG_mem (i := 7) (by decide +kernel) (by decide +kernel)
theorem qw_128 : Cond.methodLink "WallShifts" 82 yW_isIn ∈ wG := wG_mem (i := 128) (by decide +kernel) (by decide +kernel)
theorem qw_129 : Cond.static yW_isIn ∈ wG := wG_mem (i := 129) (by decide +kernel) (by decide +kernel)
theorem qw_131 : Cond.fieldLink "WallShifts" 177 "WallShifts" "LEAST_OF_ROTA" "[I" ∈ wG := wG_mem (i := 131) (by decide +kernel) (by decide +kernel)
theorem qw_133 : Cond.fieldLink "WallShifts" 180 "WallShifts" "MOST_OF_ROTA" "[I" ∈ wG := wG_mem (i := 133) (by decide +kernel) (by decide +kernel)
theorem qw_127 : Cond.code yW_mayBeRota prog_1_method_52_code 2 (Option.some Jvm.ClassFile.FieldType.boolean) ∈ wG := wG_mem (i := 127) (by decide +kernel) (by decide +kernel)
theorem qw_125 : Cond.methodLink "WallShifts" 47 yW_mayBeRota ∈ wG := wG_mem (i := 125) (by decide +kernel) (by decide +kernel)
theorem qw_126 : Cond.static yW_mayBeRota ∈ wG := wG_mem (i := 126) (by decide +kernel) (by decide +kernel)
theorem qw_135 : Cond.constant "WallShifts" 51 (-1000000001 : Int32) ∈ wG := wG_mem (i := 135) (by decide +kernel) (by decide +kernel)
theorem qw_102 : Cond.fieldLink "WallShifts" 39 "WallShifts" "answered" "[I" ∈ wG := wG_mem (i := 102) (by decide +kernel) (by decide +kernel)
theorem qw_139 : Cond.code yW_finding prog_1_method_39_code 3 (Option.some Jvm.ClassFile.FieldType.int) ∈ wG := wG_mem (i := 139) (by decide +kernel) (by decide +kernel)
theorem qw_136 : Cond.methodLink "WallShifts" 52 yW_finding ∈ wG := wG_mem (i := 136) (by decide +kernel) (by decide +kernel)
theorem qw_138 : Cond.instanceMethod yW_finding ∈ wG := wG_mem (i := 138) (by decide +kernel) (by decide +kernel)
theorem qw_0 : Cond.selects yW_finding.cls yW_finding yW_finding ∈ wG := wG_mem (i := 0) (by decide +kernel) (by decide +kernel)
theorem qw_96 : Cond.fieldLink "WallShifts" 10 "WallShifts" "state" "LWallShifts$Palace;" ∈ wG := wG_mem (i := 96) (by decide +kernel) (by decide +kernel)
theorem qw_33 : Cond.fieldLink "WallShifts" 56 "WallShifts$Palace" "rotas" "[I" ∈ wG := wG_mem (i := 33) (by decide +kernel) (by decide +kernel)
theorem qw_35 : Cond.fieldLink "WallShifts" 168 "WallShifts$Palace" "count" "I" ∈ wG := wG_mem (i := 35) (by decide +kernel) (by decide +kernel)
theorem qw_147 : Cond.code yW_isWall prog_1_method_40_code 2 (Option.some Jvm.ClassFile.FieldType.boolean) ∈ wG := wG_mem (i := 147) (by decide +kernel) (by decide +kernel)
theorem qw_144 : Cond.methodLink "WallShifts" 75 yW_isWall ∈ wG := wG_mem (i := 144) (by decide +kernel) (by decide +kernel)
theorem qw_146 : Cond.instanceMethod yW_isWall ∈ wG := wG_mem (i := 146) (by decide +kernel) (by decide +kernel)
theorem qw_1 : Cond.selects yW_isWall.cls yW_isWall yW_isWall ∈ wG := wG_mem (i := 1) (by decide +kernel) (by decide +kernel)
theorem qw_148 : Cond.fieldLink "WallShifts" 100 "WallShifts" "MOST_OF_PART" "[I" ∈ wG := wG_mem (i := 148) (by decide +kernel) (by decide +kernel)
theorem qw_36 : Cond.fieldLink "WallShifts$Palace" 24 "WallShifts$Palace" "walls" "[[I" ∈ wG := wG_mem (i := 36) (by decide +kernel) (by decide +kernel)
theorem qw_153 : Cond.code yP_replace prog_2_method_5_code 5 (Option.some Jvm.ClassFile.FieldType.int) ∈ wG := wG_mem (i := 153) (by decide +kernel) (by decide +kernel)
theorem qw_8 : Cond.initialized yP_replace.cls ∈ wG := wG_mem (i := 8) (by decide +kernel) (by decide +kernel)
theorem qw_150 : Cond.methodLink "WallShifts" 103 yP_replace ∈ wG := wG_mem (i := 150) (by decide +kernel) (by decide +kernel)
theorem qw_151 : Cond.instanceMethod yP_replace ∈ wG := wG_mem (i := 151) (by decide +kernel) (by decide +kernel)
theorem qw_152 : Cond.selects yP_replace.cls yP_replace yP_replace ∈ wG := wG_mem (i := 152) (by decide +kernel) (by decide +kernel)
theorem qw_160 : Cond.code yW_isRoom prog_1_method_48_code 1 (Option.some Jvm.ClassFile.FieldType.boolean) ∈ wG := wG_mem (i := 160) (by decide +kernel) (by decide +kernel)
theorem qw_158 : Cond.methodLink "WallShifts" 63 yW_isRoom ∈ wG := wG_mem (i := 158) (by decide +kernel) (by decide +kernel)
theorem qw_159 : Cond.static yW_isRoom ∈ wG := wG_mem (i := 159) (by decide +kernel) (by decide +kernel)
theorem qw_163 : Cond.code yW_isWord prog_1_method_49_code 1 (Option.some Jvm.ClassFile.FieldType.boolean) ∈ wG := wG_mem (i := 163) (by decide +kernel) (by decide +kernel)
theorem qw_161 : Cond.methodLink "WallShifts" 111 yW_isWord ∈ wG := wG_mem (i := 161) (by decide +kernel) (by decide +kernel)
theorem qw_162 : Cond.static yW_isWord ∈ wG := wG_mem (i := 162) (by decide +kernel) (by decide +kernel)
theorem qw_34 : Cond.fieldLink "WallShifts$Palace" 19 "WallShifts$Palace" "count" "I" ∈ wG := wG_mem (i := 34) (by decide +kernel) (by decide +kernel)
theorem qw_175 : Cond.code yP_roomsOf prog_2_method_13_code 2 (Option.some Jvm.ClassFile.FieldType.int) ∈ wG := wG_mem (i := 175) (by decide +kernel) (by decide +kernel)
theorem qw_172 : Cond.methodLink "WallShifts$Palace" 50 yP_roomsOf ∈ wG := wG_mem (i := 172) (by decide +kernel) (by decide +kernel)
theorem qw_173 : Cond.instanceMethod yP_roomsOf ∈ wG := wG_mem (i := 173) (by decide +kernel) (by decide +kernel)
theorem qw_174 : Cond.selects yP_roomsOf.cls yP_roomsOf yP_roomsOf ∈ wG := wG_mem (i := 174) (by decide +kernel) (by decide +kernel)
theorem qw_171 : Cond.code yP_leaks prog_2_method_11_code 6 (Option.some Jvm.ClassFile.FieldType.int) ∈ wG := wG_mem (i := 171) (by decide +kernel) (by decide +kernel)
theorem qw_168 : Cond.methodLink "WallShifts$Palace" 54 yP_leaks ∈ wG := wG_mem (i := 168) (by decide +kernel) (by decide +kernel)
theorem qw_169 : Cond.instanceMethod yP_leaks ∈ wG := wG_mem (i := 169) (by decide +kernel) (by decide +kernel)
theorem qw_170 : Cond.selects yP_leaks.cls yP_leaks yP_leaks ∈ wG := wG_mem (i := 170) (by decide +kernel) (by decide +kernel)
theorem qw_167 : Cond.code yP_near prog_2_method_12_code 5 (Option.some Jvm.ClassFile.FieldType.int) ∈ wG := wG_mem (i := 167) (by decide +kernel) (by decide +kernel)
theorem qw_164 : Cond.methodLink "WallShifts" 119 yP_near ∈ wG := wG_mem (i := 164) (by decide +kernel) (by decide +kernel)
theorem qw_165 : Cond.instanceMethod yP_near ∈ wG := wG_mem (i := 165) (by decide +kernel) (by decide +kernel)
theorem qw_166 : Cond.selects yP_near.cls yP_near yP_near ∈ wG := wG_mem (i := 166) (by decide +kernel) (by decide +kernel)
theorem qw_30 : Cond.fieldLink "WallShifts$Palace" 9 "WallShifts$Palace" "minute" "I" ∈ wG := wG_mem (i := 30) (by decide +kernel) (by decide +kernel)
theorem qw_32 : Cond.fieldLink "WallShifts$Palace" 15 "WallShifts$Palace" "rotas" "[I" ∈ wG := wG_mem (i := 32) (by decide +kernel) (by decide +kernel)
theorem qw_186 : Cond.code yW_quarterOf prog_1_method_54_code 2 (Option.some Jvm.ClassFile.FieldType.int) ∈ wG := wG_mem (i := 186) (by decide +kernel) (by decide +kernel)
theorem qw_185 : Cond.static yW_quarterOf ∈ wG := wG_mem (i := 185) (by decide +kernel) (by decide +kernel)
theorem qw_189 : Cond.code yW_restOf prog_1_method_55_code 2 (Option.some Jvm.ClassFile.FieldType.int) ∈ wG := wG_mem (i := 189) (by decide +kernel) (by decide +kernel)
theorem qw_188 : Cond.static yW_restOf ∈ wG := wG_mem (i := 188) (by decide +kernel) (by decide +kernel)
theorem qw_193 : Cond.code yP_listens prog_2_method_7_code 8 (Option.some Jvm.ClassFile.FieldType.boolean) ∈ wG := wG_mem (i := 193) (by decide +kernel) (by decide +kernel)
theorem qw_190 : Cond.methodLink "WallShifts$Palace" 46 yP_listens ∈ wG := wG_mem (i := 190) (by decide +kernel) (by decide +kernel)
theorem qw_191 : Cond.instanceMethod yP_listens ∈ wG := wG_mem (i := 191) (by decide +kernel) (by decide +kernel)
theorem qw_192 : Cond.selects yP_listens.cls yP_listens yP_listens ∈ wG := wG_mem (i := 192) (by decide +kernel) (by decide +kernel)
theorem qw_183 : Cond.code yP_onDuty prog_2_method_9_code 7 (Option.some Jvm.ClassFile.FieldType.int) ∈ wG := wG_mem (i := 183) (by decide +kernel) (by decide +kernel)
theorem qw_180 : Cond.methodLink "WallShifts$Palace" 36 yP_onDuty ∈ wG := wG_mem (i := 180) (by decide +kernel) (by decide +kernel)
theorem qw_181 : Cond.instanceMethod yP_onDuty ∈ wG := wG_mem (i := 181) (by decide +kernel) (by decide +kernel)
theorem qw_182 : Cond.selects yP_onDuty.cls yP_onDuty yP_onDuty ∈ wG := wG_mem (i := 182) (by decide +kernel) (by decide +kernel)
theorem qw_196 : Cond.code yW_becomes prog_1_method_57_code 2 (Option.some Jvm.ClassFile.FieldType.int) ∈ wG := wG_mem (i := 196) (by decide +kernel) (by decide +kernel)
theorem qw_195 : Cond.static yW_becomes ∈ wG := wG_mem (i := 195) (by decide +kernel) (by decide +kernel)
theorem qw_200 : Cond.code yP_isAwake prog_2_method_6_code 2 (Option.some Jvm.ClassFile.FieldType.boolean) ∈ wG := wG_mem (i := 200) (by decide +kernel) (by decide +kernel)
theorem qw_197 : Cond.methodLink "WallShifts$Palace" 62 yP_isAwake ∈ wG := wG_mem (i := 197) (by decide +kernel) (by decide +kernel)
theorem qw_198 : Cond.instanceMethod yP_isAwake ∈ wG := wG_mem (i := 198) (by decide +kernel) (by decide +kernel)
theorem qw_199 : Cond.selects yP_isAwake.cls yP_isAwake yP_isAwake ∈ wG := wG_mem (i := 199) (by decide +kernel) (by decide +kernel)
theorem qw_203 : Cond.code yW_tires prog_1_method_56_code 1 (Option.some Jvm.ClassFile.FieldType.int) ∈ wG := wG_mem (i := 203) (by decide +kernel) (by decide +kernel)
theorem qw_202 : Cond.static yW_tires ∈ wG := wG_mem (i := 202) (by decide +kernel) (by decide +kernel)
theorem qw_204 : Cond.methodLink "WallShifts$Palace" 69 Lib.Math.min.name ∈ wG := wG_mem (i := 204) (by decide +kernel) (by decide +kernel)
theorem qw_205 : Cond.static Lib.Math.min.name ∈ wG := wG_mem (i := 205) (by decide +kernel) (by decide +kernel)
theorem qw_13 : Cond.initialized "java/lang/Math" ∈ wG := wG_mem (i := 13) (by decide +kernel) (by decide +kernel)
theorem qw_206 : Cond.code Lib.Math.min.name Lib.Math.min.code 2 (some .int) ∈ wG := wG_mem (i := 206) (by decide +kernel) (by decide +kernel)
theorem qw_179 : Cond.code yP_utter prog_2_method_14_code 8 (Option.some Jvm.ClassFile.FieldType.int) ∈ wG := wG_mem (i := 179) (by decide +kernel) (by decide +kernel)
theorem qw_176 : Cond.methodLink "WallShifts" 122 yP_utter ∈ wG := wG_mem (i := 176) (by decide +kernel) (by decide +kernel)
theorem qw_177 : Cond.instanceMethod yP_utter ∈ wG := wG_mem (i := 177) (by decide +kernel) (by decide +kernel)
theorem qw_178 : Cond.selects yP_utter.cls yP_utter yP_utter ∈ wG := wG_mem (i := 178) (by decide +kernel) (by decide +kernel)
theorem qw_31 : Cond.fieldLink "WallShifts" 86 "WallShifts$Palace" "minute" "I" ∈ wG := wG_mem (i := 31) (by decide +kernel) (by decide +kernel)
theorem qw_211 : Cond.constant "WallShifts" 126 (99999 : Int32) ∈ wG := wG_mem (i := 211) (by decide +kernel) (by decide +kernel)
theorem qw_212 : Cond.constant "WallShifts" 127 (-1000000005 : Int32) ∈ wG := wG_mem (i := 212) (by decide +kernel) (by decide +kernel)
theorem qw_216 : Cond.code yP_goOn prog_2_method_16_code 3 (Option.none : Option Jvm.ClassFile.FieldType) ∈ wG := wG_mem (i := 216) (by decide +kernel) (by decide +kernel)
theorem qw_213 : Cond.methodLink "WallShifts" 128 yP_goOn ∈ wG := wG_mem (i := 213) (by decide +kernel) (by decide +kernel)
theorem qw_214 : Cond.instanceMethod yP_goOn ∈ wG := wG_mem (i := 214) (by decide +kernel) (by decide +kernel)
theorem qw_215 : Cond.selects yP_goOn.cls yP_goOn yP_goOn ∈ wG := wG_mem (i := 215) (by decide +kernel) (by decide +kernel)
theorem qw_224 : Cond.constant "WallShifts" 257 (65535 : Int32) ∈ wG := wG_mem (i := 224) (by decide +kernel) (by decide +kernel)
theorem qw_223 : Cond.code yW_isSetOfWords prog_1_method_50_code 1 (Option.some Jvm.ClassFile.FieldType.boolean) ∈ wG := wG_mem (i := 223) (by decide +kernel) (by decide +kernel)
theorem qw_221 : Cond.methodLink "WallShifts" 131 yW_isSetOfWords ∈ wG := wG_mem (i := 221) (by decide +kernel) (by decide +kernel)
theorem qw_222 : Cond.static yW_isSetOfWords ∈ wG := wG_mem (i := 222) (by decide +kernel) (by decide +kernel)
theorem qw_228 : Cond.constant "java/lang/Integer" 265 (1431655765 : Int32) ∈ wG := wG_mem (i := 228) (by decide +kernel) (by decide +kernel)
theorem qw_229 : Cond.constant "java/lang/Integer" 266 (858993459 : Int32) ∈ wG := wG_mem (i := 229) (by decide +kernel) (by decide +kernel)
theorem qw_230 : Cond.constant "java/lang/Integer" 267 (252645135 : Int32) ∈ wG := wG_mem (i := 230) (by decide +kernel) (by decide +kernel)
theorem qw_227 : Cond.code yJInt_bitCount prog_7_method_49_code 1 (Option.some Jvm.ClassFile.FieldType.int) ∈ wG := wG_mem (i := 227) (by decide +kernel) (by decide +kernel)
theorem qw_12 : Cond.initialized yJInt_bitCount.cls ∈ wG := wG_mem (i := 12) (by decide +kernel) (by decide +kernel)
theorem qw_225 : Cond.methodLink "WallShifts" 134 yJInt_bitCount ∈ wG := wG_mem (i := 225) (by decide +kernel) (by decide +kernel)
theorem qw_226 : Cond.static yJInt_bitCount ∈ wG := wG_mem (i := 226) (by decide +kernel) (by decide +kernel)
theorem qw_235 : Cond.methodLink "WallShifts$Palace" 74 yP_near ∈ wG := wG_mem (i := 235) (by decide +kernel) (by decide +kernel)
theorem qw_38 : Cond.fieldLink "WallShifts$Palace" 27 "WallShifts$Palace" "unheardWords" "I" ∈ wG := wG_mem (i := 38) (by decide +kernel) (by decide +kernel)
theorem qw_236 : Cond.methodLink "WallShifts$Palace" 77 yP_utter ∈ wG := wG_mem (i := 236) (by decide +kernel) (by decide +kernel)
theorem qw_237 : Cond.methodLink "WallShifts$Palace" 80 yJInt_bitCount ∈ wG := wG_mem (i := 237) (by decide +kernel) (by decide +kernel)
theorem qw_238 : Cond.methodLink "WallShifts$Palace" 85 yP_goOn ∈ wG := wG_mem (i := 238) (by decide +kernel) (by decide +kernel)
theorem qw_234 : Cond.code yP_utterAll prog_2_method_15_code 7 (Option.some Jvm.ClassFile.FieldType.int) ∈ wG := wG_mem (i := 234) (by decide +kernel) (by decide +kernel)
theorem qw_231 : Cond.methodLink "WallShifts" 139 yP_utterAll ∈ wG := wG_mem (i := 231) (by decide +kernel) (by decide +kernel)
theorem qw_232 : Cond.instanceMethod yP_utterAll ∈ wG := wG_mem (i := 232) (by decide +kernel) (by decide +kernel)
theorem qw_233 : Cond.selects yP_utterAll.cls yP_utterAll yP_utterAll ∈ wG := wG_mem (i := 233) (by decide +kernel) (by decide +kernel)
theorem qw_243 : Cond.methodLink "WallShifts" 145 yP_onDuty ∈ wG := wG_mem (i := 243) (by decide +kernel) (by decide +kernel)
theorem qw_251 : Cond.code yP_wordsInFiles prog_2_method_17_code 3 (Option.some Jvm.ClassFile.FieldType.int) ∈ wG := wG_mem (i := 251) (by decide +kernel) (by decide +kernel)
theorem qw_248 : Cond.methodLink "WallShifts" 148 yP_wordsInFiles ∈ wG := wG_mem (i := 248) (by decide +kernel) (by decide +kernel)
theorem qw_249 : Cond.instanceMethod yP_wordsInFiles ∈ wG := wG_mem (i := 249) (by decide +kernel) (by decide +kernel)
theorem qw_250 : Cond.selects yP_wordsInFiles.cls yP_wordsInFiles yP_wordsInFiles ∈ wG := wG_mem (i := 250) (by decide +kernel) (by decide +kernel)
theorem qw_255 : Cond.code yP_tiredTogether prog_2_method_20_code 3 (Option.some Jvm.ClassFile.FieldType.int) ∈ wG := wG_mem (i := 255) (by decide +kernel) (by decide +kernel)
theorem qw_252 : Cond.methodLink "WallShifts" 152 yP_tiredTogether ∈ wG := wG_mem (i := 252) (by decide +kernel) (by decide +kernel)
theorem qw_253 : Cond.instanceMethod yP_tiredTogether ∈ wG := wG_mem (i := 253) (by decide +kernel) (by decide +kernel)
theorem qw_254 : Cond.selects yP_tiredTogether.cls yP_tiredTogether yP_tiredTogether ∈ wG := wG_mem (i := 254) (by decide +kernel) (by decide +kernel)
theorem qw_103 : Cond.fieldLink "WallShifts" 43 "WallShifts" "ahead" "[I" ∈ wG := wG_mem (i := 103) (by decide +kernel) (by decide +kernel)
theorem qw_263 : Cond.code yW_foresee prog_1_method_41_code 3 (Option.none : Option Jvm.ClassFile.FieldType) ∈ wG := wG_mem (i := 263) (by decide +kernel) (by decide +kernel)
theorem qw_260 : Cond.methodLink "WallShifts" 158 yW_foresee ∈ wG := wG_mem (i := 260) (by decide +kernel) (by decide +kernel)
theorem qw_262 : Cond.instanceMethod yW_foresee ∈ wG := wG_mem (i := 262) (by decide +kernel) (by decide +kernel)
theorem qw_2 : Cond.selects yW_foresee.cls yW_foresee yW_foresee ∈ wG := wG_mem (i := 2) (by decide +kernel) (by decide +kernel)
theorem qw_267 : Cond.code yW_firstSilence prog_1_method_44_code 6 (Option.some Jvm.ClassFile.FieldType.int) ∈ wG := wG_mem (i := 267) (by decide +kernel) (by decide +kernel)
theorem qw_264 : Cond.methodLink "WallShifts" 162 yW_firstSilence ∈ wG := wG_mem (i := 264) (by decide +kernel) (by decide +kernel)
theorem qw_266 : Cond.instanceMethod yW_firstSilence ∈ wG := wG_mem (i := 266) (by decide +kernel) (by decide +kernel)
theorem qw_3 : Cond.selects yW_firstSilence.cls yW_firstSilence yW_firstSilence ∈ wG := wG_mem (i := 3) (by decide +kernel) (by decide +kernel)
theorem qw_268 : Cond.constant "WallShifts" 118 (-1000000004 : Int32) ∈ wG := wG_mem (i := 268) (by decide +kernel) (by decide +kernel)
theorem qw_280 : Cond.code yP_silentMinutes prog_2_method_10_code 6 (Option.some Jvm.ClassFile.FieldType.int) ∈ wG := wG_mem (i := 280) (by decide +kernel) (by decide +kernel)
theorem qw_277 : Cond.methodLink "WallShifts" 165 yP_silentMinutes ∈ wG := wG_mem (i := 277) (by decide +kernel) (by decide +kernel)
theorem qw_278 : Cond.instanceMethod yP_silentMinutes ∈ wG := wG_mem (i := 278) (by decide +kernel) (by decide +kernel)
theorem qw_279 : Cond.selects yP_silentMinutes.cls yP_silentMinutes yP_silentMinutes ∈ wG := wG_mem (i := 279) (by decide +kernel) (by decide +kernel)
theorem qw_288 : Cond.code yW_minutesAlone prog_1_method_42_code 6 (Option.some Jvm.ClassFile.FieldType.int) ∈ wG := wG_mem (i := 288) (by decide +kernel) (by decide +kernel)
theorem qw_285 : Cond.methodLink "WallShifts" 171 yW_minutesAlone ∈ wG := wG_mem (i := 285) (by decide +kernel) (by decide +kernel)
theorem qw_287 : Cond.instanceMethod yW_minutesAlone ∈ wG := wG_mem (i := 287) (by decide +kernel) (by decide +kernel)
theorem qw_4 : Cond.selects yW_minutesAlone.cls yW_minutesAlone yW_minutesAlone ∈ wG := wG_mem (i := 4) (by decide +kernel) (by decide +kernel)
theorem qw_296 : Cond.code yW_hearsAlways prog_1_method_43_code 4 (Option.some Jvm.ClassFile.FieldType.boolean) ∈ wG := wG_mem (i := 296) (by decide +kernel) (by decide +kernel)
theorem qw_293 : Cond.methodLink "WallShifts" 174 yW_hearsAlways ∈ wG := wG_mem (i := 293) (by decide +kernel) (by decide +kernel)
theorem qw_295 : Cond.instanceMethod yW_hearsAlways ∈ wG := wG_mem (i := 295) (by decide +kernel) (by decide +kernel)
theorem qw_5 : Cond.selects yW_hearsAlways.cls yW_hearsAlways yW_hearsAlways ∈ wG := wG_mem (i := 5) (by decide +kernel) (by decide +kernel)
theorem qw_99 : Cond.fieldLink "WallShifts" 23 "WallShifts" "trial" "LWallShifts$Palace;" ∈ wG := wG_mem (i := 99) (by decide +kernel) (by decide +kernel)
theorem qw_309 : Cond.methodLink "WallShifts$Palace" 30 arraycopyName ∈ wG := wG_mem (i := 309) (by decide +kernel) (by decide +kernel)
theorem qw_311 : Cond.native arraycopyName ∈ wG := wG_mem (i := 311) (by decide +kernel) (by decide +kernel)
theorem qw_310 : Cond.static arraycopyName ∈ wG := wG_mem (i := 310) (by decide +kernel) (by decide +kernel)
theorem qw_11 : Cond.initialized "java/lang/System" ∈ wG := wG_mem (i := 11) (by decide +kernel) (by decide +kernel)
theorem qw_308 : Cond.code yP_become prog_2_method_2_code 3 (Option.none : Option Jvm.ClassFile.FieldType) ∈ wG := wG_mem (i := 308) (by decide +kernel) (by decide +kernel)
theorem qw_305 : Cond.methodLink "WallShifts" 183 yP_become ∈ wG := wG_mem (i := 305) (by decide +kernel) (by decide +kernel)
theorem qw_306 : Cond.instanceMethod yP_become ∈ wG := wG_mem (i := 306) (by decide +kernel) (by decide +kernel)
theorem qw_307 : Cond.selects yP_become.cls yP_become yP_become ∈ wG := wG_mem (i := 307) (by decide +kernel) (by decide +kernel)
theorem qw_39 : Cond.fieldLink "WallShifts" 187 "WallShifts$Palace" "unheardWords" "I" ∈ wG := wG_mem (i := 39) (by decide +kernel) (by decide +kernel)
theorem qw_97 : Cond.fieldLink "WallShifts" 16 "WallShifts" "kept" "LWallShifts$Palace;" ∈ wG := wG_mem (i := 97) (by decide +kernel) (by decide +kernel)
theorem qw_98 : Cond.fieldLink "WallShifts" 19 "WallShifts" "hasKept" "Z" ∈ wG := wG_mem (i := 98) (by decide +kernel) (by decide +kernel)
theorem qw_349 : Cond.code yW_isKind prog_1_method_47_code 1 (Option.some Jvm.ClassFile.FieldType.boolean) ∈ wG := wG_mem (i := 349) (by decide +kernel) (by decide +kernel)
theorem qw_347 : Cond.methodLink "WallShifts" 59 yW_isKind ∈ wG := wG_mem (i := 347) (by decide +kernel) (by decide +kernel)
theorem qw_348 : Cond.static yW_isKind ∈ wG := wG_mem (i := 348) (by decide +kernel) (by decide +kernel)
theorem qw_353 : Cond.code yP_isBuiltUp prog_2_method_3_code 1 (Option.some Jvm.ClassFile.FieldType.boolean) ∈ wG := wG_mem (i := 353) (by decide +kernel) (by decide +kernel)
theorem qw_350 : Cond.methodLink "WallShifts" 66 yP_isBuiltUp ∈ wG := wG_mem (i := 350) (by decide +kernel) (by decide +kernel)
theorem qw_351 : Cond.instanceMethod yP_isBuiltUp ∈ wG := wG_mem (i := 351) (by decide +kernel) (by decide +kernel)
theorem qw_352 : Cond.selects yP_isBuiltUp.cls yP_isBuiltUp yP_isBuiltUp ∈ wG := wG_mem (i := 352) (by decide +kernel) (by decide +kernel)
theorem qw_358 : Cond.code yP_build prog_2_method_4_code 6 (Option.some Jvm.ClassFile.FieldType.int) ∈ wG := wG_mem (i := 358) (by decide +kernel) (by decide +kernel)
theorem qw_355 : Cond.methodLink "WallShifts" 71 yP_build ∈ wG := wG_mem (i := 355) (by decide +kernel) (by decide +kernel)
theorem qw_356 : Cond.instanceMethod yP_build ∈ wG := wG_mem (i := 356) (by decide +kernel) (by decide +kernel)
theorem qw_357 : Cond.selects yP_build.cls yP_build yP_build ∈ wG := wG_mem (i := 357) (by decide +kernel) (by decide +kernel)
theorem qw_354 : Cond.constant "WallShifts" 70 (-1000000002 : Int32) ∈ wG := wG_mem (i := 354) (by decide +kernel) (by decide +kernel)
theorem qw_37 : Cond.fieldLink "WallShifts" 78 "WallShifts$Palace" "walls" "[[I" ∈ wG := wG_mem (i := 37) (by decide +kernel) (by decide +kernel)
theorem qw_373 : Cond.code yP_dutyOf prog_2_method_8_code 3 (Option.some Jvm.ClassFile.FieldType.boolean) ∈ wG := wG_mem (i := 373) (by decide +kernel) (by decide +kernel)
theorem qw_370 : Cond.methodLink "WallShifts" 90 yP_dutyOf ∈ wG := wG_mem (i := 370) (by decide +kernel) (by decide +kernel)
theorem qw_371 : Cond.instanceMethod yP_dutyOf ∈ wG := wG_mem (i := 371) (by decide +kernel) (by decide +kernel)
theorem qw_372 : Cond.selects yP_dutyOf.cls yP_dutyOf yP_dutyOf ∈ wG := wG_mem (i := 372) (by decide +kernel) (by decide +kernel)
theorem qw_374 : Cond.methodLink "WallShifts" 93 yP_isAwake ∈ wG := wG_mem (i := 374) (by decide +kernel) (by decide +kernel)
theorem qw_375 : Cond.methodLink "WallShifts" 97 yW_tires ∈ wG := wG_mem (i := 375) (by decide +kernel) (by decide +kernel)
theorem qw_386 : Cond.methodLink "WallShifts" 142 yP_leaks ∈ wG := wG_mem (i := 386) (by decide +kernel) (by decide +kernel)
theorem qw_100 : Cond.fieldLink "WallShifts" 29 "WallShifts" "tape" "LWallShifts$Tape;" ∈ wG := wG_mem (i := 100) (by decide +kernel) (by decide +kernel)
theorem qw_60 : Cond.fieldLink "WallShifts" 190 "WallShifts$Tape" "size" "I" ∈ wG := wG_mem (i := 60) (by decide +kernel) (by decide +kernel)
theorem qw_397 : Cond.code yP_wordsCountedEach prog_2_method_18_code 3 (Option.some Jvm.ClassFile.FieldType.int) ∈ wG := wG_mem (i := 397) (by decide +kernel) (by decide +kernel)
theorem qw_394 : Cond.methodLink "WallShifts" 241 yP_wordsCountedEach ∈ wG := wG_mem (i := 394) (by decide +kernel) (by decide +kernel)
theorem qw_395 : Cond.instanceMethod yP_wordsCountedEach ∈ wG := wG_mem (i := 395) (by decide +kernel) (by decide +kernel)
theorem qw_396 : Cond.selects yP_wordsCountedEach.cls yP_wordsCountedEach yP_wordsCountedEach ∈ wG := wG_mem (i := 396) (by decide +kernel) (by decide +kernel)
theorem qw_401 : Cond.code yP_howManyAwake prog_2_method_21_code 3 (Option.some Jvm.ClassFile.FieldType.int) ∈ wG := wG_mem (i := 401) (by decide +kernel) (by decide +kernel)
theorem qw_398 : Cond.methodLink "WallShifts" 244 yP_howManyAwake ∈ wG := wG_mem (i := 398) (by decide +kernel) (by decide +kernel)
theorem qw_399 : Cond.instanceMethod yP_howManyAwake ∈ wG := wG_mem (i := 399) (by decide +kernel) (by decide +kernel)
theorem qw_400 : Cond.selects yP_howManyAwake.cls yP_howManyAwake yP_howManyAwake ∈ wG := wG_mem (i := 400) (by decide +kernel) (by decide +kernel)
theorem okM_P_69 : okM "WallShifts$Palace" 69 := ⟨qw_204, qw_205, qw_13, qw_206⟩
theorem okC_P_30 : okC "WallShifts$Palace" 30 := ⟨qw_309, qw_311, qw_310, qw_11⟩
theorem ok_S_W_82 : okS "WallShifts" 82 yW_isIn prog_1_method_46_code 3 (Option.some Jvm.ClassFile.FieldType.boolean) 3 := okS_of qw_128 qw_129 qw_7 qw_130 ⟨by decide +kernel, by decide +kernel, by decide +kernel⟩
theorem ok_S_W_47 : okS "WallShifts" 47 yW_mayBeRota prog_1_method_52_code 2 (Option.some Jvm.ClassFile.FieldType.boolean) 2 := okS_of qw_125 qw_126 qw_7 qw_127 ⟨by decide +kernel, by decide +kernel, by decide +kernel⟩
theorem ok_V_W_52 : okV "WallShifts" 52 yW_finding prog_1_method_39_code 3 (Option.some Jvm.ClassFile.FieldType.int) 1 := okV_of qw_136 qw_138 qw_0 qw_7 qw_139 ⟨by decide +kernel, by decide +kernel, by decide +kernel⟩
theorem ok_V_W_75 : okV "WallShifts" 75 yW_isWall prog_1_method_40_code 2 (Option.some Jvm.ClassFile.FieldType.boolean) 1 := okV_of qw_144 qw_146 qw_1 qw_7 qw_147 ⟨by decide +kernel, by decide +kernel, by decide +kernel⟩
theorem ok_V_W_103 : okV "WallShifts" 103 yP_replace prog_2_method_5_code 5 (Option.some Jvm.ClassFile.FieldType.int) 3 := okV_of qw_150 qw_151 qw_152 qw_8 qw_153 ⟨by decide +kernel, by decide +kernel, by decide +kernel⟩
theorem ok_S_W_63 : okS "WallShifts" 63 yW_isRoom prog_1_method_48_code 1 (Option.some Jvm.ClassFile.FieldType.boolean) 1 := okS_of qw_158 qw_159 qw_7 qw_160 ⟨by decide +kernel, by decide +kernel, by decide +kernel⟩
theorem ok_S_W_111 : okS "WallShifts" 111 yW_isWord prog_1_method_49_code 1 (Option.some Jvm.ClassFile.FieldType.boolean) 1 := okS_of qw_161 qw_162 qw_7 qw_163 ⟨by decide +kernel, by decide +kernel, by decide +kernel⟩
theorem ok_V_P_50 : okV "WallShifts$Palace" 50 yP_roomsOf prog_2_method_13_code 2 (Option.some Jvm.ClassFile.FieldType.int) 1 := okV_of qw_172 qw_173 qw_174 qw_8 qw_175 ⟨by decide +kernel, by decide +kernel, by decide +kernel⟩
theorem ok_V_P_54 : okV "WallShifts$Palace" 54 yP_leaks prog_2_method_11_code 6 (Option.some Jvm.ClassFile.FieldType.int) 1 := okV_of qw_168 qw_169 qw_170 qw_8 qw_171 ⟨by decide +kernel, by decide +kernel, by decide +kernel⟩
theorem ok_V_W_119 : okV "WallShifts" 119 yP_near prog_2_method_12_code 5 (Option.some Jvm.ClassFile.FieldType.int) 1 := okV_of qw_164 qw_165 qw_166 qw_8 qw_167 ⟨by decide +kernel, by decide +kernel, by decide +kernel⟩
theorem ok_N_P_40 : okN "WallShifts$Palace" 40 yW_quarterOf prog_1_method_54_code 2 (Option.some Jvm.ClassFile.FieldType.int) 2 := okN_of (by decide +kernel) qw_185 qw_7 qw_186 ⟨by decide +kernel, by decide +kernel, by decide +kernel⟩
theorem ok_N_P_43 : okN "WallShifts$Palace" 43 yW_restOf prog_1_method_55_code 2 (Option.some Jvm.ClassFile.FieldType.int) 2 := okN_of (by decide +kernel) qw_188 qw_7 qw_189 ⟨by decide +kernel, by decide +kernel, by decide +kernel⟩
theorem ok_V_P_46 : okV "WallShifts$Palace" 46 yP_listens prog_2_method_7_code 8 (Option.some Jvm.ClassFile.FieldType.boolean) 4 := okV_of qw_190 qw_191 qw_192 qw_8 qw_193 ⟨by decide +kernel, by decide +kernel, by decide +kernel⟩
theorem ok_V_P_36 : okV "WallShifts$Palace" 36 yP_onDuty prog_2_method_9_code 7 (Option.some Jvm.ClassFile.FieldType.int) 2 := okV_of qw_180 qw_181 qw_182 qw_8 qw_183 ⟨by decide +kernel, by decide +kernel, by decide +kernel⟩
theorem ok_N_P_58 : okN "WallShifts$Palace" 58 yW_becomes prog_1_method_57_code 2 (Option.some Jvm.ClassFile.FieldType.int) 2 := okN_of (by decide +kernel) qw_195 qw_7 qw_196 ⟨by decide +kernel, by decide +kernel, by decide +kernel⟩
theorem ok_V_P_62 : okV "WallShifts$Palace" 62 yP_isAwake prog_2_method_6_code 2 (Option.some Jvm.ClassFile.FieldType.boolean) 1 := okV_of qw_197 qw_198 qw_199 qw_8 qw_200 ⟨by decide +kernel, by decide +kernel, by decide +kernel⟩
theorem ok_N_P_66 : okN "WallShifts$Palace" 66 yW_tires prog_1_method_56_code 1 (Option.some Jvm.ClassFile.FieldType.int) 1 := okN_of (by decide +kernel) qw_202 qw_7 qw_203 ⟨by decide +kernel, by decide +kernel, by decide +kernel⟩
theorem ok_V_W_122 : okV "WallShifts" 122 yP_utter prog_2_method_14_code 8 (Option.some Jvm.ClassFile.FieldType.int) 2 := okV_of qw_176 qw_177 qw_178 qw_8 qw_179 ⟨by decide +kernel, by decide +kernel, by decide +kernel⟩
theorem ok_V_W_128 : okV "WallShifts" 128 yP_goOn prog_2_method_16_code 3 (Option.none : Option Jvm.ClassFile.FieldType) 0 := okV_of qw_213 qw_214 qw_215 qw_8 qw_216 ⟨by decide +kernel, by decide +kernel, by decide +kernel⟩
theorem ok_S_W_131 : okS "WallShifts" 131 yW_isSetOfWords prog_1_method_50_code 1 (Option.some Jvm.ClassFile.FieldType.boolean) 1 := okS_of qw_221 qw_222 qw_7 qw_223 ⟨by decide +kernel, by decide +kernel, by decide +kernel⟩
theorem ok_S_W_134 : okS "WallShifts" 134 yJInt_bitCount prog_7_method_49_code 1 (Option.some Jvm.ClassFile.FieldType.int) 1 := okS_of qw_225 qw_226 qw_12 qw_227 ⟨by decide +kernel, by decide +kernel, by decide +kernel⟩
theorem ok_V_P_74 : okV "WallShifts$Palace" 74 yP_near prog_2_method_12_code 5 (Option.some Jvm.ClassFile.FieldType.int) 1 := okV_of qw_235 qw_165 qw_166 qw_8 qw_167 ⟨by decide +kernel, by decide +kernel, by decide +kernel⟩
theorem ok_V_P_77 : okV "WallShifts$Palace" 77 yP_utter prog_2_method_14_code 8 (Option.some Jvm.ClassFile.FieldType.int) 2 := okV_of qw_236 qw_177 qw_178 qw_8 qw_179 ⟨by decide +kernel, by decide +kernel, by decide +kernel⟩
theorem ok_S_P_80 : okS "WallShifts$Palace" 80 yJInt_bitCount prog_7_method_49_code 1 (Option.some Jvm.ClassFile.FieldType.int) 1 := okS_of qw_237 qw_226 qw_12 qw_227 ⟨by decide +kernel, by decide +kernel, by decide +kernel⟩
theorem ok_V_P_85 : okV "WallShifts$Palace" 85 yP_goOn prog_2_method_16_code 3 (Option.none : Option Jvm.ClassFile.FieldType) 0 := okV_of qw_238 qw_214 qw_215 qw_8 qw_216 ⟨by decide +kernel, by decide +kernel, by decide +kernel⟩
theorem ok_V_W_139 : okV "WallShifts" 139 yP_utterAll prog_2_method_15_code 7 (Option.some Jvm.ClassFile.FieldType.int) 2 := okV_of qw_231 qw_232 qw_233 qw_8 qw_234 ⟨by decide +kernel, by decide +kernel, by decide +kernel⟩
theorem ok_V_W_145 : okV "WallShifts" 145 yP_onDuty prog_2_method_9_code 7 (Option.some Jvm.ClassFile.FieldType.int) 2 := okV_of qw_243 qw_181 qw_182 qw_8 qw_183 ⟨by decide +kernel, by decide +kernel, by decide +kernel⟩
theorem ok_V_W_148 : okV "WallShifts" 148 yP_wordsInFiles prog_2_method_17_code 3 (Option.some Jvm.ClassFile.FieldType.int) 0 := okV_of qw_248 qw_249 qw_250 qw_8 qw_251 ⟨by decide +kernel, by decide +kernel, by decide +kernel⟩
theorem ok_V_W_152 : okV "WallShifts" 152 yP_tiredTogether prog_2_method_20_code 3 (Option.some Jvm.ClassFile.FieldType.int) 0 := okV_of qw_252 qw_253 qw_254 qw_8 qw_255 ⟨by decide +kernel, by decide +kernel, by decide +kernel⟩
theorem ok_V_W_158 : okV "WallShifts" 158 yW_foresee prog_1_method_41_code 3 (Option.none : Option Jvm.ClassFile.FieldType) 1 := okV_of qw_260 qw_262 qw_2 qw_7 qw_263 ⟨by decide +kernel, by decide +kernel, by decide +kernel⟩
theorem ok_V_W_162 : okV "WallShifts" 162 yW_firstSilence prog_1_method_44_code 6 (Option.some Jvm.ClassFile.FieldType.int) 2 := okV_of qw_264 qw_266 qw_3 qw_7 qw_267 ⟨by decide +kernel, by decide +kernel, by decide +kernel⟩
theorem ok_V_W_165 : okV "WallShifts" 165 yP_silentMinutes prog_2_method_10_code 6 (Option.some Jvm.ClassFile.FieldType.int) 3 := okV_of qw_277 qw_278 qw_279 qw_8 qw_280 ⟨by decide +kernel, by decide +kernel, by decide +kernel⟩
theorem ok_V_W_171 : okV "WallShifts" 171 yW_minutesAlone prog_1_method_42_code 6 (Option.some Jvm.ClassFile.FieldType.int) 3 := okV_of qw_285 qw_287 qw_4 qw_7 qw_288 ⟨by decide +kernel, by decide +kernel, by decide +kernel⟩
theorem ok_V_W_174 : okV "WallShifts" 174 yW_hearsAlways prog_1_method_43_code 4 (Option.some Jvm.ClassFile.FieldType.boolean) 2 := okV_of qw_293 qw_295 qw_5 qw_7 qw_296 ⟨by decide +kernel, by decide +kernel, by decide +kernel⟩
theorem ok_V_W_183 : okV "WallShifts" 183 yP_become prog_2_method_2_code 3 (Option.none : Option Jvm.ClassFile.FieldType) 1 := okV_of qw_305 qw_306 qw_307 qw_8 qw_308 ⟨by decide +kernel, by decide +kernel, by decide +kernel⟩
theorem ok_S_W_59 : okS "WallShifts" 59 yW_isKind prog_1_method_47_code 1 (Option.some Jvm.ClassFile.FieldType.boolean) 1 := okS_of qw_347 qw_348 qw_7 qw_349 ⟨by decide +kernel, by decide +kernel, by decide +kernel⟩
theorem ok_V_W_66 : okV "WallShifts" 66 yP_isBuiltUp prog_2_method_3_code 1 (Option.some Jvm.ClassFile.FieldType.boolean) 0 := okV_of qw_350 qw_351 qw_352 qw_8 qw_353 ⟨by decide +kernel, by decide +kernel, by decide +kernel⟩
theorem ok_V_W_71 : okV "WallShifts" 71 yP_build prog_2_method_4_code 6 (Option.some Jvm.ClassFile.FieldType.int) 4 := okV_of qw_355 qw_356 qw_357 qw_8 qw_358 ⟨by decide +kernel, by decide +kernel, by decide +kernel⟩
theorem ok_V_W_90 : okV "WallShifts" 90 yP_dutyOf prog_2_method_8_code 3 (Option.some Jvm.ClassFile.FieldType.boolean) 2 := okV_of qw_370 qw_371 qw_372 qw_8 qw_373 ⟨by decide +kernel, by decide +kernel, by decide +kernel⟩
theorem ok_V_W_93 : okV "WallShifts" 93 yP_isAwake prog_2_method_6_code 2 (Option.some Jvm.ClassFile.FieldType.boolean) 1 := okV_of qw_374 qw_198 qw_199 qw_8 qw_200 ⟨by decide +kernel, by decide +kernel, by decide +kernel⟩
theorem ok_S_W_97 : okS "WallShifts" 97 yW_tires prog_1_method_56_code 1 (Option.some Jvm.ClassFile.FieldType.int) 1 := okS_of qw_375 qw_202 qw_7 qw_203 ⟨by decide +kernel, by decide +kernel, by decide +kernel⟩
theorem ok_V_W_142 : okV "WallShifts" 142 yP_leaks prog_2_method_11_code 6 (Option.some Jvm.ClassFile.FieldType.int) 1 := okV_of qw_386 qw_169 qw_170 qw_8 qw_171 ⟨by decide +kernel, by decide +kernel, by decide +kernel⟩
theorem ok_V_W_241 : okV "WallShifts" 241 yP_wordsCountedEach prog_2_method_18_code 3 (Option.some Jvm.ClassFile.FieldType.int) 0 := okV_of qw_394 qw_395 qw_396 qw_8 qw_397 ⟨by decide +kernel, by decide +kernel, by decide +kernel⟩
theorem ok_V_W_244 : okV "WallShifts" 244 yP_howManyAwake prog_2_method_21_code 3 (Option.some Jvm.ClassFile.FieldType.int) 0 := okV_of qw_398 qw_399 qw_400 qw_8 qw_401 ⟨by decide +kernel, by decide +kernel, by decide +kernel⟩
theorem pf_1_0 (cT : Nat → ClassId) (ad : Nat → Nat) (m : Mem) (i : Nat) (v : Int32) : ce cT ad (sI m 1 i 0 v) 1 i = .inr (0, List.set [.int (gI m 1 i 0), .ref (ad (oT 2 + i)), .int (gI m 1 i 2), .ref (ad (oT 3 + i)), .int (gI m 1 i 4)] 0 (.int v)) := by simp [ce, gI, gL, sI]
theorem pf_1_4 (cT : Nat → ClassId) (ad : Nat → Nat) (m : Mem) (i : Nat) (v : Int32) : ce cT ad (sI m 1 i 4 v) 1 i = .inr (0, List.set [.int (gI m 1 i 0), .ref (ad (oT 2 + i)), .int (gI m 1 i 2), .ref (ad (oT 3 + i)), .int (gI m 1 i 4)] 4 (.int v)) := by simp [ce, gI, gL, sI]
theorem pf_1_2 (cT : Nat → ClassId) (ad : Nat → Nat) (m : Mem) (i : Nat) (v : Int32) : ce cT ad (sI m 1 i 2 v) 1 i = .inr (0, List.set [.int (gI m 1 i 0), .ref (ad (oT 2 + i)), .int (gI m 1 i 2), .ref (ad (oT 3 + i)), .int (gI m 1 i 4)] 2 (.int v)) := by simp [ce, gI, gL, sI]
theorem pf_0_2 (cT : Nat → ClassId) (ad : Nat → Nat) (m : Mem) (i : Nat) (v : Int32) : ce cT ad (sI m 0 i 2 v) 0 i = .inr (3, List.set [.ref (ad (oT 1 + 0)), .ref (ad (oT 1 + 1)), .int (gI m 0 i 2), .ref (ad (oT 1 + 2)), .ref (ad (oT 5 + 0)), .ref (ad (oT 7 + 0)), .ref (ad (oT 10 + 0)), .ref (ad (oT 11 + 0))] 2 (.int v)) := by simp [ce, gI, gL, sI]
theorem ne_toInt {x v : Int32} (h : ¬ x = v) : x.toInt ≠ v.toInt := fun e => h (Int32.toInt_inj.mp e)
theorem tsw_out_0_3 {x : Int32} (g0 : ¬ x = (0 : Int32)) (g1 : ¬ x = (1 : Int32)) (g2 : ¬ x = (2 : Int32)) (g3 : ¬ x = (3 : Int32)) : x.toInt < (0 : Int) ∨ (3 : Int) < x.toInt := by
  have e0 : x.toInt ≠ (0 : Int) := ne_toInt g0
  have e1 : x.toInt ≠ (1 : Int) := ne_toInt g1
  have e2 : x.toInt ≠ (2 : Int) := ne_toInt g2
  have e3 : x.toInt ≠ (3 : Int) := ne_toInt g3
  omega
theorem tsw_out_0_6 {x : Int32} (g0 : ¬ x = (0 : Int32)) (g1 : ¬ x = (1 : Int32)) (g2 : ¬ x = (2 : Int32)) (g3 : ¬ x = (3 : Int32)) (g4 : ¬ x = (4 : Int32)) (g5 : ¬ x = (5 : Int32)) (g6 : ¬ x = (6 : Int32)) : x.toInt < (0 : Int) ∨ (6 : Int) < x.toInt := by
  have e0 : x.toInt ≠ (0 : Int) := ne_toInt g0
  have e1 : x.toInt ≠ (1 : Int) := ne_toInt g1
  have e2 : x.toInt ≠ (2 : Int) := ne_toInt g2
  have e3 : x.toInt ≠ (3 : Int) := ne_toInt g3
  have e4 : x.toInt ≠ (4 : Int) := ne_toInt g4
  have e5 : x.toInt ≠ (5 : Int) := ne_toInt g5
  have e6 : x.toInt ≠ (6 : Int) := ne_toInt g6
  omega
theorem tsw_out_1_5 {x : Int32} (g0 : ¬ x = (1 : Int32)) (g1 : ¬ x = (2 : Int32)) (g2 : ¬ x = (3 : Int32)) (g3 : ¬ x = (4 : Int32)) (g4 : ¬ x = (5 : Int32)) : x.toInt < (1 : Int) ∨ (5 : Int) < x.toInt := by
  have e0 : x.toInt ≠ (1 : Int) := ne_toInt g0
  have e1 : x.toInt ≠ (2 : Int) := ne_toInt g1
  have e2 : x.toInt ≠ (3 : Int) := ne_toInt g2
  have e3 : x.toInt ≠ (4 : Int) := ne_toInt g3
  have e4 : x.toInt ≠ (5 : Int) := ne_toInt g4
  omega
theorem tsw_out_2_5 {x : Int32} (g0 : ¬ x = (2 : Int32)) (g1 : ¬ x = (3 : Int32)) (g2 : ¬ x = (4 : Int32)) (g3 : ¬ x = (5 : Int32)) : x.toInt < (2 : Int) ∨ (5 : Int) < x.toInt := by
  have e0 : x.toInt ≠ (2 : Int) := ne_toInt g0
  have e1 : x.toInt ≠ (3 : Int) := ne_toInt g1
  have e2 : x.toInt ≠ (4 : Int) := ne_toInt g2
  have e3 : x.toInt ≠ (5 : Int) := ne_toInt g3
  omega
theorem tsw_out_3_5 {x : Int32} (g0 : ¬ x = (3 : Int32)) (g1 : ¬ x = (4 : Int32)) (g2 : ¬ x = (5 : Int32)) : x.toInt < (3 : Int) ∨ (5 : Int) < x.toInt := by
  have e0 : x.toInt ≠ (3 : Int) := ne_toInt g0
  have e1 : x.toInt ≠ (4 : Int) := ne_toInt g1
  have e2 : x.toInt ≠ (5 : Int) := ne_toInt g2
  omega
theorem tsw_out_6_8 {x : Int32} (g0 : ¬ x = (6 : Int32)) (g1 : ¬ x = (7 : Int32)) (g2 : ¬ x = (8 : Int32)) : x.toInt < (6 : Int) ∨ (8 : Int) < x.toInt := by
  have e0 : x.toInt ≠ (6 : Int) := ne_toInt g0
  have e1 : x.toInt ≠ (7 : Int) := ne_toInt g1
  have e2 : x.toInt ≠ (8 : Int) := ne_toInt g2
  omega
end
section
/-! GENERATED: what each instruction is. -/
theorem eW_rota_0 : decode prog_1_method_2_code 0 = .ok (.iload_n 1, 1) := by decide +kernel
theorem eW_rota_1 : decode prog_1_method_2_code 1 = .ok (.iload_n 2, 1) := by decide +kernel
theorem eW_rota_2 : decode prog_1_method_2_code 2 = .ok (.invokestatic 47, 3) := by decide +kernel
theorem eW_rota_5 : decode prog_1_method_2_code 5 = .ok (.ifCond .ne 10, 3) := by decide +kernel
theorem eW_rota_8 : decode prog_1_method_2_code 8 = .ok (.aload_n 0, 1) := by decide +kernel
theorem eW_rota_9 : decode prog_1_method_2_code 9 = .ok (.ldc 51, 2) := by decide +kernel
theorem eW_rota_11 : decode prog_1_method_2_code 11 = .ok (.invokevirtual 52, 3) := by decide +kernel
theorem eW_rota_14 : decode prog_1_method_2_code 14 = .ok (.ireturn, 1) := by decide +kernel
theorem eW_rota_15 : decode prog_1_method_2_code 15 = .ok (.aload_n 0, 1) := by decide +kernel
theorem eW_rota_16 : decode prog_1_method_2_code 16 = .ok (.getfield 10, 3) := by decide +kernel
theorem eW_rota_19 : decode prog_1_method_2_code 19 = .ok (.getfield 56, 3) := by decide +kernel
theorem eW_rota_22 : decode prog_1_method_2_code 22 = .ok (.iload_n 1, 1) := by decide +kernel
theorem eW_rota_23 : decode prog_1_method_2_code 23 = .ok (.iaload, 1) := by decide +kernel
theorem eW_rota_24 : decode prog_1_method_2_code 24 = .ok (.istore_n 3, 1) := by decide +kernel
theorem eW_rota_25 : decode prog_1_method_2_code 25 = .ok (.aload_n 0, 1) := by decide +kernel
theorem eW_rota_26 : decode prog_1_method_2_code 26 = .ok (.getfield 10, 3) := by decide +kernel
theorem eW_rota_29 : decode prog_1_method_2_code 29 = .ok (.getfield 56, 3) := by decide +kernel
theorem eW_rota_32 : decode prog_1_method_2_code 32 = .ok (.iload_n 1, 1) := by decide +kernel
theorem eW_rota_33 : decode prog_1_method_2_code 33 = .ok (.iload_n 2, 1) := by decide +kernel
theorem eW_rota_34 : decode prog_1_method_2_code 34 = .ok (.iastore, 1) := by decide +kernel
theorem eW_rota_35 : decode prog_1_method_2_code 35 = .ok (.iload_n 3, 1) := by decide +kernel
theorem eW_rota_36 : decode prog_1_method_2_code 36 = .ok (.ireturn, 1) := by decide +kernel
theorem eW_mayBeRota_0 : decode prog_1_method_52_code 0 = .ok (.iload_n 0, 1) := by decide +kernel
theorem eW_mayBeRota_1 : decode prog_1_method_52_code 1 = .ok (.iconst 0, 1) := by decide +kernel
theorem eW_mayBeRota_2 : decode prog_1_method_52_code 2 = .ok (.iconst 3, 1) := by decide +kernel
theorem eW_mayBeRota_3 : decode prog_1_method_52_code 3 = .ok (.invokestatic 82, 3) := by decide +kernel
theorem eW_mayBeRota_6 : decode prog_1_method_52_code 6 = .ok (.ifCond .eq 24, 3) := by decide +kernel
theorem eW_mayBeRota_9 : decode prog_1_method_52_code 9 = .ok (.iload_n 1, 1) := by decide +kernel
theorem eW_mayBeRota_10 : decode prog_1_method_52_code 10 = .ok (.getstatic 177, 3) := by decide +kernel
theorem eW_mayBeRota_13 : decode prog_1_method_52_code 13 = .ok (.iload_n 0, 1) := by decide +kernel
theorem eW_mayBeRota_14 : decode prog_1_method_52_code 14 = .ok (.iaload, 1) := by decide +kernel
theorem eW_mayBeRota_15 : decode prog_1_method_52_code 15 = .ok (.getstatic 180, 3) := by decide +kernel
theorem eW_mayBeRota_18 : decode prog_1_method_52_code 18 = .ok (.iload_n 0, 1) := by decide +kernel
theorem eW_mayBeRota_19 : decode prog_1_method_52_code 19 = .ok (.iaload, 1) := by decide +kernel
theorem eW_mayBeRota_20 : decode prog_1_method_52_code 20 = .ok (.invokestatic 82, 3) := by decide +kernel
theorem eW_mayBeRota_23 : decode prog_1_method_52_code 23 = .ok (.ifCond .eq 7, 3) := by decide +kernel
theorem eW_mayBeRota_26 : decode prog_1_method_52_code 26 = .ok (.iconst 1, 1) := by decide +kernel
theorem eW_mayBeRota_27 : decode prog_1_method_52_code 27 = .ok (.goto 4, 3) := by decide +kernel
theorem eW_mayBeRota_30 : decode prog_1_method_52_code 30 = .ok (.iconst 0, 1) := by decide +kernel
theorem eW_mayBeRota_31 : decode prog_1_method_52_code 31 = .ok (.ireturn, 1) := by decide +kernel
theorem eW_isIn_0 : decode prog_1_method_46_code 0 = .ok (.iload_n 0, 1) := by decide +kernel
theorem eW_isIn_1 : decode prog_1_method_46_code 1 = .ok (.iload_n 1, 1) := by decide +kernel
theorem eW_isIn_2 : decode prog_1_method_46_code 2 = .ok (.if_icmp .lt 12, 3) := by decide +kernel
theorem eW_isIn_5 : decode prog_1_method_46_code 5 = .ok (.iload_n 0, 1) := by decide +kernel
theorem eW_isIn_6 : decode prog_1_method_46_code 6 = .ok (.iload_n 2, 1) := by decide +kernel
theorem eW_isIn_7 : decode prog_1_method_46_code 7 = .ok (.if_icmp .gt 7, 3) := by decide +kernel
theorem eW_isIn_10 : decode prog_1_method_46_code 10 = .ok (.iconst 1, 1) := by decide +kernel
theorem eW_isIn_11 : decode prog_1_method_46_code 11 = .ok (.goto 4, 3) := by decide +kernel
theorem eW_isIn_14 : decode prog_1_method_46_code 14 = .ok (.iconst 0, 1) := by decide +kernel
theorem eW_isIn_15 : decode prog_1_method_46_code 15 = .ok (.ireturn, 1) := by decide +kernel
theorem eW_finding_0 : decode prog_1_method_39_code 0 = .ok (.ldc 51, 2) := by decide +kernel
theorem eW_finding_2 : decode prog_1_method_39_code 2 = .ok (.iload_n 1, 1) := by decide +kernel
theorem eW_finding_3 : decode prog_1_method_39_code 3 = .ok (.isub, 1) := by decide +kernel
theorem eW_finding_4 : decode prog_1_method_39_code 4 = .ok (.istore_n 2, 1) := by decide +kernel
theorem eW_finding_5 : decode prog_1_method_39_code 5 = .ok (.iload_n 2, 1) := by decide +kernel
theorem eW_finding_6 : decode prog_1_method_39_code 6 = .ok (.iconst 0, 1) := by decide +kernel
theorem eW_finding_7 : decode prog_1_method_39_code 7 = .ok (.bipush 6, 2) := by decide +kernel
theorem eW_finding_9 : decode prog_1_method_39_code 9 = .ok (.invokestatic 82, 3) := by decide +kernel
theorem eW_finding_12 : decode prog_1_method_39_code 12 = .ok (.ifCond .eq 13, 3) := by decide +kernel
theorem eW_finding_15 : decode prog_1_method_39_code 15 = .ok (.aload_n 0, 1) := by decide +kernel
theorem eW_finding_16 : decode prog_1_method_39_code 16 = .ok (.getfield 39, 3) := by decide +kernel
theorem eW_finding_19 : decode prog_1_method_39_code 19 = .ok (.iload_n 2, 1) := by decide +kernel
theorem eW_finding_20 : decode prog_1_method_39_code 20 = .ok (.dup2, 1) := by decide +kernel
theorem eW_finding_21 : decode prog_1_method_39_code 21 = .ok (.iaload, 1) := by decide +kernel
theorem eW_finding_22 : decode prog_1_method_39_code 22 = .ok (.iconst 1, 1) := by decide +kernel
theorem eW_finding_23 : decode prog_1_method_39_code 23 = .ok (.iadd, 1) := by decide +kernel
theorem eW_finding_24 : decode prog_1_method_39_code 24 = .ok (.iastore, 1) := by decide +kernel
theorem eW_finding_25 : decode prog_1_method_39_code 25 = .ok (.iload_n 1, 1) := by decide +kernel
theorem eW_finding_26 : decode prog_1_method_39_code 26 = .ok (.ireturn, 1) := by decide +kernel
theorem eW_set_0 : decode prog_1_method_5_code 0 = .ok (.aload_n 0, 1) := by decide +kernel
theorem eW_set_1 : decode prog_1_method_5_code 1 = .ok (.iload_n 1, 1) := by decide +kernel
theorem eW_set_2 : decode prog_1_method_5_code 2 = .ok (.invokevirtual 75, 3) := by decide +kernel
theorem eW_set_5 : decode prog_1_method_5_code 5 = .ok (.ifCond .eq 25, 3) := by decide +kernel
theorem eW_set_8 : decode prog_1_method_5_code 8 = .ok (.iload_n 2, 1) := by decide +kernel
theorem eW_set_9 : decode prog_1_method_5_code 9 = .ok (.iconst 1, 1) := by decide +kernel
theorem eW_set_10 : decode prog_1_method_5_code 10 = .ok (.iconst 5, 1) := by decide +kernel
theorem eW_set_11 : decode prog_1_method_5_code 11 = .ok (.invokestatic 82, 3) := by decide +kernel
theorem eW_set_14 : decode prog_1_method_5_code 14 = .ok (.ifCond .eq 16, 3) := by decide +kernel
theorem eW_set_17 : decode prog_1_method_5_code 17 = .ok (.iload_n 3, 1) := by decide +kernel
theorem eW_set_18 : decode prog_1_method_5_code 18 = .ok (.iconst 0, 1) := by decide +kernel
theorem eW_set_19 : decode prog_1_method_5_code 19 = .ok (.getstatic 100, 3) := by decide +kernel
theorem eW_set_22 : decode prog_1_method_5_code 22 = .ok (.iload_n 2, 1) := by decide +kernel
theorem eW_set_23 : decode prog_1_method_5_code 23 = .ok (.iaload, 1) := by decide +kernel
theorem eW_set_24 : decode prog_1_method_5_code 24 = .ok (.invokestatic 82, 3) := by decide +kernel
theorem eW_set_27 : decode prog_1_method_5_code 27 = .ok (.ifCond .ne 10, 3) := by decide +kernel
theorem eW_set_30 : decode prog_1_method_5_code 30 = .ok (.aload_n 0, 1) := by decide +kernel
theorem eW_set_31 : decode prog_1_method_5_code 31 = .ok (.ldc 51, 2) := by decide +kernel
theorem eW_set_33 : decode prog_1_method_5_code 33 = .ok (.invokevirtual 52, 3) := by decide +kernel
theorem eW_set_36 : decode prog_1_method_5_code 36 = .ok (.ireturn, 1) := by decide +kernel
theorem eW_set_37 : decode prog_1_method_5_code 37 = .ok (.aload_n 0, 1) := by decide +kernel
theorem eW_set_38 : decode prog_1_method_5_code 38 = .ok (.getfield 10, 3) := by decide +kernel
theorem eW_set_41 : decode prog_1_method_5_code 41 = .ok (.iload_n 1, 1) := by decide +kernel
theorem eW_set_42 : decode prog_1_method_5_code 42 = .ok (.iload_n 2, 1) := by decide +kernel
theorem eW_set_43 : decode prog_1_method_5_code 43 = .ok (.iload_n 3, 1) := by decide +kernel
theorem eW_set_44 : decode prog_1_method_5_code 44 = .ok (.invokevirtual 103, 3) := by decide +kernel
theorem eW_set_47 : decode prog_1_method_5_code 47 = .ok (.ireturn, 1) := by decide +kernel
theorem eW_isWall_0 : decode prog_1_method_40_code 0 = .ok (.iload_n 1, 1) := by decide +kernel
theorem eW_isWall_1 : decode prog_1_method_40_code 1 = .ok (.iconst 0, 1) := by decide +kernel
theorem eW_isWall_2 : decode prog_1_method_40_code 2 = .ok (.aload_n 0, 1) := by decide +kernel
theorem eW_isWall_3 : decode prog_1_method_40_code 3 = .ok (.getfield 10, 3) := by decide +kernel
theorem eW_isWall_6 : decode prog_1_method_40_code 6 = .ok (.getfield 168, 3) := by decide +kernel
theorem eW_isWall_9 : decode prog_1_method_40_code 9 = .ok (.iconst 1, 1) := by decide +kernel
theorem eW_isWall_10 : decode prog_1_method_40_code 10 = .ok (.isub, 1) := by decide +kernel
theorem eW_isWall_11 : decode prog_1_method_40_code 11 = .ok (.invokestatic 82, 3) := by decide +kernel
theorem eW_isWall_14 : decode prog_1_method_40_code 14 = .ok (.ireturn, 1) := by decide +kernel
theorem eP_replace_0 : decode prog_2_method_5_code 0 = .ok (.aload_n 0, 1) := by decide +kernel
theorem eP_replace_1 : decode prog_2_method_5_code 1 = .ok (.getfield 24, 3) := by decide +kernel
theorem eP_replace_4 : decode prog_2_method_5_code 4 = .ok (.iload_n 1, 1) := by decide +kernel
theorem eP_replace_5 : decode prog_2_method_5_code 5 = .ok (.aaload, 1) := by decide +kernel
theorem eP_replace_6 : decode prog_2_method_5_code 6 = .ok (.iload_n 2, 1) := by decide +kernel
theorem eP_replace_7 : decode prog_2_method_5_code 7 = .ok (.iaload, 1) := by decide +kernel
theorem eP_replace_8 : decode prog_2_method_5_code 8 = .ok (.istore 4, 2) := by decide +kernel
theorem eP_replace_10 : decode prog_2_method_5_code 10 = .ok (.aload_n 0, 1) := by decide +kernel
theorem eP_replace_11 : decode prog_2_method_5_code 11 = .ok (.getfield 24, 3) := by decide +kernel
theorem eP_replace_14 : decode prog_2_method_5_code 14 = .ok (.iload_n 1, 1) := by decide +kernel
theorem eP_replace_15 : decode prog_2_method_5_code 15 = .ok (.aaload, 1) := by decide +kernel
theorem eP_replace_16 : decode prog_2_method_5_code 16 = .ok (.iload_n 2, 1) := by decide +kernel
theorem eP_replace_17 : decode prog_2_method_5_code 17 = .ok (.iload_n 3, 1) := by decide +kernel
theorem eP_replace_18 : decode prog_2_method_5_code 18 = .ok (.iastore, 1) := by decide +kernel
theorem eP_replace_19 : decode prog_2_method_5_code 19 = .ok (.iload 4, 2) := by decide +kernel
theorem eP_replace_21 : decode prog_2_method_5_code 21 = .ok (.ireturn, 1) := by decide +kernel
theorem eW_say_0 : decode prog_1_method_9_code 0 = .ok (.iload_n 1, 1) := by decide +kernel
theorem eW_say_1 : decode prog_1_method_9_code 1 = .ok (.invokestatic 63, 3) := by decide +kernel
theorem eW_say_4 : decode prog_1_method_9_code 4 = .ok (.ifCond .eq 10, 3) := by decide +kernel
theorem eW_say_7 : decode prog_1_method_9_code 7 = .ok (.iload_n 2, 1) := by decide +kernel
theorem eW_say_8 : decode prog_1_method_9_code 8 = .ok (.invokestatic 111, 3) := by decide +kernel
theorem eW_say_11 : decode prog_1_method_9_code 11 = .ok (.ifCond .ne 10, 3) := by decide +kernel
theorem eW_say_14 : decode prog_1_method_9_code 14 = .ok (.aload_n 0, 1) := by decide +kernel
theorem eW_say_15 : decode prog_1_method_9_code 15 = .ok (.ldc 51, 2) := by decide +kernel
theorem eW_say_17 : decode prog_1_method_9_code 17 = .ok (.invokevirtual 52, 3) := by decide +kernel
theorem eW_say_20 : decode prog_1_method_9_code 20 = .ok (.ireturn, 1) := by decide +kernel
theorem eW_say_21 : decode prog_1_method_9_code 21 = .ok (.aload_n 0, 1) := by decide +kernel
theorem eW_say_22 : decode prog_1_method_9_code 22 = .ok (.getfield 10, 3) := by decide +kernel
theorem eW_say_25 : decode prog_1_method_9_code 25 = .ok (.aload_n 0, 1) := by decide +kernel
theorem eW_say_26 : decode prog_1_method_9_code 26 = .ok (.getfield 10, 3) := by decide +kernel
theorem eW_say_29 : decode prog_1_method_9_code 29 = .ok (.iload_n 1, 1) := by decide +kernel
theorem eW_say_30 : decode prog_1_method_9_code 30 = .ok (.invokevirtual 119, 3) := by decide +kernel
theorem eW_say_33 : decode prog_1_method_9_code 33 = .ok (.iload_n 2, 1) := by decide +kernel
theorem eW_say_34 : decode prog_1_method_9_code 34 = .ok (.invokevirtual 122, 3) := by decide +kernel
theorem eW_say_37 : decode prog_1_method_9_code 37 = .ok (.ireturn, 1) := by decide +kernel
theorem eW_isRoom_0 : decode prog_1_method_48_code 0 = .ok (.iload_n 0, 1) := by decide +kernel
theorem eW_isRoom_1 : decode prog_1_method_48_code 1 = .ok (.iconst 0, 1) := by decide +kernel
theorem eW_isRoom_2 : decode prog_1_method_48_code 2 = .ok (.bipush 9, 2) := by decide +kernel
theorem eW_isRoom_4 : decode prog_1_method_48_code 4 = .ok (.invokestatic 82, 3) := by decide +kernel
theorem eW_isRoom_7 : decode prog_1_method_48_code 7 = .ok (.ireturn, 1) := by decide +kernel
theorem eW_isWord_0 : decode prog_1_method_49_code 0 = .ok (.iload_n 0, 1) := by decide +kernel
theorem eW_isWord_1 : decode prog_1_method_49_code 1 = .ok (.iconst 0, 1) := by decide +kernel
theorem eW_isWord_2 : decode prog_1_method_49_code 2 = .ok (.bipush 15, 2) := by decide +kernel
theorem eW_isWord_4 : decode prog_1_method_49_code 4 = .ok (.invokestatic 82, 3) := by decide +kernel
theorem eW_isWord_7 : decode prog_1_method_49_code 7 = .ok (.ireturn, 1) := by decide +kernel
theorem eP_near_0 : decode prog_2_method_12_code 0 = .ok (.aload_n 0, 1) := by decide +kernel
theorem eP_near_1 : decode prog_2_method_12_code 1 = .ok (.iload_n 1, 1) := by decide +kernel
theorem eP_near_2 : decode prog_2_method_12_code 2 = .ok (.invokevirtual 54, 3) := by decide +kernel
theorem eP_near_5 : decode prog_2_method_12_code 5 = .ok (.istore_n 2, 1) := by decide +kernel
theorem eP_near_6 : decode prog_2_method_12_code 6 = .ok (.iconst 0, 1) := by decide +kernel
theorem eP_near_7 : decode prog_2_method_12_code 7 = .ok (.istore_n 3, 1) := by decide +kernel
theorem eP_near_8 : decode prog_2_method_12_code 8 = .ok (.iconst 0, 1) := by decide +kernel
theorem eP_near_9 : decode prog_2_method_12_code 9 = .ok (.istore 4, 2) := by decide +kernel
theorem eP_near_11 : decode prog_2_method_12_code 11 = .ok (.iload 4, 2) := by decide +kernel
theorem eP_near_13 : decode prog_2_method_12_code 13 = .ok (.aload_n 0, 1) := by decide +kernel
theorem eP_near_14 : decode prog_2_method_12_code 14 = .ok (.getfield 19, 3) := by decide +kernel
theorem eP_near_17 : decode prog_2_method_12_code 17 = .ok (.if_icmp .ge 32, 3) := by decide +kernel
theorem eP_near_20 : decode prog_2_method_12_code 20 = .ok (.aload_n 0, 1) := by decide +kernel
theorem eP_near_21 : decode prog_2_method_12_code 21 = .ok (.aload_n 0, 1) := by decide +kernel
theorem eP_near_22 : decode prog_2_method_12_code 22 = .ok (.getfield 24, 3) := by decide +kernel
theorem eP_near_25 : decode prog_2_method_12_code 25 = .ok (.iload 4, 2) := by decide +kernel
theorem eP_near_27 : decode prog_2_method_12_code 27 = .ok (.aaload, 1) := by decide +kernel
theorem eP_near_28 : decode prog_2_method_12_code 28 = .ok (.invokevirtual 50, 3) := by decide +kernel
theorem eP_near_31 : decode prog_2_method_12_code 31 = .ok (.iload_n 2, 1) := by decide +kernel
theorem eP_near_32 : decode prog_2_method_12_code 32 = .ok (.iand, 1) := by decide +kernel
theorem eP_near_33 : decode prog_2_method_12_code 33 = .ok (.ifCond .eq 10, 3) := by decide +kernel
theorem eP_near_36 : decode prog_2_method_12_code 36 = .ok (.iload_n 3, 1) := by decide +kernel
theorem eP_near_37 : decode prog_2_method_12_code 37 = .ok (.iconst 1, 1) := by decide +kernel
theorem eP_near_38 : decode prog_2_method_12_code 38 = .ok (.iload 4, 2) := by decide +kernel
theorem eP_near_40 : decode prog_2_method_12_code 40 = .ok (.ishl, 1) := by decide +kernel
theorem eP_near_41 : decode prog_2_method_12_code 41 = .ok (.ior, 1) := by decide +kernel
theorem eP_near_42 : decode prog_2_method_12_code 42 = .ok (.istore_n 3, 1) := by decide +kernel
theorem eP_near_43 : decode prog_2_method_12_code 43 = .ok (.iinc 4 1, 3) := by decide +kernel
theorem eP_near_46 : decode prog_2_method_12_code 46 = .ok (.goto (-35), 3) := by decide +kernel
theorem eP_near_49 : decode prog_2_method_12_code 49 = .ok (.iload_n 3, 1) := by decide +kernel
theorem eP_near_50 : decode prog_2_method_12_code 50 = .ok (.ireturn, 1) := by decide +kernel
theorem eP_leaks_0 : decode prog_2_method_11_code 0 = .ok (.iconst 1, 1) := by decide +kernel
theorem eP_leaks_1 : decode prog_2_method_11_code 1 = .ok (.iload_n 1, 1) := by decide +kernel
theorem eP_leaks_2 : decode prog_2_method_11_code 2 = .ok (.ishl, 1) := by decide +kernel
theorem eP_leaks_3 : decode prog_2_method_11_code 3 = .ok (.istore_n 2, 1) := by decide +kernel
theorem eP_leaks_4 : decode prog_2_method_11_code 4 = .ok (.iconst 0, 1) := by decide +kernel
theorem eP_leaks_5 : decode prog_2_method_11_code 5 = .ok (.istore_n 3, 1) := by decide +kernel
theorem eP_leaks_6 : decode prog_2_method_11_code 6 = .ok (.iload_n 3, 1) := by decide +kernel
theorem eP_leaks_7 : decode prog_2_method_11_code 7 = .ok (.bipush 10, 2) := by decide +kernel
theorem eP_leaks_9 : decode prog_2_method_11_code 9 = .ok (.if_icmp .ge 65, 3) := by decide +kernel
theorem eP_leaks_12 : decode prog_2_method_11_code 12 = .ok (.iconst 0, 1) := by decide +kernel
theorem eP_leaks_13 : decode prog_2_method_11_code 13 = .ok (.istore 4, 2) := by decide +kernel
theorem eP_leaks_15 : decode prog_2_method_11_code 15 = .ok (.iload 4, 2) := by decide +kernel
theorem eP_leaks_17 : decode prog_2_method_11_code 17 = .ok (.aload_n 0, 1) := by decide +kernel
theorem eP_leaks_18 : decode prog_2_method_11_code 18 = .ok (.getfield 19, 3) := by decide +kernel
theorem eP_leaks_21 : decode prog_2_method_11_code 21 = .ok (.if_icmp .ge 47, 3) := by decide +kernel
theorem eP_leaks_24 : decode prog_2_method_11_code 24 = .ok (.aload_n 0, 1) := by decide +kernel
theorem eP_leaks_25 : decode prog_2_method_11_code 25 = .ok (.aload_n 0, 1) := by decide +kernel
theorem eP_leaks_26 : decode prog_2_method_11_code 26 = .ok (.getfield 24, 3) := by decide +kernel
theorem eP_leaks_29 : decode prog_2_method_11_code 29 = .ok (.iload 4, 2) := by decide +kernel
theorem eP_leaks_31 : decode prog_2_method_11_code 31 = .ok (.aaload, 1) := by decide +kernel
theorem eP_leaks_32 : decode prog_2_method_11_code 32 = .ok (.invokevirtual 50, 3) := by decide +kernel
theorem eP_leaks_35 : decode prog_2_method_11_code 35 = .ok (.istore 5, 2) := by decide +kernel
theorem eP_leaks_37 : decode prog_2_method_11_code 37 = .ok (.aload_n 0, 1) := by decide +kernel
theorem eP_leaks_38 : decode prog_2_method_11_code 38 = .ok (.getfield 24, 3) := by decide +kernel
theorem eP_leaks_41 : decode prog_2_method_11_code 41 = .ok (.iload 4, 2) := by decide +kernel
theorem eP_leaks_43 : decode prog_2_method_11_code 43 = .ok (.aaload, 1) := by decide +kernel
theorem eP_leaks_44 : decode prog_2_method_11_code 44 = .ok (.iconst 0, 1) := by decide +kernel
theorem eP_leaks_45 : decode prog_2_method_11_code 45 = .ok (.iaload, 1) := by decide +kernel
theorem eP_leaks_46 : decode prog_2_method_11_code 46 = .ok (.iconst 3, 1) := by decide +kernel
theorem eP_leaks_47 : decode prog_2_method_11_code 47 = .ok (.if_icmp .ne 15, 3) := by decide +kernel
theorem eP_leaks_50 : decode prog_2_method_11_code 50 = .ok (.iload 5, 2) := by decide +kernel
theorem eP_leaks_52 : decode prog_2_method_11_code 52 = .ok (.iload_n 2, 1) := by decide +kernel
theorem eP_leaks_53 : decode prog_2_method_11_code 53 = .ok (.iand, 1) := by decide +kernel
theorem eP_leaks_54 : decode prog_2_method_11_code 54 = .ok (.ifCond .eq 8, 3) := by decide +kernel
theorem eP_leaks_57 : decode prog_2_method_11_code 57 = .ok (.iload_n 2, 1) := by decide +kernel
theorem eP_leaks_58 : decode prog_2_method_11_code 58 = .ok (.iload 5, 2) := by decide +kernel
theorem eP_leaks_60 : decode prog_2_method_11_code 60 = .ok (.ior, 1) := by decide +kernel
theorem eP_leaks_61 : decode prog_2_method_11_code 61 = .ok (.istore_n 2, 1) := by decide +kernel
theorem eP_leaks_62 : decode prog_2_method_11_code 62 = .ok (.iinc 4 1, 3) := by decide +kernel
theorem eP_leaks_65 : decode prog_2_method_11_code 65 = .ok (.goto (-50), 3) := by decide +kernel
theorem eP_leaks_68 : decode prog_2_method_11_code 68 = .ok (.iinc 3 1, 3) := by decide +kernel
theorem eP_leaks_71 : decode prog_2_method_11_code 71 = .ok (.goto (-65), 3) := by decide +kernel
theorem eP_leaks_74 : decode prog_2_method_11_code 74 = .ok (.iload_n 2, 1) := by decide +kernel
theorem eP_leaks_75 : decode prog_2_method_11_code 75 = .ok (.ireturn, 1) := by decide +kernel
theorem eP_roomsOf_0 : decode prog_2_method_13_code 0 = .ok (.iconst 1, 1) := by decide +kernel
theorem eP_roomsOf_1 : decode prog_2_method_13_code 1 = .ok (.aload_n 1, 1) := by decide +kernel
theorem eP_roomsOf_2 : decode prog_2_method_13_code 2 = .ok (.iconst 1, 1) := by decide +kernel
theorem eP_roomsOf_3 : decode prog_2_method_13_code 3 = .ok (.iaload, 1) := by decide +kernel
theorem eP_roomsOf_4 : decode prog_2_method_13_code 4 = .ok (.ishl, 1) := by decide +kernel
theorem eP_roomsOf_5 : decode prog_2_method_13_code 5 = .ok (.iconst 1, 1) := by decide +kernel
theorem eP_roomsOf_6 : decode prog_2_method_13_code 6 = .ok (.aload_n 1, 1) := by decide +kernel
theorem eP_roomsOf_7 : decode prog_2_method_13_code 7 = .ok (.iconst 2, 1) := by decide +kernel
theorem eP_roomsOf_8 : decode prog_2_method_13_code 8 = .ok (.iaload, 1) := by decide +kernel
theorem eP_roomsOf_9 : decode prog_2_method_13_code 9 = .ok (.ishl, 1) := by decide +kernel
theorem eP_roomsOf_10 : decode prog_2_method_13_code 10 = .ok (.ior, 1) := by decide +kernel
theorem eP_roomsOf_11 : decode prog_2_method_13_code 11 = .ok (.ireturn, 1) := by decide +kernel
theorem eP_utter_0 : decode prog_2_method_14_code 0 = .ok (.iload_n 1, 1) := by decide +kernel
theorem eP_utter_1 : decode prog_2_method_14_code 1 = .ok (.aload_n 0, 1) := by decide +kernel
theorem eP_utter_2 : decode prog_2_method_14_code 2 = .ok (.aload_n 0, 1) := by decide +kernel
theorem eP_utter_3 : decode prog_2_method_14_code 3 = .ok (.getfield 9, 3) := by decide +kernel
theorem eP_utter_6 : decode prog_2_method_14_code 6 = .ok (.aload_n 0, 1) := by decide +kernel
theorem eP_utter_7 : decode prog_2_method_14_code 7 = .ok (.getfield 15, 3) := by decide +kernel
theorem eP_utter_10 : decode prog_2_method_14_code 10 = .ok (.iconst 0, 1) := by decide +kernel
theorem eP_utter_11 : decode prog_2_method_14_code 11 = .ok (.iaload, 1) := by decide +kernel
theorem eP_utter_12 : decode prog_2_method_14_code 12 = .ok (.invokevirtual 36, 3) := by decide +kernel
theorem eP_utter_15 : decode prog_2_method_14_code 15 = .ok (.iand, 1) := by decide +kernel
theorem eP_utter_16 : decode prog_2_method_14_code 16 = .ok (.istore_n 3, 1) := by decide +kernel
theorem eP_utter_17 : decode prog_2_method_14_code 17 = .ok (.iconst 0, 1) := by decide +kernel
theorem eP_utter_18 : decode prog_2_method_14_code 18 = .ok (.istore 4, 2) := by decide +kernel
theorem eP_utter_20 : decode prog_2_method_14_code 20 = .ok (.iconst 0, 1) := by decide +kernel
theorem eP_utter_21 : decode prog_2_method_14_code 21 = .ok (.istore 5, 2) := by decide +kernel
theorem eP_utter_23 : decode prog_2_method_14_code 23 = .ok (.iload 5, 2) := by decide +kernel
theorem eP_utter_25 : decode prog_2_method_14_code 25 = .ok (.aload_n 0, 1) := by decide +kernel
theorem eP_utter_26 : decode prog_2_method_14_code 26 = .ok (.getfield 19, 3) := by decide +kernel
theorem eP_utter_29 : decode prog_2_method_14_code 29 = .ok (.if_icmp .ge 91, 3) := by decide +kernel
theorem eP_utter_32 : decode prog_2_method_14_code 32 = .ok (.aload_n 0, 1) := by decide +kernel
theorem eP_utter_33 : decode prog_2_method_14_code 33 = .ok (.getfield 24, 3) := by decide +kernel
theorem eP_utter_36 : decode prog_2_method_14_code 36 = .ok (.iload 5, 2) := by decide +kernel
theorem eP_utter_38 : decode prog_2_method_14_code 38 = .ok (.aaload, 1) := by decide +kernel
theorem eP_utter_39 : decode prog_2_method_14_code 39 = .ok (.astore 6, 2) := by decide +kernel
theorem eP_utter_41 : decode prog_2_method_14_code 41 = .ok (.aload 6, 2) := by decide +kernel
theorem eP_utter_43 : decode prog_2_method_14_code 43 = .ok (.iload_n 2, 1) := by decide +kernel
theorem eP_utter_44 : decode prog_2_method_14_code 44 = .ok (.invokestatic 58, 3) := by decide +kernel
theorem eP_utter_47 : decode prog_2_method_14_code 47 = .ok (.istore 7, 2) := by decide +kernel
theorem eP_utter_49 : decode prog_2_method_14_code 49 = .ok (.iload_n 3, 1) := by decide +kernel
theorem eP_utter_50 : decode prog_2_method_14_code 50 = .ok (.iload 5, 2) := by decide +kernel
theorem eP_utter_52 : decode prog_2_method_14_code 52 = .ok (.ishr, 1) := by decide +kernel
theorem eP_utter_53 : decode prog_2_method_14_code 53 = .ok (.iconst 1, 1) := by decide +kernel
theorem eP_utter_54 : decode prog_2_method_14_code 54 = .ok (.iand, 1) := by decide +kernel
theorem eP_utter_55 : decode prog_2_method_14_code 55 = .ok (.iconst 1, 1) := by decide +kernel
theorem eP_utter_56 : decode prog_2_method_14_code 56 = .ok (.if_icmp .ne 58, 3) := by decide +kernel
theorem eP_utter_59 : decode prog_2_method_14_code 59 = .ok (.aload_n 0, 1) := by decide +kernel
theorem eP_utter_60 : decode prog_2_method_14_code 60 = .ok (.aload 6, 2) := by decide +kernel
theorem eP_utter_62 : decode prog_2_method_14_code 62 = .ok (.invokevirtual 62, 3) := by decide +kernel
theorem eP_utter_65 : decode prog_2_method_14_code 65 = .ok (.ifCond .eq 49, 3) := by decide +kernel
theorem eP_utter_68 : decode prog_2_method_14_code 68 = .ok (.iload 7, 2) := by decide +kernel
theorem eP_utter_70 : decode prog_2_method_14_code 70 = .ok (.ifCond .lt 44, 3) := by decide +kernel
theorem eP_utter_73 : decode prog_2_method_14_code 73 = .ok (.aload 6, 2) := by decide +kernel
theorem eP_utter_75 : decode prog_2_method_14_code 75 = .ok (.iconst 4, 1) := by decide +kernel
theorem eP_utter_76 : decode prog_2_method_14_code 76 = .ok (.dup2, 1) := by decide +kernel
theorem eP_utter_77 : decode prog_2_method_14_code 77 = .ok (.iaload, 1) := by decide +kernel
theorem eP_utter_78 : decode prog_2_method_14_code 78 = .ok (.iconst 1, 1) := by decide +kernel
theorem eP_utter_79 : decode prog_2_method_14_code 79 = .ok (.iload 7, 2) := by decide +kernel
theorem eP_utter_81 : decode prog_2_method_14_code 81 = .ok (.ishl, 1) := by decide +kernel
theorem eP_utter_82 : decode prog_2_method_14_code 82 = .ok (.ior, 1) := by decide +kernel
theorem eP_utter_83 : decode prog_2_method_14_code 83 = .ok (.iastore, 1) := by decide +kernel
theorem eP_utter_84 : decode prog_2_method_14_code 84 = .ok (.aload 6, 2) := by decide +kernel
theorem eP_utter_86 : decode prog_2_method_14_code 86 = .ok (.iconst 5, 1) := by decide +kernel
theorem eP_utter_87 : decode prog_2_method_14_code 87 = .ok (.bipush 99, 2) := by decide +kernel
theorem eP_utter_89 : decode prog_2_method_14_code 89 = .ok (.aload 6, 2) := by decide +kernel
theorem eP_utter_91 : decode prog_2_method_14_code 91 = .ok (.iconst 5, 1) := by decide +kernel
theorem eP_utter_92 : decode prog_2_method_14_code 92 = .ok (.iaload, 1) := by decide +kernel
theorem eP_utter_93 : decode prog_2_method_14_code 93 = .ok (.aload 6, 2) := by decide +kernel
theorem eP_utter_95 : decode prog_2_method_14_code 95 = .ok (.iconst 0, 1) := by decide +kernel
theorem eP_utter_96 : decode prog_2_method_14_code 96 = .ok (.iaload, 1) := by decide +kernel
theorem eP_utter_97 : decode prog_2_method_14_code 97 = .ok (.invokestatic 66, 3) := by decide +kernel
theorem eP_utter_100 : decode prog_2_method_14_code 100 = .ok (.iadd, 1) := by decide +kernel
theorem eP_utter_101 : decode prog_2_method_14_code 101 = .ok (.invokestatic 69, 3) := by decide +kernel
theorem eP_utter_104 : decode prog_2_method_14_code 104 = .ok (.iastore, 1) := by decide +kernel
theorem eP_utter_105 : decode prog_2_method_14_code 105 = .ok (.iload 4, 2) := by decide +kernel
theorem eP_utter_107 : decode prog_2_method_14_code 107 = .ok (.iconst 1, 1) := by decide +kernel
theorem eP_utter_108 : decode prog_2_method_14_code 108 = .ok (.iload 5, 2) := by decide +kernel
theorem eP_utter_110 : decode prog_2_method_14_code 110 = .ok (.ishl, 1) := by decide +kernel
theorem eP_utter_111 : decode prog_2_method_14_code 111 = .ok (.ior, 1) := by decide +kernel
theorem eP_utter_112 : decode prog_2_method_14_code 112 = .ok (.istore 4, 2) := by decide +kernel
theorem eP_utter_114 : decode prog_2_method_14_code 114 = .ok (.iinc 5 1, 3) := by decide +kernel
theorem eP_utter_117 : decode prog_2_method_14_code 117 = .ok (.goto (-94), 3) := by decide +kernel
theorem eP_utter_120 : decode prog_2_method_14_code 120 = .ok (.iload 4, 2) := by decide +kernel
theorem eP_utter_122 : decode prog_2_method_14_code 122 = .ok (.ireturn, 1) := by decide +kernel
theorem eP_onDuty_0 : decode prog_2_method_9_code 0 = .ok (.iload_n 1, 1) := by decide +kernel
theorem eP_onDuty_1 : decode prog_2_method_9_code 1 = .ok (.iload_n 2, 1) := by decide +kernel
theorem eP_onDuty_2 : decode prog_2_method_9_code 2 = .ok (.invokestatic 40, 3) := by decide +kernel
theorem eP_onDuty_5 : decode prog_2_method_9_code 5 = .ok (.istore_n 3, 1) := by decide +kernel
theorem eP_onDuty_6 : decode prog_2_method_9_code 6 = .ok (.iload_n 1, 1) := by decide +kernel
theorem eP_onDuty_7 : decode prog_2_method_9_code 7 = .ok (.iload_n 2, 1) := by decide +kernel
theorem eP_onDuty_8 : decode prog_2_method_9_code 8 = .ok (.invokestatic 43, 3) := by decide +kernel
theorem eP_onDuty_11 : decode prog_2_method_9_code 11 = .ok (.istore 4, 2) := by decide +kernel
theorem eP_onDuty_13 : decode prog_2_method_9_code 13 = .ok (.iconst 0, 1) := by decide +kernel
theorem eP_onDuty_14 : decode prog_2_method_9_code 14 = .ok (.istore 5, 2) := by decide +kernel
theorem eP_onDuty_16 : decode prog_2_method_9_code 16 = .ok (.iconst 0, 1) := by decide +kernel
theorem eP_onDuty_17 : decode prog_2_method_9_code 17 = .ok (.istore 6, 2) := by decide +kernel
theorem eP_onDuty_19 : decode prog_2_method_9_code 19 = .ok (.iload 6, 2) := by decide +kernel
theorem eP_onDuty_21 : decode prog_2_method_9_code 21 = .ok (.aload_n 0, 1) := by decide +kernel
theorem eP_onDuty_22 : decode prog_2_method_9_code 22 = .ok (.getfield 19, 3) := by decide +kernel
theorem eP_onDuty_25 : decode prog_2_method_9_code 25 = .ok (.if_icmp .ge 46, 3) := by decide +kernel
theorem eP_onDuty_28 : decode prog_2_method_9_code 28 = .ok (.aload_n 0, 1) := by decide +kernel
theorem eP_onDuty_29 : decode prog_2_method_9_code 29 = .ok (.aload_n 0, 1) := by decide +kernel
theorem eP_onDuty_30 : decode prog_2_method_9_code 30 = .ok (.getfield 24, 3) := by decide +kernel
theorem eP_onDuty_33 : decode prog_2_method_9_code 33 = .ok (.iload 6, 2) := by decide +kernel
theorem eP_onDuty_35 : decode prog_2_method_9_code 35 = .ok (.aaload, 1) := by decide +kernel
theorem eP_onDuty_36 : decode prog_2_method_9_code 36 = .ok (.iconst 0, 1) := by decide +kernel
theorem eP_onDuty_37 : decode prog_2_method_9_code 37 = .ok (.iaload, 1) := by decide +kernel
theorem eP_onDuty_38 : decode prog_2_method_9_code 38 = .ok (.aload_n 0, 1) := by decide +kernel
theorem eP_onDuty_39 : decode prog_2_method_9_code 39 = .ok (.getfield 24, 3) := by decide +kernel
theorem eP_onDuty_42 : decode prog_2_method_9_code 42 = .ok (.iload 6, 2) := by decide +kernel
theorem eP_onDuty_44 : decode prog_2_method_9_code 44 = .ok (.aaload, 1) := by decide +kernel
theorem eP_onDuty_45 : decode prog_2_method_9_code 45 = .ok (.iconst 3, 1) := by decide +kernel
theorem eP_onDuty_46 : decode prog_2_method_9_code 46 = .ok (.iaload, 1) := by decide +kernel
theorem eP_onDuty_47 : decode prog_2_method_9_code 47 = .ok (.iload_n 3, 1) := by decide +kernel
theorem eP_onDuty_48 : decode prog_2_method_9_code 48 = .ok (.iload 4, 2) := by decide +kernel
theorem eP_onDuty_50 : decode prog_2_method_9_code 50 = .ok (.invokevirtual 46, 3) := by decide +kernel
theorem eP_onDuty_53 : decode prog_2_method_9_code 53 = .ok (.ifCond .eq 12, 3) := by decide +kernel
theorem eP_onDuty_56 : decode prog_2_method_9_code 56 = .ok (.iload 5, 2) := by decide +kernel
theorem eP_onDuty_58 : decode prog_2_method_9_code 58 = .ok (.iconst 1, 1) := by decide +kernel
theorem eP_onDuty_59 : decode prog_2_method_9_code 59 = .ok (.iload 6, 2) := by decide +kernel
theorem eP_onDuty_61 : decode prog_2_method_9_code 61 = .ok (.ishl, 1) := by decide +kernel
theorem eP_onDuty_62 : decode prog_2_method_9_code 62 = .ok (.ior, 1) := by decide +kernel
theorem eP_onDuty_63 : decode prog_2_method_9_code 63 = .ok (.istore 5, 2) := by decide +kernel
theorem eP_onDuty_65 : decode prog_2_method_9_code 65 = .ok (.iinc 6 1, 3) := by decide +kernel
theorem eP_onDuty_68 : decode prog_2_method_9_code 68 = .ok (.goto (-49), 3) := by decide +kernel
theorem eP_onDuty_71 : decode prog_2_method_9_code 71 = .ok (.iload 5, 2) := by decide +kernel
theorem eP_onDuty_73 : decode prog_2_method_9_code 73 = .ok (.ireturn, 1) := by decide +kernel
theorem eW_quarterOf_0 : decode prog_1_method_54_code 0 = .ok (.iload_n 1, 1) := by decide +kernel
theorem eW_quarterOf_1 : decode prog_1_method_54_code 1 = .ok (.iconst 1, 1) := by decide +kernel
theorem eW_quarterOf_2 : decode prog_1_method_54_code 2 = .ok (.if_icmp .ge 7, 3) := by decide +kernel
theorem eW_quarterOf_5 : decode prog_1_method_54_code 5 = .ok (.iconst 0, 1) := by decide +kernel
theorem eW_quarterOf_6 : decode prog_1_method_54_code 6 = .ok (.goto 8, 3) := by decide +kernel
theorem eW_quarterOf_9 : decode prog_1_method_54_code 9 = .ok (.iload_n 0, 1) := by decide +kernel
theorem eW_quarterOf_10 : decode prog_1_method_54_code 10 = .ok (.iload_n 1, 1) := by decide +kernel
theorem eW_quarterOf_11 : decode prog_1_method_54_code 11 = .ok (.idiv, 1) := by decide +kernel
theorem eW_quarterOf_12 : decode prog_1_method_54_code 12 = .ok (.iconst 4, 1) := by decide +kernel
theorem eW_quarterOf_13 : decode prog_1_method_54_code 13 = .ok (.irem, 1) := by decide +kernel
theorem eW_quarterOf_14 : decode prog_1_method_54_code 14 = .ok (.ireturn, 1) := by decide +kernel
theorem eW_restOf_0 : decode prog_1_method_55_code 0 = .ok (.iload_n 1, 1) := by decide +kernel
theorem eW_restOf_1 : decode prog_1_method_55_code 1 = .ok (.iconst 1, 1) := by decide +kernel
theorem eW_restOf_2 : decode prog_1_method_55_code 2 = .ok (.if_icmp .ge 7, 3) := by decide +kernel
theorem eW_restOf_5 : decode prog_1_method_55_code 5 = .ok (.iconst 0, 1) := by decide +kernel
theorem eW_restOf_6 : decode prog_1_method_55_code 6 = .ok (.goto 6, 3) := by decide +kernel
theorem eW_restOf_9 : decode prog_1_method_55_code 9 = .ok (.iload_n 0, 1) := by decide +kernel
theorem eW_restOf_10 : decode prog_1_method_55_code 10 = .ok (.iload_n 1, 1) := by decide +kernel
theorem eW_restOf_11 : decode prog_1_method_55_code 11 = .ok (.irem, 1) := by decide +kernel
theorem eW_restOf_12 : decode prog_1_method_55_code 12 = .ok (.ireturn, 1) := by decide +kernel
theorem eP_listens_0 : decode prog_2_method_7_code 0 = .ok (.iload 4, 2) := by decide +kernel
theorem eP_listens_2 : decode prog_2_method_7_code 2 = .ok (.aload_n 0, 1) := by decide +kernel
theorem eP_listens_3 : decode prog_2_method_7_code 3 = .ok (.getfield 15, 3) := by decide +kernel
theorem eP_listens_6 : decode prog_2_method_7_code 6 = .ok (.iconst 1, 1) := by decide +kernel
theorem eP_listens_7 : decode prog_2_method_7_code 7 = .ok (.iaload, 1) := by decide +kernel
theorem eP_listens_8 : decode prog_2_method_7_code 8 = .ok (.if_icmp .lt 7, 3) := by decide +kernel
theorem eP_listens_11 : decode prog_2_method_7_code 11 = .ok (.iconst 1, 1) := by decide +kernel
theorem eP_listens_12 : decode prog_2_method_7_code 12 = .ok (.goto 4, 3) := by decide +kernel
theorem eP_listens_15 : decode prog_2_method_7_code 15 = .ok (.iconst 0, 1) := by decide +kernel
theorem eP_listens_16 : decode prog_2_method_7_code 16 = .ok (.istore 5, 2) := by decide +kernel
theorem eP_listens_18 : decode prog_2_method_7_code 18 = .ok (.iload_n 3, 1) := by decide +kernel
theorem eP_listens_19 : decode prog_2_method_7_code 19 = .ok (.iload_n 2, 1) := by decide +kernel
theorem eP_listens_20 : decode prog_2_method_7_code 20 = .ok (.if_icmp .ne 12, 3) := by decide +kernel
theorem eP_listens_23 : decode prog_2_method_7_code 23 = .ok (.iload 5, 2) := by decide +kernel
theorem eP_listens_25 : decode prog_2_method_7_code 25 = .ok (.ifCond .eq 7, 3) := by decide +kernel
theorem eP_listens_28 : decode prog_2_method_7_code 28 = .ok (.iconst 1, 1) := by decide +kernel
theorem eP_listens_29 : decode prog_2_method_7_code 29 = .ok (.goto 4, 3) := by decide +kernel
theorem eP_listens_32 : decode prog_2_method_7_code 32 = .ok (.iconst 0, 1) := by decide +kernel
theorem eP_listens_33 : decode prog_2_method_7_code 33 = .ok (.istore 6, 2) := by decide +kernel
theorem eP_listens_35 : decode prog_2_method_7_code 35 = .ok (.aload_n 0, 1) := by decide +kernel
theorem eP_listens_36 : decode prog_2_method_7_code 36 = .ok (.getfield 15, 3) := by decide +kernel
theorem eP_listens_39 : decode prog_2_method_7_code 39 = .ok (.iconst 2, 1) := by decide +kernel
theorem eP_listens_40 : decode prog_2_method_7_code 40 = .ok (.iaload, 1) := by decide +kernel
theorem eP_listens_41 : decode prog_2_method_7_code 41 = .ok (.iconst 3, 1) := by decide +kernel
theorem eP_listens_42 : decode prog_2_method_7_code 42 = .ok (.if_icmp .ne 7, 3) := by decide +kernel
theorem eP_listens_45 : decode prog_2_method_7_code 45 = .ok (.iconst 1, 1) := by decide +kernel
theorem eP_listens_46 : decode prog_2_method_7_code 46 = .ok (.goto 4, 3) := by decide +kernel
theorem eP_listens_49 : decode prog_2_method_7_code 49 = .ok (.iconst 0, 1) := by decide +kernel
theorem eP_listens_50 : decode prog_2_method_7_code 50 = .ok (.istore 7, 2) := by decide +kernel
theorem eP_listens_52 : decode prog_2_method_7_code 52 = .ok (.iload_n 1, 1) := by decide +kernel
theorem eP_listens_53 : decode prog_2_method_7_code 53 = .ok (.tableswitch 97 1 5 #[35, 97, 97, 51, 72], 35) := by decide +kernel
theorem eP_listens_88 : decode prog_2_method_7_code 88 = .ok (.iload 6, 2) := by decide +kernel
theorem eP_listens_90 : decode prog_2_method_7_code 90 = .ok (.ifCond .eq 12, 3) := by decide +kernel
theorem eP_listens_93 : decode prog_2_method_7_code 93 = .ok (.iload 7, 2) := by decide +kernel
theorem eP_listens_95 : decode prog_2_method_7_code 95 = .ok (.ifCond .ne 7, 3) := by decide +kernel
theorem eP_listens_98 : decode prog_2_method_7_code 98 = .ok (.iconst 1, 1) := by decide +kernel
theorem eP_listens_99 : decode prog_2_method_7_code 99 = .ok (.goto 4, 3) := by decide +kernel
theorem eP_listens_102 : decode prog_2_method_7_code 102 = .ok (.iconst 0, 1) := by decide +kernel
theorem eP_listens_103 : decode prog_2_method_7_code 103 = .ok (.ireturn, 1) := by decide +kernel
theorem eP_listens_104 : decode prog_2_method_7_code 104 = .ok (.iload 7, 2) := by decide +kernel
theorem eP_listens_106 : decode prog_2_method_7_code 106 = .ok (.ifCond .eq 16, 3) := by decide +kernel
theorem eP_listens_109 : decode prog_2_method_7_code 109 = .ok (.iload 4, 2) := by decide +kernel
theorem eP_listens_111 : decode prog_2_method_7_code 111 = .ok (.ifCond .ne 7, 3) := by decide +kernel
theorem eP_listens_114 : decode prog_2_method_7_code 114 = .ok (.iconst 1, 1) := by decide +kernel
theorem eP_listens_115 : decode prog_2_method_7_code 115 = .ok (.goto 9, 3) := by decide +kernel
theorem eP_listens_118 : decode prog_2_method_7_code 118 = .ok (.iconst 0, 1) := by decide +kernel
theorem eP_listens_119 : decode prog_2_method_7_code 119 = .ok (.goto 5, 3) := by decide +kernel
theorem eP_listens_122 : decode prog_2_method_7_code 122 = .ok (.iload 6, 2) := by decide +kernel
theorem eP_listens_124 : decode prog_2_method_7_code 124 = .ok (.ireturn, 1) := by decide +kernel
theorem eP_listens_125 : decode prog_2_method_7_code 125 = .ok (.iload 6, 2) := by decide +kernel
theorem eP_listens_127 : decode prog_2_method_7_code 127 = .ok (.ifCond .ne 17, 3) := by decide +kernel
theorem eP_listens_130 : decode prog_2_method_7_code 130 = .ok (.iload_n 3, 1) := by decide +kernel
theorem eP_listens_131 : decode prog_2_method_7_code 131 = .ok (.iload_n 2, 1) := by decide +kernel
theorem eP_listens_132 : decode prog_2_method_7_code 132 = .ok (.iconst 1, 1) := by decide +kernel
theorem eP_listens_133 : decode prog_2_method_7_code 133 = .ok (.iadd, 1) := by decide +kernel
theorem eP_listens_134 : decode prog_2_method_7_code 134 = .ok (.iconst 4, 1) := by decide +kernel
theorem eP_listens_135 : decode prog_2_method_7_code 135 = .ok (.irem, 1) := by decide +kernel
theorem eP_listens_136 : decode prog_2_method_7_code 136 = .ok (.if_icmp .ne 12, 3) := by decide +kernel
theorem eP_listens_139 : decode prog_2_method_7_code 139 = .ok (.iload 5, 2) := by decide +kernel
theorem eP_listens_141 : decode prog_2_method_7_code 141 = .ok (.ifCond .eq 7, 3) := by decide +kernel
theorem eP_listens_144 : decode prog_2_method_7_code 144 = .ok (.iconst 1, 1) := by decide +kernel
theorem eP_listens_145 : decode prog_2_method_7_code 145 = .ok (.goto 4, 3) := by decide +kernel
theorem eP_listens_148 : decode prog_2_method_7_code 148 = .ok (.iconst 0, 1) := by decide +kernel
theorem eP_listens_149 : decode prog_2_method_7_code 149 = .ok (.ireturn, 1) := by decide +kernel
theorem eP_listens_150 : decode prog_2_method_7_code 150 = .ok (.iload 6, 2) := by decide +kernel
theorem eP_listens_152 : decode prog_2_method_7_code 152 = .ok (.ireturn, 1) := by decide +kernel
theorem eW_becomes_0 : decode prog_1_method_57_code 0 = .ok (.aload_n 0, 1) := by decide +kernel
theorem eW_becomes_1 : decode prog_1_method_57_code 1 = .ok (.iconst 0, 1) := by decide +kernel
theorem eW_becomes_2 : decode prog_1_method_57_code 2 = .ok (.iaload, 1) := by decide +kernel
theorem eW_becomes_3 : decode prog_1_method_57_code 3 = .ok (.tableswitch 58 2 5 #[29, 58, 33, 44], 29) := by decide +kernel
theorem eW_becomes_32 : decode prog_1_method_57_code 32 = .ok (.iload_n 1, 1) := by decide +kernel
theorem eW_becomes_33 : decode prog_1_method_57_code 33 = .ok (.iconst 1, 1) := by decide +kernel
theorem eW_becomes_34 : decode prog_1_method_57_code 34 = .ok (.ixor, 1) := by decide +kernel
theorem eW_becomes_35 : decode prog_1_method_57_code 35 = .ok (.ireturn, 1) := by decide +kernel
theorem eW_becomes_36 : decode prog_1_method_57_code 36 = .ok (.iload_n 1, 1) := by decide +kernel
theorem eW_becomes_37 : decode prog_1_method_57_code 37 = .ok (.iconst 4, 1) := by decide +kernel
theorem eW_becomes_38 : decode prog_1_method_57_code 38 = .ok (.if_icmp .ge 7, 3) := by decide +kernel
theorem eW_becomes_41 : decode prog_1_method_57_code 41 = .ok (.iconst (-1), 1) := by decide +kernel
theorem eW_becomes_42 : decode prog_1_method_57_code 42 = .ok (.goto 4, 3) := by decide +kernel
theorem eW_becomes_45 : decode prog_1_method_57_code 45 = .ok (.iload_n 1, 1) := by decide +kernel
theorem eW_becomes_46 : decode prog_1_method_57_code 46 = .ok (.ireturn, 1) := by decide +kernel
theorem eW_becomes_47 : decode prog_1_method_57_code 47 = .ok (.aload_n 0, 1) := by decide +kernel
theorem eW_becomes_48 : decode prog_1_method_57_code 48 = .ok (.iconst 5, 1) := by decide +kernel
theorem eW_becomes_49 : decode prog_1_method_57_code 49 = .ok (.iaload, 1) := by decide +kernel
theorem eW_becomes_50 : decode prog_1_method_57_code 50 = .ok (.ifCond .ne 7, 3) := by decide +kernel
theorem eW_becomes_53 : decode prog_1_method_57_code 53 = .ok (.iload_n 1, 1) := by decide +kernel
theorem eW_becomes_54 : decode prog_1_method_57_code 54 = .ok (.goto 6, 3) := by decide +kernel
theorem eW_becomes_57 : decode prog_1_method_57_code 57 = .ok (.iload_n 1, 1) := by decide +kernel
theorem eW_becomes_58 : decode prog_1_method_57_code 58 = .ok (.iconst 1, 1) := by decide +kernel
theorem eW_becomes_59 : decode prog_1_method_57_code 59 = .ok (.ixor, 1) := by decide +kernel
theorem eW_becomes_60 : decode prog_1_method_57_code 60 = .ok (.ireturn, 1) := by decide +kernel
theorem eW_becomes_61 : decode prog_1_method_57_code 61 = .ok (.iload_n 1, 1) := by decide +kernel
theorem eW_becomes_62 : decode prog_1_method_57_code 62 = .ok (.ireturn, 1) := by decide +kernel
theorem eP_isAwake_0 : decode prog_2_method_6_code 0 = .ok (.aload_n 1, 1) := by decide +kernel
theorem eP_isAwake_1 : decode prog_2_method_6_code 1 = .ok (.iconst 5, 1) := by decide +kernel
theorem eP_isAwake_2 : decode prog_2_method_6_code 2 = .ok (.iaload, 1) := by decide +kernel
theorem eP_isAwake_3 : decode prog_2_method_6_code 3 = .ok (.aload_n 0, 1) := by decide +kernel
theorem eP_isAwake_4 : decode prog_2_method_6_code 4 = .ok (.getfield 15, 3) := by decide +kernel
theorem eP_isAwake_7 : decode prog_2_method_6_code 7 = .ok (.iconst 3, 1) := by decide +kernel
theorem eP_isAwake_8 : decode prog_2_method_6_code 8 = .ok (.iaload, 1) := by decide +kernel
theorem eP_isAwake_9 : decode prog_2_method_6_code 9 = .ok (.if_icmp .ge 7, 3) := by decide +kernel
theorem eP_isAwake_12 : decode prog_2_method_6_code 12 = .ok (.iconst 1, 1) := by decide +kernel
theorem eP_isAwake_13 : decode prog_2_method_6_code 13 = .ok (.goto 4, 3) := by decide +kernel
theorem eP_isAwake_16 : decode prog_2_method_6_code 16 = .ok (.iconst 0, 1) := by decide +kernel
theorem eP_isAwake_17 : decode prog_2_method_6_code 17 = .ok (.ireturn, 1) := by decide +kernel
theorem eW_tires_0 : decode prog_1_method_56_code 0 = .ok (.iload_n 0, 1) := by decide +kernel
theorem eW_tires_1 : decode prog_1_method_56_code 1 = .ok (.tableswitch 31 3 5 #[27, 29, 27], 27) := by decide +kernel
theorem eW_tires_28 : decode prog_1_method_56_code 28 = .ok (.iconst 2, 1) := by decide +kernel
theorem eW_tires_29 : decode prog_1_method_56_code 29 = .ok (.ireturn, 1) := by decide +kernel
theorem eW_tires_30 : decode prog_1_method_56_code 30 = .ok (.iconst 0, 1) := by decide +kernel
theorem eW_tires_31 : decode prog_1_method_56_code 31 = .ok (.ireturn, 1) := by decide +kernel
theorem eW_tires_32 : decode prog_1_method_56_code 32 = .ok (.iconst 1, 1) := by decide +kernel
theorem eW_tires_33 : decode prog_1_method_56_code 33 = .ok (.ireturn, 1) := by decide +kernel
theorem eW_pass_0 : decode prog_1_method_10_code 0 = .ok (.iload_n 1, 1) := by decide +kernel
theorem eW_pass_1 : decode prog_1_method_10_code 1 = .ok (.iconst 1, 1) := by decide +kernel
theorem eW_pass_2 : decode prog_1_method_10_code 2 = .ok (.sipush 240, 3) := by decide +kernel
theorem eW_pass_5 : decode prog_1_method_10_code 5 = .ok (.invokestatic 82, 3) := by decide +kernel
theorem eW_pass_8 : decode prog_1_method_10_code 8 = .ok (.ifCond .ne 10, 3) := by decide +kernel
theorem eW_pass_11 : decode prog_1_method_10_code 11 = .ok (.aload_n 0, 1) := by decide +kernel
theorem eW_pass_12 : decode prog_1_method_10_code 12 = .ok (.ldc 51, 2) := by decide +kernel
theorem eW_pass_14 : decode prog_1_method_10_code 14 = .ok (.invokevirtual 52, 3) := by decide +kernel
theorem eW_pass_17 : decode prog_1_method_10_code 17 = .ok (.ireturn, 1) := by decide +kernel
theorem eW_pass_18 : decode prog_1_method_10_code 18 = .ok (.aload_n 0, 1) := by decide +kernel
theorem eW_pass_19 : decode prog_1_method_10_code 19 = .ok (.getfield 10, 3) := by decide +kernel
theorem eW_pass_22 : decode prog_1_method_10_code 22 = .ok (.getfield 86, 3) := by decide +kernel
theorem eW_pass_25 : decode prog_1_method_10_code 25 = .ok (.ldc 126, 2) := by decide +kernel
theorem eW_pass_27 : decode prog_1_method_10_code 27 = .ok (.iload_n 1, 1) := by decide +kernel
theorem eW_pass_28 : decode prog_1_method_10_code 28 = .ok (.isub, 1) := by decide +kernel
theorem eW_pass_29 : decode prog_1_method_10_code 29 = .ok (.if_icmp .le 10, 3) := by decide +kernel
theorem eW_pass_32 : decode prog_1_method_10_code 32 = .ok (.aload_n 0, 1) := by decide +kernel
theorem eW_pass_33 : decode prog_1_method_10_code 33 = .ok (.ldc 127, 2) := by decide +kernel
theorem eW_pass_35 : decode prog_1_method_10_code 35 = .ok (.invokevirtual 52, 3) := by decide +kernel
theorem eW_pass_38 : decode prog_1_method_10_code 38 = .ok (.ireturn, 1) := by decide +kernel
theorem eW_pass_39 : decode prog_1_method_10_code 39 = .ok (.iconst 0, 1) := by decide +kernel
theorem eW_pass_40 : decode prog_1_method_10_code 40 = .ok (.istore_n 2, 1) := by decide +kernel
theorem eW_pass_41 : decode prog_1_method_10_code 41 = .ok (.iload_n 2, 1) := by decide +kernel
theorem eW_pass_42 : decode prog_1_method_10_code 42 = .ok (.iload_n 1, 1) := by decide +kernel
theorem eW_pass_43 : decode prog_1_method_10_code 43 = .ok (.if_icmp .ge 16, 3) := by decide +kernel
theorem eW_pass_46 : decode prog_1_method_10_code 46 = .ok (.aload_n 0, 1) := by decide +kernel
theorem eW_pass_47 : decode prog_1_method_10_code 47 = .ok (.getfield 10, 3) := by decide +kernel
theorem eW_pass_50 : decode prog_1_method_10_code 50 = .ok (.invokevirtual 128, 3) := by decide +kernel
theorem eW_pass_53 : decode prog_1_method_10_code 53 = .ok (.iinc 2 1, 3) := by decide +kernel
theorem eW_pass_56 : decode prog_1_method_10_code 56 = .ok (.goto (-15), 3) := by decide +kernel
theorem eW_pass_59 : decode prog_1_method_10_code 59 = .ok (.aload_n 0, 1) := by decide +kernel
theorem eW_pass_60 : decode prog_1_method_10_code 60 = .ok (.getfield 10, 3) := by decide +kernel
theorem eW_pass_63 : decode prog_1_method_10_code 63 = .ok (.getfield 86, 3) := by decide +kernel
theorem eW_pass_66 : decode prog_1_method_10_code 66 = .ok (.ireturn, 1) := by decide +kernel
theorem eP_goOn_0 : decode prog_2_method_16_code 0 = .ok (.aload_n 0, 1) := by decide +kernel
theorem eP_goOn_1 : decode prog_2_method_16_code 1 = .ok (.dup, 1) := by decide +kernel
theorem eP_goOn_2 : decode prog_2_method_16_code 2 = .ok (.getfield 9, 3) := by decide +kernel
theorem eP_goOn_5 : decode prog_2_method_16_code 5 = .ok (.iconst 1, 1) := by decide +kernel
theorem eP_goOn_6 : decode prog_2_method_16_code 6 = .ok (.iadd, 1) := by decide +kernel
theorem eP_goOn_7 : decode prog_2_method_16_code 7 = .ok (.putfield 9, 3) := by decide +kernel
theorem eP_goOn_10 : decode prog_2_method_16_code 10 = .ok (.aload_n 0, 1) := by decide +kernel
theorem eP_goOn_11 : decode prog_2_method_16_code 11 = .ok (.getfield 15, 3) := by decide +kernel
theorem eP_goOn_14 : decode prog_2_method_16_code 14 = .ok (.iconst 0, 1) := by decide +kernel
theorem eP_goOn_15 : decode prog_2_method_16_code 15 = .ok (.iaload, 1) := by decide +kernel
theorem eP_goOn_16 : decode prog_2_method_16_code 16 = .ok (.istore_n 1, 1) := by decide +kernel
theorem eP_goOn_17 : decode prog_2_method_16_code 17 = .ok (.aload_n 0, 1) := by decide +kernel
theorem eP_goOn_18 : decode prog_2_method_16_code 18 = .ok (.getfield 9, 3) := by decide +kernel
theorem eP_goOn_21 : decode prog_2_method_16_code 21 = .ok (.iload_n 1, 1) := by decide +kernel
theorem eP_goOn_22 : decode prog_2_method_16_code 22 = .ok (.invokestatic 43, 3) := by decide +kernel
theorem eP_goOn_25 : decode prog_2_method_16_code 25 = .ok (.ifCond .eq 4, 3) := by decide +kernel
theorem eP_goOn_28 : decode prog_2_method_16_code 28 = .ok (.return_, 1) := by decide +kernel
theorem eP_goOn_29 : decode prog_2_method_16_code 29 = .ok (.iconst 0, 1) := by decide +kernel
theorem eP_goOn_30 : decode prog_2_method_16_code 30 = .ok (.istore_n 2, 1) := by decide +kernel
theorem eP_goOn_31 : decode prog_2_method_16_code 31 = .ok (.iload_n 2, 1) := by decide +kernel
theorem eP_goOn_32 : decode prog_2_method_16_code 32 = .ok (.aload_n 0, 1) := by decide +kernel
theorem eP_goOn_33 : decode prog_2_method_16_code 33 = .ok (.getfield 19, 3) := by decide +kernel
theorem eP_goOn_36 : decode prog_2_method_16_code 36 = .ok (.if_icmp .ge 37, 3) := by decide +kernel
theorem eP_goOn_39 : decode prog_2_method_16_code 39 = .ok (.aload_n 0, 1) := by decide +kernel
theorem eP_goOn_40 : decode prog_2_method_16_code 40 = .ok (.getfield 24, 3) := by decide +kernel
theorem eP_goOn_43 : decode prog_2_method_16_code 43 = .ok (.iload_n 2, 1) := by decide +kernel
theorem eP_goOn_44 : decode prog_2_method_16_code 44 = .ok (.aaload, 1) := by decide +kernel
theorem eP_goOn_45 : decode prog_2_method_16_code 45 = .ok (.iconst 3, 1) := by decide +kernel
theorem eP_goOn_46 : decode prog_2_method_16_code 46 = .ok (.iaload, 1) := by decide +kernel
theorem eP_goOn_47 : decode prog_2_method_16_code 47 = .ok (.aload_n 0, 1) := by decide +kernel
theorem eP_goOn_48 : decode prog_2_method_16_code 48 = .ok (.getfield 9, 3) := by decide +kernel
theorem eP_goOn_51 : decode prog_2_method_16_code 51 = .ok (.iload_n 1, 1) := by decide +kernel
theorem eP_goOn_52 : decode prog_2_method_16_code 52 = .ok (.invokestatic 40, 3) := by decide +kernel
theorem eP_goOn_55 : decode prog_2_method_16_code 55 = .ok (.if_icmp .ne 12, 3) := by decide +kernel
theorem eP_goOn_58 : decode prog_2_method_16_code 58 = .ok (.aload_n 0, 1) := by decide +kernel
theorem eP_goOn_59 : decode prog_2_method_16_code 59 = .ok (.getfield 24, 3) := by decide +kernel
theorem eP_goOn_62 : decode prog_2_method_16_code 62 = .ok (.iload_n 2, 1) := by decide +kernel
theorem eP_goOn_63 : decode prog_2_method_16_code 63 = .ok (.aaload, 1) := by decide +kernel
theorem eP_goOn_64 : decode prog_2_method_16_code 64 = .ok (.iconst 5, 1) := by decide +kernel
theorem eP_goOn_65 : decode prog_2_method_16_code 65 = .ok (.iconst 0, 1) := by decide +kernel
theorem eP_goOn_66 : decode prog_2_method_16_code 66 = .ok (.iastore, 1) := by decide +kernel
theorem eP_goOn_67 : decode prog_2_method_16_code 67 = .ok (.iinc 2 1, 3) := by decide +kernel
theorem eP_goOn_70 : decode prog_2_method_16_code 70 = .ok (.goto (-39), 3) := by decide +kernel
theorem eP_goOn_73 : decode prog_2_method_16_code 73 = .ok (.return_, 1) := by decide +kernel
theorem eW_speak_0 : decode prog_1_method_11_code 0 = .ok (.iload_n 1, 1) := by decide +kernel
theorem eW_speak_1 : decode prog_1_method_11_code 1 = .ok (.invokestatic 63, 3) := by decide +kernel
theorem eW_speak_4 : decode prog_1_method_11_code 4 = .ok (.ifCond .eq 10, 3) := by decide +kernel
theorem eW_speak_7 : decode prog_1_method_11_code 7 = .ok (.iload_n 2, 1) := by decide +kernel
theorem eW_speak_8 : decode prog_1_method_11_code 8 = .ok (.invokestatic 131, 3) := by decide +kernel
theorem eW_speak_11 : decode prog_1_method_11_code 11 = .ok (.ifCond .ne 10, 3) := by decide +kernel
theorem eW_speak_14 : decode prog_1_method_11_code 14 = .ok (.aload_n 0, 1) := by decide +kernel
theorem eW_speak_15 : decode prog_1_method_11_code 15 = .ok (.ldc 51, 2) := by decide +kernel
theorem eW_speak_17 : decode prog_1_method_11_code 17 = .ok (.invokevirtual 52, 3) := by decide +kernel
theorem eW_speak_20 : decode prog_1_method_11_code 20 = .ok (.ireturn, 1) := by decide +kernel
theorem eW_speak_21 : decode prog_1_method_11_code 21 = .ok (.aload_n 0, 1) := by decide +kernel
theorem eW_speak_22 : decode prog_1_method_11_code 22 = .ok (.getfield 10, 3) := by decide +kernel
theorem eW_speak_25 : decode prog_1_method_11_code 25 = .ok (.getfield 86, 3) := by decide +kernel
theorem eW_speak_28 : decode prog_1_method_11_code 28 = .ok (.ldc 126, 2) := by decide +kernel
theorem eW_speak_30 : decode prog_1_method_11_code 30 = .ok (.iload_n 2, 1) := by decide +kernel
theorem eW_speak_31 : decode prog_1_method_11_code 31 = .ok (.invokestatic 134, 3) := by decide +kernel
theorem eW_speak_34 : decode prog_1_method_11_code 34 = .ok (.isub, 1) := by decide +kernel
theorem eW_speak_35 : decode prog_1_method_11_code 35 = .ok (.if_icmp .le 10, 3) := by decide +kernel
theorem eW_speak_38 : decode prog_1_method_11_code 38 = .ok (.aload_n 0, 1) := by decide +kernel
theorem eW_speak_39 : decode prog_1_method_11_code 39 = .ok (.ldc 127, 2) := by decide +kernel
theorem eW_speak_41 : decode prog_1_method_11_code 41 = .ok (.invokevirtual 52, 3) := by decide +kernel
theorem eW_speak_44 : decode prog_1_method_11_code 44 = .ok (.ireturn, 1) := by decide +kernel
theorem eW_speak_45 : decode prog_1_method_11_code 45 = .ok (.aload_n 0, 1) := by decide +kernel
theorem eW_speak_46 : decode prog_1_method_11_code 46 = .ok (.getfield 10, 3) := by decide +kernel
theorem eW_speak_49 : decode prog_1_method_11_code 49 = .ok (.iload_n 1, 1) := by decide +kernel
theorem eW_speak_50 : decode prog_1_method_11_code 50 = .ok (.iload_n 2, 1) := by decide +kernel
theorem eW_speak_51 : decode prog_1_method_11_code 51 = .ok (.invokevirtual 139, 3) := by decide +kernel
theorem eW_speak_54 : decode prog_1_method_11_code 54 = .ok (.ireturn, 1) := by decide +kernel
theorem eW_isSetOfWords_0 : decode prog_1_method_50_code 0 = .ok (.iload_n 0, 1) := by decide +kernel
theorem eW_isSetOfWords_1 : decode prog_1_method_50_code 1 = .ok (.iconst 0, 1) := by decide +kernel
theorem eW_isSetOfWords_2 : decode prog_1_method_50_code 2 = .ok (.ldc_w 257, 3) := by decide +kernel
theorem eW_isSetOfWords_5 : decode prog_1_method_50_code 5 = .ok (.invokestatic 82, 3) := by decide +kernel
theorem eW_isSetOfWords_8 : decode prog_1_method_50_code 8 = .ok (.ireturn, 1) := by decide +kernel
theorem eJInt_bitCount_0 : decode prog_7_method_49_code 0 = .ok (.iload_n 0, 1) := by decide +kernel
theorem eJInt_bitCount_1 : decode prog_7_method_49_code 1 = .ok (.iload_n 0, 1) := by decide +kernel
theorem eJInt_bitCount_2 : decode prog_7_method_49_code 2 = .ok (.iconst 1, 1) := by decide +kernel
theorem eJInt_bitCount_3 : decode prog_7_method_49_code 3 = .ok (.iushr, 1) := by decide +kernel
theorem eJInt_bitCount_4 : decode prog_7_method_49_code 4 = .ok (.ldc_w 265, 3) := by decide +kernel
theorem eJInt_bitCount_7 : decode prog_7_method_49_code 7 = .ok (.iand, 1) := by decide +kernel
theorem eJInt_bitCount_8 : decode prog_7_method_49_code 8 = .ok (.isub, 1) := by decide +kernel
theorem eJInt_bitCount_9 : decode prog_7_method_49_code 9 = .ok (.istore_n 0, 1) := by decide +kernel
theorem eJInt_bitCount_10 : decode prog_7_method_49_code 10 = .ok (.iload_n 0, 1) := by decide +kernel
theorem eJInt_bitCount_11 : decode prog_7_method_49_code 11 = .ok (.ldc_w 266, 3) := by decide +kernel
theorem eJInt_bitCount_14 : decode prog_7_method_49_code 14 = .ok (.iand, 1) := by decide +kernel
theorem eJInt_bitCount_15 : decode prog_7_method_49_code 15 = .ok (.iload_n 0, 1) := by decide +kernel
theorem eJInt_bitCount_16 : decode prog_7_method_49_code 16 = .ok (.iconst 2, 1) := by decide +kernel
theorem eJInt_bitCount_17 : decode prog_7_method_49_code 17 = .ok (.iushr, 1) := by decide +kernel
theorem eJInt_bitCount_18 : decode prog_7_method_49_code 18 = .ok (.ldc_w 266, 3) := by decide +kernel
theorem eJInt_bitCount_21 : decode prog_7_method_49_code 21 = .ok (.iand, 1) := by decide +kernel
theorem eJInt_bitCount_22 : decode prog_7_method_49_code 22 = .ok (.iadd, 1) := by decide +kernel
theorem eJInt_bitCount_23 : decode prog_7_method_49_code 23 = .ok (.istore_n 0, 1) := by decide +kernel
theorem eJInt_bitCount_24 : decode prog_7_method_49_code 24 = .ok (.iload_n 0, 1) := by decide +kernel
theorem eJInt_bitCount_25 : decode prog_7_method_49_code 25 = .ok (.iload_n 0, 1) := by decide +kernel
theorem eJInt_bitCount_26 : decode prog_7_method_49_code 26 = .ok (.iconst 4, 1) := by decide +kernel
theorem eJInt_bitCount_27 : decode prog_7_method_49_code 27 = .ok (.iushr, 1) := by decide +kernel
theorem eJInt_bitCount_28 : decode prog_7_method_49_code 28 = .ok (.iadd, 1) := by decide +kernel
theorem eJInt_bitCount_29 : decode prog_7_method_49_code 29 = .ok (.ldc_w 267, 3) := by decide +kernel
theorem eJInt_bitCount_32 : decode prog_7_method_49_code 32 = .ok (.iand, 1) := by decide +kernel
theorem eJInt_bitCount_33 : decode prog_7_method_49_code 33 = .ok (.istore_n 0, 1) := by decide +kernel
theorem eJInt_bitCount_34 : decode prog_7_method_49_code 34 = .ok (.iload_n 0, 1) := by decide +kernel
theorem eJInt_bitCount_35 : decode prog_7_method_49_code 35 = .ok (.iload_n 0, 1) := by decide +kernel
theorem eJInt_bitCount_36 : decode prog_7_method_49_code 36 = .ok (.bipush 8, 2) := by decide +kernel
theorem eJInt_bitCount_38 : decode prog_7_method_49_code 38 = .ok (.iushr, 1) := by decide +kernel
theorem eJInt_bitCount_39 : decode prog_7_method_49_code 39 = .ok (.iadd, 1) := by decide +kernel
theorem eJInt_bitCount_40 : decode prog_7_method_49_code 40 = .ok (.istore_n 0, 1) := by decide +kernel
theorem eJInt_bitCount_41 : decode prog_7_method_49_code 41 = .ok (.iload_n 0, 1) := by decide +kernel
theorem eJInt_bitCount_42 : decode prog_7_method_49_code 42 = .ok (.iload_n 0, 1) := by decide +kernel
theorem eJInt_bitCount_43 : decode prog_7_method_49_code 43 = .ok (.bipush 16, 2) := by decide +kernel
theorem eJInt_bitCount_45 : decode prog_7_method_49_code 45 = .ok (.iushr, 1) := by decide +kernel
theorem eJInt_bitCount_46 : decode prog_7_method_49_code 46 = .ok (.iadd, 1) := by decide +kernel
theorem eJInt_bitCount_47 : decode prog_7_method_49_code 47 = .ok (.istore_n 0, 1) := by decide +kernel
theorem eJInt_bitCount_48 : decode prog_7_method_49_code 48 = .ok (.iload_n 0, 1) := by decide +kernel
theorem eJInt_bitCount_49 : decode prog_7_method_49_code 49 = .ok (.bipush 63, 2) := by decide +kernel
theorem eJInt_bitCount_51 : decode prog_7_method_49_code 51 = .ok (.iand, 1) := by decide +kernel
theorem eJInt_bitCount_52 : decode prog_7_method_49_code 52 = .ok (.ireturn, 1) := by decide +kernel
theorem eP_utterAll_0 : decode prog_2_method_15_code 0 = .ok (.aload_n 0, 1) := by decide +kernel
theorem eP_utterAll_1 : decode prog_2_method_15_code 1 = .ok (.iload_n 1, 1) := by decide +kernel
theorem eP_utterAll_2 : decode prog_2_method_15_code 2 = .ok (.invokevirtual 74, 3) := by decide +kernel
theorem eP_utterAll_5 : decode prog_2_method_15_code 5 = .ok (.istore_n 3, 1) := by decide +kernel
theorem eP_utterAll_6 : decode prog_2_method_15_code 6 = .ok (.iconst 0, 1) := by decide +kernel
theorem eP_utterAll_7 : decode prog_2_method_15_code 7 = .ok (.istore 4, 2) := by decide +kernel
theorem eP_utterAll_9 : decode prog_2_method_15_code 9 = .ok (.aload_n 0, 1) := by decide +kernel
theorem eP_utterAll_10 : decode prog_2_method_15_code 10 = .ok (.iconst 0, 1) := by decide +kernel
theorem eP_utterAll_11 : decode prog_2_method_15_code 11 = .ok (.putfield 27, 3) := by decide +kernel
theorem eP_utterAll_14 : decode prog_2_method_15_code 14 = .ok (.iconst 0, 1) := by decide +kernel
theorem eP_utterAll_15 : decode prog_2_method_15_code 15 = .ok (.istore 5, 2) := by decide +kernel
theorem eP_utterAll_17 : decode prog_2_method_15_code 17 = .ok (.iload 5, 2) := by decide +kernel
theorem eP_utterAll_19 : decode prog_2_method_15_code 19 = .ok (.bipush 16, 2) := by decide +kernel
theorem eP_utterAll_21 : decode prog_2_method_15_code 21 = .ok (.if_icmp .ge 64, 3) := by decide +kernel
theorem eP_utterAll_24 : decode prog_2_method_15_code 24 = .ok (.iload_n 2, 1) := by decide +kernel
theorem eP_utterAll_25 : decode prog_2_method_15_code 25 = .ok (.iload 5, 2) := by decide +kernel
theorem eP_utterAll_27 : decode prog_2_method_15_code 27 = .ok (.ishr, 1) := by decide +kernel
theorem eP_utterAll_28 : decode prog_2_method_15_code 28 = .ok (.iconst 1, 1) := by decide +kernel
theorem eP_utterAll_29 : decode prog_2_method_15_code 29 = .ok (.iand, 1) := by decide +kernel
theorem eP_utterAll_30 : decode prog_2_method_15_code 30 = .ok (.iconst 1, 1) := by decide +kernel
theorem eP_utterAll_31 : decode prog_2_method_15_code 31 = .ok (.if_icmp .ne 48, 3) := by decide +kernel
theorem eP_utterAll_34 : decode prog_2_method_15_code 34 = .ok (.aload_n 0, 1) := by decide +kernel
theorem eP_utterAll_35 : decode prog_2_method_15_code 35 = .ok (.iload_n 3, 1) := by decide +kernel
theorem eP_utterAll_36 : decode prog_2_method_15_code 36 = .ok (.iload 5, 2) := by decide +kernel
theorem eP_utterAll_38 : decode prog_2_method_15_code 38 = .ok (.invokevirtual 77, 3) := by decide +kernel
theorem eP_utterAll_41 : decode prog_2_method_15_code 41 = .ok (.istore 6, 2) := by decide +kernel
theorem eP_utterAll_43 : decode prog_2_method_15_code 43 = .ok (.iload 4, 2) := by decide +kernel
theorem eP_utterAll_45 : decode prog_2_method_15_code 45 = .ok (.iload 6, 2) := by decide +kernel
theorem eP_utterAll_47 : decode prog_2_method_15_code 47 = .ok (.invokestatic 80, 3) := by decide +kernel
theorem eP_utterAll_50 : decode prog_2_method_15_code 50 = .ok (.iadd, 1) := by decide +kernel
theorem eP_utterAll_51 : decode prog_2_method_15_code 51 = .ok (.istore 4, 2) := by decide +kernel
theorem eP_utterAll_53 : decode prog_2_method_15_code 53 = .ok (.aload_n 0, 1) := by decide +kernel
theorem eP_utterAll_54 : decode prog_2_method_15_code 54 = .ok (.dup, 1) := by decide +kernel
theorem eP_utterAll_55 : decode prog_2_method_15_code 55 = .ok (.getfield 27, 3) := by decide +kernel
theorem eP_utterAll_58 : decode prog_2_method_15_code 58 = .ok (.iload 6, 2) := by decide +kernel
theorem eP_utterAll_60 : decode prog_2_method_15_code 60 = .ok (.ifCond .ne 10, 3) := by decide +kernel
theorem eP_utterAll_63 : decode prog_2_method_15_code 63 = .ok (.iconst 1, 1) := by decide +kernel
theorem eP_utterAll_64 : decode prog_2_method_15_code 64 = .ok (.iload 5, 2) := by decide +kernel
theorem eP_utterAll_66 : decode prog_2_method_15_code 66 = .ok (.ishl, 1) := by decide +kernel
theorem eP_utterAll_67 : decode prog_2_method_15_code 67 = .ok (.goto 4, 3) := by decide +kernel
theorem eP_utterAll_70 : decode prog_2_method_15_code 70 = .ok (.iconst 0, 1) := by decide +kernel
theorem eP_utterAll_71 : decode prog_2_method_15_code 71 = .ok (.ior, 1) := by decide +kernel
theorem eP_utterAll_72 : decode prog_2_method_15_code 72 = .ok (.putfield 27, 3) := by decide +kernel
theorem eP_utterAll_75 : decode prog_2_method_15_code 75 = .ok (.aload_n 0, 1) := by decide +kernel
theorem eP_utterAll_76 : decode prog_2_method_15_code 76 = .ok (.invokevirtual 85, 3) := by decide +kernel
theorem eP_utterAll_79 : decode prog_2_method_15_code 79 = .ok (.iinc 5 1, 3) := by decide +kernel
theorem eP_utterAll_82 : decode prog_2_method_15_code 82 = .ok (.goto (-65), 3) := by decide +kernel
theorem eP_utterAll_85 : decode prog_2_method_15_code 85 = .ok (.iload 4, 2) := by decide +kernel
theorem eP_utterAll_87 : decode prog_2_method_15_code 87 = .ok (.ireturn, 1) := by decide +kernel
theorem eW_duty_0 : decode prog_1_method_13_code 0 = .ok (.iload_n 1, 1) := by decide +kernel
theorem eW_duty_1 : decode prog_1_method_13_code 1 = .ok (.iconst 0, 1) := by decide +kernel
theorem eW_duty_2 : decode prog_1_method_13_code 2 = .ok (.ldc 126, 2) := by decide +kernel
theorem eW_duty_4 : decode prog_1_method_13_code 4 = .ok (.invokestatic 82, 3) := by decide +kernel
theorem eW_duty_7 : decode prog_1_method_13_code 7 = .ok (.ifCond .ne 10, 3) := by decide +kernel
theorem eW_duty_10 : decode prog_1_method_13_code 10 = .ok (.aload_n 0, 1) := by decide +kernel
theorem eW_duty_11 : decode prog_1_method_13_code 11 = .ok (.ldc 51, 2) := by decide +kernel
theorem eW_duty_13 : decode prog_1_method_13_code 13 = .ok (.invokevirtual 52, 3) := by decide +kernel
theorem eW_duty_16 : decode prog_1_method_13_code 16 = .ok (.ireturn, 1) := by decide +kernel
theorem eW_duty_17 : decode prog_1_method_13_code 17 = .ok (.aload_n 0, 1) := by decide +kernel
theorem eW_duty_18 : decode prog_1_method_13_code 18 = .ok (.getfield 10, 3) := by decide +kernel
theorem eW_duty_21 : decode prog_1_method_13_code 21 = .ok (.iload_n 1, 1) := by decide +kernel
theorem eW_duty_22 : decode prog_1_method_13_code 22 = .ok (.aload_n 0, 1) := by decide +kernel
theorem eW_duty_23 : decode prog_1_method_13_code 23 = .ok (.getfield 10, 3) := by decide +kernel
theorem eW_duty_26 : decode prog_1_method_13_code 26 = .ok (.getfield 56, 3) := by decide +kernel
theorem eW_duty_29 : decode prog_1_method_13_code 29 = .ok (.iconst 0, 1) := by decide +kernel
theorem eW_duty_30 : decode prog_1_method_13_code 30 = .ok (.iaload, 1) := by decide +kernel
theorem eW_duty_31 : decode prog_1_method_13_code 31 = .ok (.invokevirtual 145, 3) := by decide +kernel
theorem eW_duty_34 : decode prog_1_method_13_code 34 = .ok (.ireturn, 1) := by decide +kernel
theorem eW_now_0 : decode prog_1_method_14_code 0 = .ok (.iload_n 1, 1) := by decide +kernel
theorem eW_now_1 : decode prog_1_method_14_code 1 = .ok (.tableswitch 107 0 6 #[43, 51, 61, 71, 81, 91, 99], 43) := by decide +kernel
theorem eW_now_44 : decode prog_1_method_14_code 44 = .ok (.aload_n 0, 1) := by decide +kernel
theorem eW_now_45 : decode prog_1_method_14_code 45 = .ok (.getfield 10, 3) := by decide +kernel
theorem eW_now_48 : decode prog_1_method_14_code 48 = .ok (.getfield 86, 3) := by decide +kernel
theorem eW_now_51 : decode prog_1_method_14_code 51 = .ok (.ireturn, 1) := by decide +kernel
theorem eW_now_52 : decode prog_1_method_14_code 52 = .ok (.aload_n 0, 1) := by decide +kernel
theorem eW_now_53 : decode prog_1_method_14_code 53 = .ok (.getfield 10, 3) := by decide +kernel
theorem eW_now_56 : decode prog_1_method_14_code 56 = .ok (.getfield 56, 3) := by decide +kernel
theorem eW_now_59 : decode prog_1_method_14_code 59 = .ok (.iconst 0, 1) := by decide +kernel
theorem eW_now_60 : decode prog_1_method_14_code 60 = .ok (.iaload, 1) := by decide +kernel
theorem eW_now_61 : decode prog_1_method_14_code 61 = .ok (.ireturn, 1) := by decide +kernel
theorem eW_now_62 : decode prog_1_method_14_code 62 = .ok (.aload_n 0, 1) := by decide +kernel
theorem eW_now_63 : decode prog_1_method_14_code 63 = .ok (.getfield 10, 3) := by decide +kernel
theorem eW_now_66 : decode prog_1_method_14_code 66 = .ok (.getfield 56, 3) := by decide +kernel
theorem eW_now_69 : decode prog_1_method_14_code 69 = .ok (.iconst 1, 1) := by decide +kernel
theorem eW_now_70 : decode prog_1_method_14_code 70 = .ok (.iaload, 1) := by decide +kernel
theorem eW_now_71 : decode prog_1_method_14_code 71 = .ok (.ireturn, 1) := by decide +kernel
theorem eW_now_72 : decode prog_1_method_14_code 72 = .ok (.aload_n 0, 1) := by decide +kernel
theorem eW_now_73 : decode prog_1_method_14_code 73 = .ok (.getfield 10, 3) := by decide +kernel
theorem eW_now_76 : decode prog_1_method_14_code 76 = .ok (.getfield 56, 3) := by decide +kernel
theorem eW_now_79 : decode prog_1_method_14_code 79 = .ok (.iconst 2, 1) := by decide +kernel
theorem eW_now_80 : decode prog_1_method_14_code 80 = .ok (.iaload, 1) := by decide +kernel
theorem eW_now_81 : decode prog_1_method_14_code 81 = .ok (.ireturn, 1) := by decide +kernel
theorem eW_now_82 : decode prog_1_method_14_code 82 = .ok (.aload_n 0, 1) := by decide +kernel
theorem eW_now_83 : decode prog_1_method_14_code 83 = .ok (.getfield 10, 3) := by decide +kernel
theorem eW_now_86 : decode prog_1_method_14_code 86 = .ok (.getfield 56, 3) := by decide +kernel
theorem eW_now_89 : decode prog_1_method_14_code 89 = .ok (.iconst 3, 1) := by decide +kernel
theorem eW_now_90 : decode prog_1_method_14_code 90 = .ok (.iaload, 1) := by decide +kernel
theorem eW_now_91 : decode prog_1_method_14_code 91 = .ok (.ireturn, 1) := by decide +kernel
theorem eW_now_92 : decode prog_1_method_14_code 92 = .ok (.aload_n 0, 1) := by decide +kernel
theorem eW_now_93 : decode prog_1_method_14_code 93 = .ok (.getfield 10, 3) := by decide +kernel
theorem eW_now_96 : decode prog_1_method_14_code 96 = .ok (.invokevirtual 148, 3) := by decide +kernel
theorem eW_now_99 : decode prog_1_method_14_code 99 = .ok (.ireturn, 1) := by decide +kernel
theorem eW_now_100 : decode prog_1_method_14_code 100 = .ok (.aload_n 0, 1) := by decide +kernel
theorem eW_now_101 : decode prog_1_method_14_code 101 = .ok (.getfield 10, 3) := by decide +kernel
theorem eW_now_104 : decode prog_1_method_14_code 104 = .ok (.invokevirtual 152, 3) := by decide +kernel
theorem eW_now_107 : decode prog_1_method_14_code 107 = .ok (.ireturn, 1) := by decide +kernel
theorem eW_now_108 : decode prog_1_method_14_code 108 = .ok (.aload_n 0, 1) := by decide +kernel
theorem eW_now_109 : decode prog_1_method_14_code 109 = .ok (.ldc 51, 2) := by decide +kernel
theorem eW_now_111 : decode prog_1_method_14_code 111 = .ok (.invokevirtual 52, 3) := by decide +kernel
theorem eW_now_114 : decode prog_1_method_14_code 114 = .ok (.ireturn, 1) := by decide +kernel
theorem eP_wordsInFiles_0 : decode prog_2_method_17_code 0 = .ok (.iconst 0, 1) := by decide +kernel
theorem eP_wordsInFiles_1 : decode prog_2_method_17_code 1 = .ok (.istore_n 1, 1) := by decide +kernel
theorem eP_wordsInFiles_2 : decode prog_2_method_17_code 2 = .ok (.iconst 0, 1) := by decide +kernel
theorem eP_wordsInFiles_3 : decode prog_2_method_17_code 3 = .ok (.istore_n 2, 1) := by decide +kernel
theorem eP_wordsInFiles_4 : decode prog_2_method_17_code 4 = .ok (.iload_n 2, 1) := by decide +kernel
theorem eP_wordsInFiles_5 : decode prog_2_method_17_code 5 = .ok (.aload_n 0, 1) := by decide +kernel
theorem eP_wordsInFiles_6 : decode prog_2_method_17_code 6 = .ok (.getfield 19, 3) := by decide +kernel
theorem eP_wordsInFiles_9 : decode prog_2_method_17_code 9 = .ok (.if_icmp .ge 20, 3) := by decide +kernel
theorem eP_wordsInFiles_12 : decode prog_2_method_17_code 12 = .ok (.iload_n 1, 1) := by decide +kernel
theorem eP_wordsInFiles_13 : decode prog_2_method_17_code 13 = .ok (.aload_n 0, 1) := by decide +kernel
theorem eP_wordsInFiles_14 : decode prog_2_method_17_code 14 = .ok (.getfield 24, 3) := by decide +kernel
theorem eP_wordsInFiles_17 : decode prog_2_method_17_code 17 = .ok (.iload_n 2, 1) := by decide +kernel
theorem eP_wordsInFiles_18 : decode prog_2_method_17_code 18 = .ok (.aaload, 1) := by decide +kernel
theorem eP_wordsInFiles_19 : decode prog_2_method_17_code 19 = .ok (.iconst 4, 1) := by decide +kernel
theorem eP_wordsInFiles_20 : decode prog_2_method_17_code 20 = .ok (.iaload, 1) := by decide +kernel
theorem eP_wordsInFiles_21 : decode prog_2_method_17_code 21 = .ok (.ior, 1) := by decide +kernel
theorem eP_wordsInFiles_22 : decode prog_2_method_17_code 22 = .ok (.istore_n 1, 1) := by decide +kernel
theorem eP_wordsInFiles_23 : decode prog_2_method_17_code 23 = .ok (.iinc 2 1, 3) := by decide +kernel
theorem eP_wordsInFiles_26 : decode prog_2_method_17_code 26 = .ok (.goto (-22), 3) := by decide +kernel
theorem eP_wordsInFiles_29 : decode prog_2_method_17_code 29 = .ok (.iload_n 1, 1) := by decide +kernel
theorem eP_wordsInFiles_30 : decode prog_2_method_17_code 30 = .ok (.ireturn, 1) := by decide +kernel
theorem eP_tiredTogether_0 : decode prog_2_method_20_code 0 = .ok (.iconst 0, 1) := by decide +kernel
theorem eP_tiredTogether_1 : decode prog_2_method_20_code 1 = .ok (.istore_n 1, 1) := by decide +kernel
theorem eP_tiredTogether_2 : decode prog_2_method_20_code 2 = .ok (.iconst 0, 1) := by decide +kernel
theorem eP_tiredTogether_3 : decode prog_2_method_20_code 3 = .ok (.istore_n 2, 1) := by decide +kernel
theorem eP_tiredTogether_4 : decode prog_2_method_20_code 4 = .ok (.iload_n 2, 1) := by decide +kernel
theorem eP_tiredTogether_5 : decode prog_2_method_20_code 5 = .ok (.aload_n 0, 1) := by decide +kernel
theorem eP_tiredTogether_6 : decode prog_2_method_20_code 6 = .ok (.getfield 19, 3) := by decide +kernel
theorem eP_tiredTogether_9 : decode prog_2_method_20_code 9 = .ok (.if_icmp .ge 20, 3) := by decide +kernel
theorem eP_tiredTogether_12 : decode prog_2_method_20_code 12 = .ok (.iload_n 1, 1) := by decide +kernel
theorem eP_tiredTogether_13 : decode prog_2_method_20_code 13 = .ok (.aload_n 0, 1) := by decide +kernel
theorem eP_tiredTogether_14 : decode prog_2_method_20_code 14 = .ok (.getfield 24, 3) := by decide +kernel
theorem eP_tiredTogether_17 : decode prog_2_method_20_code 17 = .ok (.iload_n 2, 1) := by decide +kernel
theorem eP_tiredTogether_18 : decode prog_2_method_20_code 18 = .ok (.aaload, 1) := by decide +kernel
theorem eP_tiredTogether_19 : decode prog_2_method_20_code 19 = .ok (.iconst 5, 1) := by decide +kernel
theorem eP_tiredTogether_20 : decode prog_2_method_20_code 20 = .ok (.iaload, 1) := by decide +kernel
theorem eP_tiredTogether_21 : decode prog_2_method_20_code 21 = .ok (.iadd, 1) := by decide +kernel
theorem eP_tiredTogether_22 : decode prog_2_method_20_code 22 = .ok (.istore_n 1, 1) := by decide +kernel
theorem eP_tiredTogether_23 : decode prog_2_method_20_code 23 = .ok (.iinc 2 1, 3) := by decide +kernel
theorem eP_tiredTogether_26 : decode prog_2_method_20_code 26 = .ok (.goto (-22), 3) := by decide +kernel
theorem eP_tiredTogether_29 : decode prog_2_method_20_code 29 = .ok (.iload_n 1, 1) := by decide +kernel
theorem eP_tiredTogether_30 : decode prog_2_method_20_code 30 = .ok (.ireturn, 1) := by decide +kernel
theorem eW_safe_0 : decode prog_1_method_16_code 0 = .ok (.iload_n 1, 1) := by decide +kernel
theorem eW_safe_1 : decode prog_1_method_16_code 1 = .ok (.invokestatic 63, 3) := by decide +kernel
theorem eW_safe_4 : decode prog_1_method_16_code 4 = .ok (.ifCond .eq 13, 3) := by decide +kernel
theorem eW_safe_7 : decode prog_1_method_16_code 7 = .ok (.iload_n 2, 1) := by decide +kernel
theorem eW_safe_8 : decode prog_1_method_16_code 8 = .ok (.iconst 1, 1) := by decide +kernel
theorem eW_safe_9 : decode prog_1_method_16_code 9 = .ok (.bipush 30, 2) := by decide +kernel
theorem eW_safe_11 : decode prog_1_method_16_code 11 = .ok (.invokestatic 82, 3) := by decide +kernel
theorem eW_safe_14 : decode prog_1_method_16_code 14 = .ok (.ifCond .ne 10, 3) := by decide +kernel
theorem eW_safe_17 : decode prog_1_method_16_code 17 = .ok (.aload_n 0, 1) := by decide +kernel
theorem eW_safe_18 : decode prog_1_method_16_code 18 = .ok (.ldc 51, 2) := by decide +kernel
theorem eW_safe_20 : decode prog_1_method_16_code 20 = .ok (.invokevirtual 52, 3) := by decide +kernel
theorem eW_safe_23 : decode prog_1_method_16_code 23 = .ok (.ireturn, 1) := by decide +kernel
theorem eW_safe_24 : decode prog_1_method_16_code 24 = .ok (.aload_n 0, 1) := by decide +kernel
theorem eW_safe_25 : decode prog_1_method_16_code 25 = .ok (.sipush 240, 3) := by decide +kernel
theorem eW_safe_28 : decode prog_1_method_16_code 28 = .ok (.iload_n 2, 1) := by decide +kernel
theorem eW_safe_29 : decode prog_1_method_16_code 29 = .ok (.iadd, 1) := by decide +kernel
theorem eW_safe_30 : decode prog_1_method_16_code 30 = .ok (.invokevirtual 158, 3) := by decide +kernel
theorem eW_safe_33 : decode prog_1_method_16_code 33 = .ok (.aload_n 0, 1) := by decide +kernel
theorem eW_safe_34 : decode prog_1_method_16_code 34 = .ok (.iload_n 1, 1) := by decide +kernel
theorem eW_safe_35 : decode prog_1_method_16_code 35 = .ok (.iload_n 2, 1) := by decide +kernel
theorem eW_safe_36 : decode prog_1_method_16_code 36 = .ok (.invokevirtual 162, 3) := by decide +kernel
theorem eW_safe_39 : decode prog_1_method_16_code 39 = .ok (.istore_n 3, 1) := by decide +kernel
theorem eW_safe_40 : decode prog_1_method_16_code 40 = .ok (.iload_n 3, 1) := by decide +kernel
theorem eW_safe_41 : decode prog_1_method_16_code 41 = .ok (.ifCond .ge 12, 3) := by decide +kernel
theorem eW_safe_44 : decode prog_1_method_16_code 44 = .ok (.aload_n 0, 1) := by decide +kernel
theorem eW_safe_45 : decode prog_1_method_16_code 45 = .ok (.ldc 118, 2) := by decide +kernel
theorem eW_safe_47 : decode prog_1_method_16_code 47 = .ok (.invokevirtual 52, 3) := by decide +kernel
theorem eW_safe_50 : decode prog_1_method_16_code 50 = .ok (.goto 4, 3) := by decide +kernel
theorem eW_safe_53 : decode prog_1_method_16_code 53 = .ok (.iload_n 3, 1) := by decide +kernel
theorem eW_safe_54 : decode prog_1_method_16_code 54 = .ok (.ireturn, 1) := by decide +kernel
theorem eW_foresee_0 : decode prog_1_method_41_code 0 = .ok (.iconst 0, 1) := by decide +kernel
theorem eW_foresee_1 : decode prog_1_method_41_code 1 = .ok (.istore_n 2, 1) := by decide +kernel
theorem eW_foresee_2 : decode prog_1_method_41_code 2 = .ok (.iload_n 2, 1) := by decide +kernel
theorem eW_foresee_3 : decode prog_1_method_41_code 3 = .ok (.iload_n 1, 1) := by decide +kernel
theorem eW_foresee_4 : decode prog_1_method_41_code 4 = .ok (.if_icmp .ge 49, 3) := by decide +kernel
theorem eW_foresee_7 : decode prog_1_method_41_code 7 = .ok (.iload_n 2, 1) := by decide +kernel
theorem eW_foresee_8 : decode prog_1_method_41_code 8 = .ok (.aload_n 0, 1) := by decide +kernel
theorem eW_foresee_9 : decode prog_1_method_41_code 9 = .ok (.getfield 43, 3) := by decide +kernel
theorem eW_foresee_12 : decode prog_1_method_41_code 12 = .ok (.arraylength, 1) := by decide +kernel
theorem eW_foresee_13 : decode prog_1_method_41_code 13 = .ok (.if_icmp .ge 40, 3) := by decide +kernel
theorem eW_foresee_16 : decode prog_1_method_41_code 16 = .ok (.aload_n 0, 1) := by decide +kernel
theorem eW_foresee_17 : decode prog_1_method_41_code 17 = .ok (.getfield 43, 3) := by decide +kernel
theorem eW_foresee_20 : decode prog_1_method_41_code 20 = .ok (.iload_n 2, 1) := by decide +kernel
theorem eW_foresee_21 : decode prog_1_method_41_code 21 = .ok (.aload_n 0, 1) := by decide +kernel
theorem eW_foresee_22 : decode prog_1_method_41_code 22 = .ok (.getfield 10, 3) := by decide +kernel
theorem eW_foresee_25 : decode prog_1_method_41_code 25 = .ok (.aload_n 0, 1) := by decide +kernel
theorem eW_foresee_26 : decode prog_1_method_41_code 26 = .ok (.getfield 10, 3) := by decide +kernel
theorem eW_foresee_29 : decode prog_1_method_41_code 29 = .ok (.getfield 86, 3) := by decide +kernel
theorem eW_foresee_32 : decode prog_1_method_41_code 32 = .ok (.iload_n 2, 1) := by decide +kernel
theorem eW_foresee_33 : decode prog_1_method_41_code 33 = .ok (.iadd, 1) := by decide +kernel
theorem eW_foresee_34 : decode prog_1_method_41_code 34 = .ok (.aload_n 0, 1) := by decide +kernel
theorem eW_foresee_35 : decode prog_1_method_41_code 35 = .ok (.getfield 10, 3) := by decide +kernel
theorem eW_foresee_38 : decode prog_1_method_41_code 38 = .ok (.getfield 56, 3) := by decide +kernel
theorem eW_foresee_41 : decode prog_1_method_41_code 41 = .ok (.iconst 0, 1) := by decide +kernel
theorem eW_foresee_42 : decode prog_1_method_41_code 42 = .ok (.iaload, 1) := by decide +kernel
theorem eW_foresee_43 : decode prog_1_method_41_code 43 = .ok (.invokevirtual 145, 3) := by decide +kernel
theorem eW_foresee_46 : decode prog_1_method_41_code 46 = .ok (.iastore, 1) := by decide +kernel
theorem eW_foresee_47 : decode prog_1_method_41_code 47 = .ok (.iinc 2 1, 3) := by decide +kernel
theorem eW_foresee_50 : decode prog_1_method_41_code 50 = .ok (.goto (-48), 3) := by decide +kernel
theorem eW_foresee_53 : decode prog_1_method_41_code 53 = .ok (.return_, 1) := by decide +kernel
theorem eW_firstSilence_0 : decode prog_1_method_44_code 0 = .ok (.aload_n 0, 1) := by decide +kernel
theorem eW_firstSilence_1 : decode prog_1_method_44_code 1 = .ok (.getfield 10, 3) := by decide +kernel
theorem eW_firstSilence_4 : decode prog_1_method_44_code 4 = .ok (.iload_n 1, 1) := by decide +kernel
theorem eW_firstSilence_5 : decode prog_1_method_44_code 5 = .ok (.invokevirtual 119, 3) := by decide +kernel
theorem eW_firstSilence_8 : decode prog_1_method_44_code 8 = .ok (.istore_n 3, 1) := by decide +kernel
theorem eW_firstSilence_9 : decode prog_1_method_44_code 9 = .ok (.iconst 0, 1) := by decide +kernel
theorem eW_firstSilence_10 : decode prog_1_method_44_code 10 = .ok (.istore 4, 2) := by decide +kernel
theorem eW_firstSilence_12 : decode prog_1_method_44_code 12 = .ok (.iconst 0, 1) := by decide +kernel
theorem eW_firstSilence_13 : decode prog_1_method_44_code 13 = .ok (.istore 5, 2) := by decide +kernel
theorem eW_firstSilence_15 : decode prog_1_method_44_code 15 = .ok (.iload 5, 2) := by decide +kernel
theorem eW_firstSilence_17 : decode prog_1_method_44_code 17 = .ok (.sipush 240, 3) := by decide +kernel
theorem eW_firstSilence_20 : decode prog_1_method_44_code 20 = .ok (.iload_n 2, 1) := by decide +kernel
theorem eW_firstSilence_21 : decode prog_1_method_44_code 21 = .ok (.iadd, 1) := by decide +kernel
theorem eW_firstSilence_22 : decode prog_1_method_44_code 22 = .ok (.if_icmp .ge 54, 3) := by decide +kernel
theorem eW_firstSilence_25 : decode prog_1_method_44_code 25 = .ok (.iload 5, 2) := by decide +kernel
theorem eW_firstSilence_27 : decode prog_1_method_44_code 27 = .ok (.aload_n 0, 1) := by decide +kernel
theorem eW_firstSilence_28 : decode prog_1_method_44_code 28 = .ok (.getfield 43, 3) := by decide +kernel
theorem eW_firstSilence_31 : decode prog_1_method_44_code 31 = .ok (.arraylength, 1) := by decide +kernel
theorem eW_firstSilence_32 : decode prog_1_method_44_code 32 = .ok (.if_icmp .ge 44, 3) := by decide +kernel
theorem eW_firstSilence_35 : decode prog_1_method_44_code 35 = .ok (.aload_n 0, 1) := by decide +kernel
theorem eW_firstSilence_36 : decode prog_1_method_44_code 36 = .ok (.getfield 43, 3) := by decide +kernel
theorem eW_firstSilence_39 : decode prog_1_method_44_code 39 = .ok (.iload 5, 2) := by decide +kernel
theorem eW_firstSilence_41 : decode prog_1_method_44_code 41 = .ok (.iaload, 1) := by decide +kernel
theorem eW_firstSilence_42 : decode prog_1_method_44_code 42 = .ok (.iload_n 3, 1) := by decide +kernel
theorem eW_firstSilence_43 : decode prog_1_method_44_code 43 = .ok (.iand, 1) := by decide +kernel
theorem eW_firstSilence_44 : decode prog_1_method_44_code 44 = .ok (.ifCond .ne 10, 3) := by decide +kernel
theorem eW_firstSilence_47 : decode prog_1_method_44_code 47 = .ok (.iload 4, 2) := by decide +kernel
theorem eW_firstSilence_49 : decode prog_1_method_44_code 49 = .ok (.iconst 1, 1) := by decide +kernel
theorem eW_firstSilence_50 : decode prog_1_method_44_code 50 = .ok (.iadd, 1) := by decide +kernel
theorem eW_firstSilence_51 : decode prog_1_method_44_code 51 = .ok (.goto 4, 3) := by decide +kernel
theorem eW_firstSilence_54 : decode prog_1_method_44_code 54 = .ok (.iconst 0, 1) := by decide +kernel
theorem eW_firstSilence_55 : decode prog_1_method_44_code 55 = .ok (.istore 4, 2) := by decide +kernel
theorem eW_firstSilence_57 : decode prog_1_method_44_code 57 = .ok (.iload 4, 2) := by decide +kernel
theorem eW_firstSilence_59 : decode prog_1_method_44_code 59 = .ok (.iload_n 2, 1) := by decide +kernel
theorem eW_firstSilence_60 : decode prog_1_method_44_code 60 = .ok (.if_icmp .lt 10, 3) := by decide +kernel
theorem eW_firstSilence_63 : decode prog_1_method_44_code 63 = .ok (.iload 5, 2) := by decide +kernel
theorem eW_firstSilence_65 : decode prog_1_method_44_code 65 = .ok (.iload_n 2, 1) := by decide +kernel
theorem eW_firstSilence_66 : decode prog_1_method_44_code 66 = .ok (.isub, 1) := by decide +kernel
theorem eW_firstSilence_67 : decode prog_1_method_44_code 67 = .ok (.iconst 1, 1) := by decide +kernel
theorem eW_firstSilence_68 : decode prog_1_method_44_code 68 = .ok (.iadd, 1) := by decide +kernel
theorem eW_firstSilence_69 : decode prog_1_method_44_code 69 = .ok (.ireturn, 1) := by decide +kernel
theorem eW_firstSilence_70 : decode prog_1_method_44_code 70 = .ok (.iinc 5 1, 3) := by decide +kernel
theorem eW_firstSilence_73 : decode prog_1_method_44_code 73 = .ok (.goto (-58), 3) := by decide +kernel
theorem eW_firstSilence_76 : decode prog_1_method_44_code 76 = .ok (.iconst (-1), 1) := by decide +kernel
theorem eW_firstSilence_77 : decode prog_1_method_44_code 77 = .ok (.ireturn, 1) := by decide +kernel
theorem eW_where_0 : decode prog_1_method_17_code 0 = .ok (.iload_n 1, 1) := by decide +kernel
theorem eW_where_1 : decode prog_1_method_17_code 1 = .ok (.iconst 1, 1) := by decide +kernel
theorem eW_where_2 : decode prog_1_method_17_code 2 = .ok (.bipush 30, 2) := by decide +kernel
theorem eW_where_4 : decode prog_1_method_17_code 4 = .ok (.invokestatic 82, 3) := by decide +kernel
theorem eW_where_7 : decode prog_1_method_17_code 7 = .ok (.ifCond .ne 10, 3) := by decide +kernel
theorem eW_where_10 : decode prog_1_method_17_code 10 = .ok (.aload_n 0, 1) := by decide +kernel
theorem eW_where_11 : decode prog_1_method_17_code 11 = .ok (.ldc 51, 2) := by decide +kernel
theorem eW_where_13 : decode prog_1_method_17_code 13 = .ok (.invokevirtual 52, 3) := by decide +kernel
theorem eW_where_16 : decode prog_1_method_17_code 16 = .ok (.ireturn, 1) := by decide +kernel
theorem eW_where_17 : decode prog_1_method_17_code 17 = .ok (.aload_n 0, 1) := by decide +kernel
theorem eW_where_18 : decode prog_1_method_17_code 18 = .ok (.sipush 240, 3) := by decide +kernel
theorem eW_where_21 : decode prog_1_method_17_code 21 = .ok (.iload_n 1, 1) := by decide +kernel
theorem eW_where_22 : decode prog_1_method_17_code 22 = .ok (.iadd, 1) := by decide +kernel
theorem eW_where_23 : decode prog_1_method_17_code 23 = .ok (.invokevirtual 158, 3) := by decide +kernel
theorem eW_where_26 : decode prog_1_method_17_code 26 = .ok (.sipush 241, 3) := by decide +kernel
theorem eW_where_29 : decode prog_1_method_17_code 29 = .ok (.istore_n 2, 1) := by decide +kernel
theorem eW_where_30 : decode prog_1_method_17_code 30 = .ok (.iconst (-1), 1) := by decide +kernel
theorem eW_where_31 : decode prog_1_method_17_code 31 = .ok (.istore_n 3, 1) := by decide +kernel
theorem eW_where_32 : decode prog_1_method_17_code 32 = .ok (.iconst 0, 1) := by decide +kernel
theorem eW_where_33 : decode prog_1_method_17_code 33 = .ok (.istore 4, 2) := by decide +kernel
theorem eW_where_35 : decode prog_1_method_17_code 35 = .ok (.iload 4, 2) := by decide +kernel
theorem eW_where_37 : decode prog_1_method_17_code 37 = .ok (.bipush 10, 2) := by decide +kernel
theorem eW_where_39 : decode prog_1_method_17_code 39 = .ok (.if_icmp .ge 35, 3) := by decide +kernel
theorem eW_where_42 : decode prog_1_method_17_code 42 = .ok (.aload_n 0, 1) := by decide +kernel
theorem eW_where_43 : decode prog_1_method_17_code 43 = .ok (.iload 4, 2) := by decide +kernel
theorem eW_where_45 : decode prog_1_method_17_code 45 = .ok (.iload_n 1, 1) := by decide +kernel
theorem eW_where_46 : decode prog_1_method_17_code 46 = .ok (.invokevirtual 162, 3) := by decide +kernel
theorem eW_where_49 : decode prog_1_method_17_code 49 = .ok (.istore 5, 2) := by decide +kernel
theorem eW_where_51 : decode prog_1_method_17_code 51 = .ok (.iload 5, 2) := by decide +kernel
theorem eW_where_53 : decode prog_1_method_17_code 53 = .ok (.ifCond .lt 15, 3) := by decide +kernel
theorem eW_where_56 : decode prog_1_method_17_code 56 = .ok (.iload 5, 2) := by decide +kernel
theorem eW_where_58 : decode prog_1_method_17_code 58 = .ok (.iload_n 2, 1) := by decide +kernel
theorem eW_where_59 : decode prog_1_method_17_code 59 = .ok (.if_icmp .ge 9, 3) := by decide +kernel
theorem eW_where_62 : decode prog_1_method_17_code 62 = .ok (.iload 5, 2) := by decide +kernel
theorem eW_where_64 : decode prog_1_method_17_code 64 = .ok (.istore_n 2, 1) := by decide +kernel
theorem eW_where_65 : decode prog_1_method_17_code 65 = .ok (.iload 4, 2) := by decide +kernel
theorem eW_where_67 : decode prog_1_method_17_code 67 = .ok (.istore_n 3, 1) := by decide +kernel
theorem eW_where_68 : decode prog_1_method_17_code 68 = .ok (.iinc 4 1, 3) := by decide +kernel
theorem eW_where_71 : decode prog_1_method_17_code 71 = .ok (.goto (-36), 3) := by decide +kernel
theorem eW_where_74 : decode prog_1_method_17_code 74 = .ok (.iload_n 3, 1) := by decide +kernel
theorem eW_where_75 : decode prog_1_method_17_code 75 = .ok (.ifCond .ge 12, 3) := by decide +kernel
theorem eW_where_78 : decode prog_1_method_17_code 78 = .ok (.aload_n 0, 1) := by decide +kernel
theorem eW_where_79 : decode prog_1_method_17_code 79 = .ok (.ldc 118, 2) := by decide +kernel
theorem eW_where_81 : decode prog_1_method_17_code 81 = .ok (.invokevirtual 52, 3) := by decide +kernel
theorem eW_where_84 : decode prog_1_method_17_code 84 = .ok (.goto 4, 3) := by decide +kernel
theorem eW_where_87 : decode prog_1_method_17_code 87 = .ok (.iload_n 3, 1) := by decide +kernel
theorem eW_where_88 : decode prog_1_method_17_code 88 = .ok (.ireturn, 1) := by decide +kernel
theorem eW_quiet_0 : decode prog_1_method_18_code 0 = .ok (.iload_n 1, 1) := by decide +kernel
theorem eW_quiet_1 : decode prog_1_method_18_code 1 = .ok (.invokestatic 63, 3) := by decide +kernel
theorem eW_quiet_4 : decode prog_1_method_18_code 4 = .ok (.ifCond .eq 14, 3) := by decide +kernel
theorem eW_quiet_7 : decode prog_1_method_18_code 7 = .ok (.iload_n 2, 1) := by decide +kernel
theorem eW_quiet_8 : decode prog_1_method_18_code 8 = .ok (.iconst 1, 1) := by decide +kernel
theorem eW_quiet_9 : decode prog_1_method_18_code 9 = .ok (.sipush 240, 3) := by decide +kernel
theorem eW_quiet_12 : decode prog_1_method_18_code 12 = .ok (.invokestatic 82, 3) := by decide +kernel
theorem eW_quiet_15 : decode prog_1_method_18_code 15 = .ok (.ifCond .ne 10, 3) := by decide +kernel
theorem eW_quiet_18 : decode prog_1_method_18_code 18 = .ok (.aload_n 0, 1) := by decide +kernel
theorem eW_quiet_19 : decode prog_1_method_18_code 19 = .ok (.ldc 51, 2) := by decide +kernel
theorem eW_quiet_21 : decode prog_1_method_18_code 21 = .ok (.invokevirtual 52, 3) := by decide +kernel
theorem eW_quiet_24 : decode prog_1_method_18_code 24 = .ok (.ireturn, 1) := by decide +kernel
theorem eW_quiet_25 : decode prog_1_method_18_code 25 = .ok (.aload_n 0, 1) := by decide +kernel
theorem eW_quiet_26 : decode prog_1_method_18_code 26 = .ok (.getfield 10, 3) := by decide +kernel
theorem eW_quiet_29 : decode prog_1_method_18_code 29 = .ok (.aload_n 0, 1) := by decide +kernel
theorem eW_quiet_30 : decode prog_1_method_18_code 30 = .ok (.getfield 10, 3) := by decide +kernel
theorem eW_quiet_33 : decode prog_1_method_18_code 33 = .ok (.iload_n 1, 1) := by decide +kernel
theorem eW_quiet_34 : decode prog_1_method_18_code 34 = .ok (.invokevirtual 119, 3) := by decide +kernel
theorem eW_quiet_37 : decode prog_1_method_18_code 37 = .ok (.iload_n 2, 1) := by decide +kernel
theorem eW_quiet_38 : decode prog_1_method_18_code 38 = .ok (.aload_n 0, 1) := by decide +kernel
theorem eW_quiet_39 : decode prog_1_method_18_code 39 = .ok (.getfield 10, 3) := by decide +kernel
theorem eW_quiet_42 : decode prog_1_method_18_code 42 = .ok (.getfield 56, 3) := by decide +kernel
theorem eW_quiet_45 : decode prog_1_method_18_code 45 = .ok (.iconst 0, 1) := by decide +kernel
theorem eW_quiet_46 : decode prog_1_method_18_code 46 = .ok (.iaload, 1) := by decide +kernel
theorem eW_quiet_47 : decode prog_1_method_18_code 47 = .ok (.invokevirtual 165, 3) := by decide +kernel
theorem eW_quiet_50 : decode prog_1_method_18_code 50 = .ok (.ireturn, 1) := by decide +kernel
theorem eP_silentMinutes_0 : decode prog_2_method_10_code 0 = .ok (.iconst 0, 1) := by decide +kernel
theorem eP_silentMinutes_1 : decode prog_2_method_10_code 1 = .ok (.istore 4, 2) := by decide +kernel
theorem eP_silentMinutes_3 : decode prog_2_method_10_code 3 = .ok (.iconst 0, 1) := by decide +kernel
theorem eP_silentMinutes_4 : decode prog_2_method_10_code 4 = .ok (.istore 5, 2) := by decide +kernel
theorem eP_silentMinutes_6 : decode prog_2_method_10_code 6 = .ok (.iload 5, 2) := by decide +kernel
theorem eP_silentMinutes_8 : decode prog_2_method_10_code 8 = .ok (.iload_n 2, 1) := by decide +kernel
theorem eP_silentMinutes_9 : decode prog_2_method_10_code 9 = .ok (.if_icmp .ge 36, 3) := by decide +kernel
theorem eP_silentMinutes_12 : decode prog_2_method_10_code 12 = .ok (.iload 4, 2) := by decide +kernel
theorem eP_silentMinutes_14 : decode prog_2_method_10_code 14 = .ok (.aload_n 0, 1) := by decide +kernel
theorem eP_silentMinutes_15 : decode prog_2_method_10_code 15 = .ok (.aload_n 0, 1) := by decide +kernel
theorem eP_silentMinutes_16 : decode prog_2_method_10_code 16 = .ok (.getfield 9, 3) := by decide +kernel
theorem eP_silentMinutes_19 : decode prog_2_method_10_code 19 = .ok (.iload 5, 2) := by decide +kernel
theorem eP_silentMinutes_21 : decode prog_2_method_10_code 21 = .ok (.iadd, 1) := by decide +kernel
theorem eP_silentMinutes_22 : decode prog_2_method_10_code 22 = .ok (.iload_n 3, 1) := by decide +kernel
theorem eP_silentMinutes_23 : decode prog_2_method_10_code 23 = .ok (.invokevirtual 36, 3) := by decide +kernel
theorem eP_silentMinutes_26 : decode prog_2_method_10_code 26 = .ok (.iload_n 1, 1) := by decide +kernel
theorem eP_silentMinutes_27 : decode prog_2_method_10_code 27 = .ok (.iand, 1) := by decide +kernel
theorem eP_silentMinutes_28 : decode prog_2_method_10_code 28 = .ok (.ifCond .ne 7, 3) := by decide +kernel
theorem eP_silentMinutes_31 : decode prog_2_method_10_code 31 = .ok (.iconst 1, 1) := by decide +kernel
theorem eP_silentMinutes_32 : decode prog_2_method_10_code 32 = .ok (.goto 4, 3) := by decide +kernel
theorem eP_silentMinutes_35 : decode prog_2_method_10_code 35 = .ok (.iconst 0, 1) := by decide +kernel
theorem eP_silentMinutes_36 : decode prog_2_method_10_code 36 = .ok (.iadd, 1) := by decide +kernel
theorem eP_silentMinutes_37 : decode prog_2_method_10_code 37 = .ok (.istore 4, 2) := by decide +kernel
theorem eP_silentMinutes_39 : decode prog_2_method_10_code 39 = .ok (.iinc 5 1, 3) := by decide +kernel
theorem eP_silentMinutes_42 : decode prog_2_method_10_code 42 = .ok (.goto (-36), 3) := by decide +kernel
theorem eP_silentMinutes_45 : decode prog_2_method_10_code 45 = .ok (.iload 4, 2) := by decide +kernel
theorem eP_silentMinutes_47 : decode prog_2_method_10_code 47 = .ok (.ireturn, 1) := by decide +kernel
theorem eW_worst_0 : decode prog_1_method_19_code 0 = .ok (.iload_n 1, 1) := by decide +kernel
theorem eW_worst_1 : decode prog_1_method_19_code 1 = .ok (.invokestatic 63, 3) := by decide +kernel
theorem eW_worst_4 : decode prog_1_method_19_code 4 = .ok (.ifCond .eq 14, 3) := by decide +kernel
theorem eW_worst_7 : decode prog_1_method_19_code 7 = .ok (.iload_n 2, 1) := by decide +kernel
theorem eW_worst_8 : decode prog_1_method_19_code 8 = .ok (.iconst 1, 1) := by decide +kernel
theorem eW_worst_9 : decode prog_1_method_19_code 9 = .ok (.sipush 240, 3) := by decide +kernel
theorem eW_worst_12 : decode prog_1_method_19_code 12 = .ok (.invokestatic 82, 3) := by decide +kernel
theorem eW_worst_15 : decode prog_1_method_19_code 15 = .ok (.ifCond .ne 10, 3) := by decide +kernel
theorem eW_worst_18 : decode prog_1_method_19_code 18 = .ok (.aload_n 0, 1) := by decide +kernel
theorem eW_worst_19 : decode prog_1_method_19_code 19 = .ok (.ldc 51, 2) := by decide +kernel
theorem eW_worst_21 : decode prog_1_method_19_code 21 = .ok (.invokevirtual 52, 3) := by decide +kernel
theorem eW_worst_24 : decode prog_1_method_19_code 24 = .ok (.ireturn, 1) := by decide +kernel
theorem eW_worst_25 : decode prog_1_method_19_code 25 = .ok (.aload_n 0, 1) := by decide +kernel
theorem eW_worst_26 : decode prog_1_method_19_code 26 = .ok (.iload_n 2, 1) := by decide +kernel
theorem eW_worst_27 : decode prog_1_method_19_code 27 = .ok (.invokevirtual 158, 3) := by decide +kernel
theorem eW_worst_30 : decode prog_1_method_19_code 30 = .ok (.aload_n 0, 1) := by decide +kernel
theorem eW_worst_31 : decode prog_1_method_19_code 31 = .ok (.getfield 10, 3) := by decide +kernel
theorem eW_worst_34 : decode prog_1_method_19_code 34 = .ok (.iload_n 1, 1) := by decide +kernel
theorem eW_worst_35 : decode prog_1_method_19_code 35 = .ok (.invokevirtual 119, 3) := by decide +kernel
theorem eW_worst_38 : decode prog_1_method_19_code 38 = .ok (.istore_n 3, 1) := by decide +kernel
theorem eW_worst_39 : decode prog_1_method_19_code 39 = .ok (.iconst 0, 1) := by decide +kernel
theorem eW_worst_40 : decode prog_1_method_19_code 40 = .ok (.istore 4, 2) := by decide +kernel
theorem eW_worst_42 : decode prog_1_method_19_code 42 = .ok (.iconst (-1), 1) := by decide +kernel
theorem eW_worst_43 : decode prog_1_method_19_code 43 = .ok (.istore 5, 2) := by decide +kernel
theorem eW_worst_45 : decode prog_1_method_19_code 45 = .ok (.iconst 0, 1) := by decide +kernel
theorem eW_worst_46 : decode prog_1_method_19_code 46 = .ok (.istore 6, 2) := by decide +kernel
theorem eW_worst_48 : decode prog_1_method_19_code 48 = .ok (.iload 6, 2) := by decide +kernel
theorem eW_worst_50 : decode prog_1_method_19_code 50 = .ok (.aload_n 0, 1) := by decide +kernel
theorem eW_worst_51 : decode prog_1_method_19_code 51 = .ok (.getfield 10, 3) := by decide +kernel
theorem eW_worst_54 : decode prog_1_method_19_code 54 = .ok (.getfield 168, 3) := by decide +kernel
theorem eW_worst_57 : decode prog_1_method_19_code 57 = .ok (.if_icmp .ge 36, 3) := by decide +kernel
theorem eW_worst_60 : decode prog_1_method_19_code 60 = .ok (.aload_n 0, 1) := by decide +kernel
theorem eW_worst_61 : decode prog_1_method_19_code 61 = .ok (.iconst 1, 1) := by decide +kernel
theorem eW_worst_62 : decode prog_1_method_19_code 62 = .ok (.iload 6, 2) := by decide +kernel
theorem eW_worst_64 : decode prog_1_method_19_code 64 = .ok (.ishl, 1) := by decide +kernel
theorem eW_worst_65 : decode prog_1_method_19_code 65 = .ok (.iload_n 3, 1) := by decide +kernel
theorem eW_worst_66 : decode prog_1_method_19_code 66 = .ok (.iload_n 2, 1) := by decide +kernel
theorem eW_worst_67 : decode prog_1_method_19_code 67 = .ok (.invokevirtual 171, 3) := by decide +kernel
theorem eW_worst_70 : decode prog_1_method_19_code 70 = .ok (.istore 7, 2) := by decide +kernel
theorem eW_worst_72 : decode prog_1_method_19_code 72 = .ok (.iload 7, 2) := by decide +kernel
theorem eW_worst_74 : decode prog_1_method_19_code 74 = .ok (.iload 4, 2) := by decide +kernel
theorem eW_worst_76 : decode prog_1_method_19_code 76 = .ok (.if_icmp .le 11, 3) := by decide +kernel
theorem eW_worst_79 : decode prog_1_method_19_code 79 = .ok (.iload 7, 2) := by decide +kernel
theorem eW_worst_81 : decode prog_1_method_19_code 81 = .ok (.istore 4, 2) := by decide +kernel
theorem eW_worst_83 : decode prog_1_method_19_code 83 = .ok (.iload 6, 2) := by decide +kernel
theorem eW_worst_85 : decode prog_1_method_19_code 85 = .ok (.istore 5, 2) := by decide +kernel
theorem eW_worst_87 : decode prog_1_method_19_code 87 = .ok (.iinc 6 1, 3) := by decide +kernel
theorem eW_worst_90 : decode prog_1_method_19_code 90 = .ok (.goto (-42), 3) := by decide +kernel
theorem eW_worst_93 : decode prog_1_method_19_code 93 = .ok (.iload 5, 2) := by decide +kernel
theorem eW_worst_95 : decode prog_1_method_19_code 95 = .ok (.ifCond .ge 12, 3) := by decide +kernel
theorem eW_worst_98 : decode prog_1_method_19_code 98 = .ok (.aload_n 0, 1) := by decide +kernel
theorem eW_worst_99 : decode prog_1_method_19_code 99 = .ok (.ldc 118, 2) := by decide +kernel
theorem eW_worst_101 : decode prog_1_method_19_code 101 = .ok (.invokevirtual 52, 3) := by decide +kernel
theorem eW_worst_104 : decode prog_1_method_19_code 104 = .ok (.goto 5, 3) := by decide +kernel
theorem eW_worst_107 : decode prog_1_method_19_code 107 = .ok (.iload 5, 2) := by decide +kernel
theorem eW_worst_109 : decode prog_1_method_19_code 109 = .ok (.ireturn, 1) := by decide +kernel
theorem eW_minutesAlone_0 : decode prog_1_method_42_code 0 = .ok (.iconst 0, 1) := by decide +kernel
theorem eW_minutesAlone_1 : decode prog_1_method_42_code 1 = .ok (.istore 4, 2) := by decide +kernel
theorem eW_minutesAlone_3 : decode prog_1_method_42_code 3 = .ok (.iconst 0, 1) := by decide +kernel
theorem eW_minutesAlone_4 : decode prog_1_method_42_code 4 = .ok (.istore 5, 2) := by decide +kernel
theorem eW_minutesAlone_6 : decode prog_1_method_42_code 6 = .ok (.iload 5, 2) := by decide +kernel
theorem eW_minutesAlone_8 : decode prog_1_method_42_code 8 = .ok (.iload_n 3, 1) := by decide +kernel
theorem eW_minutesAlone_9 : decode prog_1_method_42_code 9 = .ok (.if_icmp .ge 42, 3) := by decide +kernel
theorem eW_minutesAlone_12 : decode prog_1_method_42_code 12 = .ok (.iload 5, 2) := by decide +kernel
theorem eW_minutesAlone_14 : decode prog_1_method_42_code 14 = .ok (.aload_n 0, 1) := by decide +kernel
theorem eW_minutesAlone_15 : decode prog_1_method_42_code 15 = .ok (.getfield 43, 3) := by decide +kernel
theorem eW_minutesAlone_18 : decode prog_1_method_42_code 18 = .ok (.arraylength, 1) := by decide +kernel
theorem eW_minutesAlone_19 : decode prog_1_method_42_code 19 = .ok (.if_icmp .ge 32, 3) := by decide +kernel
theorem eW_minutesAlone_22 : decode prog_1_method_42_code 22 = .ok (.iload 4, 2) := by decide +kernel
theorem eW_minutesAlone_24 : decode prog_1_method_42_code 24 = .ok (.aload_n 0, 1) := by decide +kernel
theorem eW_minutesAlone_25 : decode prog_1_method_42_code 25 = .ok (.getfield 43, 3) := by decide +kernel
theorem eW_minutesAlone_28 : decode prog_1_method_42_code 28 = .ok (.iload 5, 2) := by decide +kernel
theorem eW_minutesAlone_30 : decode prog_1_method_42_code 30 = .ok (.iaload, 1) := by decide +kernel
theorem eW_minutesAlone_31 : decode prog_1_method_42_code 31 = .ok (.iload_n 2, 1) := by decide +kernel
theorem eW_minutesAlone_32 : decode prog_1_method_42_code 32 = .ok (.iand, 1) := by decide +kernel
theorem eW_minutesAlone_33 : decode prog_1_method_42_code 33 = .ok (.iload_n 1, 1) := by decide +kernel
theorem eW_minutesAlone_34 : decode prog_1_method_42_code 34 = .ok (.if_icmp .ne 7, 3) := by decide +kernel
theorem eW_minutesAlone_37 : decode prog_1_method_42_code 37 = .ok (.iconst 1, 1) := by decide +kernel
theorem eW_minutesAlone_38 : decode prog_1_method_42_code 38 = .ok (.goto 4, 3) := by decide +kernel
theorem eW_minutesAlone_41 : decode prog_1_method_42_code 41 = .ok (.iconst 0, 1) := by decide +kernel
theorem eW_minutesAlone_42 : decode prog_1_method_42_code 42 = .ok (.iadd, 1) := by decide +kernel
theorem eW_minutesAlone_43 : decode prog_1_method_42_code 43 = .ok (.istore 4, 2) := by decide +kernel
theorem eW_minutesAlone_45 : decode prog_1_method_42_code 45 = .ok (.iinc 5 1, 3) := by decide +kernel
theorem eW_minutesAlone_48 : decode prog_1_method_42_code 48 = .ok (.goto (-42), 3) := by decide +kernel
theorem eW_minutesAlone_51 : decode prog_1_method_42_code 51 = .ok (.iload 4, 2) := by decide +kernel
theorem eW_minutesAlone_53 : decode prog_1_method_42_code 53 = .ok (.ireturn, 1) := by decide +kernel
theorem eW_cover_0 : decode prog_1_method_20_code 0 = .ok (.iload_n 1, 1) := by decide +kernel
theorem eW_cover_1 : decode prog_1_method_20_code 1 = .ok (.invokestatic 63, 3) := by decide +kernel
theorem eW_cover_4 : decode prog_1_method_20_code 4 = .ok (.ifCond .eq 13, 3) := by decide +kernel
theorem eW_cover_7 : decode prog_1_method_20_code 7 = .ok (.iload_n 2, 1) := by decide +kernel
theorem eW_cover_8 : decode prog_1_method_20_code 8 = .ok (.iconst 1, 1) := by decide +kernel
theorem eW_cover_9 : decode prog_1_method_20_code 9 = .ok (.bipush 60, 2) := by decide +kernel
theorem eW_cover_11 : decode prog_1_method_20_code 11 = .ok (.invokestatic 82, 3) := by decide +kernel
theorem eW_cover_14 : decode prog_1_method_20_code 14 = .ok (.ifCond .ne 10, 3) := by decide +kernel
theorem eW_cover_17 : decode prog_1_method_20_code 17 = .ok (.aload_n 0, 1) := by decide +kernel
theorem eW_cover_18 : decode prog_1_method_20_code 18 = .ok (.ldc 51, 2) := by decide +kernel
theorem eW_cover_20 : decode prog_1_method_20_code 20 = .ok (.invokevirtual 52, 3) := by decide +kernel
theorem eW_cover_23 : decode prog_1_method_20_code 23 = .ok (.ireturn, 1) := by decide +kernel
theorem eW_cover_24 : decode prog_1_method_20_code 24 = .ok (.aload_n 0, 1) := by decide +kernel
theorem eW_cover_25 : decode prog_1_method_20_code 25 = .ok (.iload_n 2, 1) := by decide +kernel
theorem eW_cover_26 : decode prog_1_method_20_code 26 = .ok (.invokevirtual 158, 3) := by decide +kernel
theorem eW_cover_29 : decode prog_1_method_20_code 29 = .ok (.aload_n 0, 1) := by decide +kernel
theorem eW_cover_30 : decode prog_1_method_20_code 30 = .ok (.getfield 10, 3) := by decide +kernel
theorem eW_cover_33 : decode prog_1_method_20_code 33 = .ok (.iload_n 1, 1) := by decide +kernel
theorem eW_cover_34 : decode prog_1_method_20_code 34 = .ok (.invokevirtual 119, 3) := by decide +kernel
theorem eW_cover_37 : decode prog_1_method_20_code 37 = .ok (.istore_n 3, 1) := by decide +kernel
theorem eW_cover_38 : decode prog_1_method_20_code 38 = .ok (.aload_n 0, 1) := by decide +kernel
theorem eW_cover_39 : decode prog_1_method_20_code 39 = .ok (.iload_n 3, 1) := by decide +kernel
theorem eW_cover_40 : decode prog_1_method_20_code 40 = .ok (.iload_n 2, 1) := by decide +kernel
theorem eW_cover_41 : decode prog_1_method_20_code 41 = .ok (.invokevirtual 174, 3) := by decide +kernel
theorem eW_cover_44 : decode prog_1_method_20_code 44 = .ok (.ifCond .ne 10, 3) := by decide +kernel
theorem eW_cover_47 : decode prog_1_method_20_code 47 = .ok (.aload_n 0, 1) := by decide +kernel
theorem eW_cover_48 : decode prog_1_method_20_code 48 = .ok (.ldc 118, 2) := by decide +kernel
theorem eW_cover_50 : decode prog_1_method_20_code 50 = .ok (.invokevirtual 52, 3) := by decide +kernel
theorem eW_cover_53 : decode prog_1_method_20_code 53 = .ok (.ireturn, 1) := by decide +kernel
theorem eW_cover_54 : decode prog_1_method_20_code 54 = .ok (.iload_n 3, 1) := by decide +kernel
theorem eW_cover_55 : decode prog_1_method_20_code 55 = .ok (.istore 4, 2) := by decide +kernel
theorem eW_cover_57 : decode prog_1_method_20_code 57 = .ok (.iconst 0, 1) := by decide +kernel
theorem eW_cover_58 : decode prog_1_method_20_code 58 = .ok (.istore 5, 2) := by decide +kernel
theorem eW_cover_60 : decode prog_1_method_20_code 60 = .ok (.iload 5, 2) := by decide +kernel
theorem eW_cover_62 : decode prog_1_method_20_code 62 = .ok (.iload_n 3, 1) := by decide +kernel
theorem eW_cover_63 : decode prog_1_method_20_code 63 = .ok (.if_icmp .ge 57, 3) := by decide +kernel
theorem eW_cover_66 : decode prog_1_method_20_code 66 = .ok (.iload 5, 2) := by decide +kernel
theorem eW_cover_68 : decode prog_1_method_20_code 68 = .ok (.iload_n 3, 1) := by decide +kernel
theorem eW_cover_69 : decode prog_1_method_20_code 69 = .ok (.iconst (-1), 1) := by decide +kernel
theorem eW_cover_70 : decode prog_1_method_20_code 70 = .ok (.ixor, 1) := by decide +kernel
theorem eW_cover_71 : decode prog_1_method_20_code 71 = .ok (.iand, 1) := by decide +kernel
theorem eW_cover_72 : decode prog_1_method_20_code 72 = .ok (.ifCond .ne 7, 3) := by decide +kernel
theorem eW_cover_75 : decode prog_1_method_20_code 75 = .ok (.iconst 1, 1) := by decide +kernel
theorem eW_cover_76 : decode prog_1_method_20_code 76 = .ok (.goto 4, 3) := by decide +kernel
theorem eW_cover_79 : decode prog_1_method_20_code 79 = .ok (.iconst 0, 1) := by decide +kernel
theorem eW_cover_80 : decode prog_1_method_20_code 80 = .ok (.istore 6, 2) := by decide +kernel
theorem eW_cover_82 : decode prog_1_method_20_code 82 = .ok (.iload 6, 2) := by decide +kernel
theorem eW_cover_84 : decode prog_1_method_20_code 84 = .ok (.ifCond .eq 30, 3) := by decide +kernel
theorem eW_cover_87 : decode prog_1_method_20_code 87 = .ok (.iload 5, 2) := by decide +kernel
theorem eW_cover_89 : decode prog_1_method_20_code 89 = .ok (.invokestatic 134, 3) := by decide +kernel
theorem eW_cover_92 : decode prog_1_method_20_code 92 = .ok (.iload 4, 2) := by decide +kernel
theorem eW_cover_94 : decode prog_1_method_20_code 94 = .ok (.invokestatic 134, 3) := by decide +kernel
theorem eW_cover_97 : decode prog_1_method_20_code 97 = .ok (.if_icmp .ge 17, 3) := by decide +kernel
theorem eW_cover_100 : decode prog_1_method_20_code 100 = .ok (.aload_n 0, 1) := by decide +kernel
theorem eW_cover_101 : decode prog_1_method_20_code 101 = .ok (.iload 5, 2) := by decide +kernel
theorem eW_cover_103 : decode prog_1_method_20_code 103 = .ok (.iload_n 2, 1) := by decide +kernel
theorem eW_cover_104 : decode prog_1_method_20_code 104 = .ok (.invokevirtual 174, 3) := by decide +kernel
theorem eW_cover_107 : decode prog_1_method_20_code 107 = .ok (.ifCond .eq 7, 3) := by decide +kernel
theorem eW_cover_110 : decode prog_1_method_20_code 110 = .ok (.iload 5, 2) := by decide +kernel
theorem eW_cover_112 : decode prog_1_method_20_code 112 = .ok (.istore 4, 2) := by decide +kernel
theorem eW_cover_114 : decode prog_1_method_20_code 114 = .ok (.iinc 5 1, 3) := by decide +kernel
theorem eW_cover_117 : decode prog_1_method_20_code 117 = .ok (.goto (-57), 3) := by decide +kernel
theorem eW_cover_120 : decode prog_1_method_20_code 120 = .ok (.iload 4, 2) := by decide +kernel
theorem eW_cover_122 : decode prog_1_method_20_code 122 = .ok (.ireturn, 1) := by decide +kernel
theorem eW_hearsAlways_0 : decode prog_1_method_43_code 0 = .ok (.iconst 0, 1) := by decide +kernel
theorem eW_hearsAlways_1 : decode prog_1_method_43_code 1 = .ok (.istore_n 3, 1) := by decide +kernel
theorem eW_hearsAlways_2 : decode prog_1_method_43_code 2 = .ok (.iload_n 3, 1) := by decide +kernel
theorem eW_hearsAlways_3 : decode prog_1_method_43_code 3 = .ok (.iload_n 2, 1) := by decide +kernel
theorem eW_hearsAlways_4 : decode prog_1_method_43_code 4 = .ok (.if_icmp .ge 31, 3) := by decide +kernel
theorem eW_hearsAlways_7 : decode prog_1_method_43_code 7 = .ok (.iload_n 3, 1) := by decide +kernel
theorem eW_hearsAlways_8 : decode prog_1_method_43_code 8 = .ok (.aload_n 0, 1) := by decide +kernel
theorem eW_hearsAlways_9 : decode prog_1_method_43_code 9 = .ok (.getfield 43, 3) := by decide +kernel
theorem eW_hearsAlways_12 : decode prog_1_method_43_code 12 = .ok (.arraylength, 1) := by decide +kernel
theorem eW_hearsAlways_13 : decode prog_1_method_43_code 13 = .ok (.if_icmp .ge 22, 3) := by decide +kernel
theorem eW_hearsAlways_16 : decode prog_1_method_43_code 16 = .ok (.aload_n 0, 1) := by decide +kernel
theorem eW_hearsAlways_17 : decode prog_1_method_43_code 17 = .ok (.getfield 43, 3) := by decide +kernel
theorem eW_hearsAlways_20 : decode prog_1_method_43_code 20 = .ok (.iload_n 3, 1) := by decide +kernel
theorem eW_hearsAlways_21 : decode prog_1_method_43_code 21 = .ok (.iaload, 1) := by decide +kernel
theorem eW_hearsAlways_22 : decode prog_1_method_43_code 22 = .ok (.iload_n 1, 1) := by decide +kernel
theorem eW_hearsAlways_23 : decode prog_1_method_43_code 23 = .ok (.iand, 1) := by decide +kernel
theorem eW_hearsAlways_24 : decode prog_1_method_43_code 24 = .ok (.ifCond .ne 5, 3) := by decide +kernel
theorem eW_hearsAlways_27 : decode prog_1_method_43_code 27 = .ok (.iconst 0, 1) := by decide +kernel
theorem eW_hearsAlways_28 : decode prog_1_method_43_code 28 = .ok (.ireturn, 1) := by decide +kernel
theorem eW_hearsAlways_29 : decode prog_1_method_43_code 29 = .ok (.iinc 3 1, 3) := by decide +kernel
theorem eW_hearsAlways_32 : decode prog_1_method_43_code 32 = .ok (.goto (-30), 3) := by decide +kernel
theorem eW_hearsAlways_35 : decode prog_1_method_43_code 35 = .ok (.iconst 1, 1) := by decide +kernel
theorem eW_hearsAlways_36 : decode prog_1_method_43_code 36 = .ok (.ireturn, 1) := by decide +kernel
theorem eW_shift_0 : decode prog_1_method_21_code 0 = .ok (.iload_n 1, 1) := by decide +kernel
theorem eW_shift_1 : decode prog_1_method_21_code 1 = .ok (.invokestatic 63, 3) := by decide +kernel
theorem eW_shift_4 : decode prog_1_method_21_code 4 = .ok (.ifCond .eq 13, 3) := by decide +kernel
theorem eW_shift_7 : decode prog_1_method_21_code 7 = .ok (.iload_n 2, 1) := by decide +kernel
theorem eW_shift_8 : decode prog_1_method_21_code 8 = .ok (.iconst 1, 1) := by decide +kernel
theorem eW_shift_9 : decode prog_1_method_21_code 9 = .ok (.bipush 60, 2) := by decide +kernel
theorem eW_shift_11 : decode prog_1_method_21_code 11 = .ok (.invokestatic 82, 3) := by decide +kernel
theorem eW_shift_14 : decode prog_1_method_21_code 14 = .ok (.ifCond .ne 10, 3) := by decide +kernel
theorem eW_shift_17 : decode prog_1_method_21_code 17 = .ok (.aload_n 0, 1) := by decide +kernel
theorem eW_shift_18 : decode prog_1_method_21_code 18 = .ok (.ldc 51, 2) := by decide +kernel
theorem eW_shift_20 : decode prog_1_method_21_code 20 = .ok (.invokevirtual 52, 3) := by decide +kernel
theorem eW_shift_23 : decode prog_1_method_21_code 23 = .ok (.ireturn, 1) := by decide +kernel
theorem eW_shift_24 : decode prog_1_method_21_code 24 = .ok (.aload_n 0, 1) := by decide +kernel
theorem eW_shift_25 : decode prog_1_method_21_code 25 = .ok (.getfield 10, 3) := by decide +kernel
theorem eW_shift_28 : decode prog_1_method_21_code 28 = .ok (.iload_n 1, 1) := by decide +kernel
theorem eW_shift_29 : decode prog_1_method_21_code 29 = .ok (.invokevirtual 119, 3) := by decide +kernel
theorem eW_shift_32 : decode prog_1_method_21_code 32 = .ok (.istore_n 3, 1) := by decide +kernel
theorem eW_shift_33 : decode prog_1_method_21_code 33 = .ok (.iload_n 2, 1) := by decide +kernel
theorem eW_shift_34 : decode prog_1_method_21_code 34 = .ok (.iconst 1, 1) := by decide +kernel
theorem eW_shift_35 : decode prog_1_method_21_code 35 = .ok (.iadd, 1) := by decide +kernel
theorem eW_shift_36 : decode prog_1_method_21_code 36 = .ok (.istore 4, 2) := by decide +kernel
theorem eW_shift_38 : decode prog_1_method_21_code 38 = .ok (.iconst 1, 1) := by decide +kernel
theorem eW_shift_39 : decode prog_1_method_21_code 39 = .ok (.istore 5, 2) := by decide +kernel
theorem eW_shift_41 : decode prog_1_method_21_code 41 = .ok (.getstatic 177, 3) := by decide +kernel
theorem eW_shift_44 : decode prog_1_method_21_code 44 = .ok (.iconst 0, 1) := by decide +kernel
theorem eW_shift_45 : decode prog_1_method_21_code 45 = .ok (.iaload, 1) := by decide +kernel
theorem eW_shift_46 : decode prog_1_method_21_code 46 = .ok (.istore 6, 2) := by decide +kernel
theorem eW_shift_48 : decode prog_1_method_21_code 48 = .ok (.iload 6, 2) := by decide +kernel
theorem eW_shift_50 : decode prog_1_method_21_code 50 = .ok (.getstatic 180, 3) := by decide +kernel
theorem eW_shift_53 : decode prog_1_method_21_code 53 = .ok (.iconst 0, 1) := by decide +kernel
theorem eW_shift_54 : decode prog_1_method_21_code 54 = .ok (.iaload, 1) := by decide +kernel
theorem eW_shift_55 : decode prog_1_method_21_code 55 = .ok (.if_icmp .gt 37, 3) := by decide +kernel
theorem eW_shift_58 : decode prog_1_method_21_code 58 = .ok (.aload_n 0, 1) := by decide +kernel
theorem eW_shift_59 : decode prog_1_method_21_code 59 = .ok (.getfield 10, 3) := by decide +kernel
theorem eW_shift_62 : decode prog_1_method_21_code 62 = .ok (.iload_n 3, 1) := by decide +kernel
theorem eW_shift_63 : decode prog_1_method_21_code 63 = .ok (.iload_n 2, 1) := by decide +kernel
theorem eW_shift_64 : decode prog_1_method_21_code 64 = .ok (.iload 6, 2) := by decide +kernel
theorem eW_shift_66 : decode prog_1_method_21_code 66 = .ok (.invokevirtual 165, 3) := by decide +kernel
theorem eW_shift_69 : decode prog_1_method_21_code 69 = .ok (.istore 7, 2) := by decide +kernel
theorem eW_shift_71 : decode prog_1_method_21_code 71 = .ok (.iload 7, 2) := by decide +kernel
theorem eW_shift_73 : decode prog_1_method_21_code 73 = .ok (.iload 4, 2) := by decide +kernel
theorem eW_shift_75 : decode prog_1_method_21_code 75 = .ok (.if_icmp .ge 11, 3) := by decide +kernel
theorem eW_shift_78 : decode prog_1_method_21_code 78 = .ok (.iload 7, 2) := by decide +kernel
theorem eW_shift_80 : decode prog_1_method_21_code 80 = .ok (.istore 4, 2) := by decide +kernel
theorem eW_shift_82 : decode prog_1_method_21_code 82 = .ok (.iload 6, 2) := by decide +kernel
theorem eW_shift_84 : decode prog_1_method_21_code 84 = .ok (.istore 5, 2) := by decide +kernel
theorem eW_shift_86 : decode prog_1_method_21_code 86 = .ok (.iinc 6 1, 3) := by decide +kernel
theorem eW_shift_89 : decode prog_1_method_21_code 89 = .ok (.goto (-41), 3) := by decide +kernel
theorem eW_shift_92 : decode prog_1_method_21_code 92 = .ok (.iload 5, 2) := by decide +kernel
theorem eW_shift_94 : decode prog_1_method_21_code 94 = .ok (.ireturn, 1) := by decide +kernel
theorem eW_side_0 : decode prog_1_method_22_code 0 = .ok (.aload_n 0, 1) := by decide +kernel
theorem eW_side_1 : decode prog_1_method_22_code 1 = .ok (.iload_n 1, 1) := by decide +kernel
theorem eW_side_2 : decode prog_1_method_22_code 2 = .ok (.invokevirtual 75, 3) := by decide +kernel
theorem eW_side_5 : decode prog_1_method_22_code 5 = .ok (.ifCond .eq 21, 3) := by decide +kernel
theorem eW_side_8 : decode prog_1_method_22_code 8 = .ok (.iload_n 2, 1) := by decide +kernel
theorem eW_side_9 : decode prog_1_method_22_code 9 = .ok (.invokestatic 63, 3) := by decide +kernel
theorem eW_side_12 : decode prog_1_method_22_code 12 = .ok (.ifCond .eq 14, 3) := by decide +kernel
theorem eW_side_15 : decode prog_1_method_22_code 15 = .ok (.iload_n 3, 1) := by decide +kernel
theorem eW_side_16 : decode prog_1_method_22_code 16 = .ok (.iconst 1, 1) := by decide +kernel
theorem eW_side_17 : decode prog_1_method_22_code 17 = .ok (.sipush 240, 3) := by decide +kernel
theorem eW_side_20 : decode prog_1_method_22_code 20 = .ok (.invokestatic 82, 3) := by decide +kernel
theorem eW_side_23 : decode prog_1_method_22_code 23 = .ok (.ifCond .ne 10, 3) := by decide +kernel
theorem eW_side_26 : decode prog_1_method_22_code 26 = .ok (.aload_n 0, 1) := by decide +kernel
theorem eW_side_27 : decode prog_1_method_22_code 27 = .ok (.ldc 51, 2) := by decide +kernel
theorem eW_side_29 : decode prog_1_method_22_code 29 = .ok (.invokevirtual 52, 3) := by decide +kernel
theorem eW_side_32 : decode prog_1_method_22_code 32 = .ok (.ireturn, 1) := by decide +kernel
theorem eW_side_33 : decode prog_1_method_22_code 33 = .ok (.aload_n 0, 1) := by decide +kernel
theorem eW_side_34 : decode prog_1_method_22_code 34 = .ok (.getfield 10, 3) := by decide +kernel
theorem eW_side_37 : decode prog_1_method_22_code 37 = .ok (.iload_n 2, 1) := by decide +kernel
theorem eW_side_38 : decode prog_1_method_22_code 38 = .ok (.invokevirtual 119, 3) := by decide +kernel
theorem eW_side_41 : decode prog_1_method_22_code 41 = .ok (.istore 4, 2) := by decide +kernel
theorem eW_side_43 : decode prog_1_method_22_code 43 = .ok (.iload_n 3, 1) := by decide +kernel
theorem eW_side_44 : decode prog_1_method_22_code 44 = .ok (.iconst 1, 1) := by decide +kernel
theorem eW_side_45 : decode prog_1_method_22_code 45 = .ok (.iadd, 1) := by decide +kernel
theorem eW_side_46 : decode prog_1_method_22_code 46 = .ok (.istore 5, 2) := by decide +kernel
theorem eW_side_48 : decode prog_1_method_22_code 48 = .ok (.iconst 0, 1) := by decide +kernel
theorem eW_side_49 : decode prog_1_method_22_code 49 = .ok (.istore 6, 2) := by decide +kernel
theorem eW_side_51 : decode prog_1_method_22_code 51 = .ok (.aload_n 0, 1) := by decide +kernel
theorem eW_side_52 : decode prog_1_method_22_code 52 = .ok (.getfield 23, 3) := by decide +kernel
theorem eW_side_55 : decode prog_1_method_22_code 55 = .ok (.aload_n 0, 1) := by decide +kernel
theorem eW_side_56 : decode prog_1_method_22_code 56 = .ok (.getfield 10, 3) := by decide +kernel
theorem eW_side_59 : decode prog_1_method_22_code 59 = .ok (.invokevirtual 183, 3) := by decide +kernel
theorem eW_side_62 : decode prog_1_method_22_code 62 = .ok (.iconst 0, 1) := by decide +kernel
theorem eW_side_63 : decode prog_1_method_22_code 63 = .ok (.istore 7, 2) := by decide +kernel
theorem eW_side_65 : decode prog_1_method_22_code 65 = .ok (.iload 7, 2) := by decide +kernel
theorem eW_side_67 : decode prog_1_method_22_code 67 = .ok (.iconst 4, 1) := by decide +kernel
theorem eW_side_68 : decode prog_1_method_22_code 68 = .ok (.if_icmp .ge 57, 3) := by decide +kernel
theorem eW_side_71 : decode prog_1_method_22_code 71 = .ok (.aload_n 0, 1) := by decide +kernel
theorem eW_side_72 : decode prog_1_method_22_code 72 = .ok (.getfield 23, 3) := by decide +kernel
theorem eW_side_75 : decode prog_1_method_22_code 75 = .ok (.iload_n 1, 1) := by decide +kernel
theorem eW_side_76 : decode prog_1_method_22_code 76 = .ok (.iconst 3, 1) := by decide +kernel
theorem eW_side_77 : decode prog_1_method_22_code 77 = .ok (.iload 7, 2) := by decide +kernel
theorem eW_side_79 : decode prog_1_method_22_code 79 = .ok (.invokevirtual 103, 3) := by decide +kernel
theorem eW_side_82 : decode prog_1_method_22_code 82 = .ok (.pop, 1) := by decide +kernel
theorem eW_side_83 : decode prog_1_method_22_code 83 = .ok (.aload_n 0, 1) := by decide +kernel
theorem eW_side_84 : decode prog_1_method_22_code 84 = .ok (.getfield 23, 3) := by decide +kernel
theorem eW_side_87 : decode prog_1_method_22_code 87 = .ok (.iload 4, 2) := by decide +kernel
theorem eW_side_89 : decode prog_1_method_22_code 89 = .ok (.iload_n 3, 1) := by decide +kernel
theorem eW_side_90 : decode prog_1_method_22_code 90 = .ok (.aload_n 0, 1) := by decide +kernel
theorem eW_side_91 : decode prog_1_method_22_code 91 = .ok (.getfield 23, 3) := by decide +kernel
theorem eW_side_94 : decode prog_1_method_22_code 94 = .ok (.getfield 56, 3) := by decide +kernel
theorem eW_side_97 : decode prog_1_method_22_code 97 = .ok (.iconst 0, 1) := by decide +kernel
theorem eW_side_98 : decode prog_1_method_22_code 98 = .ok (.iaload, 1) := by decide +kernel
theorem eW_side_99 : decode prog_1_method_22_code 99 = .ok (.invokevirtual 165, 3) := by decide +kernel
theorem eW_side_102 : decode prog_1_method_22_code 102 = .ok (.istore 8, 2) := by decide +kernel
theorem eW_side_104 : decode prog_1_method_22_code 104 = .ok (.iload 8, 2) := by decide +kernel
theorem eW_side_106 : decode prog_1_method_22_code 106 = .ok (.iload 5, 2) := by decide +kernel
theorem eW_side_108 : decode prog_1_method_22_code 108 = .ok (.if_icmp .ge 11, 3) := by decide +kernel
theorem eW_side_111 : decode prog_1_method_22_code 111 = .ok (.iload 8, 2) := by decide +kernel
theorem eW_side_113 : decode prog_1_method_22_code 113 = .ok (.istore 5, 2) := by decide +kernel
theorem eW_side_115 : decode prog_1_method_22_code 115 = .ok (.iload 7, 2) := by decide +kernel
theorem eW_side_117 : decode prog_1_method_22_code 117 = .ok (.istore 6, 2) := by decide +kernel
theorem eW_side_119 : decode prog_1_method_22_code 119 = .ok (.iinc 7 1, 3) := by decide +kernel
theorem eW_side_122 : decode prog_1_method_22_code 122 = .ok (.goto (-57), 3) := by decide +kernel
theorem eW_side_125 : decode prog_1_method_22_code 125 = .ok (.iload 6, 2) := by decide +kernel
theorem eW_side_127 : decode prog_1_method_22_code 127 = .ok (.ireturn, 1) := by decide +kernel
theorem eP_become_0 : decode prog_2_method_2_code 0 = .ok (.aload_n 0, 1) := by decide +kernel
theorem eP_become_1 : decode prog_2_method_2_code 1 = .ok (.aload_n 1, 1) := by decide +kernel
theorem eP_become_2 : decode prog_2_method_2_code 2 = .ok (.getfield 9, 3) := by decide +kernel
theorem eP_become_5 : decode prog_2_method_2_code 5 = .ok (.putfield 9, 3) := by decide +kernel
theorem eP_become_8 : decode prog_2_method_2_code 8 = .ok (.aload_n 1, 1) := by decide +kernel
theorem eP_become_9 : decode prog_2_method_2_code 9 = .ok (.getfield 15, 3) := by decide +kernel
theorem eP_become_12 : decode prog_2_method_2_code 12 = .ok (.iconst 0, 1) := by decide +kernel
theorem eP_become_13 : decode prog_2_method_2_code 13 = .ok (.aload_n 0, 1) := by decide +kernel
theorem eP_become_14 : decode prog_2_method_2_code 14 = .ok (.getfield 15, 3) := by decide +kernel
theorem eP_become_17 : decode prog_2_method_2_code 17 = .ok (.iconst 0, 1) := by decide +kernel
theorem eP_become_18 : decode prog_2_method_2_code 18 = .ok (.iconst 4, 1) := by decide +kernel
theorem eP_become_19 : decode prog_2_method_2_code 19 = .ok (.invokestatic 30, 3) := by decide +kernel
theorem eP_become_22 : decode prog_2_method_2_code 22 = .ok (.aload_n 0, 1) := by decide +kernel
theorem eP_become_23 : decode prog_2_method_2_code 23 = .ok (.aload_n 1, 1) := by decide +kernel
theorem eP_become_24 : decode prog_2_method_2_code 24 = .ok (.getfield 19, 3) := by decide +kernel
theorem eP_become_27 : decode prog_2_method_2_code 27 = .ok (.putfield 19, 3) := by decide +kernel
theorem eP_become_30 : decode prog_2_method_2_code 30 = .ok (.iconst 0, 1) := by decide +kernel
theorem eP_become_31 : decode prog_2_method_2_code 31 = .ok (.istore_n 2, 1) := by decide +kernel
theorem eP_become_32 : decode prog_2_method_2_code 32 = .ok (.iload_n 2, 1) := by decide +kernel
theorem eP_become_33 : decode prog_2_method_2_code 33 = .ok (.aload_n 0, 1) := by decide +kernel
theorem eP_become_34 : decode prog_2_method_2_code 34 = .ok (.getfield 19, 3) := by decide +kernel
theorem eP_become_37 : decode prog_2_method_2_code 37 = .ok (.if_icmp .ge 28, 3) := by decide +kernel
theorem eP_become_40 : decode prog_2_method_2_code 40 = .ok (.aload_n 1, 1) := by decide +kernel
theorem eP_become_41 : decode prog_2_method_2_code 41 = .ok (.getfield 24, 3) := by decide +kernel
theorem eP_become_44 : decode prog_2_method_2_code 44 = .ok (.iload_n 2, 1) := by decide +kernel
theorem eP_become_45 : decode prog_2_method_2_code 45 = .ok (.aaload, 1) := by decide +kernel
theorem eP_become_46 : decode prog_2_method_2_code 46 = .ok (.iconst 0, 1) := by decide +kernel
theorem eP_become_47 : decode prog_2_method_2_code 47 = .ok (.aload_n 0, 1) := by decide +kernel
theorem eP_become_48 : decode prog_2_method_2_code 48 = .ok (.getfield 24, 3) := by decide +kernel
theorem eP_become_51 : decode prog_2_method_2_code 51 = .ok (.iload_n 2, 1) := by decide +kernel
theorem eP_become_52 : decode prog_2_method_2_code 52 = .ok (.aaload, 1) := by decide +kernel
theorem eP_become_53 : decode prog_2_method_2_code 53 = .ok (.iconst 0, 1) := by decide +kernel
theorem eP_become_54 : decode prog_2_method_2_code 54 = .ok (.bipush 6, 2) := by decide +kernel
theorem eP_become_56 : decode prog_2_method_2_code 56 = .ok (.invokestatic 30, 3) := by decide +kernel
theorem eP_become_59 : decode prog_2_method_2_code 59 = .ok (.iinc 2 1, 3) := by decide +kernel
theorem eP_become_62 : decode prog_2_method_2_code 62 = .ok (.goto (-30), 3) := by decide +kernel
theorem eP_become_65 : decode prog_2_method_2_code 65 = .ok (.return_, 1) := by decide +kernel
theorem eW_lost_0 : decode prog_1_method_23_code 0 = .ok (.iload_n 1, 1) := by decide +kernel
theorem eW_lost_1 : decode prog_1_method_23_code 1 = .ok (.invokestatic 63, 3) := by decide +kernel
theorem eW_lost_4 : decode prog_1_method_23_code 4 = .ok (.ifCond .eq 10, 3) := by decide +kernel
theorem eW_lost_7 : decode prog_1_method_23_code 7 = .ok (.iload_n 2, 1) := by decide +kernel
theorem eW_lost_8 : decode prog_1_method_23_code 8 = .ok (.invokestatic 131, 3) := by decide +kernel
theorem eW_lost_11 : decode prog_1_method_23_code 11 = .ok (.ifCond .ne 10, 3) := by decide +kernel
theorem eW_lost_14 : decode prog_1_method_23_code 14 = .ok (.aload_n 0, 1) := by decide +kernel
theorem eW_lost_15 : decode prog_1_method_23_code 15 = .ok (.ldc 51, 2) := by decide +kernel
theorem eW_lost_17 : decode prog_1_method_23_code 17 = .ok (.invokevirtual 52, 3) := by decide +kernel
theorem eW_lost_20 : decode prog_1_method_23_code 20 = .ok (.ireturn, 1) := by decide +kernel
theorem eW_lost_21 : decode prog_1_method_23_code 21 = .ok (.aload_n 0, 1) := by decide +kernel
theorem eW_lost_22 : decode prog_1_method_23_code 22 = .ok (.getfield 23, 3) := by decide +kernel
theorem eW_lost_25 : decode prog_1_method_23_code 25 = .ok (.aload_n 0, 1) := by decide +kernel
theorem eW_lost_26 : decode prog_1_method_23_code 26 = .ok (.getfield 10, 3) := by decide +kernel
theorem eW_lost_29 : decode prog_1_method_23_code 29 = .ok (.invokevirtual 183, 3) := by decide +kernel
theorem eW_lost_32 : decode prog_1_method_23_code 32 = .ok (.aload_n 0, 1) := by decide +kernel
theorem eW_lost_33 : decode prog_1_method_23_code 33 = .ok (.getfield 23, 3) := by decide +kernel
theorem eW_lost_36 : decode prog_1_method_23_code 36 = .ok (.iload_n 1, 1) := by decide +kernel
theorem eW_lost_37 : decode prog_1_method_23_code 37 = .ok (.iload_n 2, 1) := by decide +kernel
theorem eW_lost_38 : decode prog_1_method_23_code 38 = .ok (.invokevirtual 139, 3) := by decide +kernel
theorem eW_lost_41 : decode prog_1_method_23_code 41 = .ok (.pop, 1) := by decide +kernel
theorem eW_lost_42 : decode prog_1_method_23_code 42 = .ok (.aload_n 0, 1) := by decide +kernel
theorem eW_lost_43 : decode prog_1_method_23_code 43 = .ok (.getfield 23, 3) := by decide +kernel
theorem eW_lost_46 : decode prog_1_method_23_code 46 = .ok (.getfield 187, 3) := by decide +kernel
theorem eW_lost_49 : decode prog_1_method_23_code 49 = .ok (.ireturn, 1) := by decide +kernel
theorem eW_best_0 : decode prog_1_method_24_code 0 = .ok (.iload_n 1, 1) := by decide +kernel
theorem eW_best_1 : decode prog_1_method_24_code 1 = .ok (.invokestatic 131, 3) := by decide +kernel
theorem eW_best_4 : decode prog_1_method_24_code 4 = .ok (.ifCond .ne 10, 3) := by decide +kernel
theorem eW_best_7 : decode prog_1_method_24_code 7 = .ok (.aload_n 0, 1) := by decide +kernel
theorem eW_best_8 : decode prog_1_method_24_code 8 = .ok (.ldc 51, 2) := by decide +kernel
theorem eW_best_10 : decode prog_1_method_24_code 10 = .ok (.invokevirtual 52, 3) := by decide +kernel
theorem eW_best_13 : decode prog_1_method_24_code 13 = .ok (.ireturn, 1) := by decide +kernel
theorem eW_best_14 : decode prog_1_method_24_code 14 = .ok (.sipush 161, 3) := by decide +kernel
theorem eW_best_17 : decode prog_1_method_24_code 17 = .ok (.istore_n 2, 1) := by decide +kernel
theorem eW_best_18 : decode prog_1_method_24_code 18 = .ok (.iconst 0, 1) := by decide +kernel
theorem eW_best_19 : decode prog_1_method_24_code 19 = .ok (.istore_n 3, 1) := by decide +kernel
theorem eW_best_20 : decode prog_1_method_24_code 20 = .ok (.iconst 0, 1) := by decide +kernel
theorem eW_best_21 : decode prog_1_method_24_code 21 = .ok (.istore 4, 2) := by decide +kernel
theorem eW_best_23 : decode prog_1_method_24_code 23 = .ok (.iload 4, 2) := by decide +kernel
theorem eW_best_25 : decode prog_1_method_24_code 25 = .ok (.bipush 10, 2) := by decide +kernel
theorem eW_best_27 : decode prog_1_method_24_code 27 = .ok (.if_icmp .ge 44, 3) := by decide +kernel
theorem eW_best_30 : decode prog_1_method_24_code 30 = .ok (.aload_n 0, 1) := by decide +kernel
theorem eW_best_31 : decode prog_1_method_24_code 31 = .ok (.getfield 23, 3) := by decide +kernel
theorem eW_best_34 : decode prog_1_method_24_code 34 = .ok (.aload_n 0, 1) := by decide +kernel
theorem eW_best_35 : decode prog_1_method_24_code 35 = .ok (.getfield 10, 3) := by decide +kernel
theorem eW_best_38 : decode prog_1_method_24_code 38 = .ok (.invokevirtual 183, 3) := by decide +kernel
theorem eW_best_41 : decode prog_1_method_24_code 41 = .ok (.aload_n 0, 1) := by decide +kernel
theorem eW_best_42 : decode prog_1_method_24_code 42 = .ok (.getfield 23, 3) := by decide +kernel
theorem eW_best_45 : decode prog_1_method_24_code 45 = .ok (.iload 4, 2) := by decide +kernel
theorem eW_best_47 : decode prog_1_method_24_code 47 = .ok (.iload_n 1, 1) := by decide +kernel
theorem eW_best_48 : decode prog_1_method_24_code 48 = .ok (.invokevirtual 139, 3) := by decide +kernel
theorem eW_best_51 : decode prog_1_method_24_code 51 = .ok (.istore 5, 2) := by decide +kernel
theorem eW_best_53 : decode prog_1_method_24_code 53 = .ok (.iload 5, 2) := by decide +kernel
theorem eW_best_55 : decode prog_1_method_24_code 55 = .ok (.iload_n 2, 1) := by decide +kernel
theorem eW_best_56 : decode prog_1_method_24_code 56 = .ok (.if_icmp .ge 9, 3) := by decide +kernel
theorem eW_best_59 : decode prog_1_method_24_code 59 = .ok (.iload 5, 2) := by decide +kernel
theorem eW_best_61 : decode prog_1_method_24_code 61 = .ok (.istore_n 2, 1) := by decide +kernel
theorem eW_best_62 : decode prog_1_method_24_code 62 = .ok (.iload 4, 2) := by decide +kernel
theorem eW_best_64 : decode prog_1_method_24_code 64 = .ok (.istore_n 3, 1) := by decide +kernel
theorem eW_best_65 : decode prog_1_method_24_code 65 = .ok (.iinc 4 1, 3) := by decide +kernel
theorem eW_best_68 : decode prog_1_method_24_code 68 = .ok (.goto (-45), 3) := by decide +kernel
theorem eW_best_71 : decode prog_1_method_24_code 71 = .ok (.iload_n 3, 1) := by decide +kernel
theorem eW_best_72 : decode prog_1_method_24_code 72 = .ok (.ireturn, 1) := by decide +kernel
theorem eW_image_0 : decode prog_1_method_34_code 0 = .ok (.aload_n 0, 1) := by decide +kernel
theorem eW_image_1 : decode prog_1_method_34_code 1 = .ok (.getfield 16, 3) := by decide +kernel
theorem eW_image_4 : decode prog_1_method_34_code 4 = .ok (.aload_n 0, 1) := by decide +kernel
theorem eW_image_5 : decode prog_1_method_34_code 5 = .ok (.getfield 10, 3) := by decide +kernel
theorem eW_image_8 : decode prog_1_method_34_code 8 = .ok (.invokevirtual 183, 3) := by decide +kernel
theorem eW_image_11 : decode prog_1_method_34_code 11 = .ok (.aload_n 0, 1) := by decide +kernel
theorem eW_image_12 : decode prog_1_method_34_code 12 = .ok (.iconst 1, 1) := by decide +kernel
theorem eW_image_13 : decode prog_1_method_34_code 13 = .ok (.putfield 19, 3) := by decide +kernel
theorem eW_image_16 : decode prog_1_method_34_code 16 = .ok (.iconst 1, 1) := by decide +kernel
theorem eW_image_17 : decode prog_1_method_34_code 17 = .ok (.ireturn, 1) := by decide +kernel
theorem eW_undo_0 : decode prog_1_method_35_code 0 = .ok (.aload_n 0, 1) := by decide +kernel
theorem eW_undo_1 : decode prog_1_method_35_code 1 = .ok (.getfield 19, 3) := by decide +kernel
theorem eW_undo_4 : decode prog_1_method_35_code 4 = .ok (.ifCond .ne 10, 3) := by decide +kernel
theorem eW_undo_7 : decode prog_1_method_35_code 7 = .ok (.aload_n 0, 1) := by decide +kernel
theorem eW_undo_8 : decode prog_1_method_35_code 8 = .ok (.ldc 118, 2) := by decide +kernel
theorem eW_undo_10 : decode prog_1_method_35_code 10 = .ok (.invokevirtual 52, 3) := by decide +kernel
theorem eW_undo_13 : decode prog_1_method_35_code 13 = .ok (.ireturn, 1) := by decide +kernel
theorem eW_undo_14 : decode prog_1_method_35_code 14 = .ok (.aload_n 0, 1) := by decide +kernel
theorem eW_undo_15 : decode prog_1_method_35_code 15 = .ok (.getfield 10, 3) := by decide +kernel
theorem eW_undo_18 : decode prog_1_method_35_code 18 = .ok (.aload_n 0, 1) := by decide +kernel
theorem eW_undo_19 : decode prog_1_method_35_code 19 = .ok (.getfield 16, 3) := by decide +kernel
theorem eW_undo_22 : decode prog_1_method_35_code 22 = .ok (.invokevirtual 183, 3) := by decide +kernel
theorem eW_undo_25 : decode prog_1_method_35_code 25 = .ok (.aload_n 0, 1) := by decide +kernel
theorem eW_undo_26 : decode prog_1_method_35_code 26 = .ok (.getfield 10, 3) := by decide +kernel
theorem eW_undo_29 : decode prog_1_method_35_code 29 = .ok (.getfield 168, 3) := by decide +kernel
theorem eW_undo_32 : decode prog_1_method_35_code 32 = .ok (.ireturn, 1) := by decide +kernel
theorem eW_wall_0 : decode prog_1_method_3_code 0 = .ok (.iload_n 1, 1) := by decide +kernel
theorem eW_wall_1 : decode prog_1_method_3_code 1 = .ok (.invokestatic 59, 3) := by decide +kernel
theorem eW_wall_4 : decode prog_1_method_3_code 4 = .ok (.ifCond .eq 17, 3) := by decide +kernel
theorem eW_wall_7 : decode prog_1_method_3_code 7 = .ok (.iload_n 2, 1) := by decide +kernel
theorem eW_wall_8 : decode prog_1_method_3_code 8 = .ok (.invokestatic 63, 3) := by decide +kernel
theorem eW_wall_11 : decode prog_1_method_3_code 11 = .ok (.ifCond .eq 10, 3) := by decide +kernel
theorem eW_wall_14 : decode prog_1_method_3_code 14 = .ok (.iload_n 3, 1) := by decide +kernel
theorem eW_wall_15 : decode prog_1_method_3_code 15 = .ok (.invokestatic 63, 3) := by decide +kernel
theorem eW_wall_18 : decode prog_1_method_3_code 18 = .ok (.ifCond .ne 10, 3) := by decide +kernel
theorem eW_wall_21 : decode prog_1_method_3_code 21 = .ok (.aload_n 0, 1) := by decide +kernel
theorem eW_wall_22 : decode prog_1_method_3_code 22 = .ok (.ldc 51, 2) := by decide +kernel
theorem eW_wall_24 : decode prog_1_method_3_code 24 = .ok (.invokevirtual 52, 3) := by decide +kernel
theorem eW_wall_27 : decode prog_1_method_3_code 27 = .ok (.ireturn, 1) := by decide +kernel
theorem eW_wall_28 : decode prog_1_method_3_code 28 = .ok (.aload_n 0, 1) := by decide +kernel
theorem eW_wall_29 : decode prog_1_method_3_code 29 = .ok (.getfield 10, 3) := by decide +kernel
theorem eW_wall_32 : decode prog_1_method_3_code 32 = .ok (.invokevirtual 66, 3) := by decide +kernel
theorem eW_wall_35 : decode prog_1_method_3_code 35 = .ok (.ifCond .eq 10, 3) := by decide +kernel
theorem eW_wall_38 : decode prog_1_method_3_code 38 = .ok (.aload_n 0, 1) := by decide +kernel
theorem eW_wall_39 : decode prog_1_method_3_code 39 = .ok (.ldc 70, 2) := by decide +kernel
theorem eW_wall_41 : decode prog_1_method_3_code 41 = .ok (.invokevirtual 52, 3) := by decide +kernel
theorem eW_wall_44 : decode prog_1_method_3_code 44 = .ok (.ireturn, 1) := by decide +kernel
theorem eW_wall_45 : decode prog_1_method_3_code 45 = .ok (.aload_n 0, 1) := by decide +kernel
theorem eW_wall_46 : decode prog_1_method_3_code 46 = .ok (.getfield 10, 3) := by decide +kernel
theorem eW_wall_49 : decode prog_1_method_3_code 49 = .ok (.iload_n 1, 1) := by decide +kernel
theorem eW_wall_50 : decode prog_1_method_3_code 50 = .ok (.iload_n 2, 1) := by decide +kernel
theorem eW_wall_51 : decode prog_1_method_3_code 51 = .ok (.iload_n 3, 1) := by decide +kernel
theorem eW_wall_52 : decode prog_1_method_3_code 52 = .ok (.iconst 0, 1) := by decide +kernel
theorem eW_wall_53 : decode prog_1_method_3_code 53 = .ok (.invokevirtual 71, 3) := by decide +kernel
theorem eW_wall_56 : decode prog_1_method_3_code 56 = .ok (.ireturn, 1) := by decide +kernel
theorem eW_isKind_0 : decode prog_1_method_47_code 0 = .ok (.iload_n 0, 1) := by decide +kernel
theorem eW_isKind_1 : decode prog_1_method_47_code 1 = .ok (.iconst 0, 1) := by decide +kernel
theorem eW_isKind_2 : decode prog_1_method_47_code 2 = .ok (.iconst 5, 1) := by decide +kernel
theorem eW_isKind_3 : decode prog_1_method_47_code 3 = .ok (.invokestatic 82, 3) := by decide +kernel
theorem eW_isKind_6 : decode prog_1_method_47_code 6 = .ok (.ireturn, 1) := by decide +kernel
theorem eP_isBuiltUp_0 : decode prog_2_method_3_code 0 = .ok (.aload_n 0, 1) := by decide +kernel
theorem eP_isBuiltUp_1 : decode prog_2_method_3_code 1 = .ok (.getfield 19, 3) := by decide +kernel
theorem eP_isBuiltUp_4 : decode prog_2_method_3_code 4 = .ok (.bipush 10, 2) := by decide +kernel
theorem eP_isBuiltUp_6 : decode prog_2_method_3_code 6 = .ok (.if_icmp .lt 7, 3) := by decide +kernel
theorem eP_isBuiltUp_9 : decode prog_2_method_3_code 9 = .ok (.iconst 1, 1) := by decide +kernel
theorem eP_isBuiltUp_10 : decode prog_2_method_3_code 10 = .ok (.goto 4, 3) := by decide +kernel
theorem eP_isBuiltUp_13 : decode prog_2_method_3_code 13 = .ok (.iconst 0, 1) := by decide +kernel
theorem eP_isBuiltUp_14 : decode prog_2_method_3_code 14 = .ok (.ireturn, 1) := by decide +kernel
theorem eP_build_0 : decode prog_2_method_4_code 0 = .ok (.aload_n 0, 1) := by decide +kernel
theorem eP_build_1 : decode prog_2_method_4_code 1 = .ok (.getfield 24, 3) := by decide +kernel
theorem eP_build_4 : decode prog_2_method_4_code 4 = .ok (.aload_n 0, 1) := by decide +kernel
theorem eP_build_5 : decode prog_2_method_4_code 5 = .ok (.getfield 19, 3) := by decide +kernel
theorem eP_build_8 : decode prog_2_method_4_code 8 = .ok (.aaload, 1) := by decide +kernel
theorem eP_build_9 : decode prog_2_method_4_code 9 = .ok (.astore 5, 2) := by decide +kernel
theorem eP_build_11 : decode prog_2_method_4_code 11 = .ok (.aload 5, 2) := by decide +kernel
theorem eP_build_13 : decode prog_2_method_4_code 13 = .ok (.iconst 0, 1) := by decide +kernel
theorem eP_build_14 : decode prog_2_method_4_code 14 = .ok (.iload_n 1, 1) := by decide +kernel
theorem eP_build_15 : decode prog_2_method_4_code 15 = .ok (.iastore, 1) := by decide +kernel
theorem eP_build_16 : decode prog_2_method_4_code 16 = .ok (.aload 5, 2) := by decide +kernel
theorem eP_build_18 : decode prog_2_method_4_code 18 = .ok (.iconst 1, 1) := by decide +kernel
theorem eP_build_19 : decode prog_2_method_4_code 19 = .ok (.iload_n 2, 1) := by decide +kernel
theorem eP_build_20 : decode prog_2_method_4_code 20 = .ok (.iastore, 1) := by decide +kernel
theorem eP_build_21 : decode prog_2_method_4_code 21 = .ok (.aload 5, 2) := by decide +kernel
theorem eP_build_23 : decode prog_2_method_4_code 23 = .ok (.iconst 2, 1) := by decide +kernel
theorem eP_build_24 : decode prog_2_method_4_code 24 = .ok (.iload_n 3, 1) := by decide +kernel
theorem eP_build_25 : decode prog_2_method_4_code 25 = .ok (.iastore, 1) := by decide +kernel
theorem eP_build_26 : decode prog_2_method_4_code 26 = .ok (.aload 5, 2) := by decide +kernel
theorem eP_build_28 : decode prog_2_method_4_code 28 = .ok (.iconst 3, 1) := by decide +kernel
theorem eP_build_29 : decode prog_2_method_4_code 29 = .ok (.iload 4, 2) := by decide +kernel
theorem eP_build_31 : decode prog_2_method_4_code 31 = .ok (.iastore, 1) := by decide +kernel
theorem eP_build_32 : decode prog_2_method_4_code 32 = .ok (.aload 5, 2) := by decide +kernel
theorem eP_build_34 : decode prog_2_method_4_code 34 = .ok (.iconst 4, 1) := by decide +kernel
theorem eP_build_35 : decode prog_2_method_4_code 35 = .ok (.iconst 0, 1) := by decide +kernel
theorem eP_build_36 : decode prog_2_method_4_code 36 = .ok (.iastore, 1) := by decide +kernel
theorem eP_build_37 : decode prog_2_method_4_code 37 = .ok (.aload 5, 2) := by decide +kernel
theorem eP_build_39 : decode prog_2_method_4_code 39 = .ok (.iconst 5, 1) := by decide +kernel
theorem eP_build_40 : decode prog_2_method_4_code 40 = .ok (.iconst 0, 1) := by decide +kernel
theorem eP_build_41 : decode prog_2_method_4_code 41 = .ok (.iastore, 1) := by decide +kernel
theorem eP_build_42 : decode prog_2_method_4_code 42 = .ok (.aload_n 0, 1) := by decide +kernel
theorem eP_build_43 : decode prog_2_method_4_code 43 = .ok (.dup, 1) := by decide +kernel
theorem eP_build_44 : decode prog_2_method_4_code 44 = .ok (.getfield 19, 3) := by decide +kernel
theorem eP_build_47 : decode prog_2_method_4_code 47 = .ok (.dup_x1, 1) := by decide +kernel
theorem eP_build_48 : decode prog_2_method_4_code 48 = .ok (.iconst 1, 1) := by decide +kernel
theorem eP_build_49 : decode prog_2_method_4_code 49 = .ok (.iadd, 1) := by decide +kernel
theorem eP_build_50 : decode prog_2_method_4_code 50 = .ok (.putfield 19, 3) := by decide +kernel
theorem eP_build_53 : decode prog_2_method_4_code 53 = .ok (.ireturn, 1) := by decide +kernel
theorem eW_of_0 : decode prog_1_method_4_code 0 = .ok (.aload_n 0, 1) := by decide +kernel
theorem eW_of_1 : decode prog_1_method_4_code 1 = .ok (.iload_n 1, 1) := by decide +kernel
theorem eW_of_2 : decode prog_1_method_4_code 2 = .ok (.invokevirtual 75, 3) := by decide +kernel
theorem eW_of_5 : decode prog_1_method_4_code 5 = .ok (.ifCond .ne 10, 3) := by decide +kernel
theorem eW_of_8 : decode prog_1_method_4_code 8 = .ok (.aload_n 0, 1) := by decide +kernel
theorem eW_of_9 : decode prog_1_method_4_code 9 = .ok (.ldc 51, 2) := by decide +kernel
theorem eW_of_11 : decode prog_1_method_4_code 11 = .ok (.invokevirtual 52, 3) := by decide +kernel
theorem eW_of_14 : decode prog_1_method_4_code 14 = .ok (.ireturn, 1) := by decide +kernel
theorem eW_of_15 : decode prog_1_method_4_code 15 = .ok (.aload_n 0, 1) := by decide +kernel
theorem eW_of_16 : decode prog_1_method_4_code 16 = .ok (.getfield 10, 3) := by decide +kernel
theorem eW_of_19 : decode prog_1_method_4_code 19 = .ok (.getfield 78, 3) := by decide +kernel
theorem eW_of_22 : decode prog_1_method_4_code 22 = .ok (.iload_n 1, 1) := by decide +kernel
theorem eW_of_23 : decode prog_1_method_4_code 23 = .ok (.aaload, 1) := by decide +kernel
theorem eW_of_24 : decode prog_1_method_4_code 24 = .ok (.astore_n 3, 1) := by decide +kernel
theorem eW_of_25 : decode prog_1_method_4_code 25 = .ok (.iload_n 2, 1) := by decide +kernel
theorem eW_of_26 : decode prog_1_method_4_code 26 = .ok (.iconst 0, 1) := by decide +kernel
theorem eW_of_27 : decode prog_1_method_4_code 27 = .ok (.iconst 5, 1) := by decide +kernel
theorem eW_of_28 : decode prog_1_method_4_code 28 = .ok (.invokestatic 82, 3) := by decide +kernel
theorem eW_of_31 : decode prog_1_method_4_code 31 = .ok (.ifCond .eq 7, 3) := by decide +kernel
theorem eW_of_34 : decode prog_1_method_4_code 34 = .ok (.aload_n 3, 1) := by decide +kernel
theorem eW_of_35 : decode prog_1_method_4_code 35 = .ok (.iload_n 2, 1) := by decide +kernel
theorem eW_of_36 : decode prog_1_method_4_code 36 = .ok (.iaload, 1) := by decide +kernel
theorem eW_of_37 : decode prog_1_method_4_code 37 = .ok (.ireturn, 1) := by decide +kernel
theorem eW_of_38 : decode prog_1_method_4_code 38 = .ok (.iload_n 2, 1) := by decide +kernel
theorem eW_of_39 : decode prog_1_method_4_code 39 = .ok (.tableswitch 73 6 8 #[25, 49, 66], 25) := by decide +kernel
theorem eW_of_64 : decode prog_1_method_4_code 64 = .ok (.aload_n 0, 1) := by decide +kernel
theorem eW_of_65 : decode prog_1_method_4_code 65 = .ok (.getfield 10, 3) := by decide +kernel
theorem eW_of_68 : decode prog_1_method_4_code 68 = .ok (.iload_n 1, 1) := by decide +kernel
theorem eW_of_69 : decode prog_1_method_4_code 69 = .ok (.aload_n 0, 1) := by decide +kernel
theorem eW_of_70 : decode prog_1_method_4_code 70 = .ok (.getfield 10, 3) := by decide +kernel
theorem eW_of_73 : decode prog_1_method_4_code 73 = .ok (.getfield 86, 3) := by decide +kernel
theorem eW_of_76 : decode prog_1_method_4_code 76 = .ok (.invokevirtual 90, 3) := by decide +kernel
theorem eW_of_79 : decode prog_1_method_4_code 79 = .ok (.ifCond .eq 7, 3) := by decide +kernel
theorem eW_of_82 : decode prog_1_method_4_code 82 = .ok (.iconst 1, 1) := by decide +kernel
theorem eW_of_83 : decode prog_1_method_4_code 83 = .ok (.goto 4, 3) := by decide +kernel
theorem eW_of_86 : decode prog_1_method_4_code 86 = .ok (.iconst 0, 1) := by decide +kernel
theorem eW_of_87 : decode prog_1_method_4_code 87 = .ok (.ireturn, 1) := by decide +kernel
theorem eW_of_88 : decode prog_1_method_4_code 88 = .ok (.aload_n 0, 1) := by decide +kernel
theorem eW_of_89 : decode prog_1_method_4_code 89 = .ok (.getfield 10, 3) := by decide +kernel
theorem eW_of_92 : decode prog_1_method_4_code 92 = .ok (.aload_n 3, 1) := by decide +kernel
theorem eW_of_93 : decode prog_1_method_4_code 93 = .ok (.invokevirtual 93, 3) := by decide +kernel
theorem eW_of_96 : decode prog_1_method_4_code 96 = .ok (.ifCond .eq 7, 3) := by decide +kernel
theorem eW_of_99 : decode prog_1_method_4_code 99 = .ok (.iconst 1, 1) := by decide +kernel
theorem eW_of_100 : decode prog_1_method_4_code 100 = .ok (.goto 4, 3) := by decide +kernel
theorem eW_of_103 : decode prog_1_method_4_code 103 = .ok (.iconst 0, 1) := by decide +kernel
theorem eW_of_104 : decode prog_1_method_4_code 104 = .ok (.ireturn, 1) := by decide +kernel
theorem eW_of_105 : decode prog_1_method_4_code 105 = .ok (.aload_n 3, 1) := by decide +kernel
theorem eW_of_106 : decode prog_1_method_4_code 106 = .ok (.iconst 0, 1) := by decide +kernel
theorem eW_of_107 : decode prog_1_method_4_code 107 = .ok (.iaload, 1) := by decide +kernel
theorem eW_of_108 : decode prog_1_method_4_code 108 = .ok (.invokestatic 97, 3) := by decide +kernel
theorem eW_of_111 : decode prog_1_method_4_code 111 = .ok (.ireturn, 1) := by decide +kernel
theorem eW_of_112 : decode prog_1_method_4_code 112 = .ok (.aload_n 0, 1) := by decide +kernel
theorem eW_of_113 : decode prog_1_method_4_code 113 = .ok (.ldc 51, 2) := by decide +kernel
theorem eW_of_115 : decode prog_1_method_4_code 115 = .ok (.invokevirtual 52, 3) := by decide +kernel
theorem eW_of_118 : decode prog_1_method_4_code 118 = .ok (.ireturn, 1) := by decide +kernel
theorem eP_dutyOf_0 : decode prog_2_method_8_code 0 = .ok (.aload_n 0, 1) := by decide +kernel
theorem eP_dutyOf_1 : decode prog_2_method_8_code 1 = .ok (.iload_n 2, 1) := by decide +kernel
theorem eP_dutyOf_2 : decode prog_2_method_8_code 2 = .ok (.aload_n 0, 1) := by decide +kernel
theorem eP_dutyOf_3 : decode prog_2_method_8_code 3 = .ok (.getfield 15, 3) := by decide +kernel
theorem eP_dutyOf_6 : decode prog_2_method_8_code 6 = .ok (.iconst 0, 1) := by decide +kernel
theorem eP_dutyOf_7 : decode prog_2_method_8_code 7 = .ok (.iaload, 1) := by decide +kernel
theorem eP_dutyOf_8 : decode prog_2_method_8_code 8 = .ok (.invokevirtual 36, 3) := by decide +kernel
theorem eP_dutyOf_11 : decode prog_2_method_8_code 11 = .ok (.iload_n 1, 1) := by decide +kernel
theorem eP_dutyOf_12 : decode prog_2_method_8_code 12 = .ok (.ishr, 1) := by decide +kernel
theorem eP_dutyOf_13 : decode prog_2_method_8_code 13 = .ok (.iconst 1, 1) := by decide +kernel
theorem eP_dutyOf_14 : decode prog_2_method_8_code 14 = .ok (.iand, 1) := by decide +kernel
theorem eP_dutyOf_15 : decode prog_2_method_8_code 15 = .ok (.iconst 1, 1) := by decide +kernel
theorem eP_dutyOf_16 : decode prog_2_method_8_code 16 = .ok (.if_icmp .ne 7, 3) := by decide +kernel
theorem eP_dutyOf_19 : decode prog_2_method_8_code 19 = .ok (.iconst 1, 1) := by decide +kernel
theorem eP_dutyOf_20 : decode prog_2_method_8_code 20 = .ok (.goto 4, 3) := by decide +kernel
theorem eP_dutyOf_23 : decode prog_2_method_8_code 23 = .ok (.iconst 0, 1) := by decide +kernel
theorem eP_dutyOf_24 : decode prog_2_method_8_code 24 = .ok (.ireturn, 1) := by decide +kernel
theorem eW_reach_0 : decode prog_1_method_12_code 0 = .ok (.iload_n 1, 1) := by decide +kernel
theorem eW_reach_1 : decode prog_1_method_12_code 1 = .ok (.invokestatic 63, 3) := by decide +kernel
theorem eW_reach_4 : decode prog_1_method_12_code 4 = .ok (.ifCond .eq 14, 3) := by decide +kernel
theorem eW_reach_7 : decode prog_1_method_12_code 7 = .ok (.aload_n 0, 1) := by decide +kernel
theorem eW_reach_8 : decode prog_1_method_12_code 8 = .ok (.getfield 10, 3) := by decide +kernel
theorem eW_reach_11 : decode prog_1_method_12_code 11 = .ok (.iload_n 1, 1) := by decide +kernel
theorem eW_reach_12 : decode prog_1_method_12_code 12 = .ok (.invokevirtual 142, 3) := by decide +kernel
theorem eW_reach_15 : decode prog_1_method_12_code 15 = .ok (.goto 9, 3) := by decide +kernel
theorem eW_reach_18 : decode prog_1_method_12_code 18 = .ok (.aload_n 0, 1) := by decide +kernel
theorem eW_reach_19 : decode prog_1_method_12_code 19 = .ok (.ldc 51, 2) := by decide +kernel
theorem eW_reach_21 : decode prog_1_method_12_code 21 = .ok (.invokevirtual 52, 3) := by decide +kernel
theorem eW_reach_24 : decode prog_1_method_12_code 24 = .ok (.ireturn, 1) := by decide +kernel
theorem eW_count_0 : decode prog_1_method_37_code 0 = .ok (.iload_n 1, 1) := by decide +kernel
theorem eW_count_1 : decode prog_1_method_37_code 1 = .ok (.tableswitch 63 0 3 #[31, 39, 47, 55], 31) := by decide +kernel
theorem eW_count_32 : decode prog_1_method_37_code 32 = .ok (.aload_n 0, 1) := by decide +kernel
theorem eW_count_33 : decode prog_1_method_37_code 33 = .ok (.getfield 10, 3) := by decide +kernel
theorem eW_count_36 : decode prog_1_method_37_code 36 = .ok (.getfield 168, 3) := by decide +kernel
theorem eW_count_39 : decode prog_1_method_37_code 39 = .ok (.ireturn, 1) := by decide +kernel
theorem eW_count_40 : decode prog_1_method_37_code 40 = .ok (.aload_n 0, 1) := by decide +kernel
theorem eW_count_41 : decode prog_1_method_37_code 41 = .ok (.getfield 29, 3) := by decide +kernel
theorem eW_count_44 : decode prog_1_method_37_code 44 = .ok (.getfield 190, 3) := by decide +kernel
theorem eW_count_47 : decode prog_1_method_37_code 47 = .ok (.ireturn, 1) := by decide +kernel
theorem eW_count_48 : decode prog_1_method_37_code 48 = .ok (.aload_n 0, 1) := by decide +kernel
theorem eW_count_49 : decode prog_1_method_37_code 49 = .ok (.getfield 10, 3) := by decide +kernel
theorem eW_count_52 : decode prog_1_method_37_code 52 = .ok (.invokevirtual 241, 3) := by decide +kernel
theorem eW_count_55 : decode prog_1_method_37_code 55 = .ok (.ireturn, 1) := by decide +kernel
theorem eW_count_56 : decode prog_1_method_37_code 56 = .ok (.aload_n 0, 1) := by decide +kernel
theorem eW_count_57 : decode prog_1_method_37_code 57 = .ok (.getfield 10, 3) := by decide +kernel
theorem eW_count_60 : decode prog_1_method_37_code 60 = .ok (.invokevirtual 244, 3) := by decide +kernel
theorem eW_count_63 : decode prog_1_method_37_code 63 = .ok (.ireturn, 1) := by decide +kernel
theorem eW_count_64 : decode prog_1_method_37_code 64 = .ok (.aload_n 0, 1) := by decide +kernel
theorem eW_count_65 : decode prog_1_method_37_code 65 = .ok (.ldc 51, 2) := by decide +kernel
theorem eW_count_67 : decode prog_1_method_37_code 67 = .ok (.invokevirtual 52, 3) := by decide +kernel
theorem eW_count_70 : decode prog_1_method_37_code 70 = .ok (.ireturn, 1) := by decide +kernel
theorem eP_wordsCountedEach_0 : decode prog_2_method_18_code 0 = .ok (.iconst 0, 1) := by decide +kernel
theorem eP_wordsCountedEach_1 : decode prog_2_method_18_code 1 = .ok (.istore_n 1, 1) := by decide +kernel
theorem eP_wordsCountedEach_2 : decode prog_2_method_18_code 2 = .ok (.iconst 0, 1) := by decide +kernel
theorem eP_wordsCountedEach_3 : decode prog_2_method_18_code 3 = .ok (.istore_n 2, 1) := by decide +kernel
theorem eP_wordsCountedEach_4 : decode prog_2_method_18_code 4 = .ok (.iload_n 2, 1) := by decide +kernel
theorem eP_wordsCountedEach_5 : decode prog_2_method_18_code 5 = .ok (.aload_n 0, 1) := by decide +kernel
theorem eP_wordsCountedEach_6 : decode prog_2_method_18_code 6 = .ok (.getfield 19, 3) := by decide +kernel
theorem eP_wordsCountedEach_9 : decode prog_2_method_18_code 9 = .ok (.if_icmp .ge 23, 3) := by decide +kernel
theorem eP_wordsCountedEach_12 : decode prog_2_method_18_code 12 = .ok (.iload_n 1, 1) := by decide +kernel
theorem eP_wordsCountedEach_13 : decode prog_2_method_18_code 13 = .ok (.aload_n 0, 1) := by decide +kernel
theorem eP_wordsCountedEach_14 : decode prog_2_method_18_code 14 = .ok (.getfield 24, 3) := by decide +kernel
theorem eP_wordsCountedEach_17 : decode prog_2_method_18_code 17 = .ok (.iload_n 2, 1) := by decide +kernel
theorem eP_wordsCountedEach_18 : decode prog_2_method_18_code 18 = .ok (.aaload, 1) := by decide +kernel
theorem eP_wordsCountedEach_19 : decode prog_2_method_18_code 19 = .ok (.iconst 4, 1) := by decide +kernel
theorem eP_wordsCountedEach_20 : decode prog_2_method_18_code 20 = .ok (.iaload, 1) := by decide +kernel
theorem eP_wordsCountedEach_21 : decode prog_2_method_18_code 21 = .ok (.invokestatic 80, 3) := by decide +kernel
theorem eP_wordsCountedEach_24 : decode prog_2_method_18_code 24 = .ok (.iadd, 1) := by decide +kernel
theorem eP_wordsCountedEach_25 : decode prog_2_method_18_code 25 = .ok (.istore_n 1, 1) := by decide +kernel
theorem eP_wordsCountedEach_26 : decode prog_2_method_18_code 26 = .ok (.iinc 2 1, 3) := by decide +kernel
theorem eP_wordsCountedEach_29 : decode prog_2_method_18_code 29 = .ok (.goto (-25), 3) := by decide +kernel
theorem eP_wordsCountedEach_32 : decode prog_2_method_18_code 32 = .ok (.iload_n 1, 1) := by decide +kernel
theorem eP_wordsCountedEach_33 : decode prog_2_method_18_code 33 = .ok (.ireturn, 1) := by decide +kernel
theorem eP_howManyAwake_0 : decode prog_2_method_21_code 0 = .ok (.iconst 0, 1) := by decide +kernel
theorem eP_howManyAwake_1 : decode prog_2_method_21_code 1 = .ok (.istore_n 1, 1) := by decide +kernel
theorem eP_howManyAwake_2 : decode prog_2_method_21_code 2 = .ok (.iconst 0, 1) := by decide +kernel
theorem eP_howManyAwake_3 : decode prog_2_method_21_code 3 = .ok (.istore_n 2, 1) := by decide +kernel
theorem eP_howManyAwake_4 : decode prog_2_method_21_code 4 = .ok (.iload_n 2, 1) := by decide +kernel
theorem eP_howManyAwake_5 : decode prog_2_method_21_code 5 = .ok (.aload_n 0, 1) := by decide +kernel
theorem eP_howManyAwake_6 : decode prog_2_method_21_code 6 = .ok (.getfield 19, 3) := by decide +kernel
theorem eP_howManyAwake_9 : decode prog_2_method_21_code 9 = .ok (.if_icmp .ge 30, 3) := by decide +kernel
theorem eP_howManyAwake_12 : decode prog_2_method_21_code 12 = .ok (.iload_n 1, 1) := by decide +kernel
theorem eP_howManyAwake_13 : decode prog_2_method_21_code 13 = .ok (.aload_n 0, 1) := by decide +kernel
theorem eP_howManyAwake_14 : decode prog_2_method_21_code 14 = .ok (.aload_n 0, 1) := by decide +kernel
theorem eP_howManyAwake_15 : decode prog_2_method_21_code 15 = .ok (.getfield 24, 3) := by decide +kernel
theorem eP_howManyAwake_18 : decode prog_2_method_21_code 18 = .ok (.iload_n 2, 1) := by decide +kernel
theorem eP_howManyAwake_19 : decode prog_2_method_21_code 19 = .ok (.aaload, 1) := by decide +kernel
theorem eP_howManyAwake_20 : decode prog_2_method_21_code 20 = .ok (.invokevirtual 62, 3) := by decide +kernel
theorem eP_howManyAwake_23 : decode prog_2_method_21_code 23 = .ok (.ifCond .eq 7, 3) := by decide +kernel
theorem eP_howManyAwake_26 : decode prog_2_method_21_code 26 = .ok (.iconst 1, 1) := by decide +kernel
theorem eP_howManyAwake_27 : decode prog_2_method_21_code 27 = .ok (.goto 4, 3) := by decide +kernel
theorem eP_howManyAwake_30 : decode prog_2_method_21_code 30 = .ok (.iconst 0, 1) := by decide +kernel
theorem eP_howManyAwake_31 : decode prog_2_method_21_code 31 = .ok (.iadd, 1) := by decide +kernel
theorem eP_howManyAwake_32 : decode prog_2_method_21_code 32 = .ok (.istore_n 1, 1) := by decide +kernel
theorem eP_howManyAwake_33 : decode prog_2_method_21_code 33 = .ok (.iinc 2 1, 3) := by decide +kernel
theorem eP_howManyAwake_36 : decode prog_2_method_21_code 36 = .ok (.goto (-32), 3) := by decide +kernel
theorem eP_howManyAwake_39 : decode prog_2_method_21_code 39 = .ok (.iload_n 1, 1) := by decide +kernel
theorem eP_howManyAwake_40 : decode prog_2_method_21_code 40 = .ok (.ireturn, 1) := by decide +kernel
end
section
/-! GENERATED: the program texts of the methods, as functions over the memory. f is fuel for loops. -/
def dW_isIn (f : Nat) (a0 : Int32) (a1 : Int32) (a2 : Int32) (mem : Mem) : Option (Int32 × Mem) := if a0 < a1 then (some ((0 : Int32), mem)) else (if a2 < a0 then (some ((0 : Int32), mem)) else (some ((1 : Int32), mem)))
def dW_mayBeRota (f : Nat) (a0 : Int32) (a1 : Int32) (mem : Mem) : Option (Int32 × Mem) := bd (dW_isIn f a0 (0 : Int32) (3 : Int32) mem) (fun r1 m1 => if r1 = 0 then (some ((0 : Int32), m1)) else (ck a0 4 (ck a0 4 (bd (dW_isIn f a1 (stc 1 a0.toNatClampNeg) (stc 2 a0.toNatClampNeg) m1) (fun r2 m2 => if r2 = 0 then (some ((0 : Int32), m2)) else (some ((1 : Int32), m2)))))))
def dW_finding (f : Nat) (a1 : Int32) (mem : Mem) : Option (Int32 × Mem) := bd (dW_isIn f ((-1000000001 : Int32) - a1) (0 : Int32) (6 : Int32) mem) (fun r1 m1 => if r1 = 0 then (some (a1, m1)) else (ck ((-1000000001 : Int32) - a1) 7 (ck ((-1000000001 : Int32) - a1) 7 (some (a1, (sI m1 10 0 ((-1000000001 : Int32) - a1).toNatClampNeg ((gI m1 10 0 ((-1000000001 : Int32) - a1).toNatClampNeg) + (1 : Int32))))))))
def dW_rota (f : Nat) (a1 : Int32) (a2 : Int32) (mem : Mem) : Option (Int32 × Mem) := bd (dW_mayBeRota f a1 a2 mem) (fun r1 m1 => if r1 = 0 then (bd (dW_finding f (-1000000001 : Int32) m1) (fun r2 m2 => some (r2, m2))) else (ck a1 4 (ck a1 4 (some ((gI m1 2 0 a1.toNatClampNeg), (sI m1 2 0 a1.toNatClampNeg a2))))))
def dW_isWall (f : Nat) (a1 : Int32) (mem : Mem) : Option (Int32 × Mem) := bd (dW_isIn f a1 (0 : Int32) ((gI mem 1 0 2) - (1 : Int32)) mem) (fun r1 m1 => zb r1 (some (r1, m1)))
def dP_replace (f : Nat) (q0 : Nat) (a1 : Int32) (a2 : Int32) (a3 : Int32) (mem : Mem) : Option (Int32 × Mem) := ck a1 10 (ck a2 6 (ck a1 10 (ck a2 6 (some ((gI mem 4 (10 * q0 + a1.toNatClampNeg) a2.toNatClampNeg), (sI mem 4 (10 * q0 + a1.toNatClampNeg) a2.toNatClampNeg a3))))))
def dW_set (f : Nat) (a1 : Int32) (a2 : Int32) (a3 : Int32) (mem : Mem) : Option (Int32 × Mem) := bd (dW_isWall f a1 mem) (fun r1 m1 => if r1 = 0 then (bd (dW_finding f (-1000000001 : Int32) m1) (fun r2 m2 => some (r2, m2))) else (bd (dW_isIn f a2 (1 : Int32) (5 : Int32) m1) (fun r3 m3 => if r3 = 0 then (bd (dW_finding f (-1000000001 : Int32) m3) (fun r4 m4 => some (r4, m4))) else (ck a2 6 (bd (dW_isIn f a3 (0 : Int32) (stc 0 a2.toNatClampNeg) m3) (fun r5 m5 => if r5 = 0 then (bd (dW_finding f (-1000000001 : Int32) m5) (fun r6 m6 => some (r6, m6))) else (bd (dP_replace f 0 a1 a2 a3 m5) (fun r7 m7 => some (r7, m7)))))))))
def dW_isRoom (f : Nat) (a0 : Int32) (mem : Mem) : Option (Int32 × Mem) := bd (dW_isIn f a0 (0 : Int32) (9 : Int32) mem) (fun r1 m1 => zb r1 (some (r1, m1)))
def dW_isWord (f : Nat) (a0 : Int32) (mem : Mem) : Option (Int32 × Mem) := bd (dW_isIn f a0 (0 : Int32) (15 : Int32) mem) (fun r1 m1 => zb r1 (some (r1, m1)))
def dP_roomsOf (f : Nat) (q0 : Nat) (q1 : Nat) (mem : Mem) : Option (Int32 × Mem) := some ((((1 : Int32) <<< ((gI mem 4 q1 1) &&& 31)) ||| ((1 : Int32) <<< ((gI mem 4 q1 2) &&& 31))), mem)
def dP_leaks_15 (f : Nat) (k6 : Nat → Int32 → Int32 → Mem → Option (Int32 × Mem)) : Nat → Nat → Int32 → Int32 → Int32 → Mem → Option (Int32 × Mem)
  | 0, _, _, _, _, _ => none
  | n + 1, q0, x2, x3, x4, mem => if x4 < (gI mem 1 q0 2) then (ck x4 10 (bd (dP_roomsOf f q0 (10 * q0 + x4.toNatClampNeg) mem) (fun r2 m2 => ck x4 10 (if (gI m2 4 (10 * q0 + x4.toNatClampNeg) 0) = (3 : Int32) then (if (r2 &&& x2) = 0 then (dP_leaks_15 f k6 n q0 x2 x3 (x4 + (1 : Int32)) m2) else (dP_leaks_15 f k6 n q0 (x2 ||| r2) x3 (x4 + (1 : Int32)) m2)) else (dP_leaks_15 f k6 n q0 x2 x3 (x4 + (1 : Int32)) m2))))) else (k6 q0 x2 (x3 + (1 : Int32)) mem)
def dP_leaks_6 (f : Nat) : Nat → Nat → Int32 → Int32 → Mem → Option (Int32 × Mem)
  | 0, _, _, _, _ => none
  | n + 1, q0, x2, x3, mem => if x3 < (10 : Int32) then (dP_leaks_15 f (fun q0_ x2_ x3_ mem_ => dP_leaks_6 f n q0_ x2_ x3_ mem_) f q0 x2 x3 (0 : Int32) mem) else (some (x2, mem))
def dP_leaks (f : Nat) (q0 : Nat) (a1 : Int32) (mem : Mem) : Option (Int32 × Mem) := dP_leaks_6 f f q0 ((1 : Int32) <<< (a1 &&& 31)) (0 : Int32) mem
def dP_near_11 (f : Nat) : Nat → Nat → Int32 → Int32 → Int32 → Mem → Option (Int32 × Mem)
  | 0, _, _, _, _, _ => none
  | n + 1, q0, x2, x3, x4, mem => if x4 < (gI mem 1 q0 2) then (ck x4 10 (bd (dP_roomsOf f q0 (10 * q0 + x4.toNatClampNeg) mem) (fun r2 m2 => if (r2 &&& x2) = 0 then (dP_near_11 f n q0 x2 x3 (x4 + (1 : Int32)) m2) else (dP_near_11 f n q0 x2 (x3 ||| ((1 : Int32) <<< (x4 &&& 31))) (x4 + (1 : Int32)) m2)))) else (some (x3, mem))
def dP_near (f : Nat) (q0 : Nat) (a1 : Int32) (mem : Mem) : Option (Int32 × Mem) := bd (dP_leaks f q0 a1 mem) (fun r1 m1 => dP_near_11 f f q0 r1 (0 : Int32) (0 : Int32) m1)
def dW_quarterOf (f : Nat) (a0 : Int32) (a1 : Int32) (mem : Mem) : Option (Int32 × Mem) := if a1 < (1 : Int32) then (some ((0 : Int32), mem)) else (if a1 = 0 then none else (if (4 : Int32) = 0 then none else (some (((a0 / a1) % (4 : Int32)), mem))))
def dW_restOf (f : Nat) (a0 : Int32) (a1 : Int32) (mem : Mem) : Option (Int32 × Mem) := if a1 < (1 : Int32) then (some ((0 : Int32), mem)) else (if a1 = 0 then none else (some ((a0 % a1), mem)))
def dP_listens_50 (f : Nat) (x1 : Int32) (x2 : Int32) (x3 : Int32) (x4 : Int32) (x5 : Int32) (x6 : Int32) (s0 : Int32) (mem : Mem) : Option (Int32 × Mem) := if x1 = (1 : Int32) then (if x6 = 0 then (some ((0 : Int32), mem)) else (if s0 = 0 then (some ((1 : Int32), mem)) else (some ((0 : Int32), mem)))) else (if x1 = (2 : Int32) then (zb x6 (some (x6, mem))) else (if x1 = (3 : Int32) then (zb x6 (some (x6, mem))) else (if x1 = (4 : Int32) then (if s0 = 0 then (zb x6 (some (x6, mem))) else (if x4 = 0 then (some ((1 : Int32), mem)) else (some ((0 : Int32), mem)))) else (if x1 = (5 : Int32) then (if x6 = 0 then (if (4 : Int32) = 0 then none else (if x3 = ((x2 + (1 : Int32)) % (4 : Int32)) then (if x5 = 0 then (some ((0 : Int32), mem)) else (some ((1 : Int32), mem))) else (some ((0 : Int32), mem)))) else (some ((1 : Int32), mem))) else (zb x6 (some (x6, mem)))))))
def dP_listens_33 (f : Nat) (q0 : Nat) (x1 : Int32) (x2 : Int32) (x3 : Int32) (x4 : Int32) (x5 : Int32) (s0 : Int32) (mem : Mem) : Option (Int32 × Mem) := if (gI mem 2 q0 2) = (3 : Int32) then (dP_listens_50 f x1 x2 x3 x4 x5 s0 (1 : Int32) mem) else (dP_listens_50 f x1 x2 x3 x4 x5 s0 (0 : Int32) mem)
def dP_listens_16 (f : Nat) (q0 : Nat) (x1 : Int32) (x2 : Int32) (x3 : Int32) (x4 : Int32) (s0 : Int32) (mem : Mem) : Option (Int32 × Mem) := if x3 = x2 then (if s0 = 0 then (dP_listens_33 f q0 x1 x2 x3 x4 s0 (0 : Int32) mem) else (dP_listens_33 f q0 x1 x2 x3 x4 s0 (1 : Int32) mem)) else (dP_listens_33 f q0 x1 x2 x3 x4 s0 (0 : Int32) mem)
def dP_listens (f : Nat) (q0 : Nat) (a1 : Int32) (a2 : Int32) (a3 : Int32) (a4 : Int32) (mem : Mem) : Option (Int32 × Mem) := if a4 < (gI mem 2 q0 1) then (dP_listens_16 f q0 a1 a2 a3 a4 (0 : Int32) mem) else (dP_listens_16 f q0 a1 a2 a3 a4 (1 : Int32) mem)
def dP_onDuty_19 (f : Nat) : Nat → Nat → Int32 → Int32 → Int32 → Int32 → Mem → Option (Int32 × Mem)
  | 0, _, _, _, _, _, _ => none
  | n + 1, q0, x3, x4, x5, x6, mem => if x6 < (gI mem 1 q0 2) then (ck x6 10 (ck x6 10 (bd (dP_listens f q0 (gI mem 4 (10 * q0 + x6.toNatClampNeg) 0) (gI mem 4 (10 * q0 + x6.toNatClampNeg) 3) x3 x4 mem) (fun r3 m3 => if r3 = 0 then (dP_onDuty_19 f n q0 x3 x4 x5 (x6 + (1 : Int32)) m3) else (dP_onDuty_19 f n q0 x3 x4 (x5 ||| ((1 : Int32) <<< (x6 &&& 31))) (x6 + (1 : Int32)) m3))))) else (some (x5, mem))
def dP_onDuty (f : Nat) (q0 : Nat) (a1 : Int32) (a2 : Int32) (mem : Mem) : Option (Int32 × Mem) := bd (dW_quarterOf f a1 a2 mem) (fun r1 m1 => bd (dW_restOf f a1 a2 m1) (fun r2 m2 => dP_onDuty_19 f f q0 r1 r2 (0 : Int32) (0 : Int32) m2))
def dW_becomes (f : Nat) (q0 : Nat) (a1 : Int32) (mem : Mem) : Option (Int32 × Mem) := if (gI mem 4 q0 0) = (2 : Int32) then (some ((a1 ^^^ (1 : Int32)), mem)) else (if (gI mem 4 q0 0) = (3 : Int32) then (some (a1, mem)) else (if (gI mem 4 q0 0) = (4 : Int32) then (if a1 < (4 : Int32) then (some ((-1 : Int32), mem)) else (some (a1, mem))) else (if (gI mem 4 q0 0) = (5 : Int32) then (if (gI mem 4 q0 5) = 0 then (some (a1, mem)) else (some ((a1 ^^^ (1 : Int32)), mem))) else (some (a1, mem)))))
def dP_isAwake (f : Nat) (q0 : Nat) (q1 : Nat) (mem : Mem) : Option (Int32 × Mem) := if (gI mem 4 q1 5) < (gI mem 2 q0 3) then (some ((1 : Int32), mem)) else (some ((0 : Int32), mem))
def dW_tires (f : Nat) (a0 : Int32) (mem : Mem) : Option (Int32 × Mem) := if a0 = (3 : Int32) then (some ((2 : Int32), mem)) else (if a0 = (4 : Int32) then (some ((0 : Int32), mem)) else (if a0 = (5 : Int32) then (some ((2 : Int32), mem)) else (some ((1 : Int32), mem))))
def dP_utter_23 (f : Nat) : Nat → Nat → Int32 → Int32 → Int32 → Int32 → Mem → Option (Int32 × Mem)
  | 0, _, _, _, _, _, _ => none
  | n + 1, q0, x2, x3, x4, x5, mem => if x5 < (gI mem 1 q0 2) then (ck x5 10 (bd (dW_becomes f (10 * q0 + x5.toNatClampNeg) x2 mem) (fun r2 m2 => if ((x3 >>> (x5 &&& 31)) &&& (1 : Int32)) = (1 : Int32) then (bd (dP_isAwake f q0 (10 * q0 + x5.toNatClampNeg) m2) (fun r3 m3 => if r3 = 0 then (dP_utter_23 f n q0 x2 x3 x4 (x5 + (1 : Int32)) m3) else (if r2 < 0 then (dP_utter_23 f n q0 x2 x3 x4 (x5 + (1 : Int32)) m3) else (bd (dW_tires f (gI (sI m3 4 (10 * q0 + x5.toNatClampNeg) 4 ((gI m3 4 (10 * q0 + x5.toNatClampNeg) 4) ||| ((1 : Int32) <<< (r2 &&& 31)))) 4 (10 * q0 + x5.toNatClampNeg) 0) (sI m3 4 (10 * q0 + x5.toNatClampNeg) 4 ((gI m3 4 (10 * q0 + x5.toNatClampNeg) 4) ||| ((1 : Int32) <<< (r2 &&& 31))))) (fun r4 m4 => dP_utter_23 f n q0 x2 x3 (x4 ||| ((1 : Int32) <<< (x5 &&& 31))) (x5 + (1 : Int32)) (sI m4 4 (10 * q0 + x5.toNatClampNeg) 5 (if ((gI (sI m3 4 (10 * q0 + x5.toNatClampNeg) 4 ((gI m3 4 (10 * q0 + x5.toNatClampNeg) 4) ||| ((1 : Int32) <<< (r2 &&& 31)))) 4 (10 * q0 + x5.toNatClampNeg) 5) + r4) < (99 : Int32) then ((gI (sI m3 4 (10 * q0 + x5.toNatClampNeg) 4 ((gI m3 4 (10 * q0 + x5.toNatClampNeg) 4) ||| ((1 : Int32) <<< (r2 &&& 31)))) 4 (10 * q0 + x5.toNatClampNeg) 5) + r4) else (99 : Int32)))))))) else (dP_utter_23 f n q0 x2 x3 x4 (x5 + (1 : Int32)) m2)))) else (some (x4, mem))
def dP_utter (f : Nat) (q0 : Nat) (a1 : Int32) (a2 : Int32) (mem : Mem) : Option (Int32 × Mem) := bd (dP_onDuty f q0 (gI mem 1 q0 0) (gI mem 2 q0 0) mem) (fun r1 m1 => dP_utter_23 f f q0 a2 (a1 &&& r1) (0 : Int32) (0 : Int32) m1)
def dW_say (f : Nat) (a1 : Int32) (a2 : Int32) (mem : Mem) : Option (Int32 × Mem) := bd (dW_isRoom f a1 mem) (fun r1 m1 => if r1 = 0 then (bd (dW_finding f (-1000000001 : Int32) m1) (fun r2 m2 => some (r2, m2))) else (bd (dW_isWord f a2 m1) (fun r3 m3 => if r3 = 0 then (bd (dW_finding f (-1000000001 : Int32) m3) (fun r4 m4 => some (r4, m4))) else (bd (dP_near f 0 a1 m3) (fun r5 m5 => bd (dP_utter f 0 r5 a2 m5) (fun r6 m6 => some (r6, m6)))))))
def dP_goOn_31 (f : Nat) : Nat → Nat → Int32 → Int32 → Mem → Option (Unit × Mem)
  | 0, _, _, _, _ => none
  | n + 1, q0, x1, x2, mem => if x2 < (gI mem 1 q0 2) then (ck x2 10 (bd (dW_quarterOf f (gI mem 1 q0 0) x1 mem) (fun r2 m2 => if (gI mem 4 (10 * q0 + x2.toNatClampNeg) 3) = r2 then (ck x2 10 (dP_goOn_31 f n q0 x1 (x2 + (1 : Int32)) (sI m2 4 (10 * q0 + x2.toNatClampNeg) 5 (0 : Int32)))) else (dP_goOn_31 f n q0 x1 (x2 + (1 : Int32)) m2)))) else (some ((), mem))
def dP_goOn (f : Nat) (q0 : Nat) (mem : Mem) : Option (Unit × Mem) := bd (dW_restOf f (gI (sI mem 1 q0 0 ((gI mem 1 q0 0) + (1 : Int32))) 1 q0 0) (gI (sI mem 1 q0 0 ((gI mem 1 q0 0) + (1 : Int32))) 2 q0 0) (sI mem 1 q0 0 ((gI mem 1 q0 0) + (1 : Int32)))) (fun r1 m1 => if r1 = 0 then (dP_goOn_31 f f q0 (gI (sI mem 1 q0 0 ((gI mem 1 q0 0) + (1 : Int32))) 2 q0 0) (0 : Int32) m1) else (some ((), m1)))
def dW_pass_41 (f : Nat) : Nat → Int32 → Int32 → Mem → Option (Int32 × Mem)
  | 0, _, _, _ => none
  | n + 1, x1, x2, mem => if x2 < x1 then (bd (dP_goOn f 0 mem) (fun r1 m1 => dW_pass_41 f n x1 (x2 + (1 : Int32)) m1)) else (some ((gI mem 1 0 0), mem))
def dW_pass (f : Nat) (a1 : Int32) (mem : Mem) : Option (Int32 × Mem) := bd (dW_isIn f a1 (1 : Int32) (240 : Int32) mem) (fun r1 m1 => if r1 = 0 then (bd (dW_finding f (-1000000001 : Int32) m1) (fun r2 m2 => some (r2, m2))) else (if ((99999 : Int32) - a1) < (gI m1 1 0 0) then (bd (dW_finding f (-1000000005 : Int32) m1) (fun r3 m3 => some (r3, m3))) else (dW_pass_41 f f a1 (0 : Int32) m1)))
def dW_isSetOfWords (f : Nat) (a0 : Int32) (mem : Mem) : Option (Int32 × Mem) := bd (dW_isIn f a0 (0 : Int32) (65535 : Int32) mem) (fun r1 m1 => zb r1 (some (r1, m1)))
def dJInt_bitCount (f : Nat) (a0 : Int32) (mem : Mem) : Option (Int32 × Mem) := some (((((((((a0 - ((a0.toUInt32 >>> ((1 : Int32) &&& 31).toUInt32).toInt32 &&& (1431655765 : Int32))) &&& (858993459 : Int32)) + (((a0 - ((a0.toUInt32 >>> ((1 : Int32) &&& 31).toUInt32).toInt32 &&& (1431655765 : Int32))).toUInt32 >>> ((2 : Int32) &&& 31).toUInt32).toInt32 &&& (858993459 : Int32))) + ((((a0 - ((a0.toUInt32 >>> ((1 : Int32) &&& 31).toUInt32).toInt32 &&& (1431655765 : Int32))) &&& (858993459 : Int32)) + (((a0 - ((a0.toUInt32 >>> ((1 : Int32) &&& 31).toUInt32).toInt32 &&& (1431655765 : Int32))).toUInt32 >>> ((2 : Int32) &&& 31).toUInt32).toInt32 &&& (858993459 : Int32))).toUInt32 >>> ((4 : Int32) &&& 31).toUInt32).toInt32) &&& (252645135 : Int32)) + ((((((a0 - ((a0.toUInt32 >>> ((1 : Int32) &&& 31).toUInt32).toInt32 &&& (1431655765 : Int32))) &&& (858993459 : Int32)) + (((a0 - ((a0.toUInt32 >>> ((1 : Int32) &&& 31).toUInt32).toInt32 &&& (1431655765 : Int32))).toUInt32 >>> ((2 : Int32) &&& 31).toUInt32).toInt32 &&& (858993459 : Int32))) + ((((a0 - ((a0.toUInt32 >>> ((1 : Int32) &&& 31).toUInt32).toInt32 &&& (1431655765 : Int32))) &&& (858993459 : Int32)) + (((a0 - ((a0.toUInt32 >>> ((1 : Int32) &&& 31).toUInt32).toInt32 &&& (1431655765 : Int32))).toUInt32 >>> ((2 : Int32) &&& 31).toUInt32).toInt32 &&& (858993459 : Int32))).toUInt32 >>> ((4 : Int32) &&& 31).toUInt32).toInt32) &&& (252645135 : Int32)).toUInt32 >>> ((8 : Int32) &&& 31).toUInt32).toInt32) + (((((((a0 - ((a0.toUInt32 >>> ((1 : Int32) &&& 31).toUInt32).toInt32 &&& (1431655765 : Int32))) &&& (858993459 : Int32)) + (((a0 - ((a0.toUInt32 >>> ((1 : Int32) &&& 31).toUInt32).toInt32 &&& (1431655765 : Int32))).toUInt32 >>> ((2 : Int32) &&& 31).toUInt32).toInt32 &&& (858993459 : Int32))) + ((((a0 - ((a0.toUInt32 >>> ((1 : Int32) &&& 31).toUInt32).toInt32 &&& (1431655765 : Int32))) &&& (858993459 : Int32)) + (((a0 - ((a0.toUInt32 >>> ((1 : Int32) &&& 31).toUInt32).toInt32 &&& (1431655765 : Int32))).toUInt32 >>> ((2 : Int32) &&& 31).toUInt32).toInt32 &&& (858993459 : Int32))).toUInt32 >>> ((4 : Int32) &&& 31).toUInt32).toInt32) &&& (252645135 : Int32)) + ((((((a0 - ((a0.toUInt32 >>> ((1 : Int32) &&& 31).toUInt32).toInt32 &&& (1431655765 : Int32))) &&& (858993459 : Int32)) + (((a0 - ((a0.toUInt32 >>> ((1 : Int32) &&& 31).toUInt32).toInt32 &&& (1431655765 : Int32))).toUInt32 >>> ((2 : Int32) &&& 31).toUInt32).toInt32 &&& (858993459 : Int32))) + ((((a0 - ((a0.toUInt32 >>> ((1 : Int32) &&& 31).toUInt32).toInt32 &&& (1431655765 : Int32))) &&& (858993459 : Int32)) + (((a0 - ((a0.toUInt32 >>> ((1 : Int32) &&& 31).toUInt32).toInt32 &&& (1431655765 : Int32))).toUInt32 >>> ((2 : Int32) &&& 31).toUInt32).toInt32 &&& (858993459 : Int32))).toUInt32 >>> ((4 : Int32) &&& 31).toUInt32).toInt32) &&& (252645135 : Int32)).toUInt32 >>> ((8 : Int32) &&& 31).toUInt32).toInt32).toUInt32 >>> ((16 : Int32) &&& 31).toUInt32).toInt32) &&& (63 : Int32)), mem)
def dP_utterAll_17 (f : Nat) : Nat → Nat → Int32 → Int32 → Int32 → Int32 → Mem → Option (Int32 × Mem)
  | 0, _, _, _, _, _, _ => none
  | n + 1, q0, x2, x3, x4, x5, mem => if x5 < (16 : Int32) then (if ((x2 >>> (x5 &&& 31)) &&& (1 : Int32)) = (1 : Int32) then (bd (dP_utter f q0 x3 x5 mem) (fun r1 m1 => bd (dJInt_bitCount f r1 m1) (fun r2 m2 => if r1 = 0 then (bd (dP_goOn f q0 (sI m2 1 q0 4 ((gI m2 1 q0 4) ||| ((1 : Int32) <<< (x5 &&& 31))))) (fun r3 m3 => dP_utterAll_17 f n q0 x2 x3 (x4 + r2) (x5 + (1 : Int32)) m3)) else (bd (dP_goOn f q0 (sI m2 1 q0 4 ((gI m2 1 q0 4) ||| (0 : Int32)))) (fun r4 m4 => dP_utterAll_17 f n q0 x2 x3 (x4 + r2) (x5 + (1 : Int32)) m4))))) else (dP_utterAll_17 f n q0 x2 x3 x4 (x5 + (1 : Int32)) mem)) else (some (x4, mem))
def dP_utterAll (f : Nat) (q0 : Nat) (a1 : Int32) (a2 : Int32) (mem : Mem) : Option (Int32 × Mem) := bd (dP_near f q0 a1 mem) (fun r1 m1 => dP_utterAll_17 f f q0 a2 r1 (0 : Int32) (0 : Int32) (sI m1 1 q0 4 (0 : Int32)))
def dW_speak (f : Nat) (a1 : Int32) (a2 : Int32) (mem : Mem) : Option (Int32 × Mem) := bd (dW_isRoom f a1 mem) (fun r1 m1 => if r1 = 0 then (bd (dW_finding f (-1000000001 : Int32) m1) (fun r2 m2 => some (r2, m2))) else (bd (dW_isSetOfWords f a2 m1) (fun r3 m3 => if r3 = 0 then (bd (dW_finding f (-1000000001 : Int32) m3) (fun r4 m4 => some (r4, m4))) else (bd (dJInt_bitCount f a2 m3) (fun r5 m5 => if ((99999 : Int32) - r5) < (gI m3 1 0 0) then (bd (dW_finding f (-1000000005 : Int32) m5) (fun r6 m6 => some (r6, m6))) else (bd (dP_utterAll f 0 a1 a2 m5) (fun r7 m7 => some (r7, m7))))))))
def dW_duty (f : Nat) (a1 : Int32) (mem : Mem) : Option (Int32 × Mem) := bd (dW_isIn f a1 (0 : Int32) (99999 : Int32) mem) (fun r1 m1 => if r1 = 0 then (bd (dW_finding f (-1000000001 : Int32) m1) (fun r2 m2 => some (r2, m2))) else (bd (dP_onDuty f 0 a1 (gI m1 2 0 0) m1) (fun r3 m3 => some (r3, m3))))
def dP_wordsInFiles_4 (f : Nat) : Nat → Nat → Int32 → Int32 → Mem → Option (Int32 × Mem)
  | 0, _, _, _, _ => none
  | n + 1, q0, x1, x2, mem => if x2 < (gI mem 1 q0 2) then (ck x2 10 (dP_wordsInFiles_4 f n q0 (x1 ||| (gI mem 4 (10 * q0 + x2.toNatClampNeg) 4)) (x2 + (1 : Int32)) mem)) else (some (x1, mem))
def dP_wordsInFiles (f : Nat) (q0 : Nat) (mem : Mem) : Option (Int32 × Mem) := dP_wordsInFiles_4 f f q0 (0 : Int32) (0 : Int32) mem
def dP_tiredTogether_4 (f : Nat) : Nat → Nat → Int32 → Int32 → Mem → Option (Int32 × Mem)
  | 0, _, _, _, _ => none
  | n + 1, q0, x1, x2, mem => if x2 < (gI mem 1 q0 2) then (ck x2 10 (dP_tiredTogether_4 f n q0 (x1 + (gI mem 4 (10 * q0 + x2.toNatClampNeg) 5)) (x2 + (1 : Int32)) mem)) else (some (x1, mem))
def dP_tiredTogether (f : Nat) (q0 : Nat) (mem : Mem) : Option (Int32 × Mem) := dP_tiredTogether_4 f f q0 (0 : Int32) (0 : Int32) mem
def dW_now (f : Nat) (a1 : Int32) (mem : Mem) : Option (Int32 × Mem) := if a1 = (0 : Int32) then (some ((gI mem 1 0 0), mem)) else (if a1 = (1 : Int32) then (some ((gI mem 2 0 0), mem)) else (if a1 = (2 : Int32) then (some ((gI mem 2 0 1), mem)) else (if a1 = (3 : Int32) then (some ((gI mem 2 0 2), mem)) else (if a1 = (4 : Int32) then (some ((gI mem 2 0 3), mem)) else (if a1 = (5 : Int32) then (bd (dP_wordsInFiles f 0 mem) (fun r1 m1 => some (r1, m1))) else (if a1 = (6 : Int32) then (bd (dP_tiredTogether f 0 mem) (fun r2 m2 => some (r2, m2))) else (bd (dW_finding f (-1000000001 : Int32) mem) (fun r3 m3 => some (r3, m3)))))))))
def dW_foresee_2 (f : Nat) : Nat → Int32 → Int32 → Mem → Option (Unit × Mem)
  | 0, _, _, _ => none
  | n + 1, x1, x2, mem => if x2 < x1 then (if x2 < (270 : Int32) then (bd (dP_onDuty f 0 ((gI mem 1 0 0) + x2) (gI mem 2 0 0) mem) (fun r1 m1 => ck x2 270 (dW_foresee_2 f n x1 (x2 + (1 : Int32)) (sI m1 11 0 x2.toNatClampNeg r1)))) else (some ((), mem))) else (some ((), mem))
def dW_foresee (f : Nat) (a1 : Int32) (mem : Mem) : Option (Unit × Mem) := dW_foresee_2 f f a1 (0 : Int32) mem
def dW_firstSilence_55 (f : Nat) (k15 : Int32 → Int32 → Int32 → Int32 → Mem → Option (Int32 × Mem)) (x2 : Int32) (x3 : Int32) (x5 : Int32) (s0 : Int32) (mem : Mem) : Option (Int32 × Mem) := if s0 < x2 then (k15 x2 x3 s0 (x5 + (1 : Int32)) mem) else (some (((x5 - x2) + (1 : Int32)), mem))
def dW_firstSilence_15 (f : Nat) : Nat → Int32 → Int32 → Int32 → Int32 → Mem → Option (Int32 × Mem)
  | 0, _, _, _, _, _ => none
  | n + 1, x2, x3, x4, x5, mem => if x5 < ((240 : Int32) + x2) then (if x5 < (270 : Int32) then (ck x5 270 (if ((gI mem 11 0 x5.toNatClampNeg) &&& x3) = 0 then (dW_firstSilence_55 f (fun x2_ x3_ x4_ x5_ mem_ => dW_firstSilence_15 f n x2_ x3_ x4_ x5_ mem_) x2 x3 x5 (x4 + (1 : Int32)) mem) else (dW_firstSilence_55 f (fun x2_ x3_ x4_ x5_ mem_ => dW_firstSilence_15 f n x2_ x3_ x4_ x5_ mem_) x2 x3 x5 (0 : Int32) mem))) else (some ((-1 : Int32), mem))) else (some ((-1 : Int32), mem))
def dW_firstSilence (f : Nat) (a1 : Int32) (a2 : Int32) (mem : Mem) : Option (Int32 × Mem) := bd (dP_near f 0 a1 mem) (fun r1 m1 => dW_firstSilence_15 f f a2 r1 (0 : Int32) (0 : Int32) m1)
def dW_safe (f : Nat) (a1 : Int32) (a2 : Int32) (mem : Mem) : Option (Int32 × Mem) := bd (dW_isRoom f a1 mem) (fun r1 m1 => if r1 = 0 then (bd (dW_finding f (-1000000001 : Int32) m1) (fun r2 m2 => some (r2, m2))) else (bd (dW_isIn f a2 (1 : Int32) (30 : Int32) m1) (fun r3 m3 => if r3 = 0 then (bd (dW_finding f (-1000000001 : Int32) m3) (fun r4 m4 => some (r4, m4))) else (bd (dW_foresee f ((240 : Int32) + a2) m3) (fun r5 m5 => bd (dW_firstSilence f a1 a2 m5) (fun r6 m6 => if r6 < 0 then (bd (dW_finding f (-1000000004 : Int32) m6) (fun r7 m7 => some (r7, m7))) else (some (r6, m6))))))))
def dW_where_35 (f : Nat) : Nat → Int32 → Int32 → Int32 → Int32 → Mem → Option (Int32 × Mem)
  | 0, _, _, _, _, _ => none
  | n + 1, x1, x2, x3, x4, mem => if x4 < (10 : Int32) then (bd (dW_firstSilence f x4 x1 mem) (fun r1 m1 => if r1 < 0 then (dW_where_35 f n x1 x2 x3 (x4 + (1 : Int32)) m1) else (if r1 < x2 then (dW_where_35 f n x1 r1 x4 (x4 + (1 : Int32)) m1) else (dW_where_35 f n x1 x2 x3 (x4 + (1 : Int32)) m1)))) else (if x3 < 0 then (bd (dW_finding f (-1000000004 : Int32) mem) (fun r2 m2 => some (r2, m2))) else (some (x3, mem)))
def dW_where (f : Nat) (a1 : Int32) (mem : Mem) : Option (Int32 × Mem) := bd (dW_isIn f a1 (1 : Int32) (30 : Int32) mem) (fun r1 m1 => if r1 = 0 then (bd (dW_finding f (-1000000001 : Int32) m1) (fun r2 m2 => some (r2, m2))) else (bd (dW_foresee f ((240 : Int32) + a1) m1) (fun r3 m3 => dW_where_35 f f a1 (241 : Int32) (-1 : Int32) (0 : Int32) m3)))
def dP_silentMinutes_6 (f : Nat) : Nat → Nat → Int32 → Int32 → Int32 → Int32 → Int32 → Mem → Option (Int32 × Mem)
  | 0, _, _, _, _, _, _, _ => none
  | n + 1, q0, x1, x2, x3, x4, x5, mem => if x5 < x2 then (bd (dP_onDuty f q0 ((gI mem 1 q0 0) + x5) x3 mem) (fun r1 m1 => if (r1 &&& x1) = 0 then (dP_silentMinutes_6 f n q0 x1 x2 x3 (x4 + (1 : Int32)) (x5 + (1 : Int32)) m1) else (dP_silentMinutes_6 f n q0 x1 x2 x3 (x4 + (0 : Int32)) (x5 + (1 : Int32)) m1))) else (some (x4, mem))
def dP_silentMinutes (f : Nat) (q0 : Nat) (a1 : Int32) (a2 : Int32) (a3 : Int32) (mem : Mem) : Option (Int32 × Mem) := dP_silentMinutes_6 f f q0 a1 a2 a3 (0 : Int32) (0 : Int32) mem
def dW_quiet (f : Nat) (a1 : Int32) (a2 : Int32) (mem : Mem) : Option (Int32 × Mem) := bd (dW_isRoom f a1 mem) (fun r1 m1 => if r1 = 0 then (bd (dW_finding f (-1000000001 : Int32) m1) (fun r2 m2 => some (r2, m2))) else (bd (dW_isIn f a2 (1 : Int32) (240 : Int32) m1) (fun r3 m3 => if r3 = 0 then (bd (dW_finding f (-1000000001 : Int32) m3) (fun r4 m4 => some (r4, m4))) else (bd (dP_near f 0 a1 m3) (fun r5 m5 => bd (dP_silentMinutes f 0 r5 a2 (gI m5 2 0 0) m5) (fun r6 m6 => some (r6, m6)))))))
def dW_minutesAlone_6 (f : Nat) : Nat → Int32 → Int32 → Int32 → Int32 → Int32 → Mem → Option (Int32 × Mem)
  | 0, _, _, _, _, _, _ => none
  | n + 1, x1, x2, x3, x4, x5, mem => if x5 < x3 then (if x5 < (270 : Int32) then (ck x5 270 (if ((gI mem 11 0 x5.toNatClampNeg) &&& x2) = x1 then (dW_minutesAlone_6 f n x1 x2 x3 (x4 + (1 : Int32)) (x5 + (1 : Int32)) mem) else (dW_minutesAlone_6 f n x1 x2 x3 (x4 + (0 : Int32)) (x5 + (1 : Int32)) mem))) else (some (x4, mem))) else (some (x4, mem))
def dW_minutesAlone (f : Nat) (a1 : Int32) (a2 : Int32) (a3 : Int32) (mem : Mem) : Option (Int32 × Mem) := dW_minutesAlone_6 f f a1 a2 a3 (0 : Int32) (0 : Int32) mem
def dW_worst_48 (f : Nat) : Nat → Int32 → Int32 → Int32 → Int32 → Int32 → Mem → Option (Int32 × Mem)
  | 0, _, _, _, _, _, _ => none
  | n + 1, x2, x3, x4, x5, x6, mem => if x6 < (gI mem 1 0 2) then (bd (dW_minutesAlone f ((1 : Int32) <<< (x6 &&& 31)) x3 x2 mem) (fun r1 m1 => if x4 < r1 then (dW_worst_48 f n x2 x3 r1 x6 (x6 + (1 : Int32)) m1) else (dW_worst_48 f n x2 x3 x4 x5 (x6 + (1 : Int32)) m1))) else (if x5 < 0 then (bd (dW_finding f (-1000000004 : Int32) mem) (fun r2 m2 => some (r2, m2))) else (some (x5, mem)))
def dW_worst (f : Nat) (a1 : Int32) (a2 : Int32) (mem : Mem) : Option (Int32 × Mem) := bd (dW_isRoom f a1 mem) (fun r1 m1 => if r1 = 0 then (bd (dW_finding f (-1000000001 : Int32) m1) (fun r2 m2 => some (r2, m2))) else (bd (dW_isIn f a2 (1 : Int32) (240 : Int32) m1) (fun r3 m3 => if r3 = 0 then (bd (dW_finding f (-1000000001 : Int32) m3) (fun r4 m4 => some (r4, m4))) else (bd (dW_foresee f a2 m3) (fun r5 m5 => bd (dP_near f 0 a1 m5) (fun r6 m6 => dW_worst_48 f f a2 r6 (0 : Int32) (-1 : Int32) (0 : Int32) m6))))))
def dW_hearsAlways_2 (f : Nat) : Nat → Int32 → Int32 → Int32 → Mem → Option (Int32 × Mem)
  | 0, _, _, _, _ => none
  | n + 1, x1, x2, x3, mem => if x3 < x2 then (if x3 < (270 : Int32) then (ck x3 270 (if ((gI mem 11 0 x3.toNatClampNeg) &&& x1) = 0 then (some ((0 : Int32), mem)) else (dW_hearsAlways_2 f n x1 x2 (x3 + (1 : Int32)) mem))) else (some ((1 : Int32), mem))) else (some ((1 : Int32), mem))
def dW_hearsAlways (f : Nat) (a1 : Int32) (a2 : Int32) (mem : Mem) : Option (Int32 × Mem) := dW_hearsAlways_2 f f a1 a2 (0 : Int32) mem
def dW_cover_80 (f : Nat) (k60 : Int32 → Int32 → Int32 → Int32 → Mem → Option (Int32 × Mem)) (x2 : Int32) (x3 : Int32) (x4 : Int32) (x5 : Int32) (s0 : Int32) (mem : Mem) : Option (Int32 × Mem) := if s0 = 0 then (k60 x2 x3 x4 (x5 + (1 : Int32)) mem) else (bd (dJInt_bitCount f x5 mem) (fun r1 m1 => bd (dJInt_bitCount f x4 m1) (fun r2 m2 => if r1 < r2 then (bd (dW_hearsAlways f x5 x2 m2) (fun r3 m3 => if r3 = 0 then (k60 x2 x3 x4 (x5 + (1 : Int32)) m3) else (k60 x2 x3 x5 (x5 + (1 : Int32)) m3))) else (k60 x2 x3 x4 (x5 + (1 : Int32)) m2))))
def dW_cover_60 (f : Nat) : Nat → Int32 → Int32 → Int32 → Int32 → Mem → Option (Int32 × Mem)
  | 0, _, _, _, _, _ => none
  | n + 1, x2, x3, x4, x5, mem => if x5 < x3 then (if (x5 &&& (x3 ^^^ (-1 : Int32))) = 0 then (dW_cover_80 f (fun x2_ x3_ x4_ x5_ mem_ => dW_cover_60 f n x2_ x3_ x4_ x5_ mem_) x2 x3 x4 x5 (1 : Int32) mem) else (dW_cover_80 f (fun x2_ x3_ x4_ x5_ mem_ => dW_cover_60 f n x2_ x3_ x4_ x5_ mem_) x2 x3 x4 x5 (0 : Int32) mem)) else (some (x4, mem))
def dW_cover (f : Nat) (a1 : Int32) (a2 : Int32) (mem : Mem) : Option (Int32 × Mem) := bd (dW_isRoom f a1 mem) (fun r1 m1 => if r1 = 0 then (bd (dW_finding f (-1000000001 : Int32) m1) (fun r2 m2 => some (r2, m2))) else (bd (dW_isIn f a2 (1 : Int32) (60 : Int32) m1) (fun r3 m3 => if r3 = 0 then (bd (dW_finding f (-1000000001 : Int32) m3) (fun r4 m4 => some (r4, m4))) else (bd (dW_foresee f a2 m3) (fun r5 m5 => bd (dP_near f 0 a1 m5) (fun r6 m6 => bd (dW_hearsAlways f r6 a2 m6) (fun r7 m7 => if r7 = 0 then (bd (dW_finding f (-1000000004 : Int32) m7) (fun r8 m8 => some (r8, m8))) else (dW_cover_60 f f a2 r6 r6 (0 : Int32) m7))))))))
def dW_shift_48 (f : Nat) : Nat → Int32 → Int32 → Int32 → Int32 → Int32 → Mem → Option (Int32 × Mem)
  | 0, _, _, _, _, _, _ => none
  | n + 1, x2, x3, x4, x5, x6, mem => ck (0 : Int32) 4 (if (stc 2 (0 : Int32).toNatClampNeg) < x6 then (some (x5, mem)) else (bd (dP_silentMinutes f 0 x3 x2 x6 mem) (fun r1 m1 => if r1 < x4 then (dW_shift_48 f n x2 x3 r1 x6 (x6 + (1 : Int32)) m1) else (dW_shift_48 f n x2 x3 x4 x5 (x6 + (1 : Int32)) m1))))
def dW_shift (f : Nat) (a1 : Int32) (a2 : Int32) (mem : Mem) : Option (Int32 × Mem) := bd (dW_isRoom f a1 mem) (fun r1 m1 => if r1 = 0 then (bd (dW_finding f (-1000000001 : Int32) m1) (fun r2 m2 => some (r2, m2))) else (bd (dW_isIn f a2 (1 : Int32) (60 : Int32) m1) (fun r3 m3 => if r3 = 0 then (bd (dW_finding f (-1000000001 : Int32) m3) (fun r4 m4 => some (r4, m4))) else (bd (dP_near f 0 a1 m3) (fun r5 m5 => ck (0 : Int32) 4 (dW_shift_48 f f a2 r5 (a2 + (1 : Int32)) (1 : Int32) (stc 1 (0 : Int32).toNatClampNeg) m5))))))
def dP_become_32 (f : Nat) : Nat → Nat → Nat → Int32 → Mem → Option (Unit × Mem)
  | 0, _, _, _, _ => none
  | n + 1, q0, q1, x2, mem => if x2 < (gI mem 1 q0 2) then (ck x2 10 (ck x2 10 (cpy (0 : Int32) (0 : Int32) (6 : Int32) 6 6 (dP_become_32 f n q0 q1 (x2 + (1 : Int32)) (sIr mem 4 (10 * q0 + x2.toNatClampNeg) (va_cpy (gI mem 4 (10 * q1 + x2.toNatClampNeg)) (gI mem 4 (10 * q0 + x2.toNatClampNeg)) (0 : Int32).toNatClampNeg (0 : Int32).toNatClampNeg (6 : Int32).toNatClampNeg)))))) else (some ((), mem))
def dP_become (f : Nat) (q0 : Nat) (q1 : Nat) (mem : Mem) : Option (Unit × Mem) := cpy (0 : Int32) (0 : Int32) (4 : Int32) 4 4 (dP_become_32 f f q0 q1 (0 : Int32) (sI (sIr (sI mem 1 q0 0 (gI mem 1 q1 0)) 2 q0 (va_cpy (gI (sI mem 1 q0 0 (gI mem 1 q1 0)) 2 q1) (gI (sI mem 1 q0 0 (gI mem 1 q1 0)) 2 q0) (0 : Int32).toNatClampNeg (0 : Int32).toNatClampNeg (4 : Int32).toNatClampNeg)) 1 q0 2 (gI (sIr (sI mem 1 q0 0 (gI mem 1 q1 0)) 2 q0 (va_cpy (gI (sI mem 1 q0 0 (gI mem 1 q1 0)) 2 q1) (gI (sI mem 1 q0 0 (gI mem 1 q1 0)) 2 q0) (0 : Int32).toNatClampNeg (0 : Int32).toNatClampNeg (4 : Int32).toNatClampNeg)) 1 q1 2)))
def dW_side_65 (f : Nat) : Nat → Int32 → Int32 → Int32 → Int32 → Int32 → Int32 → Mem → Option (Int32 × Mem)
  | 0, _, _, _, _, _, _, _ => none
  | n + 1, x1, x3, x4, x5, x6, x7, mem => if x7 < (4 : Int32) then (bd (dP_replace f 2 x1 (3 : Int32) x7 mem) (fun r1 m1 => bd (dP_silentMinutes f 2 x4 x3 (gI m1 2 2 0) m1) (fun r2 m2 => if r2 < x5 then (dW_side_65 f n x1 x3 x4 r2 x7 (x7 + (1 : Int32)) m2) else (dW_side_65 f n x1 x3 x4 x5 x6 (x7 + (1 : Int32)) m2)))) else (some (x6, mem))
def dW_side (f : Nat) (a1 : Int32) (a2 : Int32) (a3 : Int32) (mem : Mem) : Option (Int32 × Mem) := bd (dW_isWall f a1 mem) (fun r1 m1 => if r1 = 0 then (bd (dW_finding f (-1000000001 : Int32) m1) (fun r2 m2 => some (r2, m2))) else (bd (dW_isRoom f a2 m1) (fun r3 m3 => if r3 = 0 then (bd (dW_finding f (-1000000001 : Int32) m3) (fun r4 m4 => some (r4, m4))) else (bd (dW_isIn f a3 (1 : Int32) (240 : Int32) m3) (fun r5 m5 => if r5 = 0 then (bd (dW_finding f (-1000000001 : Int32) m5) (fun r6 m6 => some (r6, m6))) else (bd (dP_near f 0 a2 m5) (fun r7 m7 => bd (dP_become f 2 0 m7) (fun r8 m8 => dW_side_65 f f a1 a3 r7 (a3 + (1 : Int32)) (0 : Int32) (0 : Int32) m8))))))))
def dW_lost (f : Nat) (a1 : Int32) (a2 : Int32) (mem : Mem) : Option (Int32 × Mem) := bd (dW_isRoom f a1 mem) (fun r1 m1 => if r1 = 0 then (bd (dW_finding f (-1000000001 : Int32) m1) (fun r2 m2 => some (r2, m2))) else (bd (dW_isSetOfWords f a2 m1) (fun r3 m3 => if r3 = 0 then (bd (dW_finding f (-1000000001 : Int32) m3) (fun r4 m4 => some (r4, m4))) else (bd (dP_become f 2 0 m3) (fun r5 m5 => bd (dP_utterAll f 2 a1 a2 m5) (fun r6 m6 => some ((gI m6 1 2 4), m6)))))))
def dW_best_23 (f : Nat) : Nat → Int32 → Int32 → Int32 → Int32 → Mem → Option (Int32 × Mem)
  | 0, _, _, _, _, _ => none
  | n + 1, x1, x2, x3, x4, mem => if x4 < (10 : Int32) then (bd (dP_become f 2 0 mem) (fun r1 m1 => bd (dP_utterAll f 2 x4 x1 m1) (fun r2 m2 => if r2 < x2 then (dW_best_23 f n x1 r2 x4 (x4 + (1 : Int32)) m2) else (dW_best_23 f n x1 x2 x3 (x4 + (1 : Int32)) m2)))) else (some (x3, mem))
def dW_best (f : Nat) (a1 : Int32) (mem : Mem) : Option (Int32 × Mem) := bd (dW_isSetOfWords f a1 mem) (fun r1 m1 => if r1 = 0 then (bd (dW_finding f (-1000000001 : Int32) m1) (fun r2 m2 => some (r2, m2))) else (dW_best_23 f f a1 (161 : Int32) (0 : Int32) (0 : Int32) m1))
def dW_image (f : Nat)  (mem : Mem) : Option (Int32 × Mem) := bd (dP_become f 1 0 mem) (fun r1 m1 => some ((1 : Int32), (sI m1 0 0 2 (1 : Int32))))
def dW_undo (f : Nat)  (mem : Mem) : Option (Int32 × Mem) := if (gI mem 0 0 2) = 0 then (bd (dW_finding f (-1000000004 : Int32) mem) (fun r1 m1 => some (r1, m1))) else (bd (dP_become f 0 1 mem) (fun r2 m2 => some ((gI m2 1 0 2), m2)))
def dW_isKind (f : Nat) (a0 : Int32) (mem : Mem) : Option (Int32 × Mem) := bd (dW_isIn f a0 (0 : Int32) (5 : Int32) mem) (fun r1 m1 => zb r1 (some (r1, m1)))
def dP_isBuiltUp (f : Nat) (q0 : Nat) (mem : Mem) : Option (Int32 × Mem) := if (gI mem 1 q0 2) < (10 : Int32) then (some ((0 : Int32), mem)) else (some ((1 : Int32), mem))
def dP_build (f : Nat) (q0 : Nat) (a1 : Int32) (a2 : Int32) (a3 : Int32) (a4 : Int32) (mem : Mem) : Option (Int32 × Mem) := ck (gI mem 1 q0 2) 10 (some ((gI (sI (sI (sI (sI (sI (sI mem 4 (10 * q0 + (gI mem 1 q0 2).toNatClampNeg) 0 a1) 4 (10 * q0 + (gI mem 1 q0 2).toNatClampNeg) 1 a2) 4 (10 * q0 + (gI mem 1 q0 2).toNatClampNeg) 2 a3) 4 (10 * q0 + (gI mem 1 q0 2).toNatClampNeg) 3 a4) 4 (10 * q0 + (gI mem 1 q0 2).toNatClampNeg) 4 (0 : Int32)) 4 (10 * q0 + (gI mem 1 q0 2).toNatClampNeg) 5 (0 : Int32)) 1 q0 2), (sI (sI (sI (sI (sI (sI (sI mem 4 (10 * q0 + (gI mem 1 q0 2).toNatClampNeg) 0 a1) 4 (10 * q0 + (gI mem 1 q0 2).toNatClampNeg) 1 a2) 4 (10 * q0 + (gI mem 1 q0 2).toNatClampNeg) 2 a3) 4 (10 * q0 + (gI mem 1 q0 2).toNatClampNeg) 3 a4) 4 (10 * q0 + (gI mem 1 q0 2).toNatClampNeg) 4 (0 : Int32)) 4 (10 * q0 + (gI mem 1 q0 2).toNatClampNeg) 5 (0 : Int32)) 1 q0 2 ((gI (sI (sI (sI (sI (sI (sI mem 4 (10 * q0 + (gI mem 1 q0 2).toNatClampNeg) 0 a1) 4 (10 * q0 + (gI mem 1 q0 2).toNatClampNeg) 1 a2) 4 (10 * q0 + (gI mem 1 q0 2).toNatClampNeg) 2 a3) 4 (10 * q0 + (gI mem 1 q0 2).toNatClampNeg) 3 a4) 4 (10 * q0 + (gI mem 1 q0 2).toNatClampNeg) 4 (0 : Int32)) 4 (10 * q0 + (gI mem 1 q0 2).toNatClampNeg) 5 (0 : Int32)) 1 q0 2) + (1 : Int32)))))
def dW_wall (f : Nat) (a1 : Int32) (a2 : Int32) (a3 : Int32) (mem : Mem) : Option (Int32 × Mem) := bd (dW_isKind f a1 mem) (fun r1 m1 => if r1 = 0 then (bd (dW_finding f (-1000000001 : Int32) m1) (fun r2 m2 => some (r2, m2))) else (bd (dW_isRoom f a2 m1) (fun r3 m3 => if r3 = 0 then (bd (dW_finding f (-1000000001 : Int32) m3) (fun r4 m4 => some (r4, m4))) else (bd (dW_isRoom f a3 m3) (fun r5 m5 => if r5 = 0 then (bd (dW_finding f (-1000000001 : Int32) m5) (fun r6 m6 => some (r6, m6))) else (bd (dP_isBuiltUp f 0 m5) (fun r7 m7 => if r7 = 0 then (bd (dP_build f 0 a1 a2 a3 (0 : Int32) m7) (fun r8 m8 => some (r8, m8))) else (bd (dW_finding f (-1000000002 : Int32) m7) (fun r9 m9 => some (r9, m9))))))))))
def dP_dutyOf (f : Nat) (q0 : Nat) (a1 : Int32) (a2 : Int32) (mem : Mem) : Option (Int32 × Mem) := bd (dP_onDuty f q0 a2 (gI mem 2 q0 0) mem) (fun r1 m1 => if ((r1 >>> (a1 &&& 31)) &&& (1 : Int32)) = (1 : Int32) then (some ((1 : Int32), m1)) else (some ((0 : Int32), m1)))
def dW_of (f : Nat) (a1 : Int32) (a2 : Int32) (mem : Mem) : Option (Int32 × Mem) := bd (dW_isWall f a1 mem) (fun r1 m1 => if r1 = 0 then (bd (dW_finding f (-1000000001 : Int32) m1) (fun r2 m2 => some (r2, m2))) else (ck a1 10 (bd (dW_isIn f a2 (0 : Int32) (5 : Int32) m1) (fun r4 m4 => if r4 = 0 then (if a2 = (6 : Int32) then (bd (dP_dutyOf f 0 a1 (gI m4 1 0 0) m4) (fun r5 m5 => if r5 = 0 then (some ((0 : Int32), m5)) else (some ((1 : Int32), m5)))) else (if a2 = (7 : Int32) then (bd (dP_isAwake f 0 (10 * 0 + a1.toNatClampNeg) m4) (fun r6 m6 => if r6 = 0 then (some ((0 : Int32), m6)) else (some ((1 : Int32), m6)))) else (if a2 = (8 : Int32) then (bd (dW_tires f (gI m4 4 (10 * 0 + a1.toNatClampNeg) 0) m4) (fun r7 m7 => some (r7, m7))) else (bd (dW_finding f (-1000000001 : Int32) m4) (fun r8 m8 => some (r8, m8)))))) else (ck a2 6 (some ((gI m4 4 (10 * 0 + a1.toNatClampNeg) a2.toNatClampNeg), m4)))))))
def dW_reach (f : Nat) (a1 : Int32) (mem : Mem) : Option (Int32 × Mem) := bd (dW_isRoom f a1 mem) (fun r1 m1 => if r1 = 0 then (bd (dW_finding f (-1000000001 : Int32) m1) (fun r2 m2 => some (r2, m2))) else (bd (dP_leaks f 0 a1 m1) (fun r3 m3 => some (r3, m3))))
def dP_wordsCountedEach_4 (f : Nat) : Nat → Nat → Int32 → Int32 → Mem → Option (Int32 × Mem)
  | 0, _, _, _, _ => none
  | n + 1, q0, x1, x2, mem => if x2 < (gI mem 1 q0 2) then (ck x2 10 (bd (dJInt_bitCount f (gI mem 4 (10 * q0 + x2.toNatClampNeg) 4) mem) (fun r2 m2 => dP_wordsCountedEach_4 f n q0 (x1 + r2) (x2 + (1 : Int32)) m2))) else (some (x1, mem))
def dP_wordsCountedEach (f : Nat) (q0 : Nat) (mem : Mem) : Option (Int32 × Mem) := dP_wordsCountedEach_4 f f q0 (0 : Int32) (0 : Int32) mem
def dP_howManyAwake_4 (f : Nat) : Nat → Nat → Int32 → Int32 → Mem → Option (Int32 × Mem)
  | 0, _, _, _, _ => none
  | n + 1, q0, x1, x2, mem => if x2 < (gI mem 1 q0 2) then (ck x2 10 (bd (dP_isAwake f q0 (10 * q0 + x2.toNatClampNeg) mem) (fun r2 m2 => if r2 = 0 then (dP_howManyAwake_4 f n q0 (x1 + (0 : Int32)) (x2 + (1 : Int32)) m2) else (dP_howManyAwake_4 f n q0 (x1 + (1 : Int32)) (x2 + (1 : Int32)) m2)))) else (some (x1, mem))
def dP_howManyAwake (f : Nat) (q0 : Nat) (mem : Mem) : Option (Int32 × Mem) := dP_howManyAwake_4 f f q0 (0 : Int32) (0 : Int32) mem
def dW_count (f : Nat) (a1 : Int32) (mem : Mem) : Option (Int32 × Mem) := if a1 = (0 : Int32) then (some ((gI mem 1 0 2), mem)) else (if a1 = (1 : Int32) then (some ((gI mem 5 0 1), mem)) else (if a1 = (2 : Int32) then (bd (dP_wordsCountedEach f 0 mem) (fun r1 m1 => some (r1, m1))) else (if a1 = (3 : Int32) then (bd (dP_howManyAwake f 0 mem) (fun r2 m2 => some (r2, m2))) else (bd (dW_finding f (-1000000001 : Int32) mem) (fun r3 m3 => some (r3, m3))))))
end
section
/-! GENERATED: the walks. -/
set_option maxHeartbeats 4000000 in
set_option maxRecDepth 100000 in
theorem cW_isIn {f : Nat} {a0 : Int32} {a1 : Int32} {a2 : Int32} {mem : Mem} {o : Int32} {mem' : Mem}  (h : dW_isIn f a0 a1 a2 mem = some (o, mem')) : RT yW_isIn prog_1_method_46_code 3 (Option.some Jvm.ClassFile.FieldType.boolean) (rmM 0 0) [aI a0, aI a1, aI a2] mem (some (aI o)) mem' := by
  refine RT.of (by decide +kernel) (Nat.le_of_ble_eq_true rfl) (fun p l e s m args below meth c k X hr => ?_)
  replace X : CX p s m args meth c k prog_1_method_46_code 3 "WallShifts" := X
  unfold dW_isIn at h
  refine v_sub (lv' := [(0, _), (1, _), (2, _)]) [0, 1, 2] rfl ?_
  refine v_iload_n X (pc := 0) 0 rfl eW_isIn_0 rfl ?_
  refine v_iload_n X (pc := 1) 1 rfl eW_isIn_1 rfl ?_
  refine v_icmp_lt X (pc := 2) (tgt := 14) h eW_isIn_2 (by decide) (fun h => ?_) (fun h => ?_)
  · refine v_iconst X (pc := 14) (v := (0 : Int32)) eW_isIn_14 (by decide) ?_
    exact v_zret X (pc := 15) h hr rfl eW_isIn_15
  · refine v_iload_n X (pc := 5) 0 rfl eW_isIn_5 rfl ?_
    refine v_iload_n X (pc := 6) 2 rfl eW_isIn_6 rfl ?_
    refine v_icmp_gt X (pc := 7) (tgt := 14) h eW_isIn_7 (by decide) (fun h => ?_) (fun h => ?_)
    · refine v_iconst X (pc := 14) (v := (0 : Int32)) eW_isIn_14 (by decide) ?_
      exact v_zret X (pc := 15) h hr rfl eW_isIn_15
    · refine v_iconst X (pc := 10) (v := (1 : Int32)) eW_isIn_10 (by decide) ?_
      refine v_goto X (pc := 11) (tgt := 15) eW_isIn_11 (by decide) ?_
      exact v_zret X (pc := 15) h hr rfl eW_isIn_15
set_option maxHeartbeats 4000000 in
set_option maxRecDepth 100000 in
theorem cW_mayBeRota {f : Nat} {a0 : Int32} {a1 : Int32} {mem : Mem} {o : Int32} {mem' : Mem}  (h : dW_mayBeRota f a0 a1 mem = some (o, mem')) : RT yW_mayBeRota prog_1_method_52_code 2 (Option.some Jvm.ClassFile.FieldType.boolean) (rmM 1 22) [aI a0, aI a1] mem (some (aI o)) mem' := by
  refine RT.of (by decide +kernel) (Nat.le_of_ble_eq_true rfl) (fun p l e s m args below meth c k X hr => ?_)
  replace X : CX p s m args meth c k prog_1_method_52_code 2 "WallShifts" := X
  unfold dW_mayBeRota at h
  refine v_sub (lv' := [(0, _), (1, _)]) [0, 1] rfl ?_
  refine v_iload_n X (pc := 0) 0 rfl eW_mayBeRota_0 rfl ?_
  refine v_iconst X (pc := 1) (v := (0 : Int32)) eW_mayBeRota_1 (by decide) ?_
  refine v_iconst X (pc := 2) (v := (3 : Int32)) eW_mayBeRota_2 (by decide) ?_
  obtain ⟨r1, m1, hc1, h⟩ := bd_some h
  refine v_callS X (pc := 3) [_, _, _] [] ok_S_W_82 (cW_isIn  hc1) rfl (Nat.le_of_ble_eq_true rfl) ⟨Nat.le_of_ble_eq_true rfl, Nat.le_of_ble_eq_true rfl⟩ ⟨Nat.zero_le _, Nat.zero_le _⟩ eW_mayBeRota_3 ?_
  refine v_if_eq X (pc := 6) (tgt := 30) h eW_mayBeRota_6 (by decide) (fun h => ?_) (fun h => ?_)
  · refine v_iconst X (pc := 30) (v := (0 : Int32)) eW_mayBeRota_30 (by decide) ?_
    exact v_zret X (pc := 31) h hr rfl eW_mayBeRota_31
  · refine v_iload_n X (pc := 9) 1 rfl eW_mayBeRota_9 rfl ?_
    refine v_gets X (pc := 10) 1 (by decide) qw_131 eW_mayBeRota_10 ?_
    refine v_iload_n X (pc := 13) 0 rfl eW_mayBeRota_13 rfl ?_
    refine v_stld X (pc := 14) h (by decide) eW_mayBeRota_14 (fun h => ?_)
    refine v_gets X (pc := 15) 2 (by decide) qw_133 eW_mayBeRota_15 ?_
    refine v_iload_n X (pc := 18) 0 rfl eW_mayBeRota_18 rfl ?_
    refine v_stld X (pc := 19) h (by decide) eW_mayBeRota_19 (fun h => ?_)
    obtain ⟨r2, m2, hc2, h⟩ := bd_some h
    refine v_callS X (pc := 20) [_, _, _] [] ok_S_W_82 (cW_isIn  hc2) rfl (Nat.le_of_ble_eq_true rfl) ⟨Nat.le_of_ble_eq_true rfl, Nat.le_of_ble_eq_true rfl⟩ ⟨Nat.zero_le _, Nat.zero_le _⟩ eW_mayBeRota_20 ?_
    refine v_if_eq X (pc := 23) (tgt := 30) h eW_mayBeRota_23 (by decide) (fun h => ?_) (fun h => ?_)
    · refine v_iconst X (pc := 30) (v := (0 : Int32)) eW_mayBeRota_30 (by decide) ?_
      exact v_zret X (pc := 31) h hr rfl eW_mayBeRota_31
    · refine v_iconst X (pc := 26) (v := (1 : Int32)) eW_mayBeRota_26 (by decide) ?_
      refine v_goto X (pc := 27) (tgt := 31) eW_mayBeRota_27 (by decide) ?_
      exact v_zret X (pc := 31) h hr rfl eW_mayBeRota_31
set_option maxHeartbeats 4000000 in
set_option maxRecDepth 100000 in
theorem cW_finding {f : Nat} {a1 : Int32} {mem : Mem} {o : Int32} {mem' : Mem}  (h : dW_finding f a1 mem = some (o, mem')) : RT yW_finding prog_1_method_39_code 3 (Option.some Jvm.ClassFile.FieldType.int) (rmM 1 22) [aR 0 0, aI a1] mem (some (aI o)) mem' := by
  refine RT.of (by decide +kernel) (Nat.le_of_ble_eq_true rfl) (fun p l e s m args below meth c k X hr => ?_)
  replace X : CX p s m args meth c k prog_1_method_39_code 3 "WallShifts" := X
  unfold dW_finding at h
  refine v_sub (lv' := [(0, _), (1, _)]) [0, 1] rfl ?_
  refine v_ldc X (pc := 0) qw_135 eW_finding_0 ?_
  refine v_iload_n X (pc := 2) 1 rfl eW_finding_2 rfl ?_
  refine v_isub X (pc := 3) eW_finding_3 ?_
  refine v_istore_n X (pc := 4) (lv' := [(2, _), (0, _), (1, _)]) eW_finding_4 rfl (Nat.le_of_ble_eq_true rfl) rfl ?_
  refine v_iload_n X (pc := 5) 0 rfl eW_finding_5 rfl ?_
  refine v_iconst X (pc := 6) (v := (0 : Int32)) eW_finding_6 (by decide) ?_
  refine v_bipush X (pc := 7) (v := (6 : Int32)) eW_finding_7 (by decide) ?_
  obtain ⟨r1, m1, hc1, h⟩ := bd_some h
  refine v_callS X (pc := 9) [_, _, _] [] ok_S_W_82 (cW_isIn  hc1) rfl (Nat.le_of_ble_eq_true rfl) ⟨Nat.le_of_ble_eq_true rfl, Nat.le_of_ble_eq_true rfl⟩ ⟨Nat.zero_le _, Nat.zero_le _⟩ eW_finding_9 ?_
  refine v_if_eq X (pc := 12) (tgt := 25) h eW_finding_12 (by decide) (fun h => ?_) (fun h => ?_)
  · refine v_iload_n X (pc := 25) 2 rfl eW_finding_25 rfl ?_
    exact v_iret X (pc := 26) h hr eW_finding_26
  · refine v_aload_n X (pc := 15) 1 rfl eW_finding_15 rfl ?_
    refine v_get X (pc := 16) 6 (a := aR 10 0) (by decide) (by decide) rfl rfl rfl in_WallShifts (by decide) qw_102 rfl eW_finding_16 ?_
    refine v_iload_n X (pc := 19) 0 rfl eW_finding_19 rfl ?_
    refine v_dup2 X (pc := 20) rfl rfl eW_finding_20 ?_
    refine v_iald X (pc := 21) h (by decide) (by decide) rfl eW_finding_21 (fun h => ?_)
    refine v_iconst X (pc := 22) (v := (1 : Int32)) eW_finding_22 (by decide) ?_
    refine v_iadd X (pc := 23) eW_finding_23 ?_
    refine v_iast X (pc := 24) h (by decide) (by decide) (fun _ => rfl) eW_finding_24 (fun h => ?_)
    refine v_iload_n X (pc := 25) 2 rfl eW_finding_25 rfl ?_
    exact v_iret X (pc := 26) h hr eW_finding_26
set_option maxHeartbeats 4000000 in
set_option maxRecDepth 100000 in
theorem cW_rota {f : Nat} {a1 : Int32} {a2 : Int32} {mem : Mem} {o : Int32} {mem' : Mem}  (h : dW_rota f a1 a2 mem = some (o, mem')) : RT yW_rota prog_1_method_2_code 4 (Option.some Jvm.ClassFile.FieldType.int) (rmM 2 44) [aR 0 0, aI a1, aI a2] mem (some (aI o)) mem' := by
  refine RT.of (by decide +kernel) (Nat.le_of_ble_eq_true rfl) (fun p l e s m args below meth c k X hr => ?_)
  replace X : CX p s m args meth c k prog_1_method_2_code 4 "WallShifts" := X
  unfold dW_rota at h
  refine v_sub (lv' := [(0, _), (1, _), (2, _)]) [0, 1, 2] rfl ?_
  refine v_iload_n X (pc := 0) 1 rfl eW_rota_0 rfl ?_
  refine v_iload_n X (pc := 1) 2 rfl eW_rota_1 rfl ?_
  obtain ⟨r1, m1, hc1, h⟩ := bd_some h
  refine v_callS X (pc := 2) [_, _] [] ok_S_W_47 (cW_mayBeRota  hc1) rfl (Nat.le_of_ble_eq_true rfl) ⟨Nat.le_of_ble_eq_true rfl, Nat.le_of_ble_eq_true rfl⟩ ⟨Nat.zero_le _, Nat.zero_le _⟩ eW_rota_2 ?_
  refine v_if_ne X (pc := 5) (tgt := 15) h eW_rota_5 (by decide) (fun h => ?_) (fun h => ?_)
  · refine v_aload_n X (pc := 8) 0 rfl eW_rota_8 rfl ?_
    refine v_ldc X (pc := 9) qw_135 eW_rota_9 ?_
    obtain ⟨r2, m2, hc2, h⟩ := bd_some h
    refine v_callV X (pc := 11) [_] [] ok_V_W_52 (cW_finding  hc2) rfl (Nat.le_of_ble_eq_true rfl) ⟨Nat.le_of_ble_eq_true rfl, Nat.le_of_ble_eq_true rfl⟩ ⟨Nat.zero_le _, Nat.zero_le _⟩ (by decide) (by decide) rfl rfl eW_rota_11 ?_
    exact v_iret X (pc := 14) h hr eW_rota_14
  · refine v_aload_n X (pc := 15) 0 rfl eW_rota_15 rfl ?_
    refine v_get X (pc := 16) 0 (a := aR 1 0) (by decide) (by decide) rfl rfl rfl in_WallShifts (by decide) qw_96 rfl eW_rota_16 ?_
    refine v_get X (pc := 19) 1 (a := aR 2 0) (by decide) (by decide) rfl rfl rfl in_Palace (by decide) qw_33 rfl eW_rota_19 ?_
    refine v_iload_n X (pc := 22) 1 rfl eW_rota_22 rfl ?_
    refine v_iald X (pc := 23) h (by decide) (by decide) rfl eW_rota_23 (fun h => ?_)
    refine v_istore_n X (pc := 24) (lv' := [(3, _), (0, _), (1, _), (2, _)]) eW_rota_24 rfl (Nat.le_of_ble_eq_true rfl) rfl ?_
    refine v_aload_n X (pc := 25) 1 rfl eW_rota_25 rfl ?_
    refine v_get X (pc := 26) 0 (a := aR 1 0) (by decide) (by decide) rfl rfl rfl in_WallShifts (by decide) qw_96 rfl eW_rota_26 ?_
    refine v_get X (pc := 29) 1 (a := aR 2 0) (by decide) (by decide) rfl rfl rfl in_Palace (by decide) qw_33 rfl eW_rota_29 ?_
    refine v_iload_n X (pc := 32) 2 rfl eW_rota_32 rfl ?_
    refine v_iload_n X (pc := 33) 3 rfl eW_rota_33 rfl ?_
    refine v_iast X (pc := 34) h (by decide) (by decide) (fun _ => rfl) eW_rota_34 (fun h => ?_)
    refine v_iload_n X (pc := 35) 0 rfl eW_rota_35 rfl ?_
    exact v_iret X (pc := 36) h hr eW_rota_36
set_option maxHeartbeats 4000000 in
set_option maxRecDepth 100000 in
theorem cW_isWall {f : Nat} {a1 : Int32} {mem : Mem} {o : Int32} {mem' : Mem}  (h : dW_isWall f a1 mem = some (o, mem')) : RT yW_isWall prog_1_method_40_code 2 (Option.some Jvm.ClassFile.FieldType.boolean) (rmM 1 22) [aR 0 0, aI a1] mem (some (aI o)) mem' := by
  refine RT.of (by decide +kernel) (Nat.le_of_ble_eq_true rfl) (fun p l e s m args below meth c k X hr => ?_)
  replace X : CX p s m args meth c k prog_1_method_40_code 2 "WallShifts" := X
  unfold dW_isWall at h
  refine v_sub (lv' := [(0, _), (1, _)]) [0, 1] rfl ?_
  refine v_iload_n X (pc := 0) 1 rfl eW_isWall_0 rfl ?_
  refine v_iconst X (pc := 1) (v := (0 : Int32)) eW_isWall_1 (by decide) ?_
  refine v_aload_n X (pc := 2) 0 rfl eW_isWall_2 rfl ?_
  refine v_get X (pc := 3) 0 (a := aR 1 0) (by decide) (by decide) rfl rfl rfl in_WallShifts (by decide) qw_96 rfl eW_isWall_3 ?_
  refine v_get X (pc := 6) 2 (a := aI (gI mem 1 0 2)) (by decide) (by decide) rfl rfl rfl in_Palace (by decide) qw_35 rfl eW_isWall_6 ?_
  refine v_iconst X (pc := 9) (v := (1 : Int32)) eW_isWall_9 (by decide) ?_
  refine v_isub X (pc := 10) eW_isWall_10 ?_
  obtain ⟨r1, m1, hc1, h⟩ := bd_some h
  refine v_callS X (pc := 11) [_, _, _] [] ok_S_W_82 (cW_isIn  hc1) rfl (Nat.le_of_ble_eq_true rfl) ⟨Nat.le_of_ble_eq_true rfl, Nat.le_of_ble_eq_true rfl⟩ ⟨Nat.zero_le _, Nat.zero_le _⟩ eW_isWall_11 ?_
  obtain ⟨hz, h⟩ := zb_some h
  exact v_zret X (pc := 14) h hr (zb_n hz) eW_isWall_14
set_option maxHeartbeats 4000000 in
set_option maxRecDepth 100000 in
theorem cP_replace {f : Nat} {q0 : Nat} {a1 : Int32} {a2 : Int32} {a3 : Int32} {mem : Mem} {o : Int32} {mem' : Mem} (hq0 : q0 < 3) (h : dP_replace f q0 a1 a2 a3 mem = some (o, mem')) : RT yP_replace prog_2_method_5_code 5 (Option.some Jvm.ClassFile.FieldType.int) (rmM 0 0) [aR 1 q0, aI a1, aI a2, aI a3] mem (some (aI o)) mem' := by
  refine RT.of (by decide +kernel) (Nat.le_of_ble_eq_true rfl) (fun p l e s m args below meth c k X hr => ?_)
  replace X : CX p s m args meth c k prog_2_method_5_code 5 "WallShifts$Palace" := X
  unfold dP_replace at h
  refine v_sub (lv' := [(0, _), (1, _), (2, _), (3, _)]) [0, 1, 2, 3] rfl ?_
  refine v_aload_n X (pc := 0) 0 rfl eP_replace_0 rfl ?_
  refine v_get X (pc := 1) 3 (a := aR 3 q0) (by decide) hq0 rfl rfl rfl in_Palace (by decide) qw_36 rfl eP_replace_1 ?_
  refine v_iload_n X (pc := 4) 1 rfl eP_replace_4 rfl ?_
  refine v_aaldW X (pc := 5) h hq0 eP_replace_5 (fun hb1 h => ?_)
  refine v_iload_n X (pc := 6) 2 rfl eP_replace_6 rfl ?_
  refine v_iald X (pc := 7) h (by decide) hb1 rfl eP_replace_7 (fun h => ?_)
  refine v_istore X (pc := 8) (lv' := [(4, _), (0, _), (1, _), (2, _), (3, _)]) eP_replace_8 (Nat.le_of_ble_eq_true rfl) rfl ?_
  refine v_aload_n X (pc := 10) 1 rfl eP_replace_10 rfl ?_
  refine v_get X (pc := 11) 3 (a := aR 3 q0) (by decide) hq0 rfl rfl rfl in_Palace (by decide) qw_36 rfl eP_replace_11 ?_
  refine v_iload_n X (pc := 14) 2 rfl eP_replace_14 rfl ?_
  refine v_aaldW X (pc := 15) h hq0 eP_replace_15 (fun hb2 h => ?_)
  refine v_iload_n X (pc := 16) 3 rfl eP_replace_16 rfl ?_
  refine v_iload_n X (pc := 17) 4 rfl eP_replace_17 rfl ?_
  refine v_iast X (pc := 18) h (by decide) hb2 (fun _ => rfl) eP_replace_18 (fun h => ?_)
  refine v_iload X (pc := 19) 0 rfl eP_replace_19 ?_
  exact v_iret X (pc := 21) h hr eP_replace_21
set_option maxHeartbeats 4000000 in
set_option maxRecDepth 100000 in
theorem cW_set {f : Nat} {a1 : Int32} {a2 : Int32} {a3 : Int32} {mem : Mem} {o : Int32} {mem' : Mem}  (h : dW_set f a1 a2 a3 mem = some (o, mem')) : RT yW_set prog_1_method_5_code 4 (Option.some Jvm.ClassFile.FieldType.int) (rmM 2 44) [aR 0 0, aI a1, aI a2, aI a3] mem (some (aI o)) mem' := by
  refine RT.of (by decide +kernel) (Nat.le_of_ble_eq_true rfl) (fun p l e s m args below meth c k X hr => ?_)
  replace X : CX p s m args meth c k prog_1_method_5_code 4 "WallShifts" := X
  unfold dW_set at h
  refine v_sub (lv' := [(0, _), (1, _), (2, _), (3, _)]) [0, 1, 2, 3] rfl ?_
  refine v_aload_n X (pc := 0) 0 rfl eW_set_0 rfl ?_
  refine v_iload_n X (pc := 1) 1 rfl eW_set_1 rfl ?_
  obtain ⟨r1, m1, hc1, h⟩ := bd_some h
  refine v_callV X (pc := 2) [_] [] ok_V_W_75 (cW_isWall  hc1) rfl (Nat.le_of_ble_eq_true rfl) ⟨Nat.le_of_ble_eq_true rfl, Nat.le_of_ble_eq_true rfl⟩ ⟨Nat.zero_le _, Nat.zero_le _⟩ (by decide) (by decide) rfl rfl eW_set_2 ?_
  refine v_if_eq X (pc := 5) (tgt := 30) h eW_set_5 (by decide) (fun h => ?_) (fun h => ?_)
  · refine v_aload_n X (pc := 30) 0 rfl eW_set_30 rfl ?_
    refine v_ldc X (pc := 31) qw_135 eW_set_31 ?_
    obtain ⟨r2, m2, hc2, h⟩ := bd_some h
    refine v_callV X (pc := 33) [_] [] ok_V_W_52 (cW_finding  hc2) rfl (Nat.le_of_ble_eq_true rfl) ⟨Nat.le_of_ble_eq_true rfl, Nat.le_of_ble_eq_true rfl⟩ ⟨Nat.zero_le _, Nat.zero_le _⟩ (by decide) (by decide) rfl rfl eW_set_33 ?_
    exact v_iret X (pc := 36) h hr eW_set_36
  · refine v_iload_n X (pc := 8) 2 rfl eW_set_8 rfl ?_
    refine v_iconst X (pc := 9) (v := (1 : Int32)) eW_set_9 (by decide) ?_
    refine v_iconst X (pc := 10) (v := (5 : Int32)) eW_set_10 (by decide) ?_
    obtain ⟨r3, m3, hc3, h⟩ := bd_some h
    refine v_callS X (pc := 11) [_, _, _] [] ok_S_W_82 (cW_isIn  hc3) rfl (Nat.le_of_ble_eq_true rfl) ⟨Nat.le_of_ble_eq_true rfl, Nat.le_of_ble_eq_true rfl⟩ ⟨Nat.zero_le _, Nat.zero_le _⟩ eW_set_11 ?_
    refine v_if_eq X (pc := 14) (tgt := 30) h eW_set_14 (by decide) (fun h => ?_) (fun h => ?_)
    · refine v_aload_n X (pc := 30) 0 rfl eW_set_30 rfl ?_
      refine v_ldc X (pc := 31) qw_135 eW_set_31 ?_
      obtain ⟨r4, m4, hc4, h⟩ := bd_some h
      refine v_callV X (pc := 33) [_] [] ok_V_W_52 (cW_finding  hc4) rfl (Nat.le_of_ble_eq_true rfl) ⟨Nat.le_of_ble_eq_true rfl, Nat.le_of_ble_eq_true rfl⟩ ⟨Nat.zero_le _, Nat.zero_le _⟩ (by decide) (by decide) rfl rfl eW_set_33 ?_
      exact v_iret X (pc := 36) h hr eW_set_36
    · refine v_iload_n X (pc := 17) 3 rfl eW_set_17 rfl ?_
      refine v_iconst X (pc := 18) (v := (0 : Int32)) eW_set_18 (by decide) ?_
      refine v_gets X (pc := 19) 0 (by decide) qw_148 eW_set_19 ?_
      refine v_iload_n X (pc := 22) 2 rfl eW_set_22 rfl ?_
      refine v_stld X (pc := 23) h (by decide) eW_set_23 (fun h => ?_)
      obtain ⟨r5, m5, hc5, h⟩ := bd_some h
      refine v_callS X (pc := 24) [_, _, _] [] ok_S_W_82 (cW_isIn  hc5) rfl (Nat.le_of_ble_eq_true rfl) ⟨Nat.le_of_ble_eq_true rfl, Nat.le_of_ble_eq_true rfl⟩ ⟨Nat.zero_le _, Nat.zero_le _⟩ eW_set_24 ?_
      refine v_if_ne X (pc := 27) (tgt := 37) h eW_set_27 (by decide) (fun h => ?_) (fun h => ?_)
      · refine v_aload_n X (pc := 30) 0 rfl eW_set_30 rfl ?_
        refine v_ldc X (pc := 31) qw_135 eW_set_31 ?_
        obtain ⟨r6, m6, hc6, h⟩ := bd_some h
        refine v_callV X (pc := 33) [_] [] ok_V_W_52 (cW_finding  hc6) rfl (Nat.le_of_ble_eq_true rfl) ⟨Nat.le_of_ble_eq_true rfl, Nat.le_of_ble_eq_true rfl⟩ ⟨Nat.zero_le _, Nat.zero_le _⟩ (by decide) (by decide) rfl rfl eW_set_33 ?_
        exact v_iret X (pc := 36) h hr eW_set_36
      · refine v_aload_n X (pc := 37) 0 rfl eW_set_37 rfl ?_
        refine v_get X (pc := 38) 0 (a := aR 1 0) (by decide) (by decide) rfl rfl rfl in_WallShifts (by decide) qw_96 rfl eW_set_38 ?_
        refine v_iload_n X (pc := 41) 1 rfl eW_set_41 rfl ?_
        refine v_iload_n X (pc := 42) 2 rfl eW_set_42 rfl ?_
        refine v_iload_n X (pc := 43) 3 rfl eW_set_43 rfl ?_
        obtain ⟨r7, m7, hc7, h⟩ := bd_some h
        refine v_callV X (pc := 44) [_, _, _] [] ok_V_W_103 (cP_replace (by decide) hc7) rfl (Nat.le_of_ble_eq_true rfl) ⟨Nat.le_of_ble_eq_true rfl, Nat.le_of_ble_eq_true rfl⟩ ⟨Nat.zero_le _, Nat.zero_le _⟩ (by decide) (by decide) rfl rfl eW_set_44 ?_
        exact v_iret X (pc := 47) h hr eW_set_47
set_option maxHeartbeats 4000000 in
set_option maxRecDepth 100000 in
theorem cW_isRoom {f : Nat} {a0 : Int32} {mem : Mem} {o : Int32} {mem' : Mem}  (h : dW_isRoom f a0 mem = some (o, mem')) : RT yW_isRoom prog_1_method_48_code 1 (Option.some Jvm.ClassFile.FieldType.boolean) (rmM 1 22) [aI a0] mem (some (aI o)) mem' := by
  refine RT.of (by decide +kernel) (Nat.le_of_ble_eq_true rfl) (fun p l e s m args below meth c k X hr => ?_)
  replace X : CX p s m args meth c k prog_1_method_48_code 1 "WallShifts" := X
  unfold dW_isRoom at h
  refine v_sub (lv' := [(0, _)]) [0] rfl ?_
  refine v_iload_n X (pc := 0) 0 rfl eW_isRoom_0 rfl ?_
  refine v_iconst X (pc := 1) (v := (0 : Int32)) eW_isRoom_1 (by decide) ?_
  refine v_bipush X (pc := 2) (v := (9 : Int32)) eW_isRoom_2 (by decide) ?_
  obtain ⟨r1, m1, hc1, h⟩ := bd_some h
  refine v_callS X (pc := 4) [_, _, _] [] ok_S_W_82 (cW_isIn  hc1) rfl (Nat.le_of_ble_eq_true rfl) ⟨Nat.le_of_ble_eq_true rfl, Nat.le_of_ble_eq_true rfl⟩ ⟨Nat.zero_le _, Nat.zero_le _⟩ eW_isRoom_4 ?_
  obtain ⟨hz, h⟩ := zb_some h
  exact v_zret X (pc := 7) h hr (zb_n hz) eW_isRoom_7
set_option maxHeartbeats 4000000 in
set_option maxRecDepth 100000 in
theorem cW_isWord {f : Nat} {a0 : Int32} {mem : Mem} {o : Int32} {mem' : Mem}  (h : dW_isWord f a0 mem = some (o, mem')) : RT yW_isWord prog_1_method_49_code 1 (Option.some Jvm.ClassFile.FieldType.boolean) (rmM 1 22) [aI a0] mem (some (aI o)) mem' := by
  refine RT.of (by decide +kernel) (Nat.le_of_ble_eq_true rfl) (fun p l e s m args below meth c k X hr => ?_)
  replace X : CX p s m args meth c k prog_1_method_49_code 1 "WallShifts" := X
  unfold dW_isWord at h
  refine v_sub (lv' := [(0, _)]) [0] rfl ?_
  refine v_iload_n X (pc := 0) 0 rfl eW_isWord_0 rfl ?_
  refine v_iconst X (pc := 1) (v := (0 : Int32)) eW_isWord_1 (by decide) ?_
  refine v_bipush X (pc := 2) (v := (15 : Int32)) eW_isWord_2 (by decide) ?_
  obtain ⟨r1, m1, hc1, h⟩ := bd_some h
  refine v_callS X (pc := 4) [_, _, _] [] ok_S_W_82 (cW_isIn  hc1) rfl (Nat.le_of_ble_eq_true rfl) ⟨Nat.le_of_ble_eq_true rfl, Nat.le_of_ble_eq_true rfl⟩ ⟨Nat.zero_le _, Nat.zero_le _⟩ eW_isWord_4 ?_
  obtain ⟨hz, h⟩ := zb_some h
  exact v_zret X (pc := 7) h hr (zb_n hz) eW_isWord_7
set_option maxHeartbeats 4000000 in
set_option maxRecDepth 100000 in
theorem cP_roomsOf {f : Nat} {q0 : Nat} {q1 : Nat} {mem : Mem} {o : Int32} {mem' : Mem} (hq0 : q0 < 3) (hq1 : q1 < 30) (h : dP_roomsOf f q0 q1 mem = some (o, mem')) : RT yP_roomsOf prog_2_method_13_code 2 (Option.some Jvm.ClassFile.FieldType.int) (rmM 0 0) [aR 1 q0, aR 4 q1] mem (some (aI o)) mem' := by
  refine RT.of (by decide +kernel) (Nat.le_of_ble_eq_true rfl) (fun p l e s m args below meth c k X hr => ?_)
  replace X : CX p s m args meth c k prog_2_method_13_code 2 "WallShifts$Palace" := X
  unfold dP_roomsOf at h
  refine v_sub (lv' := [(0, _), (1, _)]) [0, 1] rfl ?_
  refine v_iconst X (pc := 0) (v := (1 : Int32)) eP_roomsOf_0 (by decide) ?_
  refine v_aload_n X (pc := 1) 1 rfl eP_roomsOf_1 rfl ?_
  refine v_iconst X (pc := 2) (v := (1 : Int32)) eP_roomsOf_2 (by decide) ?_
  refine v_ialdK X (pc := 3) (n := 6) 1 (by decide) (by decide) (by decide) hq1 rfl eP_roomsOf_3 ?_
  refine v_ishl X (pc := 4) eP_roomsOf_4 ?_
  refine v_iconst X (pc := 5) (v := (1 : Int32)) eP_roomsOf_5 (by decide) ?_
  refine v_aload_n X (pc := 6) 1 rfl eP_roomsOf_6 rfl ?_
  refine v_iconst X (pc := 7) (v := (2 : Int32)) eP_roomsOf_7 (by decide) ?_
  refine v_ialdK X (pc := 8) (n := 6) 2 (by decide) (by decide) (by decide) hq1 rfl eP_roomsOf_8 ?_
  refine v_ishl X (pc := 9) eP_roomsOf_9 ?_
  refine v_ior X (pc := 10) eP_roomsOf_10 ?_
  exact v_iret X (pc := 11) h hr eP_roomsOf_11
set_option maxHeartbeats 4000000 in
set_option maxRecDepth 100000 in
theorem cP_leaks_15 {p : Program} {l : Launch} {e : Env} {s : State} {m : MethodId} {args : Array Value} {below : List Frame} {meth : Method} {c : Code} {k : KK} {f : Nat} {o : Int32} {mem' : Mem} (X : CX p s m args meth c k prog_2_method_11_code 6 "WallShifts$Palace") (hr : meth.sig.returnType = (Option.some Jvm.ClassFile.FieldType.int)) {k6 : Nat → Int32 → Int32 → Mem → Option (Int32 × Mem)} (hk6 : ∀ (q0 : Nat) (x2 : Int32) (x3 : Int32) (mem : Mem), q0 < 3 → k6 q0 x2 x3 mem = some (o, mem') → V p l e (rmM 1 21) s m args below meth c 0 0 (MQ below (RQc k (some (aI o)) mem') args s 0 0 (kA k)) k 6 mem 6 [(0, aR 1 q0), (2, aI x2), (3, aI x3)] []) : ∀ (n : Nat) (q0 : Nat) (x2 : Int32) (x3 : Int32) (x4 : Int32) (mem : Mem), q0 < 3 → dP_leaks_15 f k6 n q0 x2 x3 x4 mem = some (o, mem') → V p l e (rmM 1 21) s m args below meth c 0 0 (MQ below (RQc k (some (aI o)) mem') args s 0 0 (kA k)) k 6 mem 15 [(0, aR 1 q0), (2, aI x2), (3, aI x3), (4, aI x4)] [] := by
  intro n
  induction n with
  | zero =>
    intro q0 x2 x3 x4 mem hq0 h
    exact nomatch (show (none : Option (Int32 × Mem)) = some _ from h)
  | succ n ih =>
    intro q0 x2 x3 x4 mem hq0 h
    rw [dP_leaks_15] at h
    refine v_iload X (pc := 15) 3 rfl eP_leaks_15 ?_
    refine v_aload_n X (pc := 17) 0 rfl eP_leaks_17 rfl ?_
    refine v_get X (pc := 18) 2 (a := aI (gI mem 1 q0 2)) (by decide) hq0 rfl rfl rfl in_Palace (by decide) qw_34 rfl eP_leaks_18 ?_
    refine v_icmp_ge X (pc := 21) (tgt := 68) h eP_leaks_21 (by decide) (fun h => ?_) (fun h => ?_)
    · refine v_aload_n X (pc := 24) 0 rfl eP_leaks_24 rfl ?_
      refine v_aload_n X (pc := 25) 0 rfl eP_leaks_25 rfl ?_
      refine v_get X (pc := 26) 3 (a := aR 3 q0) (by decide) hq0 rfl rfl rfl in_Palace (by decide) qw_36 rfl eP_leaks_26 ?_
      refine v_iload X (pc := 29) 3 rfl eP_leaks_29 ?_
      refine v_aaldW X (pc := 31) h hq0 eP_leaks_31 (fun hb1 h => ?_)
      obtain ⟨r2, m2, hc2, h⟩ := bd_some h
      refine v_callV X (pc := 32) [_] [] ok_V_P_50 (cP_roomsOf hq0 hb1 hc2) rfl (Nat.le_of_ble_eq_true rfl) ⟨Nat.le_of_ble_eq_true rfl, Nat.le_of_ble_eq_true rfl⟩ ⟨Nat.zero_le _, Nat.zero_le _⟩ (by decide) hq0 rfl rfl eP_leaks_32 ?_
      refine v_istore X (pc := 35) (lv' := [(5, _), (0, _), (2, _), (3, _), (4, _)]) eP_leaks_35 (Nat.le_of_ble_eq_true rfl) rfl ?_
      refine v_aload_n X (pc := 37) 1 rfl eP_leaks_37 rfl ?_
      refine v_get X (pc := 38) 3 (a := aR 3 q0) (by decide) hq0 rfl rfl rfl in_Palace (by decide) qw_36 rfl eP_leaks_38 ?_
      refine v_iload X (pc := 41) 4 rfl eP_leaks_41 ?_
      refine v_aaldW X (pc := 43) h hq0 eP_leaks_43 (fun hb3 h => ?_)
      refine v_iconst X (pc := 44) (v := (0 : Int32)) eP_leaks_44 (by decide) ?_
      refine v_ialdK X (pc := 45) (n := 6) 0 (by decide) (by decide) (by decide) hb3 rfl eP_leaks_45 ?_
      refine v_iconst X (pc := 46) (v := (3 : Int32)) eP_leaks_46 (by decide) ?_
      refine v_icmp_ne X (pc := 47) (tgt := 62) h eP_leaks_47 (by decide) (fun h => ?_) (fun h => ?_)
      · refine v_iload X (pc := 50) 0 rfl eP_leaks_50 ?_
        refine v_iload_n X (pc := 52) 2 rfl eP_leaks_52 rfl ?_
        refine v_iand X (pc := 53) eP_leaks_53 ?_
        refine v_if_eq X (pc := 54) (tgt := 62) h eP_leaks_54 (by decide) (fun h => ?_) (fun h => ?_)
        · refine v_iinc X (pc := 62) (v := (x4 + (1 : Int32))) (lv' := [(4, _), (5, _), (0, _), (2, _), (3, _)]) 4 rfl (by rfl) eP_leaks_62 (Nat.le_of_ble_eq_true rfl) rfl ?_
          refine v_goto X (pc := 65) (tgt := 15) eP_leaks_65 (by decide) ?_
          exact v_sub [2, 3, 4, 0] rfl (ih _ _ _ _ _ hq0 h)
        · refine v_iload_n X (pc := 57) 2 rfl eP_leaks_57 rfl ?_
          refine v_iload X (pc := 58) 0 rfl eP_leaks_58 ?_
          refine v_ior X (pc := 60) eP_leaks_60 ?_
          refine v_istore_n X (pc := 61) (lv' := [(2, _), (5, _), (0, _), (3, _), (4, _)]) eP_leaks_61 rfl (Nat.le_of_ble_eq_true rfl) rfl ?_
          refine v_iinc X (pc := 62) (v := (x4 + (1 : Int32))) (lv' := [(4, _), (2, _), (5, _), (0, _), (3, _)]) 4 rfl (by rfl) eP_leaks_62 (Nat.le_of_ble_eq_true rfl) rfl ?_
          refine v_goto X (pc := 65) (tgt := 15) eP_leaks_65 (by decide) ?_
          exact v_sub [3, 1, 4, 0] rfl (ih _ _ _ _ _ hq0 h)
      · refine v_iinc X (pc := 62) (v := (x4 + (1 : Int32))) (lv' := [(4, _), (5, _), (0, _), (2, _), (3, _)]) 4 rfl (by rfl) eP_leaks_62 (Nat.le_of_ble_eq_true rfl) rfl ?_
        refine v_goto X (pc := 65) (tgt := 15) eP_leaks_65 (by decide) ?_
        exact v_sub [2, 3, 4, 0] rfl (ih _ _ _ _ _ hq0 h)
    · refine v_iinc X (pc := 68) (v := (x3 + (1 : Int32))) (lv' := [(3, _), (0, _), (2, _), (4, _)]) 2 rfl (by rfl) eP_leaks_68 (Nat.le_of_ble_eq_true rfl) rfl ?_
      refine v_goto X (pc := 71) (tgt := 6) eP_leaks_71 (by decide) ?_
      exact v_sub [1, 2, 0] rfl (hk6 _ _ _ _ hq0 h)
set_option maxHeartbeats 4000000 in
set_option maxRecDepth 100000 in
theorem cP_leaks_6 {p : Program} {l : Launch} {e : Env} {s : State} {m : MethodId} {args : Array Value} {below : List Frame} {meth : Method} {c : Code} {k : KK} {f : Nat} {o : Int32} {mem' : Mem} (X : CX p s m args meth c k prog_2_method_11_code 6 "WallShifts$Palace") (hr : meth.sig.returnType = (Option.some Jvm.ClassFile.FieldType.int)) : ∀ (n : Nat) (q0 : Nat) (x2 : Int32) (x3 : Int32) (mem : Mem), q0 < 3 → dP_leaks_6 f n q0 x2 x3 mem = some (o, mem') → V p l e (rmM 1 21) s m args below meth c 0 0 (MQ below (RQc k (some (aI o)) mem') args s 0 0 (kA k)) k 6 mem 6 [(0, aR 1 q0), (2, aI x2), (3, aI x3)] [] := by
  intro n
  induction n with
  | zero =>
    intro q0 x2 x3 mem hq0 h
    exact nomatch (show (none : Option (Int32 × Mem)) = some _ from h)
  | succ n ih =>
    intro q0 x2 x3 mem hq0 h
    rw [dP_leaks_6] at h
    refine v_iload_n X (pc := 6) 2 rfl eP_leaks_6 rfl ?_
    refine v_bipush X (pc := 7) (v := (10 : Int32)) eP_leaks_7 (by decide) ?_
    refine v_icmp_ge X (pc := 9) (tgt := 74) h eP_leaks_9 (by decide) (fun h => ?_) (fun h => ?_)
    · refine v_iconst X (pc := 12) (v := (0 : Int32)) eP_leaks_12 (by decide) ?_
      refine v_istore X (pc := 13) (lv' := [(4, _), (0, _), (2, _), (3, _)]) eP_leaks_13 (Nat.le_of_ble_eq_true rfl) rfl ?_
      exact v_sub [1, 2, 3, 0] rfl (cP_leaks_15 X hr ih _ _ _ _ _ _ hq0 h)
    · refine v_iload_n X (pc := 74) 1 rfl eP_leaks_74 rfl ?_
      exact v_iret X (pc := 75) h hr eP_leaks_75
set_option maxHeartbeats 4000000 in
set_option maxRecDepth 100000 in
theorem cP_leaks {f : Nat} {q0 : Nat} {a1 : Int32} {mem : Mem} {o : Int32} {mem' : Mem} (hq0 : q0 < 3) (h : dP_leaks f q0 a1 mem = some (o, mem')) : RT yP_leaks prog_2_method_11_code 6 (Option.some Jvm.ClassFile.FieldType.int) (rmM 1 21) [aR 1 q0, aI a1] mem (some (aI o)) mem' := by
  refine RT.of (by decide +kernel) (Nat.le_of_ble_eq_true rfl) (fun p l e s m args below meth c k X hr => ?_)
  replace X : CX p s m args meth c k prog_2_method_11_code 6 "WallShifts$Palace" := X
  unfold dP_leaks at h
  refine v_sub (lv' := [(0, _), (1, _)]) [0, 1] rfl ?_
  refine v_iconst X (pc := 0) (v := (1 : Int32)) eP_leaks_0 (by decide) ?_
  refine v_iload_n X (pc := 1) 1 rfl eP_leaks_1 rfl ?_
  refine v_ishl X (pc := 2) eP_leaks_2 ?_
  refine v_istore_n X (pc := 3) (lv' := [(2, _), (0, _), (1, _)]) eP_leaks_3 rfl (Nat.le_of_ble_eq_true rfl) rfl ?_
  refine v_iconst X (pc := 4) (v := (0 : Int32)) eP_leaks_4 (by decide) ?_
  refine v_istore_n X (pc := 5) (lv' := [(3, _), (2, _), (0, _), (1, _)]) eP_leaks_5 rfl (Nat.le_of_ble_eq_true rfl) rfl ?_
  exact v_sub [2, 1, 0] rfl (cP_leaks_6 X hr _ _ _ _ _ hq0 h)
set_option maxHeartbeats 4000000 in
set_option maxRecDepth 100000 in
theorem cP_near_11 {p : Program} {l : Launch} {e : Env} {s : State} {m : MethodId} {args : Array Value} {below : List Frame} {meth : Method} {c : Code} {k : KK} {f : Nat} {o : Int32} {mem' : Mem} (X : CX p s m args meth c k prog_2_method_12_code 5 "WallShifts$Palace") (hr : meth.sig.returnType = (Option.some Jvm.ClassFile.FieldType.int)) : ∀ (n : Nat) (q0 : Nat) (x2 : Int32) (x3 : Int32) (x4 : Int32) (mem : Mem), q0 < 3 → dP_near_11 f n q0 x2 x3 x4 mem = some (o, mem') → V p l e (rmM 2 46) s m args below meth c 0 0 (MQ below (RQc k (some (aI o)) mem') args s 0 0 (kA k)) k 5 mem 11 [(0, aR 1 q0), (2, aI x2), (3, aI x3), (4, aI x4)] [] := by
  intro n
  induction n with
  | zero =>
    intro q0 x2 x3 x4 mem hq0 h
    exact nomatch (show (none : Option (Int32 × Mem)) = some _ from h)
  | succ n ih =>
    intro q0 x2 x3 x4 mem hq0 h
    rw [dP_near_11] at h
    refine v_iload X (pc := 11) 3 rfl eP_near_11 ?_
    refine v_aload_n X (pc := 13) 0 rfl eP_near_13 rfl ?_
    refine v_get X (pc := 14) 2 (a := aI (gI mem 1 q0 2)) (by decide) hq0 rfl rfl rfl in_Palace (by decide) qw_34 rfl eP_near_14 ?_
    refine v_icmp_ge X (pc := 17) (tgt := 49) h eP_near_17 (by decide) (fun h => ?_) (fun h => ?_)
    · refine v_aload_n X (pc := 20) 0 rfl eP_near_20 rfl ?_
      refine v_aload_n X (pc := 21) 0 rfl eP_near_21 rfl ?_
      refine v_get X (pc := 22) 3 (a := aR 3 q0) (by decide) hq0 rfl rfl rfl in_Palace (by decide) qw_36 rfl eP_near_22 ?_
      refine v_iload X (pc := 25) 3 rfl eP_near_25 ?_
      refine v_aaldW X (pc := 27) h hq0 eP_near_27 (fun hb1 h => ?_)
      obtain ⟨r2, m2, hc2, h⟩ := bd_some h
      refine v_callV X (pc := 28) [_] [] ok_V_P_50 (cP_roomsOf hq0 hb1 hc2) rfl (Nat.le_of_ble_eq_true rfl) ⟨Nat.le_of_ble_eq_true rfl, Nat.le_of_ble_eq_true rfl⟩ ⟨Nat.zero_le _, Nat.zero_le _⟩ (by decide) hq0 rfl rfl eP_near_28 ?_
      refine v_iload_n X (pc := 31) 1 rfl eP_near_31 rfl ?_
      refine v_iand X (pc := 32) eP_near_32 ?_
      refine v_if_eq X (pc := 33) (tgt := 43) h eP_near_33 (by decide) (fun h => ?_) (fun h => ?_)
      · refine v_iinc X (pc := 43) (v := (x4 + (1 : Int32))) (lv' := [(4, _), (0, _), (2, _), (3, _)]) 3 rfl (by rfl) eP_near_43 (Nat.le_of_ble_eq_true rfl) rfl ?_
        refine v_goto X (pc := 46) (tgt := 11) eP_near_46 (by decide) ?_
        exact v_sub [1, 2, 3, 0] rfl (ih _ _ _ _ _ hq0 h)
      · refine v_iload_n X (pc := 36) 2 rfl eP_near_36 rfl ?_
        refine v_iconst X (pc := 37) (v := (1 : Int32)) eP_near_37 (by decide) ?_
        refine v_iload X (pc := 38) 3 rfl eP_near_38 ?_
        refine v_ishl X (pc := 40) eP_near_40 ?_
        refine v_ior X (pc := 41) eP_near_41 ?_
        refine v_istore_n X (pc := 42) (lv' := [(3, _), (0, _), (2, _), (4, _)]) eP_near_42 rfl (Nat.le_of_ble_eq_true rfl) rfl ?_
        refine v_iinc X (pc := 43) (v := (x4 + (1 : Int32))) (lv' := [(4, _), (3, _), (0, _), (2, _)]) 3 rfl (by rfl) eP_near_43 (Nat.le_of_ble_eq_true rfl) rfl ?_
        refine v_goto X (pc := 46) (tgt := 11) eP_near_46 (by decide) ?_
        exact v_sub [2, 3, 1, 0] rfl (ih _ _ _ _ _ hq0 h)
    · refine v_iload_n X (pc := 49) 2 rfl eP_near_49 rfl ?_
      exact v_iret X (pc := 50) h hr eP_near_50
set_option maxHeartbeats 4000000 in
set_option maxRecDepth 100000 in
theorem cP_near {f : Nat} {q0 : Nat} {a1 : Int32} {mem : Mem} {o : Int32} {mem' : Mem} (hq0 : q0 < 3) (h : dP_near f q0 a1 mem = some (o, mem')) : RT yP_near prog_2_method_12_code 5 (Option.some Jvm.ClassFile.FieldType.int) (rmM 2 46) [aR 1 q0, aI a1] mem (some (aI o)) mem' := by
  refine RT.of (by decide +kernel) (Nat.le_of_ble_eq_true rfl) (fun p l e s m args below meth c k X hr => ?_)
  replace X : CX p s m args meth c k prog_2_method_12_code 5 "WallShifts$Palace" := X
  unfold dP_near at h
  refine v_sub (lv' := [(0, _), (1, _)]) [0, 1] rfl ?_
  refine v_aload_n X (pc := 0) 0 rfl eP_near_0 rfl ?_
  refine v_iload_n X (pc := 1) 1 rfl eP_near_1 rfl ?_
  obtain ⟨r1, m1, hc1, h⟩ := bd_some h
  refine v_callV X (pc := 2) [_] [] ok_V_P_54 (cP_leaks hq0 hc1) rfl (Nat.le_of_ble_eq_true rfl) ⟨Nat.le_of_ble_eq_true rfl, Nat.le_of_ble_eq_true rfl⟩ ⟨Nat.zero_le _, Nat.zero_le _⟩ (by decide) hq0 rfl rfl eP_near_2 ?_
  refine v_istore_n X (pc := 5) (lv' := [(2, _), (0, _), (1, _)]) eP_near_5 rfl (Nat.le_of_ble_eq_true rfl) rfl ?_
  refine v_iconst X (pc := 6) (v := (0 : Int32)) eP_near_6 (by decide) ?_
  refine v_istore_n X (pc := 7) (lv' := [(3, _), (2, _), (0, _), (1, _)]) eP_near_7 rfl (Nat.le_of_ble_eq_true rfl) rfl ?_
  refine v_iconst X (pc := 8) (v := (0 : Int32)) eP_near_8 (by decide) ?_
  refine v_istore X (pc := 9) (lv' := [(4, _), (3, _), (2, _), (0, _), (1, _)]) eP_near_9 (Nat.le_of_ble_eq_true rfl) rfl ?_
  exact v_sub [3, 2, 1, 0] rfl (cP_near_11 X hr _ _ _ _ _ _ hq0 h)
set_option maxHeartbeats 4000000 in
set_option maxRecDepth 100000 in
theorem cW_quarterOf {f : Nat} {a0 : Int32} {a1 : Int32} {mem : Mem} {o : Int32} {mem' : Mem}  (h : dW_quarterOf f a0 a1 mem = some (o, mem')) : RT yW_quarterOf prog_1_method_54_code 2 (Option.some Jvm.ClassFile.FieldType.int) (rmM 0 0) [aI a0, aI a1] mem (some (aI o)) mem' := by
  refine RT.of (by decide +kernel) (Nat.le_of_ble_eq_true rfl) (fun p l e s m args below meth c k X hr => ?_)
  replace X : CX p s m args meth c k prog_1_method_54_code 2 "WallShifts" := X
  unfold dW_quarterOf at h
  refine v_sub (lv' := [(0, _), (1, _)]) [0, 1] rfl ?_
  refine v_iload_n X (pc := 0) 1 rfl eW_quarterOf_0 rfl ?_
  refine v_iconst X (pc := 1) (v := (1 : Int32)) eW_quarterOf_1 (by decide) ?_
  refine v_icmp_ge X (pc := 2) (tgt := 9) h eW_quarterOf_2 (by decide) (fun h => ?_) (fun h => ?_)
  · refine v_iconst X (pc := 5) (v := (0 : Int32)) eW_quarterOf_5 (by decide) ?_
    refine v_goto X (pc := 6) (tgt := 14) eW_quarterOf_6 (by decide) ?_
    exact v_iret X (pc := 14) h hr eW_quarterOf_14
  · refine v_iload_n X (pc := 9) 0 rfl eW_quarterOf_9 rfl ?_
    refine v_iload_n X (pc := 10) 1 rfl eW_quarterOf_10 rfl ?_
    refine v_idiv X (pc := 11) h eW_quarterOf_11 (fun h => ?_)
    refine v_iconst X (pc := 12) (v := (4 : Int32)) eW_quarterOf_12 (by decide) ?_
    refine v_irem X (pc := 13) h eW_quarterOf_13 (fun h => ?_)
    exact v_iret X (pc := 14) h hr eW_quarterOf_14
set_option maxHeartbeats 4000000 in
set_option maxRecDepth 100000 in
theorem cW_restOf {f : Nat} {a0 : Int32} {a1 : Int32} {mem : Mem} {o : Int32} {mem' : Mem}  (h : dW_restOf f a0 a1 mem = some (o, mem')) : RT yW_restOf prog_1_method_55_code 2 (Option.some Jvm.ClassFile.FieldType.int) (rmM 0 0) [aI a0, aI a1] mem (some (aI o)) mem' := by
  refine RT.of (by decide +kernel) (Nat.le_of_ble_eq_true rfl) (fun p l e s m args below meth c k X hr => ?_)
  replace X : CX p s m args meth c k prog_1_method_55_code 2 "WallShifts" := X
  unfold dW_restOf at h
  refine v_sub (lv' := [(0, _), (1, _)]) [0, 1] rfl ?_
  refine v_iload_n X (pc := 0) 1 rfl eW_restOf_0 rfl ?_
  refine v_iconst X (pc := 1) (v := (1 : Int32)) eW_restOf_1 (by decide) ?_
  refine v_icmp_ge X (pc := 2) (tgt := 9) h eW_restOf_2 (by decide) (fun h => ?_) (fun h => ?_)
  · refine v_iconst X (pc := 5) (v := (0 : Int32)) eW_restOf_5 (by decide) ?_
    refine v_goto X (pc := 6) (tgt := 12) eW_restOf_6 (by decide) ?_
    exact v_iret X (pc := 12) h hr eW_restOf_12
  · refine v_iload_n X (pc := 9) 0 rfl eW_restOf_9 rfl ?_
    refine v_iload_n X (pc := 10) 1 rfl eW_restOf_10 rfl ?_
    refine v_irem X (pc := 11) h eW_restOf_11 (fun h => ?_)
    exact v_iret X (pc := 12) h hr eW_restOf_12
set_option maxHeartbeats 4000000 in
set_option maxRecDepth 100000 in
theorem cP_listens_50 {p : Program} {l : Launch} {e : Env} {s : State} {m : MethodId} {args : Array Value} {below : List Frame} {meth : Method} {c : Code} {k : KK} {f : Nat} {o : Int32} {mem' : Mem} (X : CX p s m args meth c k prog_2_method_7_code 8 "WallShifts$Palace") (hr : meth.sig.returnType = (Option.some Jvm.ClassFile.FieldType.boolean)) : ∀ (x1 : Int32) (x2 : Int32) (x3 : Int32) (x4 : Int32) (x5 : Int32) (x6 : Int32) (s0 : Int32) (mem : Mem), dP_listens_50 f x1 x2 x3 x4 x5 x6 s0 mem = some (o, mem') → V p l e (rmM 0 0) s m args below meth c 0 0 (MQ below (RQc k (some (aI o)) mem') args s 0 0 (kA k)) k 8 mem 50 [(1, aI x1), (2, aI x2), (3, aI x3), (4, aI x4), (5, aI x5), (6, aI x6)] [aI s0] := by
  intro x1 x2 x3 x4 x5 x6 s0 mem  h
  unfold dP_listens_50 at h
  refine v_istore X (pc := 50) (lv' := [(7, _), (1, _), (2, _), (3, _), (4, _), (5, _), (6, _)]) eP_listens_50 (Nat.le_of_ble_eq_true rfl) rfl ?_
  refine v_iload_n X (pc := 52) 1 rfl eP_listens_52 rfl ?_
  by_cases g1 : x1 = (1 : Int32)
  · have h := it_t h g1
    refine v_tsw X (pc := 53) (tgt := 88) (1 : Int32) g1 eP_listens_53 (by decide) (by decide) rfl (by decide) ?_
    refine v_iload X (pc := 88) 6 rfl eP_listens_88 ?_
    refine v_if_eq X (pc := 90) (tgt := 102) h eP_listens_90 (by decide) (fun h => ?_) (fun h => ?_)
    · refine v_iconst X (pc := 102) (v := (0 : Int32)) eP_listens_102 (by decide) ?_
      exact v_zret X (pc := 103) h hr rfl eP_listens_103
    · refine v_iload X (pc := 93) 0 rfl eP_listens_93 ?_
      refine v_if_ne X (pc := 95) (tgt := 102) h eP_listens_95 (by decide) (fun h => ?_) (fun h => ?_)
      · refine v_iconst X (pc := 98) (v := (1 : Int32)) eP_listens_98 (by decide) ?_
        refine v_goto X (pc := 99) (tgt := 103) eP_listens_99 (by decide) ?_
        exact v_zret X (pc := 103) h hr rfl eP_listens_103
      · refine v_iconst X (pc := 102) (v := (0 : Int32)) eP_listens_102 (by decide) ?_
        exact v_zret X (pc := 103) h hr rfl eP_listens_103
  have h := it_f h g1
  by_cases g2 : x1 = (2 : Int32)
  · have h := it_t h g2
    refine v_tsw X (pc := 53) (tgt := 150) (2 : Int32) g2 eP_listens_53 (by decide) (by decide) rfl (by decide) ?_
    refine v_iload X (pc := 150) 6 rfl eP_listens_150 ?_
    obtain ⟨hz, h⟩ := zb_some h
    exact v_zret X (pc := 152) h hr (zb_n hz) eP_listens_152
  have h := it_f h g2
  by_cases g3 : x1 = (3 : Int32)
  · have h := it_t h g3
    refine v_tsw X (pc := 53) (tgt := 150) (3 : Int32) g3 eP_listens_53 (by decide) (by decide) rfl (by decide) ?_
    refine v_iload X (pc := 150) 6 rfl eP_listens_150 ?_
    obtain ⟨hz, h⟩ := zb_some h
    exact v_zret X (pc := 152) h hr (zb_n hz) eP_listens_152
  have h := it_f h g3
  by_cases g4 : x1 = (4 : Int32)
  · have h := it_t h g4
    refine v_tsw X (pc := 53) (tgt := 104) (4 : Int32) g4 eP_listens_53 (by decide) (by decide) rfl (by decide) ?_
    refine v_iload X (pc := 104) 0 rfl eP_listens_104 ?_
    refine v_if_eq X (pc := 106) (tgt := 122) h eP_listens_106 (by decide) (fun h => ?_) (fun h => ?_)
    · refine v_iload X (pc := 122) 6 rfl eP_listens_122 ?_
      obtain ⟨hz, h⟩ := zb_some h
      exact v_zret X (pc := 124) h hr (zb_n hz) eP_listens_124
    · refine v_iload X (pc := 109) 4 rfl eP_listens_109 ?_
      refine v_if_ne X (pc := 111) (tgt := 118) h eP_listens_111 (by decide) (fun h => ?_) (fun h => ?_)
      · refine v_iconst X (pc := 114) (v := (1 : Int32)) eP_listens_114 (by decide) ?_
        refine v_goto X (pc := 115) (tgt := 124) eP_listens_115 (by decide) ?_
        exact v_zret X (pc := 124) h hr rfl eP_listens_124
      · refine v_iconst X (pc := 118) (v := (0 : Int32)) eP_listens_118 (by decide) ?_
        refine v_goto X (pc := 119) (tgt := 124) eP_listens_119 (by decide) ?_
        exact v_zret X (pc := 124) h hr rfl eP_listens_124
  have h := it_f h g4
  by_cases g5 : x1 = (5 : Int32)
  · have h := it_t h g5
    refine v_tsw X (pc := 53) (tgt := 125) (5 : Int32) g5 eP_listens_53 (by decide) (by decide) rfl (by decide) ?_
    refine v_iload X (pc := 125) 6 rfl eP_listens_125 ?_
    refine v_if_ne X (pc := 127) (tgt := 144) h eP_listens_127 (by decide) (fun h => ?_) (fun h => ?_)
    · refine v_iload_n X (pc := 130) 3 rfl eP_listens_130 rfl ?_
      refine v_iload_n X (pc := 131) 2 rfl eP_listens_131 rfl ?_
      refine v_iconst X (pc := 132) (v := (1 : Int32)) eP_listens_132 (by decide) ?_
      refine v_iadd X (pc := 133) eP_listens_133 ?_
      refine v_iconst X (pc := 134) (v := (4 : Int32)) eP_listens_134 (by decide) ?_
      refine v_irem X (pc := 135) h eP_listens_135 (fun h => ?_)
      refine v_icmp_ne X (pc := 136) (tgt := 148) h eP_listens_136 (by decide) (fun h => ?_) (fun h => ?_)
      · refine v_iload X (pc := 139) 5 rfl eP_listens_139 ?_
        refine v_if_eq X (pc := 141) (tgt := 148) h eP_listens_141 (by decide) (fun h => ?_) (fun h => ?_)
        · refine v_iconst X (pc := 148) (v := (0 : Int32)) eP_listens_148 (by decide) ?_
          exact v_zret X (pc := 149) h hr rfl eP_listens_149
        · refine v_iconst X (pc := 144) (v := (1 : Int32)) eP_listens_144 (by decide) ?_
          refine v_goto X (pc := 145) (tgt := 149) eP_listens_145 (by decide) ?_
          exact v_zret X (pc := 149) h hr rfl eP_listens_149
      · refine v_iconst X (pc := 148) (v := (0 : Int32)) eP_listens_148 (by decide) ?_
        exact v_zret X (pc := 149) h hr rfl eP_listens_149
    · refine v_iconst X (pc := 144) (v := (1 : Int32)) eP_listens_144 (by decide) ?_
      refine v_goto X (pc := 145) (tgt := 149) eP_listens_145 (by decide) ?_
      exact v_zret X (pc := 149) h hr rfl eP_listens_149
  have h := it_f h g5
  refine v_tswD X (pc := 53) (tgt := 150) (tsw_out_1_5 g1 g2 g3 g4 g5) eP_listens_53 (by decide) ?_
  refine v_iload X (pc := 150) 6 rfl eP_listens_150 ?_
  obtain ⟨hz, h⟩ := zb_some h
  exact v_zret X (pc := 152) h hr (zb_n hz) eP_listens_152
set_option maxHeartbeats 4000000 in
set_option maxRecDepth 100000 in
theorem cP_listens_33 {p : Program} {l : Launch} {e : Env} {s : State} {m : MethodId} {args : Array Value} {below : List Frame} {meth : Method} {c : Code} {k : KK} {f : Nat} {o : Int32} {mem' : Mem} (X : CX p s m args meth c k prog_2_method_7_code 8 "WallShifts$Palace") (hr : meth.sig.returnType = (Option.some Jvm.ClassFile.FieldType.boolean)) : ∀ (q0 : Nat) (x1 : Int32) (x2 : Int32) (x3 : Int32) (x4 : Int32) (x5 : Int32) (s0 : Int32) (mem : Mem), q0 < 3 → dP_listens_33 f q0 x1 x2 x3 x4 x5 s0 mem = some (o, mem') → V p l e (rmM 0 0) s m args below meth c 0 0 (MQ below (RQc k (some (aI o)) mem') args s 0 0 (kA k)) k 8 mem 33 [(0, aR 1 q0), (1, aI x1), (2, aI x2), (3, aI x3), (4, aI x4), (5, aI x5)] [aI s0] := by
  intro q0 x1 x2 x3 x4 x5 s0 mem hq0 h
  unfold dP_listens_33 at h
  refine v_istore X (pc := 33) (lv' := [(6, _), (0, _), (1, _), (2, _), (3, _), (4, _), (5, _)]) eP_listens_33 (Nat.le_of_ble_eq_true rfl) rfl ?_
  refine v_aload_n X (pc := 35) 1 rfl eP_listens_35 rfl ?_
  refine v_get X (pc := 36) 1 (a := aR 2 q0) (by decide) hq0 rfl rfl rfl in_Palace (by decide) qw_32 rfl eP_listens_36 ?_
  refine v_iconst X (pc := 39) (v := (2 : Int32)) eP_listens_39 (by decide) ?_
  refine v_ialdK X (pc := 40) (n := 4) 2 (by decide) (by decide) (by decide) hq0 rfl eP_listens_40 ?_
  refine v_iconst X (pc := 41) (v := (3 : Int32)) eP_listens_41 (by decide) ?_
  refine v_icmp_ne X (pc := 42) (tgt := 49) h eP_listens_42 (by decide) (fun h => ?_) (fun h => ?_)
  · refine v_iconst X (pc := 45) (v := (1 : Int32)) eP_listens_45 (by decide) ?_
    refine v_goto X (pc := 46) (tgt := 50) eP_listens_46 (by decide) ?_
    exact v_sub [2, 3, 4, 5, 6, 0] rfl (cP_listens_50 X hr _ _ _ _ _ _ _ _  h)
  · refine v_iconst X (pc := 49) (v := (0 : Int32)) eP_listens_49 (by decide) ?_
    exact v_sub [2, 3, 4, 5, 6, 0] rfl (cP_listens_50 X hr _ _ _ _ _ _ _ _  h)
set_option maxHeartbeats 4000000 in
set_option maxRecDepth 100000 in
theorem cP_listens_16 {p : Program} {l : Launch} {e : Env} {s : State} {m : MethodId} {args : Array Value} {below : List Frame} {meth : Method} {c : Code} {k : KK} {f : Nat} {o : Int32} {mem' : Mem} (X : CX p s m args meth c k prog_2_method_7_code 8 "WallShifts$Palace") (hr : meth.sig.returnType = (Option.some Jvm.ClassFile.FieldType.boolean)) : ∀ (q0 : Nat) (x1 : Int32) (x2 : Int32) (x3 : Int32) (x4 : Int32) (s0 : Int32) (mem : Mem), q0 < 3 → dP_listens_16 f q0 x1 x2 x3 x4 s0 mem = some (o, mem') → V p l e (rmM 0 0) s m args below meth c 0 0 (MQ below (RQc k (some (aI o)) mem') args s 0 0 (kA k)) k 8 mem 16 [(0, aR 1 q0), (1, aI x1), (2, aI x2), (3, aI x3), (4, aI x4)] [aI s0] := by
  intro q0 x1 x2 x3 x4 s0 mem hq0 h
  unfold dP_listens_16 at h
  refine v_istore X (pc := 16) (lv' := [(5, _), (0, _), (1, _), (2, _), (3, _), (4, _)]) eP_listens_16 (Nat.le_of_ble_eq_true rfl) rfl ?_
  refine v_iload_n X (pc := 18) 4 rfl eP_listens_18 rfl ?_
  refine v_iload_n X (pc := 19) 3 rfl eP_listens_19 rfl ?_
  refine v_icmp_ne X (pc := 20) (tgt := 32) h eP_listens_20 (by decide) (fun h => ?_) (fun h => ?_)
  · refine v_iload X (pc := 23) 0 rfl eP_listens_23 ?_
    refine v_if_eq X (pc := 25) (tgt := 32) h eP_listens_25 (by decide) (fun h => ?_) (fun h => ?_)
    · refine v_iconst X (pc := 32) (v := (0 : Int32)) eP_listens_32 (by decide) ?_
      exact v_sub [1, 2, 3, 4, 5, 0] rfl (cP_listens_33 X hr _ _ _ _ _ _ _ _ hq0 h)
    · refine v_iconst X (pc := 28) (v := (1 : Int32)) eP_listens_28 (by decide) ?_
      refine v_goto X (pc := 29) (tgt := 33) eP_listens_29 (by decide) ?_
      exact v_sub [1, 2, 3, 4, 5, 0] rfl (cP_listens_33 X hr _ _ _ _ _ _ _ _ hq0 h)
  · refine v_iconst X (pc := 32) (v := (0 : Int32)) eP_listens_32 (by decide) ?_
    exact v_sub [1, 2, 3, 4, 5, 0] rfl (cP_listens_33 X hr _ _ _ _ _ _ _ _ hq0 h)
set_option maxHeartbeats 4000000 in
set_option maxRecDepth 100000 in
theorem cP_listens {f : Nat} {q0 : Nat} {a1 : Int32} {a2 : Int32} {a3 : Int32} {a4 : Int32} {mem : Mem} {o : Int32} {mem' : Mem} (hq0 : q0 < 3) (h : dP_listens f q0 a1 a2 a3 a4 mem = some (o, mem')) : RT yP_listens prog_2_method_7_code 8 (Option.some Jvm.ClassFile.FieldType.boolean) (rmM 0 0) [aR 1 q0, aI a1, aI a2, aI a3, aI a4] mem (some (aI o)) mem' := by
  refine RT.of (by decide +kernel) (Nat.le_of_ble_eq_true rfl) (fun p l e s m args below meth c k X hr => ?_)
  replace X : CX p s m args meth c k prog_2_method_7_code 8 "WallShifts$Palace" := X
  unfold dP_listens at h
  refine v_sub (lv' := [(0, _), (1, _), (2, _), (3, _), (4, _)]) [0, 1, 2, 3, 4] rfl ?_
  refine v_iload X (pc := 0) 4 rfl eP_listens_0 ?_
  refine v_aload_n X (pc := 2) 0 rfl eP_listens_2 rfl ?_
  refine v_get X (pc := 3) 1 (a := aR 2 q0) (by decide) hq0 rfl rfl rfl in_Palace (by decide) qw_32 rfl eP_listens_3 ?_
  refine v_iconst X (pc := 6) (v := (1 : Int32)) eP_listens_6 (by decide) ?_
  refine v_ialdK X (pc := 7) (n := 4) 1 (by decide) (by decide) (by decide) hq0 rfl eP_listens_7 ?_
  refine v_icmp_lt X (pc := 8) (tgt := 15) h eP_listens_8 (by decide) (fun h => ?_) (fun h => ?_)
  · refine v_iconst X (pc := 15) (v := (0 : Int32)) eP_listens_15 (by decide) ?_
    exact v_sub [0, 1, 2, 3, 4] rfl (cP_listens_16 X hr _ _ _ _ _ _ _ hq0 h)
  · refine v_iconst X (pc := 11) (v := (1 : Int32)) eP_listens_11 (by decide) ?_
    refine v_goto X (pc := 12) (tgt := 16) eP_listens_12 (by decide) ?_
    exact v_sub [0, 1, 2, 3, 4] rfl (cP_listens_16 X hr _ _ _ _ _ _ _ hq0 h)
set_option maxHeartbeats 4000000 in
set_option maxRecDepth 100000 in
theorem cP_onDuty_19 {p : Program} {l : Launch} {e : Env} {s : State} {m : MethodId} {args : Array Value} {below : List Frame} {meth : Method} {c : Code} {k : KK} {f : Nat} {o : Int32} {mem' : Mem} (X : CX p s m args meth c k prog_2_method_9_code 7 "WallShifts$Palace") (hr : meth.sig.returnType = (Option.some Jvm.ClassFile.FieldType.int)) : ∀ (n : Nat) (q0 : Nat) (x3 : Int32) (x4 : Int32) (x5 : Int32) (x6 : Int32) (mem : Mem), q0 < 3 → dP_onDuty_19 f n q0 x3 x4 x5 x6 mem = some (o, mem') → V p l e (rmM 1 27) s m args below meth c 0 0 (MQ below (RQc k (some (aI o)) mem') args s 0 0 (kA k)) k 7 mem 19 [(0, aR 1 q0), (3, aI x3), (4, aI x4), (5, aI x5), (6, aI x6)] [] := by
  intro n
  induction n with
  | zero =>
    intro q0 x3 x4 x5 x6 mem hq0 h
    exact nomatch (show (none : Option (Int32 × Mem)) = some _ from h)
  | succ n ih =>
    intro q0 x3 x4 x5 x6 mem hq0 h
    rw [dP_onDuty_19] at h
    refine v_iload X (pc := 19) 4 rfl eP_onDuty_19 ?_
    refine v_aload_n X (pc := 21) 0 rfl eP_onDuty_21 rfl ?_
    refine v_get X (pc := 22) 2 (a := aI (gI mem 1 q0 2)) (by decide) hq0 rfl rfl rfl in_Palace (by decide) qw_34 rfl eP_onDuty_22 ?_
    refine v_icmp_ge X (pc := 25) (tgt := 71) h eP_onDuty_25 (by decide) (fun h => ?_) (fun h => ?_)
    · refine v_aload_n X (pc := 28) 0 rfl eP_onDuty_28 rfl ?_
      refine v_aload_n X (pc := 29) 0 rfl eP_onDuty_29 rfl ?_
      refine v_get X (pc := 30) 3 (a := aR 3 q0) (by decide) hq0 rfl rfl rfl in_Palace (by decide) qw_36 rfl eP_onDuty_30 ?_
      refine v_iload X (pc := 33) 4 rfl eP_onDuty_33 ?_
      refine v_aaldW X (pc := 35) h hq0 eP_onDuty_35 (fun hb1 h => ?_)
      refine v_iconst X (pc := 36) (v := (0 : Int32)) eP_onDuty_36 (by decide) ?_
      refine v_ialdK X (pc := 37) (n := 6) 0 (by decide) (by decide) (by decide) hb1 rfl eP_onDuty_37 ?_
      refine v_aload_n X (pc := 38) 0 rfl eP_onDuty_38 rfl ?_
      refine v_get X (pc := 39) 3 (a := aR 3 q0) (by decide) hq0 rfl rfl rfl in_Palace (by decide) qw_36 rfl eP_onDuty_39 ?_
      refine v_iload X (pc := 42) 4 rfl eP_onDuty_42 ?_
      refine v_aaldW X (pc := 44) h hq0 eP_onDuty_44 (fun hb2 h => ?_)
      refine v_iconst X (pc := 45) (v := (3 : Int32)) eP_onDuty_45 (by decide) ?_
      refine v_ialdK X (pc := 46) (n := 6) 3 (by decide) (by decide) (by decide) hb2 rfl eP_onDuty_46 ?_
      refine v_iload_n X (pc := 47) 1 rfl eP_onDuty_47 rfl ?_
      refine v_iload X (pc := 48) 2 rfl eP_onDuty_48 ?_
      obtain ⟨r3, m3, hc3, h⟩ := bd_some h
      refine v_callV X (pc := 50) [_, _, _, _] [] ok_V_P_46 (cP_listens hq0 hc3) rfl (Nat.le_of_ble_eq_true rfl) ⟨Nat.le_of_ble_eq_true rfl, Nat.le_of_ble_eq_true rfl⟩ ⟨Nat.zero_le _, Nat.zero_le _⟩ (by decide) hq0 rfl rfl eP_onDuty_50 ?_
      refine v_if_eq X (pc := 53) (tgt := 65) h eP_onDuty_53 (by decide) (fun h => ?_) (fun h => ?_)
      · refine v_iinc X (pc := 65) (v := (x6 + (1 : Int32))) (lv' := [(6, _), (0, _), (3, _), (4, _), (5, _)]) 4 rfl (by rfl) eP_onDuty_65 (Nat.le_of_ble_eq_true rfl) rfl ?_
        refine v_goto X (pc := 68) (tgt := 19) eP_onDuty_68 (by decide) ?_
        exact v_sub [1, 2, 3, 4, 0] rfl (ih _ _ _ _ _ _ hq0 h)
      · refine v_iload X (pc := 56) 3 rfl eP_onDuty_56 ?_
        refine v_iconst X (pc := 58) (v := (1 : Int32)) eP_onDuty_58 (by decide) ?_
        refine v_iload X (pc := 59) 4 rfl eP_onDuty_59 ?_
        refine v_ishl X (pc := 61) eP_onDuty_61 ?_
        refine v_ior X (pc := 62) eP_onDuty_62 ?_
        refine v_istore X (pc := 63) (lv' := [(5, _), (0, _), (3, _), (4, _), (6, _)]) eP_onDuty_63 (Nat.le_of_ble_eq_true rfl) rfl ?_
        refine v_iinc X (pc := 65) (v := (x6 + (1 : Int32))) (lv' := [(6, _), (5, _), (0, _), (3, _), (4, _)]) 4 rfl (by rfl) eP_onDuty_65 (Nat.le_of_ble_eq_true rfl) rfl ?_
        refine v_goto X (pc := 68) (tgt := 19) eP_onDuty_68 (by decide) ?_
        exact v_sub [2, 3, 4, 1, 0] rfl (ih _ _ _ _ _ _ hq0 h)
    · refine v_iload X (pc := 71) 3 rfl eP_onDuty_71 ?_
      exact v_iret X (pc := 73) h hr eP_onDuty_73
set_option maxHeartbeats 4000000 in
set_option maxRecDepth 100000 in
theorem cP_onDuty {f : Nat} {q0 : Nat} {a1 : Int32} {a2 : Int32} {mem : Mem} {o : Int32} {mem' : Mem} (hq0 : q0 < 3) (h : dP_onDuty f q0 a1 a2 mem = some (o, mem')) : RT yP_onDuty prog_2_method_9_code 7 (Option.some Jvm.ClassFile.FieldType.int) (rmM 1 27) [aR 1 q0, aI a1, aI a2] mem (some (aI o)) mem' := by
  refine RT.of (by decide +kernel) (Nat.le_of_ble_eq_true rfl) (fun p l e s m args below meth c k X hr => ?_)
  replace X : CX p s m args meth c k prog_2_method_9_code 7 "WallShifts$Palace" := X
  unfold dP_onDuty at h
  refine v_sub (lv' := [(0, _), (1, _), (2, _)]) [0, 1, 2] rfl ?_
  refine v_iload_n X (pc := 0) 1 rfl eP_onDuty_0 rfl ?_
  refine v_iload_n X (pc := 1) 2 rfl eP_onDuty_1 rfl ?_
  obtain ⟨r1, m1, hc1, h⟩ := bd_some h
  refine v_callN X (pc := 2) [_, _] [] ok_N_P_40 (cW_quarterOf  hc1) rfl (Nat.le_of_ble_eq_true rfl) ⟨Nat.le_of_ble_eq_true rfl, Nat.le_of_ble_eq_true rfl⟩ ⟨Nat.zero_le _, Nat.zero_le _⟩ eP_onDuty_2 ?_
  refine v_istore_n X (pc := 5) (lv' := [(3, _), (0, _), (1, _), (2, _)]) eP_onDuty_5 rfl (Nat.le_of_ble_eq_true rfl) rfl ?_
  refine v_iload_n X (pc := 6) 2 rfl eP_onDuty_6 rfl ?_
  refine v_iload_n X (pc := 7) 3 rfl eP_onDuty_7 rfl ?_
  obtain ⟨r2, m2, hc2, h⟩ := bd_some h
  refine v_callN X (pc := 8) [_, _] [] ok_N_P_43 (cW_restOf  hc2) rfl (Nat.le_of_ble_eq_true rfl) ⟨Nat.le_of_ble_eq_true rfl, Nat.le_of_ble_eq_true rfl⟩ ⟨Nat.zero_le _, Nat.zero_le _⟩ eP_onDuty_8 ?_
  refine v_istore X (pc := 11) (lv' := [(4, _), (3, _), (0, _), (1, _), (2, _)]) eP_onDuty_11 (Nat.le_of_ble_eq_true rfl) rfl ?_
  refine v_iconst X (pc := 13) (v := (0 : Int32)) eP_onDuty_13 (by decide) ?_
  refine v_istore X (pc := 14) (lv' := [(5, _), (4, _), (3, _), (0, _), (1, _), (2, _)]) eP_onDuty_14 (Nat.le_of_ble_eq_true rfl) rfl ?_
  refine v_iconst X (pc := 16) (v := (0 : Int32)) eP_onDuty_16 (by decide) ?_
  refine v_istore X (pc := 17) (lv' := [(6, _), (5, _), (4, _), (3, _), (0, _), (1, _), (2, _)]) eP_onDuty_17 (Nat.le_of_ble_eq_true rfl) rfl ?_
  exact v_sub [4, 3, 2, 1, 0] rfl (cP_onDuty_19 X hr _ _ _ _ _ _ _ hq0 h)
set_option maxHeartbeats 4000000 in
set_option maxRecDepth 100000 in
theorem cW_becomes {f : Nat} {q0 : Nat} {a1 : Int32} {mem : Mem} {o : Int32} {mem' : Mem} (hq0 : q0 < 30) (h : dW_becomes f q0 a1 mem = some (o, mem')) : RT yW_becomes prog_1_method_57_code 2 (Option.some Jvm.ClassFile.FieldType.int) (rmM 0 0) [aR 4 q0, aI a1] mem (some (aI o)) mem' := by
  refine RT.of (by decide +kernel) (Nat.le_of_ble_eq_true rfl) (fun p l e s m args below meth c k X hr => ?_)
  replace X : CX p s m args meth c k prog_1_method_57_code 2 "WallShifts" := X
  unfold dW_becomes at h
  refine v_sub (lv' := [(0, _), (1, _)]) [0, 1] rfl ?_
  refine v_aload_n X (pc := 0) 0 rfl eW_becomes_0 rfl ?_
  refine v_iconst X (pc := 1) (v := (0 : Int32)) eW_becomes_1 (by decide) ?_
  refine v_ialdK X (pc := 2) (n := 6) 0 (by decide) (by decide) (by decide) hq0 rfl eW_becomes_2 ?_
  by_cases g2 : (gI mem 4 q0 0) = (2 : Int32)
  · have h := it_t h g2
    refine v_tsw X (pc := 3) (tgt := 32) (2 : Int32) g2 eW_becomes_3 (by decide) (by decide) rfl (by decide) ?_
    refine v_iload_n X (pc := 32) 1 rfl eW_becomes_32 rfl ?_
    refine v_iconst X (pc := 33) (v := (1 : Int32)) eW_becomes_33 (by decide) ?_
    refine v_ixor X (pc := 34) eW_becomes_34 ?_
    exact v_iret X (pc := 35) h hr eW_becomes_35
  have h := it_f h g2
  by_cases g3 : (gI mem 4 q0 0) = (3 : Int32)
  · have h := it_t h g3
    refine v_tsw X (pc := 3) (tgt := 61) (3 : Int32) g3 eW_becomes_3 (by decide) (by decide) rfl (by decide) ?_
    refine v_iload_n X (pc := 61) 1 rfl eW_becomes_61 rfl ?_
    exact v_iret X (pc := 62) h hr eW_becomes_62
  have h := it_f h g3
  by_cases g4 : (gI mem 4 q0 0) = (4 : Int32)
  · have h := it_t h g4
    refine v_tsw X (pc := 3) (tgt := 36) (4 : Int32) g4 eW_becomes_3 (by decide) (by decide) rfl (by decide) ?_
    refine v_iload_n X (pc := 36) 1 rfl eW_becomes_36 rfl ?_
    refine v_iconst X (pc := 37) (v := (4 : Int32)) eW_becomes_37 (by decide) ?_
    refine v_icmp_ge X (pc := 38) (tgt := 45) h eW_becomes_38 (by decide) (fun h => ?_) (fun h => ?_)
    · refine v_iconst X (pc := 41) (v := (-1 : Int32)) eW_becomes_41 (by decide) ?_
      refine v_goto X (pc := 42) (tgt := 46) eW_becomes_42 (by decide) ?_
      exact v_iret X (pc := 46) h hr eW_becomes_46
    · refine v_iload_n X (pc := 45) 1 rfl eW_becomes_45 rfl ?_
      exact v_iret X (pc := 46) h hr eW_becomes_46
  have h := it_f h g4
  by_cases g5 : (gI mem 4 q0 0) = (5 : Int32)
  · have h := it_t h g5
    refine v_tsw X (pc := 3) (tgt := 47) (5 : Int32) g5 eW_becomes_3 (by decide) (by decide) rfl (by decide) ?_
    refine v_aload_n X (pc := 47) 0 rfl eW_becomes_47 rfl ?_
    refine v_iconst X (pc := 48) (v := (5 : Int32)) eW_becomes_48 (by decide) ?_
    refine v_ialdK X (pc := 49) (n := 6) 5 (by decide) (by decide) (by decide) hq0 rfl eW_becomes_49 ?_
    refine v_if_ne X (pc := 50) (tgt := 57) h eW_becomes_50 (by decide) (fun h => ?_) (fun h => ?_)
    · refine v_iload_n X (pc := 53) 1 rfl eW_becomes_53 rfl ?_
      refine v_goto X (pc := 54) (tgt := 60) eW_becomes_54 (by decide) ?_
      exact v_iret X (pc := 60) h hr eW_becomes_60
    · refine v_iload_n X (pc := 57) 1 rfl eW_becomes_57 rfl ?_
      refine v_iconst X (pc := 58) (v := (1 : Int32)) eW_becomes_58 (by decide) ?_
      refine v_ixor X (pc := 59) eW_becomes_59 ?_
      exact v_iret X (pc := 60) h hr eW_becomes_60
  have h := it_f h g5
  refine v_tswD X (pc := 3) (tgt := 61) (tsw_out_2_5 g2 g3 g4 g5) eW_becomes_3 (by decide) ?_
  refine v_iload_n X (pc := 61) 1 rfl eW_becomes_61 rfl ?_
  exact v_iret X (pc := 62) h hr eW_becomes_62
set_option maxHeartbeats 4000000 in
set_option maxRecDepth 100000 in
theorem cP_isAwake {f : Nat} {q0 : Nat} {q1 : Nat} {mem : Mem} {o : Int32} {mem' : Mem} (hq0 : q0 < 3) (hq1 : q1 < 30) (h : dP_isAwake f q0 q1 mem = some (o, mem')) : RT yP_isAwake prog_2_method_6_code 2 (Option.some Jvm.ClassFile.FieldType.boolean) (rmM 0 0) [aR 1 q0, aR 4 q1] mem (some (aI o)) mem' := by
  refine RT.of (by decide +kernel) (Nat.le_of_ble_eq_true rfl) (fun p l e s m args below meth c k X hr => ?_)
  replace X : CX p s m args meth c k prog_2_method_6_code 2 "WallShifts$Palace" := X
  unfold dP_isAwake at h
  refine v_sub (lv' := [(0, _), (1, _)]) [0, 1] rfl ?_
  refine v_aload_n X (pc := 0) 1 rfl eP_isAwake_0 rfl ?_
  refine v_iconst X (pc := 1) (v := (5 : Int32)) eP_isAwake_1 (by decide) ?_
  refine v_ialdK X (pc := 2) (n := 6) 5 (by decide) (by decide) (by decide) hq1 rfl eP_isAwake_2 ?_
  refine v_aload_n X (pc := 3) 0 rfl eP_isAwake_3 rfl ?_
  refine v_get X (pc := 4) 1 (a := aR 2 q0) (by decide) hq0 rfl rfl rfl in_Palace (by decide) qw_32 rfl eP_isAwake_4 ?_
  refine v_iconst X (pc := 7) (v := (3 : Int32)) eP_isAwake_7 (by decide) ?_
  refine v_ialdK X (pc := 8) (n := 4) 3 (by decide) (by decide) (by decide) hq0 rfl eP_isAwake_8 ?_
  refine v_icmp_ge X (pc := 9) (tgt := 16) h eP_isAwake_9 (by decide) (fun h => ?_) (fun h => ?_)
  · refine v_iconst X (pc := 12) (v := (1 : Int32)) eP_isAwake_12 (by decide) ?_
    refine v_goto X (pc := 13) (tgt := 17) eP_isAwake_13 (by decide) ?_
    exact v_zret X (pc := 17) h hr rfl eP_isAwake_17
  · refine v_iconst X (pc := 16) (v := (0 : Int32)) eP_isAwake_16 (by decide) ?_
    exact v_zret X (pc := 17) h hr rfl eP_isAwake_17
set_option maxHeartbeats 4000000 in
set_option maxRecDepth 100000 in
theorem cW_tires {f : Nat} {a0 : Int32} {mem : Mem} {o : Int32} {mem' : Mem}  (h : dW_tires f a0 mem = some (o, mem')) : RT yW_tires prog_1_method_56_code 1 (Option.some Jvm.ClassFile.FieldType.int) (rmM 0 0) [aI a0] mem (some (aI o)) mem' := by
  refine RT.of (by decide +kernel) (Nat.le_of_ble_eq_true rfl) (fun p l e s m args below meth c k X hr => ?_)
  replace X : CX p s m args meth c k prog_1_method_56_code 1 "WallShifts" := X
  unfold dW_tires at h
  refine v_sub (lv' := [(0, _)]) [0] rfl ?_
  refine v_iload_n X (pc := 0) 0 rfl eW_tires_0 rfl ?_
  by_cases g3 : a0 = (3 : Int32)
  · have h := it_t h g3
    refine v_tsw X (pc := 1) (tgt := 28) (3 : Int32) g3 eW_tires_1 (by decide) (by decide) rfl (by decide) ?_
    refine v_iconst X (pc := 28) (v := (2 : Int32)) eW_tires_28 (by decide) ?_
    exact v_iret X (pc := 29) h hr eW_tires_29
  have h := it_f h g3
  by_cases g4 : a0 = (4 : Int32)
  · have h := it_t h g4
    refine v_tsw X (pc := 1) (tgt := 30) (4 : Int32) g4 eW_tires_1 (by decide) (by decide) rfl (by decide) ?_
    refine v_iconst X (pc := 30) (v := (0 : Int32)) eW_tires_30 (by decide) ?_
    exact v_iret X (pc := 31) h hr eW_tires_31
  have h := it_f h g4
  by_cases g5 : a0 = (5 : Int32)
  · have h := it_t h g5
    refine v_tsw X (pc := 1) (tgt := 28) (5 : Int32) g5 eW_tires_1 (by decide) (by decide) rfl (by decide) ?_
    refine v_iconst X (pc := 28) (v := (2 : Int32)) eW_tires_28 (by decide) ?_
    exact v_iret X (pc := 29) h hr eW_tires_29
  have h := it_f h g5
  refine v_tswD X (pc := 1) (tgt := 32) (tsw_out_3_5 g3 g4 g5) eW_tires_1 (by decide) ?_
  refine v_iconst X (pc := 32) (v := (1 : Int32)) eW_tires_32 (by decide) ?_
  exact v_iret X (pc := 33) h hr eW_tires_33
set_option maxHeartbeats 4000000 in
set_option maxRecDepth 100000 in
theorem cP_utter_23 {p : Program} {l : Launch} {e : Env} {s : State} {m : MethodId} {args : Array Value} {below : List Frame} {meth : Method} {c : Code} {k : KK} {f : Nat} {o : Int32} {mem' : Mem} (X : CX p s m args meth c k prog_2_method_14_code 8 "WallShifts$Palace") (hr : meth.sig.returnType = (Option.some Jvm.ClassFile.FieldType.int)) : ∀ (n : Nat) (q0 : Nat) (x2 : Int32) (x3 : Int32) (x4 : Int32) (x5 : Int32) (mem : Mem), q0 < 3 → dP_utter_23 f n q0 x2 x3 x4 x5 mem = some (o, mem') → V p l e (rmM 2 53) s m args below meth c 0 0 (MQ below (RQc k (some (aI o)) mem') args s 0 0 (kA k)) k 8 mem 23 [(0, aR 1 q0), (2, aI x2), (3, aI x3), (4, aI x4), (5, aI x5)] [] := by
  intro n
  induction n with
  | zero =>
    intro q0 x2 x3 x4 x5 mem hq0 h
    exact nomatch (show (none : Option (Int32 × Mem)) = some _ from h)
  | succ n ih =>
    intro q0 x2 x3 x4 x5 mem hq0 h
    rw [dP_utter_23] at h
    refine v_iload X (pc := 23) 4 rfl eP_utter_23 ?_
    refine v_aload_n X (pc := 25) 0 rfl eP_utter_25 rfl ?_
    refine v_get X (pc := 26) 2 (a := aI (gI mem 1 q0 2)) (by decide) hq0 rfl rfl rfl in_Palace (by decide) qw_34 rfl eP_utter_26 ?_
    refine v_icmp_ge X (pc := 29) (tgt := 120) h eP_utter_29 (by decide) (fun h => ?_) (fun h => ?_)
    · refine v_aload_n X (pc := 32) 0 rfl eP_utter_32 rfl ?_
      refine v_get X (pc := 33) 3 (a := aR 3 q0) (by decide) hq0 rfl rfl rfl in_Palace (by decide) qw_36 rfl eP_utter_33 ?_
      refine v_iload X (pc := 36) 4 rfl eP_utter_36 ?_
      refine v_aaldW X (pc := 38) h hq0 eP_utter_38 (fun hb1 h => ?_)
      refine v_astore X (pc := 39) (lv' := [(6, _), (0, _), (2, _), (3, _), (4, _), (5, _)]) eP_utter_39 (Nat.le_of_ble_eq_true rfl) rfl ?_
      refine v_aload X (pc := 41) 0 rfl eP_utter_41 ?_
      refine v_iload_n X (pc := 43) 2 rfl eP_utter_43 rfl ?_
      obtain ⟨r2, m2, hc2, h⟩ := bd_some h
      refine v_callN X (pc := 44) [_, _] [] ok_N_P_58 (cW_becomes hb1 hc2) rfl (Nat.le_of_ble_eq_true rfl) ⟨Nat.le_of_ble_eq_true rfl, Nat.le_of_ble_eq_true rfl⟩ ⟨Nat.zero_le _, Nat.zero_le _⟩ eP_utter_44 ?_
      refine v_istore X (pc := 47) (lv' := [(7, _), (6, _), (0, _), (2, _), (3, _), (4, _), (5, _)]) eP_utter_47 (Nat.le_of_ble_eq_true rfl) rfl ?_
      refine v_iload_n X (pc := 49) 4 rfl eP_utter_49 rfl ?_
      refine v_iload X (pc := 50) 6 rfl eP_utter_50 ?_
      refine v_ishr X (pc := 52) eP_utter_52 ?_
      refine v_iconst X (pc := 53) (v := (1 : Int32)) eP_utter_53 (by decide) ?_
      refine v_iand X (pc := 54) eP_utter_54 ?_
      refine v_iconst X (pc := 55) (v := (1 : Int32)) eP_utter_55 (by decide) ?_
      refine v_icmp_ne X (pc := 56) (tgt := 114) h eP_utter_56 (by decide) (fun h => ?_) (fun h => ?_)
      · refine v_aload_n X (pc := 59) 2 rfl eP_utter_59 rfl ?_
        refine v_aload X (pc := 60) 1 rfl eP_utter_60 ?_
        obtain ⟨r3, m3, hc3, h⟩ := bd_some h
        refine v_callV X (pc := 62) [_] [] ok_V_P_62 (cP_isAwake hq0 hb1 hc3) rfl (Nat.le_of_ble_eq_true rfl) ⟨Nat.le_of_ble_eq_true rfl, Nat.le_of_ble_eq_true rfl⟩ ⟨Nat.zero_le _, Nat.zero_le _⟩ (by decide) hq0 rfl rfl eP_utter_62 ?_
        refine v_if_eq X (pc := 65) (tgt := 114) h eP_utter_65 (by decide) (fun h => ?_) (fun h => ?_)
        · refine v_iinc X (pc := 114) (v := (x5 + (1 : Int32))) (lv' := [(5, _), (7, _), (6, _), (0, _), (2, _), (3, _), (4, _)]) 6 rfl (by rfl) eP_utter_114 (Nat.le_of_ble_eq_true rfl) rfl ?_
          refine v_goto X (pc := 117) (tgt := 23) eP_utter_117 (by decide) ?_
          exact v_sub [3, 4, 5, 6, 0] rfl (ih _ _ _ _ _ _ hq0 h)
        · refine v_iload X (pc := 68) 0 rfl eP_utter_68 ?_
          refine v_if_lt X (pc := 70) (tgt := 114) h eP_utter_70 (by decide) (fun h => ?_) (fun h => ?_)
          · refine v_iinc X (pc := 114) (v := (x5 + (1 : Int32))) (lv' := [(5, _), (7, _), (6, _), (0, _), (2, _), (3, _), (4, _)]) 6 rfl (by rfl) eP_utter_114 (Nat.le_of_ble_eq_true rfl) rfl ?_
            refine v_goto X (pc := 117) (tgt := 23) eP_utter_117 (by decide) ?_
            exact v_sub [3, 4, 5, 6, 0] rfl (ih _ _ _ _ _ _ hq0 h)
          · refine v_aload X (pc := 73) 1 rfl eP_utter_73 ?_
            refine v_iconst X (pc := 75) (v := (4 : Int32)) eP_utter_75 (by decide) ?_
            refine v_dup2 X (pc := 76) rfl rfl eP_utter_76 ?_
            refine v_ialdK X (pc := 77) (n := 6) 4 (by decide) (by decide) (by decide) hb1 rfl eP_utter_77 ?_
            refine v_iconst X (pc := 78) (v := (1 : Int32)) eP_utter_78 (by decide) ?_
            refine v_iload X (pc := 79) 0 rfl eP_utter_79 ?_
            refine v_ishl X (pc := 81) eP_utter_81 ?_
            refine v_ior X (pc := 82) eP_utter_82 ?_
            refine v_iastK X (pc := 83) (n := 6) 4 (by decide) (by decide) (by decide) hb1 (fun _ => rfl) eP_utter_83 ?_
            refine v_aload X (pc := 84) 1 rfl eP_utter_84 ?_
            refine v_iconst X (pc := 86) (v := (5 : Int32)) eP_utter_86 (by decide) ?_
            refine v_bipush X (pc := 87) (v := (99 : Int32)) eP_utter_87 (by decide) ?_
            refine v_aload X (pc := 89) 1 rfl eP_utter_89 ?_
            refine v_iconst X (pc := 91) (v := (5 : Int32)) eP_utter_91 (by decide) ?_
            refine v_ialdK X (pc := 92) (n := 6) 5 (by decide) (by decide) (by decide) hb1 rfl eP_utter_92 ?_
            refine v_aload X (pc := 93) 1 rfl eP_utter_93 ?_
            refine v_iconst X (pc := 95) (v := (0 : Int32)) eP_utter_95 (by decide) ?_
            refine v_ialdK X (pc := 96) (n := 6) 0 (by decide) (by decide) (by decide) hb1 rfl eP_utter_96 ?_
            obtain ⟨r4, m4, hc4, h⟩ := bd_some h
            refine v_callN X (pc := 97) [_] [_, _, _, _] ok_N_P_66 (cW_tires  hc4) rfl (Nat.le_of_ble_eq_true rfl) ⟨Nat.le_of_ble_eq_true rfl, Nat.le_of_ble_eq_true rfl⟩ ⟨Nat.zero_le _, Nat.zero_le _⟩ eP_utter_97 ?_
            refine v_iadd X (pc := 100) eP_utter_100 ?_
            refine v_mmin X (pc := 101) okM_P_69 [_, _] (Nat.le_of_ble_eq_true rfl) (Nat.le_of_ble_eq_true rfl) ⟨Nat.zero_le _, Nat.zero_le _⟩ eP_utter_101 ?_
            refine v_iastK X (pc := 104) (n := 6) 5 (by decide) (by decide) (by decide) hb1 (fun _ => rfl) eP_utter_104 ?_
            refine v_iload X (pc := 105) 5 rfl eP_utter_105 ?_
            refine v_iconst X (pc := 107) (v := (1 : Int32)) eP_utter_107 (by decide) ?_
            refine v_iload X (pc := 108) 6 rfl eP_utter_108 ?_
            refine v_ishl X (pc := 110) eP_utter_110 ?_
            refine v_ior X (pc := 111) eP_utter_111 ?_
            refine v_istore X (pc := 112) (lv' := [(4, _), (7, _), (6, _), (0, _), (2, _), (3, _), (5, _)]) eP_utter_112 (Nat.le_of_ble_eq_true rfl) rfl ?_
            refine v_iinc X (pc := 114) (v := (x5 + (1 : Int32))) (lv' := [(5, _), (4, _), (7, _), (6, _), (0, _), (2, _), (3, _)]) 6 rfl (by rfl) eP_utter_114 (Nat.le_of_ble_eq_true rfl) rfl ?_
            refine v_goto X (pc := 117) (tgt := 23) eP_utter_117 (by decide) ?_
            exact v_sub [4, 5, 6, 1, 0] rfl (ih _ _ _ _ _ _ hq0 h)
      · refine v_iinc X (pc := 114) (v := (x5 + (1 : Int32))) (lv' := [(5, _), (7, _), (6, _), (0, _), (2, _), (3, _), (4, _)]) 6 rfl (by rfl) eP_utter_114 (Nat.le_of_ble_eq_true rfl) rfl ?_
        refine v_goto X (pc := 117) (tgt := 23) eP_utter_117 (by decide) ?_
        exact v_sub [3, 4, 5, 6, 0] rfl (ih _ _ _ _ _ _ hq0 h)
    · refine v_iload X (pc := 120) 3 rfl eP_utter_120 ?_
      exact v_iret X (pc := 122) h hr eP_utter_122
end
section
/-! GENERATED: the walks. -/
set_option maxHeartbeats 4000000 in
set_option maxRecDepth 100000 in
theorem cP_utter {f : Nat} {q0 : Nat} {a1 : Int32} {a2 : Int32} {mem : Mem} {o : Int32} {mem' : Mem} (hq0 : q0 < 3) (h : dP_utter f q0 a1 a2 mem = some (o, mem')) : RT yP_utter prog_2_method_14_code 8 (Option.some Jvm.ClassFile.FieldType.int) (rmM 2 53) [aR 1 q0, aI a1, aI a2] mem (some (aI o)) mem' := by
  refine RT.of (by decide +kernel) (Nat.le_of_ble_eq_true rfl) (fun p l e s m args below meth c k X hr => ?_)
  replace X : CX p s m args meth c k prog_2_method_14_code 8 "WallShifts$Palace" := X
  unfold dP_utter at h
  refine v_sub (lv' := [(0, _), (1, _), (2, _)]) [0, 1, 2] rfl ?_
  refine v_iload_n X (pc := 0) 1 rfl eP_utter_0 rfl ?_
  refine v_aload_n X (pc := 1) 0 rfl eP_utter_1 rfl ?_
  refine v_aload_n X (pc := 2) 0 rfl eP_utter_2 rfl ?_
  refine v_get X (pc := 3) 0 (a := aI (gI mem 1 q0 0)) (by decide) hq0 rfl rfl rfl in_Palace (by decide) qw_30 rfl eP_utter_3 ?_
  refine v_aload_n X (pc := 6) 0 rfl eP_utter_6 rfl ?_
  refine v_get X (pc := 7) 1 (a := aR 2 q0) (by decide) hq0 rfl rfl rfl in_Palace (by decide) qw_32 rfl eP_utter_7 ?_
  refine v_iconst X (pc := 10) (v := (0 : Int32)) eP_utter_10 (by decide) ?_
  refine v_ialdK X (pc := 11) (n := 4) 0 (by decide) (by decide) (by decide) hq0 rfl eP_utter_11 ?_
  obtain ⟨r1, m1, hc1, h⟩ := bd_some h
  refine v_callV X (pc := 12) [_, _] [_] ok_V_P_36 (cP_onDuty hq0 hc1) rfl (Nat.le_of_ble_eq_true rfl) ⟨Nat.le_of_ble_eq_true rfl, Nat.le_of_ble_eq_true rfl⟩ ⟨Nat.zero_le _, Nat.zero_le _⟩ (by decide) hq0 rfl rfl eP_utter_12 ?_
  refine v_iand X (pc := 15) eP_utter_15 ?_
  refine v_istore_n X (pc := 16) (lv' := [(3, _), (0, _), (1, _), (2, _)]) eP_utter_16 rfl (Nat.le_of_ble_eq_true rfl) rfl ?_
  refine v_iconst X (pc := 17) (v := (0 : Int32)) eP_utter_17 (by decide) ?_
  refine v_istore X (pc := 18) (lv' := [(4, _), (3, _), (0, _), (1, _), (2, _)]) eP_utter_18 (Nat.le_of_ble_eq_true rfl) rfl ?_
  refine v_iconst X (pc := 20) (v := (0 : Int32)) eP_utter_20 (by decide) ?_
  refine v_istore X (pc := 21) (lv' := [(5, _), (4, _), (3, _), (0, _), (1, _), (2, _)]) eP_utter_21 (Nat.le_of_ble_eq_true rfl) rfl ?_
  exact v_sub [3, 5, 2, 1, 0] rfl (cP_utter_23 X hr _ _ _ _ _ _ _ hq0 h)
set_option maxHeartbeats 4000000 in
set_option maxRecDepth 100000 in
theorem cW_say {f : Nat} {a1 : Int32} {a2 : Int32} {mem : Mem} {o : Int32} {mem' : Mem}  (h : dW_say f a1 a2 mem = some (o, mem')) : RT yW_say prog_1_method_9_code 3 (Option.some Jvm.ClassFile.FieldType.int) (rmM 3 80) [aR 0 0, aI a1, aI a2] mem (some (aI o)) mem' := by
  refine RT.of (by decide +kernel) (Nat.le_of_ble_eq_true rfl) (fun p l e s m args below meth c k X hr => ?_)
  replace X : CX p s m args meth c k prog_1_method_9_code 3 "WallShifts" := X
  unfold dW_say at h
  refine v_sub (lv' := [(0, _), (1, _), (2, _)]) [0, 1, 2] rfl ?_
  refine v_iload_n X (pc := 0) 1 rfl eW_say_0 rfl ?_
  obtain ⟨r1, m1, hc1, h⟩ := bd_some h
  refine v_callS X (pc := 1) [_] [] ok_S_W_63 (cW_isRoom  hc1) rfl (Nat.le_of_ble_eq_true rfl) ⟨Nat.le_of_ble_eq_true rfl, Nat.le_of_ble_eq_true rfl⟩ ⟨Nat.zero_le _, Nat.zero_le _⟩ eW_say_1 ?_
  refine v_if_eq X (pc := 4) (tgt := 14) h eW_say_4 (by decide) (fun h => ?_) (fun h => ?_)
  · refine v_aload_n X (pc := 14) 0 rfl eW_say_14 rfl ?_
    refine v_ldc X (pc := 15) qw_135 eW_say_15 ?_
    obtain ⟨r2, m2, hc2, h⟩ := bd_some h
    refine v_callV X (pc := 17) [_] [] ok_V_W_52 (cW_finding  hc2) rfl (Nat.le_of_ble_eq_true rfl) ⟨Nat.le_of_ble_eq_true rfl, Nat.le_of_ble_eq_true rfl⟩ ⟨Nat.zero_le _, Nat.zero_le _⟩ (by decide) (by decide) rfl rfl eW_say_17 ?_
    exact v_iret X (pc := 20) h hr eW_say_20
  · refine v_iload_n X (pc := 7) 2 rfl eW_say_7 rfl ?_
    obtain ⟨r3, m3, hc3, h⟩ := bd_some h
    refine v_callS X (pc := 8) [_] [] ok_S_W_111 (cW_isWord  hc3) rfl (Nat.le_of_ble_eq_true rfl) ⟨Nat.le_of_ble_eq_true rfl, Nat.le_of_ble_eq_true rfl⟩ ⟨Nat.zero_le _, Nat.zero_le _⟩ eW_say_8 ?_
    refine v_if_ne X (pc := 11) (tgt := 21) h eW_say_11 (by decide) (fun h => ?_) (fun h => ?_)
    · refine v_aload_n X (pc := 14) 0 rfl eW_say_14 rfl ?_
      refine v_ldc X (pc := 15) qw_135 eW_say_15 ?_
      obtain ⟨r4, m4, hc4, h⟩ := bd_some h
      refine v_callV X (pc := 17) [_] [] ok_V_W_52 (cW_finding  hc4) rfl (Nat.le_of_ble_eq_true rfl) ⟨Nat.le_of_ble_eq_true rfl, Nat.le_of_ble_eq_true rfl⟩ ⟨Nat.zero_le _, Nat.zero_le _⟩ (by decide) (by decide) rfl rfl eW_say_17 ?_
      exact v_iret X (pc := 20) h hr eW_say_20
    · refine v_aload_n X (pc := 21) 0 rfl eW_say_21 rfl ?_
      refine v_get X (pc := 22) 0 (a := aR 1 0) (by decide) (by decide) rfl rfl rfl in_WallShifts (by decide) qw_96 rfl eW_say_22 ?_
      refine v_aload_n X (pc := 25) 0 rfl eW_say_25 rfl ?_
      refine v_get X (pc := 26) 0 (a := aR 1 0) (by decide) (by decide) rfl rfl rfl in_WallShifts (by decide) qw_96 rfl eW_say_26 ?_
      refine v_iload_n X (pc := 29) 1 rfl eW_say_29 rfl ?_
      obtain ⟨r5, m5, hc5, h⟩ := bd_some h
      refine v_callV X (pc := 30) [_] [_] ok_V_W_119 (cP_near (by decide) hc5) rfl (Nat.le_of_ble_eq_true rfl) ⟨Nat.le_of_ble_eq_true rfl, Nat.le_of_ble_eq_true rfl⟩ ⟨Nat.zero_le _, Nat.zero_le _⟩ (by decide) (by decide) rfl rfl eW_say_30 ?_
      refine v_iload_n X (pc := 33) 2 rfl eW_say_33 rfl ?_
      obtain ⟨r6, m6, hc6, h⟩ := bd_some h
      refine v_callV X (pc := 34) [_, _] [] ok_V_W_122 (cP_utter (by decide) hc6) rfl (Nat.le_of_ble_eq_true rfl) ⟨Nat.le_of_ble_eq_true rfl, Nat.le_of_ble_eq_true rfl⟩ ⟨Nat.zero_le _, Nat.zero_le _⟩ (by decide) (by decide) rfl rfl eW_say_34 ?_
      exact v_iret X (pc := 37) h hr eW_say_37
set_option maxHeartbeats 4000000 in
set_option maxRecDepth 100000 in
theorem cP_goOn_31 {p : Program} {l : Launch} {e : Env} {s : State} {m : MethodId} {args : Array Value} {below : List Frame} {meth : Method} {c : Code} {k : KK} {f : Nat} {o : Unit} {mem' : Mem} (X : CX p s m args meth c k prog_2_method_16_code 3 "WallShifts$Palace") (hr : meth.sig.returnType = (Option.none : Option Jvm.ClassFile.FieldType)) : ∀ (n : Nat) (q0 : Nat) (x1 : Int32) (x2 : Int32) (mem : Mem), q0 < 3 → dP_goOn_31 f n q0 x1 x2 mem = some (o, mem') → V p l e (rmM 1 21) s m args below meth c 0 0 (MQ below (RQc k none mem') args s 0 0 (kA k)) k 3 mem 31 [(0, aR 1 q0), (1, aI x1), (2, aI x2)] [] := by
  intro n
  induction n with
  | zero =>
    intro q0 x1 x2 mem hq0 h
    exact nomatch (show (none : Option (Unit × Mem)) = some _ from h)
  | succ n ih =>
    intro q0 x1 x2 mem hq0 h
    rw [dP_goOn_31] at h
    refine v_iload_n X (pc := 31) 2 rfl eP_goOn_31 rfl ?_
    refine v_aload_n X (pc := 32) 0 rfl eP_goOn_32 rfl ?_
    refine v_get X (pc := 33) 2 (a := aI (gI mem 1 q0 2)) (by decide) hq0 rfl rfl rfl in_Palace (by decide) qw_34 rfl eP_goOn_33 ?_
    refine v_icmp_ge X (pc := 36) (tgt := 73) h eP_goOn_36 (by decide) (fun h => ?_) (fun h => ?_)
    · refine v_aload_n X (pc := 39) 0 rfl eP_goOn_39 rfl ?_
      refine v_get X (pc := 40) 3 (a := aR 3 q0) (by decide) hq0 rfl rfl rfl in_Palace (by decide) qw_36 rfl eP_goOn_40 ?_
      refine v_iload_n X (pc := 43) 2 rfl eP_goOn_43 rfl ?_
      refine v_aaldW X (pc := 44) h hq0 eP_goOn_44 (fun hb1 h => ?_)
      refine v_iconst X (pc := 45) (v := (3 : Int32)) eP_goOn_45 (by decide) ?_
      refine v_ialdK X (pc := 46) (n := 6) 3 (by decide) (by decide) (by decide) hb1 rfl eP_goOn_46 ?_
      refine v_aload_n X (pc := 47) 0 rfl eP_goOn_47 rfl ?_
      refine v_get X (pc := 48) 0 (a := aI (gI mem 1 q0 0)) (by decide) hq0 rfl rfl rfl in_Palace (by decide) qw_30 rfl eP_goOn_48 ?_
      refine v_iload_n X (pc := 51) 1 rfl eP_goOn_51 rfl ?_
      obtain ⟨r2, m2, hc2, h⟩ := bd_some h
      refine v_callN X (pc := 52) [_, _] [_] ok_N_P_40 (cW_quarterOf  hc2) rfl (Nat.le_of_ble_eq_true rfl) ⟨Nat.le_of_ble_eq_true rfl, Nat.le_of_ble_eq_true rfl⟩ ⟨Nat.zero_le _, Nat.zero_le _⟩ eP_goOn_52 ?_
      refine v_icmp_ne X (pc := 55) (tgt := 67) h eP_goOn_55 (by decide) (fun h => ?_) (fun h => ?_)
      · refine v_aload_n X (pc := 58) 0 rfl eP_goOn_58 rfl ?_
        refine v_get X (pc := 59) 3 (a := aR 3 q0) (by decide) hq0 rfl rfl rfl in_Palace (by decide) qw_36 rfl eP_goOn_59 ?_
        refine v_iload_n X (pc := 62) 2 rfl eP_goOn_62 rfl ?_
        refine v_aaldW X (pc := 63) h hq0 eP_goOn_63 (fun hb3 h => ?_)
        refine v_iconst X (pc := 64) (v := (5 : Int32)) eP_goOn_64 (by decide) ?_
        refine v_iconst X (pc := 65) (v := (0 : Int32)) eP_goOn_65 (by decide) ?_
        refine v_iastK X (pc := 66) (n := 6) 5 (by decide) (by decide) (by decide) hb3 (fun _ => rfl) eP_goOn_66 ?_
        refine v_iinc X (pc := 67) (v := (x2 + (1 : Int32))) (lv' := [(2, _), (0, _), (1, _)]) 2 rfl (by rfl) eP_goOn_67 (Nat.le_of_ble_eq_true rfl) rfl ?_
        refine v_goto X (pc := 70) (tgt := 31) eP_goOn_70 (by decide) ?_
        exact v_sub [1, 2, 0] rfl (ih _ _ _ _ hq0 h)
      · refine v_iinc X (pc := 67) (v := (x2 + (1 : Int32))) (lv' := [(2, _), (0, _), (1, _)]) 2 rfl (by rfl) eP_goOn_67 (Nat.le_of_ble_eq_true rfl) rfl ?_
        refine v_goto X (pc := 70) (tgt := 31) eP_goOn_70 (by decide) ?_
        exact v_sub [1, 2, 0] rfl (ih _ _ _ _ hq0 h)
    · exact v_vret X (pc := 73) h hr eP_goOn_73
set_option maxHeartbeats 4000000 in
set_option maxRecDepth 100000 in
theorem cP_goOn {f : Nat} {q0 : Nat} {mem : Mem} {o : Unit} {mem' : Mem} (hq0 : q0 < 3) (h : dP_goOn f q0 mem = some (o, mem')) : RT yP_goOn prog_2_method_16_code 3 (Option.none : Option Jvm.ClassFile.FieldType) (rmM 1 21) [aR 1 q0] mem none mem' := by
  refine RT.of (by decide +kernel) (Nat.le_of_ble_eq_true rfl) (fun p l e s m args below meth c k X hr => ?_)
  replace X : CX p s m args meth c k prog_2_method_16_code 3 "WallShifts$Palace" := X
  unfold dP_goOn at h
  refine v_sub (lv' := [(0, _)]) [0] rfl ?_
  refine v_aload_n X (pc := 0) 0 rfl eP_goOn_0 rfl ?_
  refine v_dup X (pc := 1) rfl eP_goOn_1 ?_
  refine v_get X (pc := 2) 0 (a := aI (gI mem 1 q0 0)) (by decide) hq0 rfl rfl rfl in_Palace (by decide) qw_30 rfl eP_goOn_2 ?_
  refine v_iconst X (pc := 5) (v := (1 : Int32)) eP_goOn_5 (by decide) ?_
  refine v_iadd X (pc := 6) eP_goOn_6 ?_
  refine v_put X (pc := 7) 0 (mem' := (sI mem 1 q0 0 ((gI mem 1 q0 0) + (1 : Int32)))) (by decide) hq0 rfl (pf_1_0 _ _ _ _ _) rowI_ne rfl in_Palace ty_Palace_ok nm_Palace (by decide) qw_30 rfl rfl rfl (Nat.le_of_ble_eq_true rfl) eP_goOn_7 ?_
  refine v_aload_n X (pc := 10) 0 rfl eP_goOn_10 rfl ?_
  refine v_get X (pc := 11) 1 (a := aR 2 q0) (by decide) hq0 rfl rfl rfl in_Palace (by decide) qw_32 rfl eP_goOn_11 ?_
  refine v_iconst X (pc := 14) (v := (0 : Int32)) eP_goOn_14 (by decide) ?_
  refine v_ialdK X (pc := 15) (n := 4) 0 (by decide) (by decide) (by decide) hq0 rfl eP_goOn_15 ?_
  refine v_istore_n X (pc := 16) (lv' := [(1, _), (0, _)]) eP_goOn_16 rfl (Nat.le_of_ble_eq_true rfl) rfl ?_
  refine v_aload_n X (pc := 17) 1 rfl eP_goOn_17 rfl ?_
  refine v_get X (pc := 18) 0 (a := aI (gI (sI mem 1 q0 0 ((gI mem 1 q0 0) + (1 : Int32))) 1 q0 0)) (by decide) hq0 rfl rfl rfl in_Palace (by decide) qw_30 rfl eP_goOn_18 ?_
  refine v_iload_n X (pc := 21) 0 rfl eP_goOn_21 rfl ?_
  obtain ⟨r1, m1, hc1, h⟩ := bd_some h
  refine v_callN X (pc := 22) [_, _] [] ok_N_P_43 (cW_restOf  hc1) rfl (Nat.le_of_ble_eq_true rfl) ⟨Nat.le_of_ble_eq_true rfl, Nat.le_of_ble_eq_true rfl⟩ ⟨Nat.zero_le _, Nat.zero_le _⟩ eP_goOn_22 ?_
  refine v_if_eq X (pc := 25) (tgt := 29) h eP_goOn_25 (by decide) (fun h => ?_) (fun h => ?_)
  · refine v_iconst X (pc := 29) (v := (0 : Int32)) eP_goOn_29 (by decide) ?_
    refine v_istore_n X (pc := 30) (lv' := [(2, _), (1, _), (0, _)]) eP_goOn_30 rfl (Nat.le_of_ble_eq_true rfl) rfl ?_
    exact v_sub [2, 1, 0] rfl (cP_goOn_31 X hr _ _ _ _ _ hq0 h)
  · exact v_vret X (pc := 28) h hr eP_goOn_28
set_option maxHeartbeats 4000000 in
set_option maxRecDepth 100000 in
theorem cW_pass_41 {p : Program} {l : Launch} {e : Env} {s : State} {m : MethodId} {args : Array Value} {below : List Frame} {meth : Method} {c : Code} {k : KK} {f : Nat} {o : Int32} {mem' : Mem} (X : CX p s m args meth c k prog_1_method_10_code 3 "WallShifts") (hr : meth.sig.returnType = (Option.some Jvm.ClassFile.FieldType.int)) : ∀ (n : Nat) (x1 : Int32) (x2 : Int32) (mem : Mem), dW_pass_41 f n x1 x2 mem = some (o, mem') → V p l e (rmM 2 44) s m args below meth c 0 0 (MQ below (RQc k (some (aI o)) mem') args s 0 0 (kA k)) k 3 mem 41 [(0, aR 0 0), (1, aI x1), (2, aI x2)] [] := by
  intro n
  induction n with
  | zero =>
    intro x1 x2 mem  h
    exact nomatch (show (none : Option (Int32 × Mem)) = some _ from h)
  | succ n ih =>
    intro x1 x2 mem  h
    rw [dW_pass_41] at h
    refine v_iload_n X (pc := 41) 2 rfl eW_pass_41 rfl ?_
    refine v_iload_n X (pc := 42) 1 rfl eW_pass_42 rfl ?_
    refine v_icmp_ge X (pc := 43) (tgt := 59) h eW_pass_43 (by decide) (fun h => ?_) (fun h => ?_)
    · refine v_aload_n X (pc := 46) 0 rfl eW_pass_46 rfl ?_
      refine v_get X (pc := 47) 0 (a := aR 1 0) (by decide) (by decide) rfl rfl rfl in_WallShifts (by decide) qw_96 rfl eW_pass_47 ?_
      obtain ⟨r1, m1, hc1, h⟩ := bd_some h
      refine v_callV X (pc := 50) [] [] ok_V_W_128 (cP_goOn (by decide) hc1) rfl (Nat.le_of_ble_eq_true rfl) ⟨Nat.le_of_ble_eq_true rfl, Nat.le_of_ble_eq_true rfl⟩ ⟨Nat.zero_le _, Nat.zero_le _⟩ (by decide) (by decide) rfl rfl eW_pass_50 ?_
      refine v_iinc X (pc := 53) (v := (x2 + (1 : Int32))) (lv' := [(2, _), (0, _), (1, _)]) 2 rfl (by rfl) eW_pass_53 (Nat.le_of_ble_eq_true rfl) rfl ?_
      refine v_goto X (pc := 56) (tgt := 41) eW_pass_56 (by decide) ?_
      exact v_sub [1, 2, 0] rfl (ih _ _ _  h)
    · refine v_aload_n X (pc := 59) 0 rfl eW_pass_59 rfl ?_
      refine v_get X (pc := 60) 0 (a := aR 1 0) (by decide) (by decide) rfl rfl rfl in_WallShifts (by decide) qw_96 rfl eW_pass_60 ?_
      refine v_get X (pc := 63) 0 (a := aI (gI mem 1 0 0)) (by decide) (by decide) rfl rfl rfl in_Palace (by decide) qw_31 rfl eW_pass_63 ?_
      exact v_iret X (pc := 66) h hr eW_pass_66
set_option maxHeartbeats 4000000 in
set_option maxRecDepth 100000 in
theorem cW_pass {f : Nat} {a1 : Int32} {mem : Mem} {o : Int32} {mem' : Mem}  (h : dW_pass f a1 mem = some (o, mem')) : RT yW_pass prog_1_method_10_code 3 (Option.some Jvm.ClassFile.FieldType.int) (rmM 2 44) [aR 0 0, aI a1] mem (some (aI o)) mem' := by
  refine RT.of (by decide +kernel) (Nat.le_of_ble_eq_true rfl) (fun p l e s m args below meth c k X hr => ?_)
  replace X : CX p s m args meth c k prog_1_method_10_code 3 "WallShifts" := X
  unfold dW_pass at h
  refine v_sub (lv' := [(0, _), (1, _)]) [0, 1] rfl ?_
  refine v_iload_n X (pc := 0) 1 rfl eW_pass_0 rfl ?_
  refine v_iconst X (pc := 1) (v := (1 : Int32)) eW_pass_1 (by decide) ?_
  refine v_sipush X (pc := 2) (v := (240 : Int32)) eW_pass_2 (by decide) ?_
  obtain ⟨r1, m1, hc1, h⟩ := bd_some h
  refine v_callS X (pc := 5) [_, _, _] [] ok_S_W_82 (cW_isIn  hc1) rfl (Nat.le_of_ble_eq_true rfl) ⟨Nat.le_of_ble_eq_true rfl, Nat.le_of_ble_eq_true rfl⟩ ⟨Nat.zero_le _, Nat.zero_le _⟩ eW_pass_5 ?_
  refine v_if_ne X (pc := 8) (tgt := 18) h eW_pass_8 (by decide) (fun h => ?_) (fun h => ?_)
  · refine v_aload_n X (pc := 11) 0 rfl eW_pass_11 rfl ?_
    refine v_ldc X (pc := 12) qw_135 eW_pass_12 ?_
    obtain ⟨r2, m2, hc2, h⟩ := bd_some h
    refine v_callV X (pc := 14) [_] [] ok_V_W_52 (cW_finding  hc2) rfl (Nat.le_of_ble_eq_true rfl) ⟨Nat.le_of_ble_eq_true rfl, Nat.le_of_ble_eq_true rfl⟩ ⟨Nat.zero_le _, Nat.zero_le _⟩ (by decide) (by decide) rfl rfl eW_pass_14 ?_
    exact v_iret X (pc := 17) h hr eW_pass_17
  · refine v_aload_n X (pc := 18) 0 rfl eW_pass_18 rfl ?_
    refine v_get X (pc := 19) 0 (a := aR 1 0) (by decide) (by decide) rfl rfl rfl in_WallShifts (by decide) qw_96 rfl eW_pass_19 ?_
    refine v_get X (pc := 22) 0 (a := aI (gI m1 1 0 0)) (by decide) (by decide) rfl rfl rfl in_Palace (by decide) qw_31 rfl eW_pass_22 ?_
    refine v_ldc X (pc := 25) qw_211 eW_pass_25 ?_
    refine v_iload_n X (pc := 27) 1 rfl eW_pass_27 rfl ?_
    refine v_isub X (pc := 28) eW_pass_28 ?_
    refine v_icmp_le X (pc := 29) (tgt := 39) h eW_pass_29 (by decide) (fun h => ?_) (fun h => ?_)
    · refine v_aload_n X (pc := 32) 0 rfl eW_pass_32 rfl ?_
      refine v_ldc X (pc := 33) qw_212 eW_pass_33 ?_
      obtain ⟨r3, m3, hc3, h⟩ := bd_some h
      refine v_callV X (pc := 35) [_] [] ok_V_W_52 (cW_finding  hc3) rfl (Nat.le_of_ble_eq_true rfl) ⟨Nat.le_of_ble_eq_true rfl, Nat.le_of_ble_eq_true rfl⟩ ⟨Nat.zero_le _, Nat.zero_le _⟩ (by decide) (by decide) rfl rfl eW_pass_35 ?_
      exact v_iret X (pc := 38) h hr eW_pass_38
    · refine v_iconst X (pc := 39) (v := (0 : Int32)) eW_pass_39 (by decide) ?_
      refine v_istore_n X (pc := 40) (lv' := [(2, _), (0, _), (1, _)]) eW_pass_40 rfl (Nat.le_of_ble_eq_true rfl) rfl ?_
      exact v_sub [1, 2, 0] rfl (cW_pass_41 X hr _ _ _ _  h)
set_option maxHeartbeats 4000000 in
set_option maxRecDepth 100000 in
theorem cW_isSetOfWords {f : Nat} {a0 : Int32} {mem : Mem} {o : Int32} {mem' : Mem}  (h : dW_isSetOfWords f a0 mem = some (o, mem')) : RT yW_isSetOfWords prog_1_method_50_code 1 (Option.some Jvm.ClassFile.FieldType.boolean) (rmM 1 22) [aI a0] mem (some (aI o)) mem' := by
  refine RT.of (by decide +kernel) (Nat.le_of_ble_eq_true rfl) (fun p l e s m args below meth c k X hr => ?_)
  replace X : CX p s m args meth c k prog_1_method_50_code 1 "WallShifts" := X
  unfold dW_isSetOfWords at h
  refine v_sub (lv' := [(0, _)]) [0] rfl ?_
  refine v_iload_n X (pc := 0) 0 rfl eW_isSetOfWords_0 rfl ?_
  refine v_iconst X (pc := 1) (v := (0 : Int32)) eW_isSetOfWords_1 (by decide) ?_
  refine v_ldcw X (pc := 2) qw_224 eW_isSetOfWords_2 ?_
  obtain ⟨r1, m1, hc1, h⟩ := bd_some h
  refine v_callS X (pc := 5) [_, _, _] [] ok_S_W_82 (cW_isIn  hc1) rfl (Nat.le_of_ble_eq_true rfl) ⟨Nat.le_of_ble_eq_true rfl, Nat.le_of_ble_eq_true rfl⟩ ⟨Nat.zero_le _, Nat.zero_le _⟩ eW_isSetOfWords_5 ?_
  obtain ⟨hz, h⟩ := zb_some h
  exact v_zret X (pc := 8) h hr (zb_n hz) eW_isSetOfWords_8
set_option maxHeartbeats 4000000 in
set_option maxRecDepth 100000 in
theorem cJInt_bitCount {f : Nat} {a0 : Int32} {mem : Mem} {o : Int32} {mem' : Mem}  (h : dJInt_bitCount f a0 mem = some (o, mem')) : RT yJInt_bitCount prog_7_method_49_code 1 (Option.some Jvm.ClassFile.FieldType.int) (rmM 0 0) [aI a0] mem (some (aI o)) mem' := by
  refine RT.of (by decide +kernel) (Nat.le_of_ble_eq_true rfl) (fun p l e s m args below meth c k X hr => ?_)
  replace X : CX p s m args meth c k prog_7_method_49_code 1 "java/lang/Integer" := X
  unfold dJInt_bitCount at h
  refine v_sub (lv' := [(0, _)]) [0] rfl ?_
  refine v_iload_n X (pc := 0) 0 rfl eJInt_bitCount_0 rfl ?_
  refine v_iload_n X (pc := 1) 0 rfl eJInt_bitCount_1 rfl ?_
  refine v_iconst X (pc := 2) (v := (1 : Int32)) eJInt_bitCount_2 (by decide) ?_
  refine v_iushr X (pc := 3) rfl eJInt_bitCount_3 ?_
  refine v_ldcw X (pc := 4) qw_228 eJInt_bitCount_4 ?_
  refine v_iand X (pc := 7) eJInt_bitCount_7 ?_
  refine v_isub X (pc := 8) eJInt_bitCount_8 ?_
  refine v_istore_n X (pc := 9) (lv' := [(0, _)]) eJInt_bitCount_9 rfl (Nat.le_of_ble_eq_true rfl) rfl ?_
  refine v_iload_n X (pc := 10) 0 rfl eJInt_bitCount_10 rfl ?_
  refine v_ldcw X (pc := 11) qw_229 eJInt_bitCount_11 ?_
  refine v_iand X (pc := 14) eJInt_bitCount_14 ?_
  refine v_iload_n X (pc := 15) 0 rfl eJInt_bitCount_15 rfl ?_
  refine v_iconst X (pc := 16) (v := (2 : Int32)) eJInt_bitCount_16 (by decide) ?_
  refine v_iushr X (pc := 17) rfl eJInt_bitCount_17 ?_
  refine v_ldcw X (pc := 18) qw_229 eJInt_bitCount_18 ?_
  refine v_iand X (pc := 21) eJInt_bitCount_21 ?_
  refine v_iadd X (pc := 22) eJInt_bitCount_22 ?_
  refine v_istore_n X (pc := 23) (lv' := [(0, _)]) eJInt_bitCount_23 rfl (Nat.le_of_ble_eq_true rfl) rfl ?_
  refine v_iload_n X (pc := 24) 0 rfl eJInt_bitCount_24 rfl ?_
  refine v_iload_n X (pc := 25) 0 rfl eJInt_bitCount_25 rfl ?_
  refine v_iconst X (pc := 26) (v := (4 : Int32)) eJInt_bitCount_26 (by decide) ?_
  refine v_iushr X (pc := 27) rfl eJInt_bitCount_27 ?_
  refine v_iadd X (pc := 28) eJInt_bitCount_28 ?_
  refine v_ldcw X (pc := 29) qw_230 eJInt_bitCount_29 ?_
  refine v_iand X (pc := 32) eJInt_bitCount_32 ?_
  refine v_istore_n X (pc := 33) (lv' := [(0, _)]) eJInt_bitCount_33 rfl (Nat.le_of_ble_eq_true rfl) rfl ?_
  refine v_iload_n X (pc := 34) 0 rfl eJInt_bitCount_34 rfl ?_
  refine v_iload_n X (pc := 35) 0 rfl eJInt_bitCount_35 rfl ?_
  refine v_bipush X (pc := 36) (v := (8 : Int32)) eJInt_bitCount_36 (by decide) ?_
  refine v_iushr X (pc := 38) rfl eJInt_bitCount_38 ?_
  refine v_iadd X (pc := 39) eJInt_bitCount_39 ?_
  refine v_istore_n X (pc := 40) (lv' := [(0, _)]) eJInt_bitCount_40 rfl (Nat.le_of_ble_eq_true rfl) rfl ?_
  refine v_iload_n X (pc := 41) 0 rfl eJInt_bitCount_41 rfl ?_
  refine v_iload_n X (pc := 42) 0 rfl eJInt_bitCount_42 rfl ?_
  refine v_bipush X (pc := 43) (v := (16 : Int32)) eJInt_bitCount_43 (by decide) ?_
  refine v_iushr X (pc := 45) rfl eJInt_bitCount_45 ?_
  refine v_iadd X (pc := 46) eJInt_bitCount_46 ?_
  refine v_istore_n X (pc := 47) (lv' := [(0, _)]) eJInt_bitCount_47 rfl (Nat.le_of_ble_eq_true rfl) rfl ?_
  refine v_iload_n X (pc := 48) 0 rfl eJInt_bitCount_48 rfl ?_
  refine v_bipush X (pc := 49) (v := (63 : Int32)) eJInt_bitCount_49 (by decide) ?_
  refine v_iand X (pc := 51) eJInt_bitCount_51 ?_
  exact v_iret X (pc := 52) h hr eJInt_bitCount_52
set_option maxHeartbeats 4000000 in
set_option maxRecDepth 100000 in
theorem cP_utterAll_17 {p : Program} {l : Launch} {e : Env} {s : State} {m : MethodId} {args : Array Value} {below : List Frame} {meth : Method} {c : Code} {k : KK} {f : Nat} {o : Int32} {mem' : Mem} (X : CX p s m args meth c k prog_2_method_15_code 7 "WallShifts$Palace") (hr : meth.sig.returnType = (Option.some Jvm.ClassFile.FieldType.int)) : ∀ (n : Nat) (q0 : Nat) (x2 : Int32) (x3 : Int32) (x4 : Int32) (x5 : Int32) (mem : Mem), q0 < 3 → dP_utterAll_17 f n q0 x2 x3 x4 x5 mem = some (o, mem') → V p l e (rmM 3 80) s m args below meth c 0 0 (MQ below (RQc k (some (aI o)) mem') args s 0 0 (kA k)) k 7 mem 17 [(0, aR 1 q0), (2, aI x2), (3, aI x3), (4, aI x4), (5, aI x5)] [] := by
  intro n
  induction n with
  | zero =>
    intro q0 x2 x3 x4 x5 mem hq0 h
    exact nomatch (show (none : Option (Int32 × Mem)) = some _ from h)
  | succ n ih =>
    intro q0 x2 x3 x4 x5 mem hq0 h
    rw [dP_utterAll_17] at h
    refine v_iload X (pc := 17) 4 rfl eP_utterAll_17 ?_
    refine v_bipush X (pc := 19) (v := (16 : Int32)) eP_utterAll_19 (by decide) ?_
    refine v_icmp_ge X (pc := 21) (tgt := 85) h eP_utterAll_21 (by decide) (fun h => ?_) (fun h => ?_)
    · refine v_iload_n X (pc := 24) 1 rfl eP_utterAll_24 rfl ?_
      refine v_iload X (pc := 25) 4 rfl eP_utterAll_25 ?_
      refine v_ishr X (pc := 27) eP_utterAll_27 ?_
      refine v_iconst X (pc := 28) (v := (1 : Int32)) eP_utterAll_28 (by decide) ?_
      refine v_iand X (pc := 29) eP_utterAll_29 ?_
      refine v_iconst X (pc := 30) (v := (1 : Int32)) eP_utterAll_30 (by decide) ?_
      refine v_icmp_ne X (pc := 31) (tgt := 79) h eP_utterAll_31 (by decide) (fun h => ?_) (fun h => ?_)
      · refine v_aload_n X (pc := 34) 0 rfl eP_utterAll_34 rfl ?_
        refine v_iload_n X (pc := 35) 2 rfl eP_utterAll_35 rfl ?_
        refine v_iload X (pc := 36) 4 rfl eP_utterAll_36 ?_
        obtain ⟨r1, m1, hc1, h⟩ := bd_some h
        refine v_callV X (pc := 38) [_, _] [] ok_V_P_77 (cP_utter hq0 hc1) rfl (Nat.le_of_ble_eq_true rfl) ⟨Nat.le_of_ble_eq_true rfl, Nat.le_of_ble_eq_true rfl⟩ ⟨Nat.zero_le _, Nat.zero_le _⟩ (by decide) hq0 rfl rfl eP_utterAll_38 ?_
        refine v_istore X (pc := 41) (lv' := [(6, _), (0, _), (2, _), (3, _), (4, _), (5, _)]) eP_utterAll_41 (Nat.le_of_ble_eq_true rfl) rfl ?_
        refine v_iload X (pc := 43) 4 rfl eP_utterAll_43 ?_
        refine v_iload X (pc := 45) 0 rfl eP_utterAll_45 ?_
        obtain ⟨r2, m2, hc2, h⟩ := bd_some h
        refine v_callS X (pc := 47) [_] [_] ok_S_P_80 (cJInt_bitCount  hc2) rfl (Nat.le_of_ble_eq_true rfl) ⟨Nat.le_of_ble_eq_true rfl, Nat.le_of_ble_eq_true rfl⟩ ⟨Nat.zero_le _, Nat.zero_le _⟩ eP_utterAll_47 ?_
        refine v_iadd X (pc := 50) eP_utterAll_50 ?_
        refine v_istore X (pc := 51) (lv' := [(4, _), (6, _), (0, _), (2, _), (3, _), (5, _)]) eP_utterAll_51 (Nat.le_of_ble_eq_true rfl) rfl ?_
        refine v_aload_n X (pc := 53) 2 rfl eP_utterAll_53 rfl ?_
        refine v_dup X (pc := 54) rfl eP_utterAll_54 ?_
        refine v_get X (pc := 55) 4 (a := aI (gI m2 1 q0 4)) (by decide) hq0 rfl rfl rfl in_Palace (by decide) qw_38 rfl eP_utterAll_55 ?_
        refine v_iload X (pc := 58) 1 rfl eP_utterAll_58 ?_
        refine v_if_ne X (pc := 60) (tgt := 70) h eP_utterAll_60 (by decide) (fun h => ?_) (fun h => ?_)
        · refine v_iconst X (pc := 63) (v := (1 : Int32)) eP_utterAll_63 (by decide) ?_
          refine v_iload X (pc := 64) 5 rfl eP_utterAll_64 ?_
          refine v_ishl X (pc := 66) eP_utterAll_66 ?_
          refine v_goto X (pc := 67) (tgt := 71) eP_utterAll_67 (by decide) ?_
          refine v_ior X (pc := 71) eP_utterAll_71 ?_
          refine v_put X (pc := 72) 4 (mem' := (sI m2 1 q0 4 ((gI m2 1 q0 4) ||| ((1 : Int32) <<< (x5 &&& 31))))) (by decide) hq0 rfl (pf_1_4 _ _ _ _ _) rowI_ne rfl in_Palace ty_Palace_ok nm_Palace (by decide) qw_38 rfl rfl rfl (Nat.le_of_ble_eq_true rfl) eP_utterAll_72 ?_
          refine v_aload_n X (pc := 75) 2 rfl eP_utterAll_75 rfl ?_
          obtain ⟨r3, m3, hc3, h⟩ := bd_some h
          refine v_callV X (pc := 76) [] [] ok_V_P_85 (cP_goOn hq0 hc3) rfl (Nat.le_of_ble_eq_true rfl) ⟨Nat.le_of_ble_eq_true rfl, Nat.le_of_ble_eq_true rfl⟩ ⟨Nat.zero_le _, Nat.zero_le _⟩ (by decide) hq0 rfl rfl eP_utterAll_76 ?_
          refine v_iinc X (pc := 79) (v := (x5 + (1 : Int32))) (lv' := [(5, _), (4, _), (6, _), (0, _), (2, _), (3, _)]) 5 rfl (by rfl) eP_utterAll_79 (Nat.le_of_ble_eq_true rfl) rfl ?_
          refine v_goto X (pc := 82) (tgt := 17) eP_utterAll_82 (by decide) ?_
          exact v_sub [3, 4, 5, 1, 0] rfl (ih _ _ _ _ _ _ hq0 h)
        · refine v_iconst X (pc := 70) (v := (0 : Int32)) eP_utterAll_70 (by decide) ?_
          refine v_ior X (pc := 71) eP_utterAll_71 ?_
          refine v_put X (pc := 72) 4 (mem' := (sI m2 1 q0 4 ((gI m2 1 q0 4) ||| (0 : Int32)))) (by decide) hq0 rfl (pf_1_4 _ _ _ _ _) rowI_ne rfl in_Palace ty_Palace_ok nm_Palace (by decide) qw_38 rfl rfl rfl (Nat.le_of_ble_eq_true rfl) eP_utterAll_72 ?_
          refine v_aload_n X (pc := 75) 2 rfl eP_utterAll_75 rfl ?_
          obtain ⟨r4, m4, hc4, h⟩ := bd_some h
          refine v_callV X (pc := 76) [] [] ok_V_P_85 (cP_goOn hq0 hc4) rfl (Nat.le_of_ble_eq_true rfl) ⟨Nat.le_of_ble_eq_true rfl, Nat.le_of_ble_eq_true rfl⟩ ⟨Nat.zero_le _, Nat.zero_le _⟩ (by decide) hq0 rfl rfl eP_utterAll_76 ?_
          refine v_iinc X (pc := 79) (v := (x5 + (1 : Int32))) (lv' := [(5, _), (4, _), (6, _), (0, _), (2, _), (3, _)]) 5 rfl (by rfl) eP_utterAll_79 (Nat.le_of_ble_eq_true rfl) rfl ?_
          refine v_goto X (pc := 82) (tgt := 17) eP_utterAll_82 (by decide) ?_
          exact v_sub [3, 4, 5, 1, 0] rfl (ih _ _ _ _ _ _ hq0 h)
      · refine v_iinc X (pc := 79) (v := (x5 + (1 : Int32))) (lv' := [(5, _), (0, _), (2, _), (3, _), (4, _)]) 4 rfl (by rfl) eP_utterAll_79 (Nat.le_of_ble_eq_true rfl) rfl ?_
        refine v_goto X (pc := 82) (tgt := 17) eP_utterAll_82 (by decide) ?_
        exact v_sub [1, 2, 3, 4, 0] rfl (ih _ _ _ _ _ _ hq0 h)
    · refine v_iload X (pc := 85) 3 rfl eP_utterAll_85 ?_
      exact v_iret X (pc := 87) h hr eP_utterAll_87
set_option maxHeartbeats 4000000 in
set_option maxRecDepth 100000 in
theorem cP_utterAll {f : Nat} {q0 : Nat} {a1 : Int32} {a2 : Int32} {mem : Mem} {o : Int32} {mem' : Mem} (hq0 : q0 < 3) (h : dP_utterAll f q0 a1 a2 mem = some (o, mem')) : RT yP_utterAll prog_2_method_15_code 7 (Option.some Jvm.ClassFile.FieldType.int) (rmM 3 80) [aR 1 q0, aI a1, aI a2] mem (some (aI o)) mem' := by
  refine RT.of (by decide +kernel) (Nat.le_of_ble_eq_true rfl) (fun p l e s m args below meth c k X hr => ?_)
  replace X : CX p s m args meth c k prog_2_method_15_code 7 "WallShifts$Palace" := X
  unfold dP_utterAll at h
  refine v_sub (lv' := [(0, _), (1, _), (2, _)]) [0, 1, 2] rfl ?_
  refine v_aload_n X (pc := 0) 0 rfl eP_utterAll_0 rfl ?_
  refine v_iload_n X (pc := 1) 1 rfl eP_utterAll_1 rfl ?_
  obtain ⟨r1, m1, hc1, h⟩ := bd_some h
  refine v_callV X (pc := 2) [_] [] ok_V_P_74 (cP_near hq0 hc1) rfl (Nat.le_of_ble_eq_true rfl) ⟨Nat.le_of_ble_eq_true rfl, Nat.le_of_ble_eq_true rfl⟩ ⟨Nat.zero_le _, Nat.zero_le _⟩ (by decide) hq0 rfl rfl eP_utterAll_2 ?_
  refine v_istore_n X (pc := 5) (lv' := [(3, _), (0, _), (1, _), (2, _)]) eP_utterAll_5 rfl (Nat.le_of_ble_eq_true rfl) rfl ?_
  refine v_iconst X (pc := 6) (v := (0 : Int32)) eP_utterAll_6 (by decide) ?_
  refine v_istore X (pc := 7) (lv' := [(4, _), (3, _), (0, _), (1, _), (2, _)]) eP_utterAll_7 (Nat.le_of_ble_eq_true rfl) rfl ?_
  refine v_aload_n X (pc := 9) 2 rfl eP_utterAll_9 rfl ?_
  refine v_iconst X (pc := 10) (v := (0 : Int32)) eP_utterAll_10 (by decide) ?_
  refine v_put X (pc := 11) 4 (mem' := (sI m1 1 q0 4 (0 : Int32))) (by decide) hq0 rfl (pf_1_4 _ _ _ _ _) rowI_ne rfl in_Palace ty_Palace_ok nm_Palace (by decide) qw_38 rfl rfl rfl (Nat.le_of_ble_eq_true rfl) eP_utterAll_11 ?_
  refine v_iconst X (pc := 14) (v := (0 : Int32)) eP_utterAll_14 (by decide) ?_
  refine v_istore X (pc := 15) (lv' := [(5, _), (4, _), (3, _), (0, _), (1, _), (2, _)]) eP_utterAll_15 (Nat.le_of_ble_eq_true rfl) rfl ?_
  exact v_sub [3, 5, 2, 1, 0] rfl (cP_utterAll_17 X hr _ _ _ _ _ _ _ hq0 h)
set_option maxHeartbeats 4000000 in
set_option maxRecDepth 100000 in
theorem cW_speak {f : Nat} {a1 : Int32} {a2 : Int32} {mem : Mem} {o : Int32} {mem' : Mem}  (h : dW_speak f a1 a2 mem = some (o, mem')) : RT yW_speak prog_1_method_11_code 3 (Option.some Jvm.ClassFile.FieldType.int) (rmM 4 106) [aR 0 0, aI a1, aI a2] mem (some (aI o)) mem' := by
  refine RT.of (by decide +kernel) (Nat.le_of_ble_eq_true rfl) (fun p l e s m args below meth c k X hr => ?_)
  replace X : CX p s m args meth c k prog_1_method_11_code 3 "WallShifts" := X
  unfold dW_speak at h
  refine v_sub (lv' := [(0, _), (1, _), (2, _)]) [0, 1, 2] rfl ?_
  refine v_iload_n X (pc := 0) 1 rfl eW_speak_0 rfl ?_
  obtain ⟨r1, m1, hc1, h⟩ := bd_some h
  refine v_callS X (pc := 1) [_] [] ok_S_W_63 (cW_isRoom  hc1) rfl (Nat.le_of_ble_eq_true rfl) ⟨Nat.le_of_ble_eq_true rfl, Nat.le_of_ble_eq_true rfl⟩ ⟨Nat.zero_le _, Nat.zero_le _⟩ eW_speak_1 ?_
  refine v_if_eq X (pc := 4) (tgt := 14) h eW_speak_4 (by decide) (fun h => ?_) (fun h => ?_)
  · refine v_aload_n X (pc := 14) 0 rfl eW_speak_14 rfl ?_
    refine v_ldc X (pc := 15) qw_135 eW_speak_15 ?_
    obtain ⟨r2, m2, hc2, h⟩ := bd_some h
    refine v_callV X (pc := 17) [_] [] ok_V_W_52 (cW_finding  hc2) rfl (Nat.le_of_ble_eq_true rfl) ⟨Nat.le_of_ble_eq_true rfl, Nat.le_of_ble_eq_true rfl⟩ ⟨Nat.zero_le _, Nat.zero_le _⟩ (by decide) (by decide) rfl rfl eW_speak_17 ?_
    exact v_iret X (pc := 20) h hr eW_speak_20
  · refine v_iload_n X (pc := 7) 2 rfl eW_speak_7 rfl ?_
    obtain ⟨r3, m3, hc3, h⟩ := bd_some h
    refine v_callS X (pc := 8) [_] [] ok_S_W_131 (cW_isSetOfWords  hc3) rfl (Nat.le_of_ble_eq_true rfl) ⟨Nat.le_of_ble_eq_true rfl, Nat.le_of_ble_eq_true rfl⟩ ⟨Nat.zero_le _, Nat.zero_le _⟩ eW_speak_8 ?_
    refine v_if_ne X (pc := 11) (tgt := 21) h eW_speak_11 (by decide) (fun h => ?_) (fun h => ?_)
    · refine v_aload_n X (pc := 14) 0 rfl eW_speak_14 rfl ?_
      refine v_ldc X (pc := 15) qw_135 eW_speak_15 ?_
      obtain ⟨r4, m4, hc4, h⟩ := bd_some h
      refine v_callV X (pc := 17) [_] [] ok_V_W_52 (cW_finding  hc4) rfl (Nat.le_of_ble_eq_true rfl) ⟨Nat.le_of_ble_eq_true rfl, Nat.le_of_ble_eq_true rfl⟩ ⟨Nat.zero_le _, Nat.zero_le _⟩ (by decide) (by decide) rfl rfl eW_speak_17 ?_
      exact v_iret X (pc := 20) h hr eW_speak_20
    · refine v_aload_n X (pc := 21) 0 rfl eW_speak_21 rfl ?_
      refine v_get X (pc := 22) 0 (a := aR 1 0) (by decide) (by decide) rfl rfl rfl in_WallShifts (by decide) qw_96 rfl eW_speak_22 ?_
      refine v_get X (pc := 25) 0 (a := aI (gI m3 1 0 0)) (by decide) (by decide) rfl rfl rfl in_Palace (by decide) qw_31 rfl eW_speak_25 ?_
      refine v_ldc X (pc := 28) qw_211 eW_speak_28 ?_
      refine v_iload_n X (pc := 30) 2 rfl eW_speak_30 rfl ?_
      obtain ⟨r5, m5, hc5, h⟩ := bd_some h
      refine v_callS X (pc := 31) [_] [_, _] ok_S_W_134 (cJInt_bitCount  hc5) rfl (Nat.le_of_ble_eq_true rfl) ⟨Nat.le_of_ble_eq_true rfl, Nat.le_of_ble_eq_true rfl⟩ ⟨Nat.zero_le _, Nat.zero_le _⟩ eW_speak_31 ?_
      refine v_isub X (pc := 34) eW_speak_34 ?_
      refine v_icmp_le X (pc := 35) (tgt := 45) h eW_speak_35 (by decide) (fun h => ?_) (fun h => ?_)
      · refine v_aload_n X (pc := 38) 0 rfl eW_speak_38 rfl ?_
        refine v_ldc X (pc := 39) qw_212 eW_speak_39 ?_
        obtain ⟨r6, m6, hc6, h⟩ := bd_some h
        refine v_callV X (pc := 41) [_] [] ok_V_W_52 (cW_finding  hc6) rfl (Nat.le_of_ble_eq_true rfl) ⟨Nat.le_of_ble_eq_true rfl, Nat.le_of_ble_eq_true rfl⟩ ⟨Nat.zero_le _, Nat.zero_le _⟩ (by decide) (by decide) rfl rfl eW_speak_41 ?_
        exact v_iret X (pc := 44) h hr eW_speak_44
      · refine v_aload_n X (pc := 45) 0 rfl eW_speak_45 rfl ?_
        refine v_get X (pc := 46) 0 (a := aR 1 0) (by decide) (by decide) rfl rfl rfl in_WallShifts (by decide) qw_96 rfl eW_speak_46 ?_
        refine v_iload_n X (pc := 49) 1 rfl eW_speak_49 rfl ?_
        refine v_iload_n X (pc := 50) 2 rfl eW_speak_50 rfl ?_
        obtain ⟨r7, m7, hc7, h⟩ := bd_some h
        refine v_callV X (pc := 51) [_, _] [] ok_V_W_139 (cP_utterAll (by decide) hc7) rfl (Nat.le_of_ble_eq_true rfl) ⟨Nat.le_of_ble_eq_true rfl, Nat.le_of_ble_eq_true rfl⟩ ⟨Nat.zero_le _, Nat.zero_le _⟩ (by decide) (by decide) rfl rfl eW_speak_51 ?_
        exact v_iret X (pc := 54) h hr eW_speak_54
set_option maxHeartbeats 4000000 in
set_option maxRecDepth 100000 in
theorem cW_duty {f : Nat} {a1 : Int32} {mem : Mem} {o : Int32} {mem' : Mem}  (h : dW_duty f a1 mem = some (o, mem')) : RT yW_duty prog_1_method_13_code 2 (Option.some Jvm.ClassFile.FieldType.int) (rmM 2 53) [aR 0 0, aI a1] mem (some (aI o)) mem' := by
  refine RT.of (by decide +kernel) (Nat.le_of_ble_eq_true rfl) (fun p l e s m args below meth c k X hr => ?_)
  replace X : CX p s m args meth c k prog_1_method_13_code 2 "WallShifts" := X
  unfold dW_duty at h
  refine v_sub (lv' := [(0, _), (1, _)]) [0, 1] rfl ?_
  refine v_iload_n X (pc := 0) 1 rfl eW_duty_0 rfl ?_
  refine v_iconst X (pc := 1) (v := (0 : Int32)) eW_duty_1 (by decide) ?_
  refine v_ldc X (pc := 2) qw_211 eW_duty_2 ?_
  obtain ⟨r1, m1, hc1, h⟩ := bd_some h
  refine v_callS X (pc := 4) [_, _, _] [] ok_S_W_82 (cW_isIn  hc1) rfl (Nat.le_of_ble_eq_true rfl) ⟨Nat.le_of_ble_eq_true rfl, Nat.le_of_ble_eq_true rfl⟩ ⟨Nat.zero_le _, Nat.zero_le _⟩ eW_duty_4 ?_
  refine v_if_ne X (pc := 7) (tgt := 17) h eW_duty_7 (by decide) (fun h => ?_) (fun h => ?_)
  · refine v_aload_n X (pc := 10) 0 rfl eW_duty_10 rfl ?_
    refine v_ldc X (pc := 11) qw_135 eW_duty_11 ?_
    obtain ⟨r2, m2, hc2, h⟩ := bd_some h
    refine v_callV X (pc := 13) [_] [] ok_V_W_52 (cW_finding  hc2) rfl (Nat.le_of_ble_eq_true rfl) ⟨Nat.le_of_ble_eq_true rfl, Nat.le_of_ble_eq_true rfl⟩ ⟨Nat.zero_le _, Nat.zero_le _⟩ (by decide) (by decide) rfl rfl eW_duty_13 ?_
    exact v_iret X (pc := 16) h hr eW_duty_16
  · refine v_aload_n X (pc := 17) 0 rfl eW_duty_17 rfl ?_
    refine v_get X (pc := 18) 0 (a := aR 1 0) (by decide) (by decide) rfl rfl rfl in_WallShifts (by decide) qw_96 rfl eW_duty_18 ?_
    refine v_iload_n X (pc := 21) 1 rfl eW_duty_21 rfl ?_
    refine v_aload_n X (pc := 22) 0 rfl eW_duty_22 rfl ?_
    refine v_get X (pc := 23) 0 (a := aR 1 0) (by decide) (by decide) rfl rfl rfl in_WallShifts (by decide) qw_96 rfl eW_duty_23 ?_
    refine v_get X (pc := 26) 1 (a := aR 2 0) (by decide) (by decide) rfl rfl rfl in_Palace (by decide) qw_33 rfl eW_duty_26 ?_
    refine v_iconst X (pc := 29) (v := (0 : Int32)) eW_duty_29 (by decide) ?_
    refine v_ialdK X (pc := 30) (n := 4) 0 (by decide) (by decide) (by decide) (by decide) rfl eW_duty_30 ?_
    obtain ⟨r3, m3, hc3, h⟩ := bd_some h
    refine v_callV X (pc := 31) [_, _] [] ok_V_W_145 (cP_onDuty (by decide) hc3) rfl (Nat.le_of_ble_eq_true rfl) ⟨Nat.le_of_ble_eq_true rfl, Nat.le_of_ble_eq_true rfl⟩ ⟨Nat.zero_le _, Nat.zero_le _⟩ (by decide) (by decide) rfl rfl eW_duty_31 ?_
    exact v_iret X (pc := 34) h hr eW_duty_34
set_option maxHeartbeats 4000000 in
set_option maxRecDepth 100000 in
theorem cP_wordsInFiles_4 {p : Program} {l : Launch} {e : Env} {s : State} {m : MethodId} {args : Array Value} {below : List Frame} {meth : Method} {c : Code} {k : KK} {f : Nat} {o : Int32} {mem' : Mem} (X : CX p s m args meth c k prog_2_method_17_code 3 "WallShifts$Palace") (hr : meth.sig.returnType = (Option.some Jvm.ClassFile.FieldType.int)) : ∀ (n : Nat) (q0 : Nat) (x1 : Int32) (x2 : Int32) (mem : Mem), q0 < 3 → dP_wordsInFiles_4 f n q0 x1 x2 mem = some (o, mem') → V p l e (rmM 0 0) s m args below meth c 0 0 (MQ below (RQc k (some (aI o)) mem') args s 0 0 (kA k)) k 3 mem 4 [(0, aR 1 q0), (1, aI x1), (2, aI x2)] [] := by
  intro n
  induction n with
  | zero =>
    intro q0 x1 x2 mem hq0 h
    exact nomatch (show (none : Option (Int32 × Mem)) = some _ from h)
  | succ n ih =>
    intro q0 x1 x2 mem hq0 h
    rw [dP_wordsInFiles_4] at h
    refine v_iload_n X (pc := 4) 2 rfl eP_wordsInFiles_4 rfl ?_
    refine v_aload_n X (pc := 5) 0 rfl eP_wordsInFiles_5 rfl ?_
    refine v_get X (pc := 6) 2 (a := aI (gI mem 1 q0 2)) (by decide) hq0 rfl rfl rfl in_Palace (by decide) qw_34 rfl eP_wordsInFiles_6 ?_
    refine v_icmp_ge X (pc := 9) (tgt := 29) h eP_wordsInFiles_9 (by decide) (fun h => ?_) (fun h => ?_)
    · refine v_iload_n X (pc := 12) 1 rfl eP_wordsInFiles_12 rfl ?_
      refine v_aload_n X (pc := 13) 0 rfl eP_wordsInFiles_13 rfl ?_
      refine v_get X (pc := 14) 3 (a := aR 3 q0) (by decide) hq0 rfl rfl rfl in_Palace (by decide) qw_36 rfl eP_wordsInFiles_14 ?_
      refine v_iload_n X (pc := 17) 2 rfl eP_wordsInFiles_17 rfl ?_
      refine v_aaldW X (pc := 18) h hq0 eP_wordsInFiles_18 (fun hb1 h => ?_)
      refine v_iconst X (pc := 19) (v := (4 : Int32)) eP_wordsInFiles_19 (by decide) ?_
      refine v_ialdK X (pc := 20) (n := 6) 4 (by decide) (by decide) (by decide) hb1 rfl eP_wordsInFiles_20 ?_
      refine v_ior X (pc := 21) eP_wordsInFiles_21 ?_
      refine v_istore_n X (pc := 22) (lv' := [(1, _), (0, _), (2, _)]) eP_wordsInFiles_22 rfl (Nat.le_of_ble_eq_true rfl) rfl ?_
      refine v_iinc X (pc := 23) (v := (x2 + (1 : Int32))) (lv' := [(2, _), (1, _), (0, _)]) 2 rfl (by rfl) eP_wordsInFiles_23 (Nat.le_of_ble_eq_true rfl) rfl ?_
      refine v_goto X (pc := 26) (tgt := 4) eP_wordsInFiles_26 (by decide) ?_
      exact v_sub [2, 1, 0] rfl (ih _ _ _ _ hq0 h)
    · refine v_iload_n X (pc := 29) 1 rfl eP_wordsInFiles_29 rfl ?_
      exact v_iret X (pc := 30) h hr eP_wordsInFiles_30
set_option maxHeartbeats 4000000 in
set_option maxRecDepth 100000 in
theorem cP_wordsInFiles {f : Nat} {q0 : Nat} {mem : Mem} {o : Int32} {mem' : Mem} (hq0 : q0 < 3) (h : dP_wordsInFiles f q0 mem = some (o, mem')) : RT yP_wordsInFiles prog_2_method_17_code 3 (Option.some Jvm.ClassFile.FieldType.int) (rmM 0 0) [aR 1 q0] mem (some (aI o)) mem' := by
  refine RT.of (by decide +kernel) (Nat.le_of_ble_eq_true rfl) (fun p l e s m args below meth c k X hr => ?_)
  replace X : CX p s m args meth c k prog_2_method_17_code 3 "WallShifts$Palace" := X
  unfold dP_wordsInFiles at h
  refine v_sub (lv' := [(0, _)]) [0] rfl ?_
  refine v_iconst X (pc := 0) (v := (0 : Int32)) eP_wordsInFiles_0 (by decide) ?_
  refine v_istore_n X (pc := 1) (lv' := [(1, _), (0, _)]) eP_wordsInFiles_1 rfl (Nat.le_of_ble_eq_true rfl) rfl ?_
  refine v_iconst X (pc := 2) (v := (0 : Int32)) eP_wordsInFiles_2 (by decide) ?_
  refine v_istore_n X (pc := 3) (lv' := [(2, _), (1, _), (0, _)]) eP_wordsInFiles_3 rfl (Nat.le_of_ble_eq_true rfl) rfl ?_
  exact v_sub [2, 1, 0] rfl (cP_wordsInFiles_4 X hr _ _ _ _ _ hq0 h)
set_option maxHeartbeats 4000000 in
set_option maxRecDepth 100000 in
theorem cP_tiredTogether_4 {p : Program} {l : Launch} {e : Env} {s : State} {m : MethodId} {args : Array Value} {below : List Frame} {meth : Method} {c : Code} {k : KK} {f : Nat} {o : Int32} {mem' : Mem} (X : CX p s m args meth c k prog_2_method_20_code 3 "WallShifts$Palace") (hr : meth.sig.returnType = (Option.some Jvm.ClassFile.FieldType.int)) : ∀ (n : Nat) (q0 : Nat) (x1 : Int32) (x2 : Int32) (mem : Mem), q0 < 3 → dP_tiredTogether_4 f n q0 x1 x2 mem = some (o, mem') → V p l e (rmM 0 0) s m args below meth c 0 0 (MQ below (RQc k (some (aI o)) mem') args s 0 0 (kA k)) k 3 mem 4 [(0, aR 1 q0), (1, aI x1), (2, aI x2)] [] := by
  intro n
  induction n with
  | zero =>
    intro q0 x1 x2 mem hq0 h
    exact nomatch (show (none : Option (Int32 × Mem)) = some _ from h)
  | succ n ih =>
    intro q0 x1 x2 mem hq0 h
    rw [dP_tiredTogether_4] at h
    refine v_iload_n X (pc := 4) 2 rfl eP_tiredTogether_4 rfl ?_
    refine v_aload_n X (pc := 5) 0 rfl eP_tiredTogether_5 rfl ?_
    refine v_get X (pc := 6) 2 (a := aI (gI mem 1 q0 2)) (by decide) hq0 rfl rfl rfl in_Palace (by decide) qw_34 rfl eP_tiredTogether_6 ?_
    refine v_icmp_ge X (pc := 9) (tgt := 29) h eP_tiredTogether_9 (by decide) (fun h => ?_) (fun h => ?_)
    · refine v_iload_n X (pc := 12) 1 rfl eP_tiredTogether_12 rfl ?_
      refine v_aload_n X (pc := 13) 0 rfl eP_tiredTogether_13 rfl ?_
      refine v_get X (pc := 14) 3 (a := aR 3 q0) (by decide) hq0 rfl rfl rfl in_Palace (by decide) qw_36 rfl eP_tiredTogether_14 ?_
      refine v_iload_n X (pc := 17) 2 rfl eP_tiredTogether_17 rfl ?_
      refine v_aaldW X (pc := 18) h hq0 eP_tiredTogether_18 (fun hb1 h => ?_)
      refine v_iconst X (pc := 19) (v := (5 : Int32)) eP_tiredTogether_19 (by decide) ?_
      refine v_ialdK X (pc := 20) (n := 6) 5 (by decide) (by decide) (by decide) hb1 rfl eP_tiredTogether_20 ?_
      refine v_iadd X (pc := 21) eP_tiredTogether_21 ?_
      refine v_istore_n X (pc := 22) (lv' := [(1, _), (0, _), (2, _)]) eP_tiredTogether_22 rfl (Nat.le_of_ble_eq_true rfl) rfl ?_
      refine v_iinc X (pc := 23) (v := (x2 + (1 : Int32))) (lv' := [(2, _), (1, _), (0, _)]) 2 rfl (by rfl) eP_tiredTogether_23 (Nat.le_of_ble_eq_true rfl) rfl ?_
      refine v_goto X (pc := 26) (tgt := 4) eP_tiredTogether_26 (by decide) ?_
      exact v_sub [2, 1, 0] rfl (ih _ _ _ _ hq0 h)
    · refine v_iload_n X (pc := 29) 1 rfl eP_tiredTogether_29 rfl ?_
      exact v_iret X (pc := 30) h hr eP_tiredTogether_30
set_option maxHeartbeats 4000000 in
set_option maxRecDepth 100000 in
theorem cP_tiredTogether {f : Nat} {q0 : Nat} {mem : Mem} {o : Int32} {mem' : Mem} (hq0 : q0 < 3) (h : dP_tiredTogether f q0 mem = some (o, mem')) : RT yP_tiredTogether prog_2_method_20_code 3 (Option.some Jvm.ClassFile.FieldType.int) (rmM 0 0) [aR 1 q0] mem (some (aI o)) mem' := by
  refine RT.of (by decide +kernel) (Nat.le_of_ble_eq_true rfl) (fun p l e s m args below meth c k X hr => ?_)
  replace X : CX p s m args meth c k prog_2_method_20_code 3 "WallShifts$Palace" := X
  unfold dP_tiredTogether at h
  refine v_sub (lv' := [(0, _)]) [0] rfl ?_
  refine v_iconst X (pc := 0) (v := (0 : Int32)) eP_tiredTogether_0 (by decide) ?_
  refine v_istore_n X (pc := 1) (lv' := [(1, _), (0, _)]) eP_tiredTogether_1 rfl (Nat.le_of_ble_eq_true rfl) rfl ?_
  refine v_iconst X (pc := 2) (v := (0 : Int32)) eP_tiredTogether_2 (by decide) ?_
  refine v_istore_n X (pc := 3) (lv' := [(2, _), (1, _), (0, _)]) eP_tiredTogether_3 rfl (Nat.le_of_ble_eq_true rfl) rfl ?_
  exact v_sub [2, 1, 0] rfl (cP_tiredTogether_4 X hr _ _ _ _ _ hq0 h)
set_option maxHeartbeats 4000000 in
set_option maxRecDepth 100000 in
theorem cW_now {f : Nat} {a1 : Int32} {mem : Mem} {o : Int32} {mem' : Mem}  (h : dW_now f a1 mem = some (o, mem')) : RT yW_now prog_1_method_14_code 2 (Option.some Jvm.ClassFile.FieldType.int) (rmM 2 44) [aR 0 0, aI a1] mem (some (aI o)) mem' := by
  refine RT.of (by decide +kernel) (Nat.le_of_ble_eq_true rfl) (fun p l e s m args below meth c k X hr => ?_)
  replace X : CX p s m args meth c k prog_1_method_14_code 2 "WallShifts" := X
  unfold dW_now at h
  refine v_sub (lv' := [(0, _), (1, _)]) [0, 1] rfl ?_
  refine v_iload_n X (pc := 0) 1 rfl eW_now_0 rfl ?_
  by_cases g0 : a1 = (0 : Int32)
  · have h := it_t h g0
    refine v_tsw X (pc := 1) (tgt := 44) (0 : Int32) g0 eW_now_1 (by decide) (by decide) rfl (by decide) ?_
    refine v_aload_n X (pc := 44) 0 rfl eW_now_44 rfl ?_
    refine v_get X (pc := 45) 0 (a := aR 1 0) (by decide) (by decide) rfl rfl rfl in_WallShifts (by decide) qw_96 rfl eW_now_45 ?_
    refine v_get X (pc := 48) 0 (a := aI (gI mem 1 0 0)) (by decide) (by decide) rfl rfl rfl in_Palace (by decide) qw_31 rfl eW_now_48 ?_
    exact v_iret X (pc := 51) h hr eW_now_51
  have h := it_f h g0
  by_cases g1 : a1 = (1 : Int32)
  · have h := it_t h g1
    refine v_tsw X (pc := 1) (tgt := 52) (1 : Int32) g1 eW_now_1 (by decide) (by decide) rfl (by decide) ?_
    refine v_aload_n X (pc := 52) 0 rfl eW_now_52 rfl ?_
    refine v_get X (pc := 53) 0 (a := aR 1 0) (by decide) (by decide) rfl rfl rfl in_WallShifts (by decide) qw_96 rfl eW_now_53 ?_
    refine v_get X (pc := 56) 1 (a := aR 2 0) (by decide) (by decide) rfl rfl rfl in_Palace (by decide) qw_33 rfl eW_now_56 ?_
    refine v_iconst X (pc := 59) (v := (0 : Int32)) eW_now_59 (by decide) ?_
    refine v_ialdK X (pc := 60) (n := 4) 0 (by decide) (by decide) (by decide) (by decide) rfl eW_now_60 ?_
    exact v_iret X (pc := 61) h hr eW_now_61
  have h := it_f h g1
  by_cases g2 : a1 = (2 : Int32)
  · have h := it_t h g2
    refine v_tsw X (pc := 1) (tgt := 62) (2 : Int32) g2 eW_now_1 (by decide) (by decide) rfl (by decide) ?_
    refine v_aload_n X (pc := 62) 0 rfl eW_now_62 rfl ?_
    refine v_get X (pc := 63) 0 (a := aR 1 0) (by decide) (by decide) rfl rfl rfl in_WallShifts (by decide) qw_96 rfl eW_now_63 ?_
    refine v_get X (pc := 66) 1 (a := aR 2 0) (by decide) (by decide) rfl rfl rfl in_Palace (by decide) qw_33 rfl eW_now_66 ?_
    refine v_iconst X (pc := 69) (v := (1 : Int32)) eW_now_69 (by decide) ?_
    refine v_ialdK X (pc := 70) (n := 4) 1 (by decide) (by decide) (by decide) (by decide) rfl eW_now_70 ?_
    exact v_iret X (pc := 71) h hr eW_now_71
  have h := it_f h g2
  by_cases g3 : a1 = (3 : Int32)
  · have h := it_t h g3
    refine v_tsw X (pc := 1) (tgt := 72) (3 : Int32) g3 eW_now_1 (by decide) (by decide) rfl (by decide) ?_
    refine v_aload_n X (pc := 72) 0 rfl eW_now_72 rfl ?_
    refine v_get X (pc := 73) 0 (a := aR 1 0) (by decide) (by decide) rfl rfl rfl in_WallShifts (by decide) qw_96 rfl eW_now_73 ?_
    refine v_get X (pc := 76) 1 (a := aR 2 0) (by decide) (by decide) rfl rfl rfl in_Palace (by decide) qw_33 rfl eW_now_76 ?_
    refine v_iconst X (pc := 79) (v := (2 : Int32)) eW_now_79 (by decide) ?_
    refine v_ialdK X (pc := 80) (n := 4) 2 (by decide) (by decide) (by decide) (by decide) rfl eW_now_80 ?_
    exact v_iret X (pc := 81) h hr eW_now_81
  have h := it_f h g3
  by_cases g4 : a1 = (4 : Int32)
  · have h := it_t h g4
    refine v_tsw X (pc := 1) (tgt := 82) (4 : Int32) g4 eW_now_1 (by decide) (by decide) rfl (by decide) ?_
    refine v_aload_n X (pc := 82) 0 rfl eW_now_82 rfl ?_
    refine v_get X (pc := 83) 0 (a := aR 1 0) (by decide) (by decide) rfl rfl rfl in_WallShifts (by decide) qw_96 rfl eW_now_83 ?_
    refine v_get X (pc := 86) 1 (a := aR 2 0) (by decide) (by decide) rfl rfl rfl in_Palace (by decide) qw_33 rfl eW_now_86 ?_
    refine v_iconst X (pc := 89) (v := (3 : Int32)) eW_now_89 (by decide) ?_
    refine v_ialdK X (pc := 90) (n := 4) 3 (by decide) (by decide) (by decide) (by decide) rfl eW_now_90 ?_
    exact v_iret X (pc := 91) h hr eW_now_91
  have h := it_f h g4
  by_cases g5 : a1 = (5 : Int32)
  · have h := it_t h g5
    refine v_tsw X (pc := 1) (tgt := 92) (5 : Int32) g5 eW_now_1 (by decide) (by decide) rfl (by decide) ?_
    refine v_aload_n X (pc := 92) 0 rfl eW_now_92 rfl ?_
    refine v_get X (pc := 93) 0 (a := aR 1 0) (by decide) (by decide) rfl rfl rfl in_WallShifts (by decide) qw_96 rfl eW_now_93 ?_
    obtain ⟨r1, m1, hc1, h⟩ := bd_some h
    refine v_callV X (pc := 96) [] [] ok_V_W_148 (cP_wordsInFiles (by decide) hc1) rfl (Nat.le_of_ble_eq_true rfl) ⟨Nat.le_of_ble_eq_true rfl, Nat.le_of_ble_eq_true rfl⟩ ⟨Nat.zero_le _, Nat.zero_le _⟩ (by decide) (by decide) rfl rfl eW_now_96 ?_
    exact v_iret X (pc := 99) h hr eW_now_99
  have h := it_f h g5
  by_cases g6 : a1 = (6 : Int32)
  · have h := it_t h g6
    refine v_tsw X (pc := 1) (tgt := 100) (6 : Int32) g6 eW_now_1 (by decide) (by decide) rfl (by decide) ?_
    refine v_aload_n X (pc := 100) 0 rfl eW_now_100 rfl ?_
    refine v_get X (pc := 101) 0 (a := aR 1 0) (by decide) (by decide) rfl rfl rfl in_WallShifts (by decide) qw_96 rfl eW_now_101 ?_
    obtain ⟨r2, m2, hc2, h⟩ := bd_some h
    refine v_callV X (pc := 104) [] [] ok_V_W_152 (cP_tiredTogether (by decide) hc2) rfl (Nat.le_of_ble_eq_true rfl) ⟨Nat.le_of_ble_eq_true rfl, Nat.le_of_ble_eq_true rfl⟩ ⟨Nat.zero_le _, Nat.zero_le _⟩ (by decide) (by decide) rfl rfl eW_now_104 ?_
    exact v_iret X (pc := 107) h hr eW_now_107
  have h := it_f h g6
  refine v_tswD X (pc := 1) (tgt := 108) (tsw_out_0_6 g0 g1 g2 g3 g4 g5 g6) eW_now_1 (by decide) ?_
  refine v_aload_n X (pc := 108) 0 rfl eW_now_108 rfl ?_
  refine v_ldc X (pc := 109) qw_135 eW_now_109 ?_
  obtain ⟨r3, m3, hc3, h⟩ := bd_some h
  refine v_callV X (pc := 111) [_] [] ok_V_W_52 (cW_finding  hc3) rfl (Nat.le_of_ble_eq_true rfl) ⟨Nat.le_of_ble_eq_true rfl, Nat.le_of_ble_eq_true rfl⟩ ⟨Nat.zero_le _, Nat.zero_le _⟩ (by decide) (by decide) rfl rfl eW_now_111 ?_
  exact v_iret X (pc := 114) h hr eW_now_114
set_option maxHeartbeats 4000000 in
set_option maxRecDepth 100000 in
theorem cW_foresee_2 {p : Program} {l : Launch} {e : Env} {s : State} {m : MethodId} {args : Array Value} {below : List Frame} {meth : Method} {c : Code} {k : KK} {f : Nat} {o : Unit} {mem' : Mem} (X : CX p s m args meth c k prog_1_method_41_code 3 "WallShifts") (hr : meth.sig.returnType = (Option.none : Option Jvm.ClassFile.FieldType)) : ∀ (n : Nat) (x1 : Int32) (x2 : Int32) (mem : Mem), dW_foresee_2 f n x1 x2 mem = some (o, mem') → V p l e (rmM 2 53) s m args below meth c 0 0 (MQ below (RQc k none mem') args s 0 0 (kA k)) k 3 mem 2 [(0, aR 0 0), (1, aI x1), (2, aI x2)] [] := by
  intro n
  induction n with
  | zero =>
    intro x1 x2 mem  h
    exact nomatch (show (none : Option (Unit × Mem)) = some _ from h)
  | succ n ih =>
    intro x1 x2 mem  h
    rw [dW_foresee_2] at h
    refine v_iload_n X (pc := 2) 2 rfl eW_foresee_2 rfl ?_
    refine v_iload_n X (pc := 3) 1 rfl eW_foresee_3 rfl ?_
    refine v_icmp_ge X (pc := 4) (tgt := 53) h eW_foresee_4 (by decide) (fun h => ?_) (fun h => ?_)
    · refine v_iload_n X (pc := 7) 2 rfl eW_foresee_7 rfl ?_
      refine v_aload_n X (pc := 8) 0 rfl eW_foresee_8 rfl ?_
      refine v_get X (pc := 9) 7 (a := aR 11 0) (by decide) (by decide) rfl rfl rfl in_WallShifts (by decide) qw_103 rfl eW_foresee_9 ?_
      refine v_alenI X (pc := 12) (v := (270 : Int32)) rfl (by decide) (by decide) rfl eW_foresee_12 ?_
      refine v_icmp_ge X (pc := 13) (tgt := 53) h eW_foresee_13 (by decide) (fun h => ?_) (fun h => ?_)
      · refine v_aload_n X (pc := 16) 0 rfl eW_foresee_16 rfl ?_
        refine v_get X (pc := 17) 7 (a := aR 11 0) (by decide) (by decide) rfl rfl rfl in_WallShifts (by decide) qw_103 rfl eW_foresee_17 ?_
        refine v_iload_n X (pc := 20) 2 rfl eW_foresee_20 rfl ?_
        refine v_aload_n X (pc := 21) 0 rfl eW_foresee_21 rfl ?_
        refine v_get X (pc := 22) 0 (a := aR 1 0) (by decide) (by decide) rfl rfl rfl in_WallShifts (by decide) qw_96 rfl eW_foresee_22 ?_
        refine v_aload_n X (pc := 25) 0 rfl eW_foresee_25 rfl ?_
        refine v_get X (pc := 26) 0 (a := aR 1 0) (by decide) (by decide) rfl rfl rfl in_WallShifts (by decide) qw_96 rfl eW_foresee_26 ?_
        refine v_get X (pc := 29) 0 (a := aI (gI mem 1 0 0)) (by decide) (by decide) rfl rfl rfl in_Palace (by decide) qw_31 rfl eW_foresee_29 ?_
        refine v_iload_n X (pc := 32) 2 rfl eW_foresee_32 rfl ?_
        refine v_iadd X (pc := 33) eW_foresee_33 ?_
        refine v_aload_n X (pc := 34) 0 rfl eW_foresee_34 rfl ?_
        refine v_get X (pc := 35) 0 (a := aR 1 0) (by decide) (by decide) rfl rfl rfl in_WallShifts (by decide) qw_96 rfl eW_foresee_35 ?_
        refine v_get X (pc := 38) 1 (a := aR 2 0) (by decide) (by decide) rfl rfl rfl in_Palace (by decide) qw_33 rfl eW_foresee_38 ?_
        refine v_iconst X (pc := 41) (v := (0 : Int32)) eW_foresee_41 (by decide) ?_
        refine v_ialdK X (pc := 42) (n := 4) 0 (by decide) (by decide) (by decide) (by decide) rfl eW_foresee_42 ?_
        obtain ⟨r1, m1, hc1, h⟩ := bd_some h
        refine v_callV X (pc := 43) [_, _] [_, _] ok_V_W_145 (cP_onDuty (by decide) hc1) rfl (Nat.le_of_ble_eq_true rfl) ⟨Nat.le_of_ble_eq_true rfl, Nat.le_of_ble_eq_true rfl⟩ ⟨Nat.zero_le _, Nat.zero_le _⟩ (by decide) (by decide) rfl rfl eW_foresee_43 ?_
        refine v_iast X (pc := 46) h (by decide) (by decide) (fun _ => rfl) eW_foresee_46 (fun h => ?_)
        refine v_iinc X (pc := 47) (v := (x2 + (1 : Int32))) (lv' := [(2, _), (0, _), (1, _)]) 2 rfl (by rfl) eW_foresee_47 (Nat.le_of_ble_eq_true rfl) rfl ?_
        refine v_goto X (pc := 50) (tgt := 2) eW_foresee_50 (by decide) ?_
        exact v_sub [1, 2, 0] rfl (ih _ _ _  h)
      · exact v_vret X (pc := 53) h hr eW_foresee_53
    · exact v_vret X (pc := 53) h hr eW_foresee_53
set_option maxHeartbeats 4000000 in
set_option maxRecDepth 100000 in
theorem cW_foresee {f : Nat} {a1 : Int32} {mem : Mem} {o : Unit} {mem' : Mem}  (h : dW_foresee f a1 mem = some (o, mem')) : RT yW_foresee prog_1_method_41_code 3 (Option.none : Option Jvm.ClassFile.FieldType) (rmM 2 53) [aR 0 0, aI a1] mem none mem' := by
  refine RT.of (by decide +kernel) (Nat.le_of_ble_eq_true rfl) (fun p l e s m args below meth c k X hr => ?_)
  replace X : CX p s m args meth c k prog_1_method_41_code 3 "WallShifts" := X
  unfold dW_foresee at h
  refine v_sub (lv' := [(0, _), (1, _)]) [0, 1] rfl ?_
  refine v_iconst X (pc := 0) (v := (0 : Int32)) eW_foresee_0 (by decide) ?_
  refine v_istore_n X (pc := 1) (lv' := [(2, _), (0, _), (1, _)]) eW_foresee_1 rfl (Nat.le_of_ble_eq_true rfl) rfl ?_
  exact v_sub [1, 2, 0] rfl (cW_foresee_2 X hr _ _ _ _  h)
set_option maxHeartbeats 4000000 in
set_option maxRecDepth 100000 in
theorem cW_firstSilence_55 {p : Program} {l : Launch} {e : Env} {s : State} {m : MethodId} {args : Array Value} {below : List Frame} {meth : Method} {c : Code} {k : KK} {f : Nat} {o : Int32} {mem' : Mem} (X : CX p s m args meth c k prog_1_method_44_code 6 "WallShifts") (hr : meth.sig.returnType = (Option.some Jvm.ClassFile.FieldType.int)) {k15 : Int32 → Int32 → Int32 → Int32 → Mem → Option (Int32 × Mem)} (hk15 : ∀ (x2 : Int32) (x3 : Int32) (x4 : Int32) (x5 : Int32) (mem : Mem), k15 x2 x3 x4 x5 mem = some (o, mem') → V p l e (rmM 3 70) s m args below meth c 0 0 (MQ below (RQc k (some (aI o)) mem') args s 0 0 (kA k)) k 6 mem 15 [(0, aR 0 0), (2, aI x2), (3, aI x3), (4, aI x4), (5, aI x5)] []) : ∀ (x2 : Int32) (x3 : Int32) (x5 : Int32) (s0 : Int32) (mem : Mem), dW_firstSilence_55 f k15 x2 x3 x5 s0 mem = some (o, mem') → V p l e (rmM 3 70) s m args below meth c 0 0 (MQ below (RQc k (some (aI o)) mem') args s 0 0 (kA k)) k 6 mem 55 [(0, aR 0 0), (2, aI x2), (3, aI x3), (5, aI x5)] [aI s0] := by
  intro x2 x3 x5 s0 mem  h
  unfold dW_firstSilence_55 at h
  refine v_istore X (pc := 55) (lv' := [(4, _), (0, _), (2, _), (3, _), (5, _)]) eW_firstSilence_55 (Nat.le_of_ble_eq_true rfl) rfl ?_
  refine v_iload X (pc := 57) 0 rfl eW_firstSilence_57 ?_
  refine v_iload_n X (pc := 59) 2 rfl eW_firstSilence_59 rfl ?_
  refine v_icmp_lt X (pc := 60) (tgt := 70) h eW_firstSilence_60 (by decide) (fun h => ?_) (fun h => ?_)
  · refine v_iinc X (pc := 70) (v := (x5 + (1 : Int32))) (lv' := [(5, _), (4, _), (0, _), (2, _), (3, _)]) 4 rfl (by rfl) eW_firstSilence_70 (Nat.le_of_ble_eq_true rfl) rfl ?_
    refine v_goto X (pc := 73) (tgt := 15) eW_firstSilence_73 (by decide) ?_
    exact v_sub [2, 3, 4, 1, 0] rfl (hk15 _ _ _ _ _  h)
  · refine v_iload X (pc := 63) 4 rfl eW_firstSilence_63 ?_
    refine v_iload_n X (pc := 65) 2 rfl eW_firstSilence_65 rfl ?_
    refine v_isub X (pc := 66) eW_firstSilence_66 ?_
    refine v_iconst X (pc := 67) (v := (1 : Int32)) eW_firstSilence_67 (by decide) ?_
    refine v_iadd X (pc := 68) eW_firstSilence_68 ?_
    exact v_iret X (pc := 69) h hr eW_firstSilence_69
set_option maxHeartbeats 4000000 in
set_option maxRecDepth 100000 in
theorem cW_firstSilence_15 {p : Program} {l : Launch} {e : Env} {s : State} {m : MethodId} {args : Array Value} {below : List Frame} {meth : Method} {c : Code} {k : KK} {f : Nat} {o : Int32} {mem' : Mem} (X : CX p s m args meth c k prog_1_method_44_code 6 "WallShifts") (hr : meth.sig.returnType = (Option.some Jvm.ClassFile.FieldType.int)) : ∀ (n : Nat) (x2 : Int32) (x3 : Int32) (x4 : Int32) (x5 : Int32) (mem : Mem), dW_firstSilence_15 f n x2 x3 x4 x5 mem = some (o, mem') → V p l e (rmM 3 70) s m args below meth c 0 0 (MQ below (RQc k (some (aI o)) mem') args s 0 0 (kA k)) k 6 mem 15 [(0, aR 0 0), (2, aI x2), (3, aI x3), (4, aI x4), (5, aI x5)] [] := by
  intro n
  induction n with
  | zero =>
    intro x2 x3 x4 x5 mem  h
    exact nomatch (show (none : Option (Int32 × Mem)) = some _ from h)
  | succ n ih =>
    intro x2 x3 x4 x5 mem  h
    rw [dW_firstSilence_15] at h
    refine v_iload X (pc := 15) 4 rfl eW_firstSilence_15 ?_
    refine v_sipush X (pc := 17) (v := (240 : Int32)) eW_firstSilence_17 (by decide) ?_
    refine v_iload_n X (pc := 20) 1 rfl eW_firstSilence_20 rfl ?_
    refine v_iadd X (pc := 21) eW_firstSilence_21 ?_
    refine v_icmp_ge X (pc := 22) (tgt := 76) h eW_firstSilence_22 (by decide) (fun h => ?_) (fun h => ?_)
    · refine v_iload X (pc := 25) 4 rfl eW_firstSilence_25 ?_
      refine v_aload_n X (pc := 27) 0 rfl eW_firstSilence_27 rfl ?_
      refine v_get X (pc := 28) 7 (a := aR 11 0) (by decide) (by decide) rfl rfl rfl in_WallShifts (by decide) qw_103 rfl eW_firstSilence_28 ?_
      refine v_alenI X (pc := 31) (v := (270 : Int32)) rfl (by decide) (by decide) rfl eW_firstSilence_31 ?_
      refine v_icmp_ge X (pc := 32) (tgt := 76) h eW_firstSilence_32 (by decide) (fun h => ?_) (fun h => ?_)
      · refine v_aload_n X (pc := 35) 0 rfl eW_firstSilence_35 rfl ?_
        refine v_get X (pc := 36) 7 (a := aR 11 0) (by decide) (by decide) rfl rfl rfl in_WallShifts (by decide) qw_103 rfl eW_firstSilence_36 ?_
        refine v_iload X (pc := 39) 4 rfl eW_firstSilence_39 ?_
        refine v_iald X (pc := 41) h (by decide) (by decide) rfl eW_firstSilence_41 (fun h => ?_)
        refine v_iload_n X (pc := 42) 2 rfl eW_firstSilence_42 rfl ?_
        refine v_iand X (pc := 43) eW_firstSilence_43 ?_
        refine v_if_ne X (pc := 44) (tgt := 54) h eW_firstSilence_44 (by decide) (fun h => ?_) (fun h => ?_)
        · refine v_iload X (pc := 47) 3 rfl eW_firstSilence_47 ?_
          refine v_iconst X (pc := 49) (v := (1 : Int32)) eW_firstSilence_49 (by decide) ?_
          refine v_iadd X (pc := 50) eW_firstSilence_50 ?_
          refine v_goto X (pc := 51) (tgt := 55) eW_firstSilence_51 (by decide) ?_
          exact v_sub [0, 1, 2, 4] rfl (cW_firstSilence_55 X hr ih _ _ _ _ _  h)
        · refine v_iconst X (pc := 54) (v := (0 : Int32)) eW_firstSilence_54 (by decide) ?_
          exact v_sub [0, 1, 2, 4] rfl (cW_firstSilence_55 X hr ih _ _ _ _ _  h)
      · refine v_iconst X (pc := 76) (v := (-1 : Int32)) eW_firstSilence_76 (by decide) ?_
        exact v_iret X (pc := 77) h hr eW_firstSilence_77
    · refine v_iconst X (pc := 76) (v := (-1 : Int32)) eW_firstSilence_76 (by decide) ?_
      exact v_iret X (pc := 77) h hr eW_firstSilence_77
set_option maxHeartbeats 4000000 in
set_option maxRecDepth 100000 in
theorem cW_firstSilence {f : Nat} {a1 : Int32} {a2 : Int32} {mem : Mem} {o : Int32} {mem' : Mem}  (h : dW_firstSilence f a1 a2 mem = some (o, mem')) : RT yW_firstSilence prog_1_method_44_code 6 (Option.some Jvm.ClassFile.FieldType.int) (rmM 3 70) [aR 0 0, aI a1, aI a2] mem (some (aI o)) mem' := by
  refine RT.of (by decide +kernel) (Nat.le_of_ble_eq_true rfl) (fun p l e s m args below meth c k X hr => ?_)
  replace X : CX p s m args meth c k prog_1_method_44_code 6 "WallShifts" := X
  unfold dW_firstSilence at h
  refine v_sub (lv' := [(0, _), (1, _), (2, _)]) [0, 1, 2] rfl ?_
  refine v_aload_n X (pc := 0) 0 rfl eW_firstSilence_0 rfl ?_
  refine v_get X (pc := 1) 0 (a := aR 1 0) (by decide) (by decide) rfl rfl rfl in_WallShifts (by decide) qw_96 rfl eW_firstSilence_1 ?_
  refine v_iload_n X (pc := 4) 1 rfl eW_firstSilence_4 rfl ?_
  obtain ⟨r1, m1, hc1, h⟩ := bd_some h
  refine v_callV X (pc := 5) [_] [] ok_V_W_119 (cP_near (by decide) hc1) rfl (Nat.le_of_ble_eq_true rfl) ⟨Nat.le_of_ble_eq_true rfl, Nat.le_of_ble_eq_true rfl⟩ ⟨Nat.zero_le _, Nat.zero_le _⟩ (by decide) (by decide) rfl rfl eW_firstSilence_5 ?_
  refine v_istore_n X (pc := 8) (lv' := [(3, _), (0, _), (1, _), (2, _)]) eW_firstSilence_8 rfl (Nat.le_of_ble_eq_true rfl) rfl ?_
  refine v_iconst X (pc := 9) (v := (0 : Int32)) eW_firstSilence_9 (by decide) ?_
  refine v_istore X (pc := 10) (lv' := [(4, _), (3, _), (0, _), (1, _), (2, _)]) eW_firstSilence_10 (Nat.le_of_ble_eq_true rfl) rfl ?_
  refine v_iconst X (pc := 12) (v := (0 : Int32)) eW_firstSilence_12 (by decide) ?_
  refine v_istore X (pc := 13) (lv' := [(5, _), (4, _), (3, _), (0, _), (1, _), (2, _)]) eW_firstSilence_13 (Nat.le_of_ble_eq_true rfl) rfl ?_
  exact v_sub [3, 5, 2, 1, 0] rfl (cW_firstSilence_15 X hr _ _ _ _ _ _  h)
set_option maxHeartbeats 4000000 in
set_option maxRecDepth 100000 in
theorem cW_safe {f : Nat} {a1 : Int32} {a2 : Int32} {mem : Mem} {o : Int32} {mem' : Mem}  (h : dW_safe f a1 a2 mem = some (o, mem')) : RT yW_safe prog_1_method_16_code 4 (Option.some Jvm.ClassFile.FieldType.int) (rmM 4 95) [aR 0 0, aI a1, aI a2] mem (some (aI o)) mem' := by
  refine RT.of (by decide +kernel) (Nat.le_of_ble_eq_true rfl) (fun p l e s m args below meth c k X hr => ?_)
  replace X : CX p s m args meth c k prog_1_method_16_code 4 "WallShifts" := X
  unfold dW_safe at h
  refine v_sub (lv' := [(0, _), (1, _), (2, _)]) [0, 1, 2] rfl ?_
  refine v_iload_n X (pc := 0) 1 rfl eW_safe_0 rfl ?_
  obtain ⟨r1, m1, hc1, h⟩ := bd_some h
  refine v_callS X (pc := 1) [_] [] ok_S_W_63 (cW_isRoom  hc1) rfl (Nat.le_of_ble_eq_true rfl) ⟨Nat.le_of_ble_eq_true rfl, Nat.le_of_ble_eq_true rfl⟩ ⟨Nat.zero_le _, Nat.zero_le _⟩ eW_safe_1 ?_
  refine v_if_eq X (pc := 4) (tgt := 17) h eW_safe_4 (by decide) (fun h => ?_) (fun h => ?_)
  · refine v_aload_n X (pc := 17) 0 rfl eW_safe_17 rfl ?_
    refine v_ldc X (pc := 18) qw_135 eW_safe_18 ?_
    obtain ⟨r2, m2, hc2, h⟩ := bd_some h
    refine v_callV X (pc := 20) [_] [] ok_V_W_52 (cW_finding  hc2) rfl (Nat.le_of_ble_eq_true rfl) ⟨Nat.le_of_ble_eq_true rfl, Nat.le_of_ble_eq_true rfl⟩ ⟨Nat.zero_le _, Nat.zero_le _⟩ (by decide) (by decide) rfl rfl eW_safe_20 ?_
    exact v_iret X (pc := 23) h hr eW_safe_23
  · refine v_iload_n X (pc := 7) 2 rfl eW_safe_7 rfl ?_
    refine v_iconst X (pc := 8) (v := (1 : Int32)) eW_safe_8 (by decide) ?_
    refine v_bipush X (pc := 9) (v := (30 : Int32)) eW_safe_9 (by decide) ?_
    obtain ⟨r3, m3, hc3, h⟩ := bd_some h
    refine v_callS X (pc := 11) [_, _, _] [] ok_S_W_82 (cW_isIn  hc3) rfl (Nat.le_of_ble_eq_true rfl) ⟨Nat.le_of_ble_eq_true rfl, Nat.le_of_ble_eq_true rfl⟩ ⟨Nat.zero_le _, Nat.zero_le _⟩ eW_safe_11 ?_
    refine v_if_ne X (pc := 14) (tgt := 24) h eW_safe_14 (by decide) (fun h => ?_) (fun h => ?_)
    · refine v_aload_n X (pc := 17) 0 rfl eW_safe_17 rfl ?_
      refine v_ldc X (pc := 18) qw_135 eW_safe_18 ?_
      obtain ⟨r4, m4, hc4, h⟩ := bd_some h
      refine v_callV X (pc := 20) [_] [] ok_V_W_52 (cW_finding  hc4) rfl (Nat.le_of_ble_eq_true rfl) ⟨Nat.le_of_ble_eq_true rfl, Nat.le_of_ble_eq_true rfl⟩ ⟨Nat.zero_le _, Nat.zero_le _⟩ (by decide) (by decide) rfl rfl eW_safe_20 ?_
      exact v_iret X (pc := 23) h hr eW_safe_23
    · refine v_aload_n X (pc := 24) 0 rfl eW_safe_24 rfl ?_
      refine v_sipush X (pc := 25) (v := (240 : Int32)) eW_safe_25 (by decide) ?_
      refine v_iload_n X (pc := 28) 2 rfl eW_safe_28 rfl ?_
      refine v_iadd X (pc := 29) eW_safe_29 ?_
      obtain ⟨r5, m5, hc5, h⟩ := bd_some h
      refine v_callV X (pc := 30) [_] [] ok_V_W_158 (cW_foresee  hc5) rfl (Nat.le_of_ble_eq_true rfl) ⟨Nat.le_of_ble_eq_true rfl, Nat.le_of_ble_eq_true rfl⟩ ⟨Nat.zero_le _, Nat.zero_le _⟩ (by decide) (by decide) rfl rfl eW_safe_30 ?_
      refine v_aload_n X (pc := 33) 0 rfl eW_safe_33 rfl ?_
      refine v_iload_n X (pc := 34) 1 rfl eW_safe_34 rfl ?_
      refine v_iload_n X (pc := 35) 2 rfl eW_safe_35 rfl ?_
      obtain ⟨r6, m6, hc6, h⟩ := bd_some h
      refine v_callV X (pc := 36) [_, _] [] ok_V_W_162 (cW_firstSilence  hc6) rfl (Nat.le_of_ble_eq_true rfl) ⟨Nat.le_of_ble_eq_true rfl, Nat.le_of_ble_eq_true rfl⟩ ⟨Nat.zero_le _, Nat.zero_le _⟩ (by decide) (by decide) rfl rfl eW_safe_36 ?_
      refine v_istore_n X (pc := 39) (lv' := [(3, _), (0, _), (1, _), (2, _)]) eW_safe_39 rfl (Nat.le_of_ble_eq_true rfl) rfl ?_
      refine v_iload_n X (pc := 40) 0 rfl eW_safe_40 rfl ?_
      refine v_if_ge X (pc := 41) (tgt := 53) h eW_safe_41 (by decide) (fun h => ?_) (fun h => ?_)
      · refine v_aload_n X (pc := 44) 1 rfl eW_safe_44 rfl ?_
        refine v_ldc X (pc := 45) qw_268 eW_safe_45 ?_
        obtain ⟨r7, m7, hc7, h⟩ := bd_some h
        refine v_callV X (pc := 47) [_] [] ok_V_W_52 (cW_finding  hc7) rfl (Nat.le_of_ble_eq_true rfl) ⟨Nat.le_of_ble_eq_true rfl, Nat.le_of_ble_eq_true rfl⟩ ⟨Nat.zero_le _, Nat.zero_le _⟩ (by decide) (by decide) rfl rfl eW_safe_47 ?_
        refine v_goto X (pc := 50) (tgt := 54) eW_safe_50 (by decide) ?_
        exact v_iret X (pc := 54) h hr eW_safe_54
      · refine v_iload_n X (pc := 53) 0 rfl eW_safe_53 rfl ?_
        exact v_iret X (pc := 54) h hr eW_safe_54
end
section
/-! GENERATED: the walks. -/
set_option maxHeartbeats 4000000 in
set_option maxRecDepth 100000 in
theorem cW_where_35 {p : Program} {l : Launch} {e : Env} {s : State} {m : MethodId} {args : Array Value} {below : List Frame} {meth : Method} {c : Code} {k : KK} {f : Nat} {o : Int32} {mem' : Mem} (X : CX p s m args meth c k prog_1_method_17_code 6 "WallShifts") (hr : meth.sig.returnType = (Option.some Jvm.ClassFile.FieldType.int)) : ∀ (n : Nat) (x1 : Int32) (x2 : Int32) (x3 : Int32) (x4 : Int32) (mem : Mem), dW_where_35 f n x1 x2 x3 x4 mem = some (o, mem') → V p l e (rmM 4 95) s m args below meth c 0 0 (MQ below (RQc k (some (aI o)) mem') args s 0 0 (kA k)) k 6 mem 35 [(0, aR 0 0), (1, aI x1), (2, aI x2), (3, aI x3), (4, aI x4)] [] := by
  intro n
  induction n with
  | zero =>
    intro x1 x2 x3 x4 mem  h
    exact nomatch (show (none : Option (Int32 × Mem)) = some _ from h)
  | succ n ih =>
    intro x1 x2 x3 x4 mem  h
    rw [dW_where_35] at h
    refine v_iload X (pc := 35) 4 rfl eW_where_35 ?_
    refine v_bipush X (pc := 37) (v := (10 : Int32)) eW_where_37 (by decide) ?_
    refine v_icmp_ge X (pc := 39) (tgt := 74) h eW_where_39 (by decide) (fun h => ?_) (fun h => ?_)
    · refine v_aload_n X (pc := 42) 0 rfl eW_where_42 rfl ?_
      refine v_iload X (pc := 43) 4 rfl eW_where_43 ?_
      refine v_iload_n X (pc := 45) 1 rfl eW_where_45 rfl ?_
      obtain ⟨r1, m1, hc1, h⟩ := bd_some h
      refine v_callV X (pc := 46) [_, _] [] ok_V_W_162 (cW_firstSilence  hc1) rfl (Nat.le_of_ble_eq_true rfl) ⟨Nat.le_of_ble_eq_true rfl, Nat.le_of_ble_eq_true rfl⟩ ⟨Nat.zero_le _, Nat.zero_le _⟩ (by decide) (by decide) rfl rfl eW_where_46 ?_
      refine v_istore X (pc := 49) (lv' := [(5, _), (0, _), (1, _), (2, _), (3, _), (4, _)]) eW_where_49 (Nat.le_of_ble_eq_true rfl) rfl ?_
      refine v_iload X (pc := 51) 0 rfl eW_where_51 ?_
      refine v_if_lt X (pc := 53) (tgt := 68) h eW_where_53 (by decide) (fun h => ?_) (fun h => ?_)
      · refine v_iinc X (pc := 68) (v := (x4 + (1 : Int32))) (lv' := [(4, _), (5, _), (0, _), (1, _), (2, _), (3, _)]) 5 rfl (by rfl) eW_where_68 (Nat.le_of_ble_eq_true rfl) rfl ?_
        refine v_goto X (pc := 71) (tgt := 35) eW_where_71 (by decide) ?_
        exact v_sub [2, 3, 4, 5, 0] rfl (ih _ _ _ _ _  h)
      · refine v_iload X (pc := 56) 0 rfl eW_where_56 ?_
        refine v_iload_n X (pc := 58) 3 rfl eW_where_58 rfl ?_
        refine v_icmp_ge X (pc := 59) (tgt := 68) h eW_where_59 (by decide) (fun h => ?_) (fun h => ?_)
        · refine v_iload X (pc := 62) 0 rfl eW_where_62 ?_
          refine v_istore_n X (pc := 64) (lv' := [(2, _), (5, _), (0, _), (1, _), (3, _), (4, _)]) eW_where_64 rfl (Nat.le_of_ble_eq_true rfl) rfl ?_
          refine v_iload X (pc := 65) 5 rfl eW_where_65 ?_
          refine v_istore_n X (pc := 67) (lv' := [(3, _), (2, _), (5, _), (0, _), (1, _), (4, _)]) eW_where_67 rfl (Nat.le_of_ble_eq_true rfl) rfl ?_
          refine v_iinc X (pc := 68) (v := (x4 + (1 : Int32))) (lv' := [(4, _), (3, _), (2, _), (5, _), (0, _), (1, _)]) 5 rfl (by rfl) eW_where_68 (Nat.le_of_ble_eq_true rfl) rfl ?_
          refine v_goto X (pc := 71) (tgt := 35) eW_where_71 (by decide) ?_
          exact v_sub [4, 5, 2, 1, 0] rfl (ih _ _ _ _ _  h)
        · refine v_iinc X (pc := 68) (v := (x4 + (1 : Int32))) (lv' := [(4, _), (5, _), (0, _), (1, _), (2, _), (3, _)]) 5 rfl (by rfl) eW_where_68 (Nat.le_of_ble_eq_true rfl) rfl ?_
          refine v_goto X (pc := 71) (tgt := 35) eW_where_71 (by decide) ?_
          exact v_sub [2, 3, 4, 5, 0] rfl (ih _ _ _ _ _  h)
    · refine v_iload_n X (pc := 74) 3 rfl eW_where_74 rfl ?_
      refine v_if_ge X (pc := 75) (tgt := 87) h eW_where_75 (by decide) (fun h => ?_) (fun h => ?_)
      · refine v_aload_n X (pc := 78) 0 rfl eW_where_78 rfl ?_
        refine v_ldc X (pc := 79) qw_268 eW_where_79 ?_
        obtain ⟨r2, m2, hc2, h⟩ := bd_some h
        refine v_callV X (pc := 81) [_] [] ok_V_W_52 (cW_finding  hc2) rfl (Nat.le_of_ble_eq_true rfl) ⟨Nat.le_of_ble_eq_true rfl, Nat.le_of_ble_eq_true rfl⟩ ⟨Nat.zero_le _, Nat.zero_le _⟩ (by decide) (by decide) rfl rfl eW_where_81 ?_
        refine v_goto X (pc := 84) (tgt := 88) eW_where_84 (by decide) ?_
        exact v_iret X (pc := 88) h hr eW_where_88
      · refine v_iload_n X (pc := 87) 3 rfl eW_where_87 rfl ?_
        exact v_iret X (pc := 88) h hr eW_where_88
set_option maxHeartbeats 4000000 in
set_option maxRecDepth 100000 in
theorem cW_where {f : Nat} {a1 : Int32} {mem : Mem} {o : Int32} {mem' : Mem}  (h : dW_where f a1 mem = some (o, mem')) : RT yW_where prog_1_method_17_code 6 (Option.some Jvm.ClassFile.FieldType.int) (rmM 4 95) [aR 0 0, aI a1] mem (some (aI o)) mem' := by
  refine RT.of (by decide +kernel) (Nat.le_of_ble_eq_true rfl) (fun p l e s m args below meth c k X hr => ?_)
  replace X : CX p s m args meth c k prog_1_method_17_code 6 "WallShifts" := X
  unfold dW_where at h
  refine v_sub (lv' := [(0, _), (1, _)]) [0, 1] rfl ?_
  refine v_iload_n X (pc := 0) 1 rfl eW_where_0 rfl ?_
  refine v_iconst X (pc := 1) (v := (1 : Int32)) eW_where_1 (by decide) ?_
  refine v_bipush X (pc := 2) (v := (30 : Int32)) eW_where_2 (by decide) ?_
  obtain ⟨r1, m1, hc1, h⟩ := bd_some h
  refine v_callS X (pc := 4) [_, _, _] [] ok_S_W_82 (cW_isIn  hc1) rfl (Nat.le_of_ble_eq_true rfl) ⟨Nat.le_of_ble_eq_true rfl, Nat.le_of_ble_eq_true rfl⟩ ⟨Nat.zero_le _, Nat.zero_le _⟩ eW_where_4 ?_
  refine v_if_ne X (pc := 7) (tgt := 17) h eW_where_7 (by decide) (fun h => ?_) (fun h => ?_)
  · refine v_aload_n X (pc := 10) 0 rfl eW_where_10 rfl ?_
    refine v_ldc X (pc := 11) qw_135 eW_where_11 ?_
    obtain ⟨r2, m2, hc2, h⟩ := bd_some h
    refine v_callV X (pc := 13) [_] [] ok_V_W_52 (cW_finding  hc2) rfl (Nat.le_of_ble_eq_true rfl) ⟨Nat.le_of_ble_eq_true rfl, Nat.le_of_ble_eq_true rfl⟩ ⟨Nat.zero_le _, Nat.zero_le _⟩ (by decide) (by decide) rfl rfl eW_where_13 ?_
    exact v_iret X (pc := 16) h hr eW_where_16
  · refine v_aload_n X (pc := 17) 0 rfl eW_where_17 rfl ?_
    refine v_sipush X (pc := 18) (v := (240 : Int32)) eW_where_18 (by decide) ?_
    refine v_iload_n X (pc := 21) 1 rfl eW_where_21 rfl ?_
    refine v_iadd X (pc := 22) eW_where_22 ?_
    obtain ⟨r3, m3, hc3, h⟩ := bd_some h
    refine v_callV X (pc := 23) [_] [] ok_V_W_158 (cW_foresee  hc3) rfl (Nat.le_of_ble_eq_true rfl) ⟨Nat.le_of_ble_eq_true rfl, Nat.le_of_ble_eq_true rfl⟩ ⟨Nat.zero_le _, Nat.zero_le _⟩ (by decide) (by decide) rfl rfl eW_where_23 ?_
    refine v_sipush X (pc := 26) (v := (241 : Int32)) eW_where_26 (by decide) ?_
    refine v_istore_n X (pc := 29) (lv' := [(2, _), (0, _), (1, _)]) eW_where_29 rfl (Nat.le_of_ble_eq_true rfl) rfl ?_
    refine v_iconst X (pc := 30) (v := (-1 : Int32)) eW_where_30 (by decide) ?_
    refine v_istore_n X (pc := 31) (lv' := [(3, _), (2, _), (0, _), (1, _)]) eW_where_31 rfl (Nat.le_of_ble_eq_true rfl) rfl ?_
    refine v_iconst X (pc := 32) (v := (0 : Int32)) eW_where_32 (by decide) ?_
    refine v_istore X (pc := 33) (lv' := [(4, _), (3, _), (2, _), (0, _), (1, _)]) eW_where_33 (Nat.le_of_ble_eq_true rfl) rfl ?_
    exact v_sub [3, 4, 2, 1, 0] rfl (cW_where_35 X hr _ _ _ _ _ _  h)
set_option maxHeartbeats 4000000 in
set_option maxRecDepth 100000 in
theorem cP_silentMinutes_6 {p : Program} {l : Launch} {e : Env} {s : State} {m : MethodId} {args : Array Value} {below : List Frame} {meth : Method} {c : Code} {k : KK} {f : Nat} {o : Int32} {mem' : Mem} (X : CX p s m args meth c k prog_2_method_10_code 6 "WallShifts$Palace") (hr : meth.sig.returnType = (Option.some Jvm.ClassFile.FieldType.int)) : ∀ (n : Nat) (q0 : Nat) (x1 : Int32) (x2 : Int32) (x3 : Int32) (x4 : Int32) (x5 : Int32) (mem : Mem), q0 < 3 → dP_silentMinutes_6 f n q0 x1 x2 x3 x4 x5 mem = some (o, mem') → V p l e (rmM 2 53) s m args below meth c 0 0 (MQ below (RQc k (some (aI o)) mem') args s 0 0 (kA k)) k 6 mem 6 [(0, aR 1 q0), (1, aI x1), (2, aI x2), (3, aI x3), (4, aI x4), (5, aI x5)] [] := by
  intro n
  induction n with
  | zero =>
    intro q0 x1 x2 x3 x4 x5 mem hq0 h
    exact nomatch (show (none : Option (Int32 × Mem)) = some _ from h)
  | succ n ih =>
    intro q0 x1 x2 x3 x4 x5 mem hq0 h
    rw [dP_silentMinutes_6] at h
    refine v_iload X (pc := 6) 5 rfl eP_silentMinutes_6 ?_
    refine v_iload_n X (pc := 8) 2 rfl eP_silentMinutes_8 rfl ?_
    refine v_icmp_ge X (pc := 9) (tgt := 45) h eP_silentMinutes_9 (by decide) (fun h => ?_) (fun h => ?_)
    · refine v_iload X (pc := 12) 4 rfl eP_silentMinutes_12 ?_
      refine v_aload_n X (pc := 14) 0 rfl eP_silentMinutes_14 rfl ?_
      refine v_aload_n X (pc := 15) 0 rfl eP_silentMinutes_15 rfl ?_
      refine v_get X (pc := 16) 0 (a := aI (gI mem 1 q0 0)) (by decide) hq0 rfl rfl rfl in_Palace (by decide) qw_30 rfl eP_silentMinutes_16 ?_
      refine v_iload X (pc := 19) 5 rfl eP_silentMinutes_19 ?_
      refine v_iadd X (pc := 21) eP_silentMinutes_21 ?_
      refine v_iload_n X (pc := 22) 3 rfl eP_silentMinutes_22 rfl ?_
      obtain ⟨r1, m1, hc1, h⟩ := bd_some h
      refine v_callV X (pc := 23) [_, _] [_] ok_V_P_36 (cP_onDuty hq0 hc1) rfl (Nat.le_of_ble_eq_true rfl) ⟨Nat.le_of_ble_eq_true rfl, Nat.le_of_ble_eq_true rfl⟩ ⟨Nat.zero_le _, Nat.zero_le _⟩ (by decide) hq0 rfl rfl eP_silentMinutes_23 ?_
      refine v_iload_n X (pc := 26) 1 rfl eP_silentMinutes_26 rfl ?_
      refine v_iand X (pc := 27) eP_silentMinutes_27 ?_
      refine v_if_ne X (pc := 28) (tgt := 35) h eP_silentMinutes_28 (by decide) (fun h => ?_) (fun h => ?_)
      · refine v_iconst X (pc := 31) (v := (1 : Int32)) eP_silentMinutes_31 (by decide) ?_
        refine v_goto X (pc := 32) (tgt := 36) eP_silentMinutes_32 (by decide) ?_
        refine v_iadd X (pc := 36) eP_silentMinutes_36 ?_
        refine v_istore X (pc := 37) (lv' := [(4, _), (0, _), (1, _), (2, _), (3, _), (5, _)]) eP_silentMinutes_37 (Nat.le_of_ble_eq_true rfl) rfl ?_
        refine v_iinc X (pc := 39) (v := (x5 + (1 : Int32))) (lv' := [(5, _), (4, _), (0, _), (1, _), (2, _), (3, _)]) 5 rfl (by rfl) eP_silentMinutes_39 (Nat.le_of_ble_eq_true rfl) rfl ?_
        refine v_goto X (pc := 42) (tgt := 6) eP_silentMinutes_42 (by decide) ?_
        exact v_sub [2, 3, 4, 5, 1, 0] rfl (ih _ _ _ _ _ _ _ hq0 h)
      · refine v_iconst X (pc := 35) (v := (0 : Int32)) eP_silentMinutes_35 (by decide) ?_
        refine v_iadd X (pc := 36) eP_silentMinutes_36 ?_
        refine v_istore X (pc := 37) (lv' := [(4, _), (0, _), (1, _), (2, _), (3, _), (5, _)]) eP_silentMinutes_37 (Nat.le_of_ble_eq_true rfl) rfl ?_
        refine v_iinc X (pc := 39) (v := (x5 + (1 : Int32))) (lv' := [(5, _), (4, _), (0, _), (1, _), (2, _), (3, _)]) 5 rfl (by rfl) eP_silentMinutes_39 (Nat.le_of_ble_eq_true rfl) rfl ?_
        refine v_goto X (pc := 42) (tgt := 6) eP_silentMinutes_42 (by decide) ?_
        exact v_sub [2, 3, 4, 5, 1, 0] rfl (ih _ _ _ _ _ _ _ hq0 h)
    · refine v_iload X (pc := 45) 4 rfl eP_silentMinutes_45 ?_
      exact v_iret X (pc := 47) h hr eP_silentMinutes_47
set_option maxHeartbeats 4000000 in
set_option maxRecDepth 100000 in
theorem cP_silentMinutes {f : Nat} {q0 : Nat} {a1 : Int32} {a2 : Int32} {a3 : Int32} {mem : Mem} {o : Int32} {mem' : Mem} (hq0 : q0 < 3) (h : dP_silentMinutes f q0 a1 a2 a3 mem = some (o, mem')) : RT yP_silentMinutes prog_2_method_10_code 6 (Option.some Jvm.ClassFile.FieldType.int) (rmM 2 53) [aR 1 q0, aI a1, aI a2, aI a3] mem (some (aI o)) mem' := by
  refine RT.of (by decide +kernel) (Nat.le_of_ble_eq_true rfl) (fun p l e s m args below meth c k X hr => ?_)
  replace X : CX p s m args meth c k prog_2_method_10_code 6 "WallShifts$Palace" := X
  unfold dP_silentMinutes at h
  refine v_sub (lv' := [(0, _), (1, _), (2, _), (3, _)]) [0, 1, 2, 3] rfl ?_
  refine v_iconst X (pc := 0) (v := (0 : Int32)) eP_silentMinutes_0 (by decide) ?_
  refine v_istore X (pc := 1) (lv' := [(4, _), (0, _), (1, _), (2, _), (3, _)]) eP_silentMinutes_1 (Nat.le_of_ble_eq_true rfl) rfl ?_
  refine v_iconst X (pc := 3) (v := (0 : Int32)) eP_silentMinutes_3 (by decide) ?_
  refine v_istore X (pc := 4) (lv' := [(5, _), (4, _), (0, _), (1, _), (2, _), (3, _)]) eP_silentMinutes_4 (Nat.le_of_ble_eq_true rfl) rfl ?_
  exact v_sub [2, 3, 4, 5, 1, 0] rfl (cP_silentMinutes_6 X hr _ _ _ _ _ _ _ _ hq0 h)
set_option maxHeartbeats 4000000 in
set_option maxRecDepth 100000 in
theorem cW_quiet {f : Nat} {a1 : Int32} {a2 : Int32} {mem : Mem} {o : Int32} {mem' : Mem}  (h : dW_quiet f a1 a2 mem = some (o, mem')) : RT yW_quiet prog_1_method_18_code 3 (Option.some Jvm.ClassFile.FieldType.int) (rmM 3 78) [aR 0 0, aI a1, aI a2] mem (some (aI o)) mem' := by
  refine RT.of (by decide +kernel) (Nat.le_of_ble_eq_true rfl) (fun p l e s m args below meth c k X hr => ?_)
  replace X : CX p s m args meth c k prog_1_method_18_code 3 "WallShifts" := X
  unfold dW_quiet at h
  refine v_sub (lv' := [(0, _), (1, _), (2, _)]) [0, 1, 2] rfl ?_
  refine v_iload_n X (pc := 0) 1 rfl eW_quiet_0 rfl ?_
  obtain ⟨r1, m1, hc1, h⟩ := bd_some h
  refine v_callS X (pc := 1) [_] [] ok_S_W_63 (cW_isRoom  hc1) rfl (Nat.le_of_ble_eq_true rfl) ⟨Nat.le_of_ble_eq_true rfl, Nat.le_of_ble_eq_true rfl⟩ ⟨Nat.zero_le _, Nat.zero_le _⟩ eW_quiet_1 ?_
  refine v_if_eq X (pc := 4) (tgt := 18) h eW_quiet_4 (by decide) (fun h => ?_) (fun h => ?_)
  · refine v_aload_n X (pc := 18) 0 rfl eW_quiet_18 rfl ?_
    refine v_ldc X (pc := 19) qw_135 eW_quiet_19 ?_
    obtain ⟨r2, m2, hc2, h⟩ := bd_some h
    refine v_callV X (pc := 21) [_] [] ok_V_W_52 (cW_finding  hc2) rfl (Nat.le_of_ble_eq_true rfl) ⟨Nat.le_of_ble_eq_true rfl, Nat.le_of_ble_eq_true rfl⟩ ⟨Nat.zero_le _, Nat.zero_le _⟩ (by decide) (by decide) rfl rfl eW_quiet_21 ?_
    exact v_iret X (pc := 24) h hr eW_quiet_24
  · refine v_iload_n X (pc := 7) 2 rfl eW_quiet_7 rfl ?_
    refine v_iconst X (pc := 8) (v := (1 : Int32)) eW_quiet_8 (by decide) ?_
    refine v_sipush X (pc := 9) (v := (240 : Int32)) eW_quiet_9 (by decide) ?_
    obtain ⟨r3, m3, hc3, h⟩ := bd_some h
    refine v_callS X (pc := 12) [_, _, _] [] ok_S_W_82 (cW_isIn  hc3) rfl (Nat.le_of_ble_eq_true rfl) ⟨Nat.le_of_ble_eq_true rfl, Nat.le_of_ble_eq_true rfl⟩ ⟨Nat.zero_le _, Nat.zero_le _⟩ eW_quiet_12 ?_
    refine v_if_ne X (pc := 15) (tgt := 25) h eW_quiet_15 (by decide) (fun h => ?_) (fun h => ?_)
    · refine v_aload_n X (pc := 18) 0 rfl eW_quiet_18 rfl ?_
      refine v_ldc X (pc := 19) qw_135 eW_quiet_19 ?_
      obtain ⟨r4, m4, hc4, h⟩ := bd_some h
      refine v_callV X (pc := 21) [_] [] ok_V_W_52 (cW_finding  hc4) rfl (Nat.le_of_ble_eq_true rfl) ⟨Nat.le_of_ble_eq_true rfl, Nat.le_of_ble_eq_true rfl⟩ ⟨Nat.zero_le _, Nat.zero_le _⟩ (by decide) (by decide) rfl rfl eW_quiet_21 ?_
      exact v_iret X (pc := 24) h hr eW_quiet_24
    · refine v_aload_n X (pc := 25) 0 rfl eW_quiet_25 rfl ?_
      refine v_get X (pc := 26) 0 (a := aR 1 0) (by decide) (by decide) rfl rfl rfl in_WallShifts (by decide) qw_96 rfl eW_quiet_26 ?_
      refine v_aload_n X (pc := 29) 0 rfl eW_quiet_29 rfl ?_
      refine v_get X (pc := 30) 0 (a := aR 1 0) (by decide) (by decide) rfl rfl rfl in_WallShifts (by decide) qw_96 rfl eW_quiet_30 ?_
      refine v_iload_n X (pc := 33) 1 rfl eW_quiet_33 rfl ?_
      obtain ⟨r5, m5, hc5, h⟩ := bd_some h
      refine v_callV X (pc := 34) [_] [_] ok_V_W_119 (cP_near (by decide) hc5) rfl (Nat.le_of_ble_eq_true rfl) ⟨Nat.le_of_ble_eq_true rfl, Nat.le_of_ble_eq_true rfl⟩ ⟨Nat.zero_le _, Nat.zero_le _⟩ (by decide) (by decide) rfl rfl eW_quiet_34 ?_
      refine v_iload_n X (pc := 37) 2 rfl eW_quiet_37 rfl ?_
      refine v_aload_n X (pc := 38) 0 rfl eW_quiet_38 rfl ?_
      refine v_get X (pc := 39) 0 (a := aR 1 0) (by decide) (by decide) rfl rfl rfl in_WallShifts (by decide) qw_96 rfl eW_quiet_39 ?_
      refine v_get X (pc := 42) 1 (a := aR 2 0) (by decide) (by decide) rfl rfl rfl in_Palace (by decide) qw_33 rfl eW_quiet_42 ?_
      refine v_iconst X (pc := 45) (v := (0 : Int32)) eW_quiet_45 (by decide) ?_
      refine v_ialdK X (pc := 46) (n := 4) 0 (by decide) (by decide) (by decide) (by decide) rfl eW_quiet_46 ?_
      obtain ⟨r6, m6, hc6, h⟩ := bd_some h
      refine v_callV X (pc := 47) [_, _, _] [] ok_V_W_165 (cP_silentMinutes (by decide) hc6) rfl (Nat.le_of_ble_eq_true rfl) ⟨Nat.le_of_ble_eq_true rfl, Nat.le_of_ble_eq_true rfl⟩ ⟨Nat.zero_le _, Nat.zero_le _⟩ (by decide) (by decide) rfl rfl eW_quiet_47 ?_
      exact v_iret X (pc := 50) h hr eW_quiet_50
set_option maxHeartbeats 4000000 in
set_option maxRecDepth 100000 in
theorem cW_minutesAlone_6 {p : Program} {l : Launch} {e : Env} {s : State} {m : MethodId} {args : Array Value} {below : List Frame} {meth : Method} {c : Code} {k : KK} {f : Nat} {o : Int32} {mem' : Mem} (X : CX p s m args meth c k prog_1_method_42_code 6 "WallShifts") (hr : meth.sig.returnType = (Option.some Jvm.ClassFile.FieldType.int)) : ∀ (n : Nat) (x1 : Int32) (x2 : Int32) (x3 : Int32) (x4 : Int32) (x5 : Int32) (mem : Mem), dW_minutesAlone_6 f n x1 x2 x3 x4 x5 mem = some (o, mem') → V p l e (rmM 0 0) s m args below meth c 0 0 (MQ below (RQc k (some (aI o)) mem') args s 0 0 (kA k)) k 6 mem 6 [(0, aR 0 0), (1, aI x1), (2, aI x2), (3, aI x3), (4, aI x4), (5, aI x5)] [] := by
  intro n
  induction n with
  | zero =>
    intro x1 x2 x3 x4 x5 mem  h
    exact nomatch (show (none : Option (Int32 × Mem)) = some _ from h)
  | succ n ih =>
    intro x1 x2 x3 x4 x5 mem  h
    rw [dW_minutesAlone_6] at h
    refine v_iload X (pc := 6) 5 rfl eW_minutesAlone_6 ?_
    refine v_iload_n X (pc := 8) 3 rfl eW_minutesAlone_8 rfl ?_
    refine v_icmp_ge X (pc := 9) (tgt := 51) h eW_minutesAlone_9 (by decide) (fun h => ?_) (fun h => ?_)
    · refine v_iload X (pc := 12) 5 rfl eW_minutesAlone_12 ?_
      refine v_aload_n X (pc := 14) 0 rfl eW_minutesAlone_14 rfl ?_
      refine v_get X (pc := 15) 7 (a := aR 11 0) (by decide) (by decide) rfl rfl rfl in_WallShifts (by decide) qw_103 rfl eW_minutesAlone_15 ?_
      refine v_alenI X (pc := 18) (v := (270 : Int32)) rfl (by decide) (by decide) rfl eW_minutesAlone_18 ?_
      refine v_icmp_ge X (pc := 19) (tgt := 51) h eW_minutesAlone_19 (by decide) (fun h => ?_) (fun h => ?_)
      · refine v_iload X (pc := 22) 4 rfl eW_minutesAlone_22 ?_
        refine v_aload_n X (pc := 24) 0 rfl eW_minutesAlone_24 rfl ?_
        refine v_get X (pc := 25) 7 (a := aR 11 0) (by decide) (by decide) rfl rfl rfl in_WallShifts (by decide) qw_103 rfl eW_minutesAlone_25 ?_
        refine v_iload X (pc := 28) 5 rfl eW_minutesAlone_28 ?_
        refine v_iald X (pc := 30) h (by decide) (by decide) rfl eW_minutesAlone_30 (fun h => ?_)
        refine v_iload_n X (pc := 31) 2 rfl eW_minutesAlone_31 rfl ?_
        refine v_iand X (pc := 32) eW_minutesAlone_32 ?_
        refine v_iload_n X (pc := 33) 1 rfl eW_minutesAlone_33 rfl ?_
        refine v_icmp_ne X (pc := 34) (tgt := 41) h eW_minutesAlone_34 (by decide) (fun h => ?_) (fun h => ?_)
        · refine v_iconst X (pc := 37) (v := (1 : Int32)) eW_minutesAlone_37 (by decide) ?_
          refine v_goto X (pc := 38) (tgt := 42) eW_minutesAlone_38 (by decide) ?_
          refine v_iadd X (pc := 42) eW_minutesAlone_42 ?_
          refine v_istore X (pc := 43) (lv' := [(4, _), (0, _), (1, _), (2, _), (3, _), (5, _)]) eW_minutesAlone_43 (Nat.le_of_ble_eq_true rfl) rfl ?_
          refine v_iinc X (pc := 45) (v := (x5 + (1 : Int32))) (lv' := [(5, _), (4, _), (0, _), (1, _), (2, _), (3, _)]) 5 rfl (by rfl) eW_minutesAlone_45 (Nat.le_of_ble_eq_true rfl) rfl ?_
          refine v_goto X (pc := 48) (tgt := 6) eW_minutesAlone_48 (by decide) ?_
          exact v_sub [2, 3, 4, 5, 1, 0] rfl (ih _ _ _ _ _ _  h)
        · refine v_iconst X (pc := 41) (v := (0 : Int32)) eW_minutesAlone_41 (by decide) ?_
          refine v_iadd X (pc := 42) eW_minutesAlone_42 ?_
          refine v_istore X (pc := 43) (lv' := [(4, _), (0, _), (1, _), (2, _), (3, _), (5, _)]) eW_minutesAlone_43 (Nat.le_of_ble_eq_true rfl) rfl ?_
          refine v_iinc X (pc := 45) (v := (x5 + (1 : Int32))) (lv' := [(5, _), (4, _), (0, _), (1, _), (2, _), (3, _)]) 5 rfl (by rfl) eW_minutesAlone_45 (Nat.le_of_ble_eq_true rfl) rfl ?_
          refine v_goto X (pc := 48) (tgt := 6) eW_minutesAlone_48 (by decide) ?_
          exact v_sub [2, 3, 4, 5, 1, 0] rfl (ih _ _ _ _ _ _  h)
      · refine v_iload X (pc := 51) 4 rfl eW_minutesAlone_51 ?_
        exact v_iret X (pc := 53) h hr eW_minutesAlone_53
    · refine v_iload X (pc := 51) 4 rfl eW_minutesAlone_51 ?_
      exact v_iret X (pc := 53) h hr eW_minutesAlone_53
set_option maxHeartbeats 4000000 in
set_option maxRecDepth 100000 in
theorem cW_minutesAlone {f : Nat} {a1 : Int32} {a2 : Int32} {a3 : Int32} {mem : Mem} {o : Int32} {mem' : Mem}  (h : dW_minutesAlone f a1 a2 a3 mem = some (o, mem')) : RT yW_minutesAlone prog_1_method_42_code 6 (Option.some Jvm.ClassFile.FieldType.int) (rmM 0 0) [aR 0 0, aI a1, aI a2, aI a3] mem (some (aI o)) mem' := by
  refine RT.of (by decide +kernel) (Nat.le_of_ble_eq_true rfl) (fun p l e s m args below meth c k X hr => ?_)
  replace X : CX p s m args meth c k prog_1_method_42_code 6 "WallShifts" := X
  unfold dW_minutesAlone at h
  refine v_sub (lv' := [(0, _), (1, _), (2, _), (3, _)]) [0, 1, 2, 3] rfl ?_
  refine v_iconst X (pc := 0) (v := (0 : Int32)) eW_minutesAlone_0 (by decide) ?_
  refine v_istore X (pc := 1) (lv' := [(4, _), (0, _), (1, _), (2, _), (3, _)]) eW_minutesAlone_1 (Nat.le_of_ble_eq_true rfl) rfl ?_
  refine v_iconst X (pc := 3) (v := (0 : Int32)) eW_minutesAlone_3 (by decide) ?_
  refine v_istore X (pc := 4) (lv' := [(5, _), (4, _), (0, _), (1, _), (2, _), (3, _)]) eW_minutesAlone_4 (Nat.le_of_ble_eq_true rfl) rfl ?_
  exact v_sub [2, 3, 4, 5, 1, 0] rfl (cW_minutesAlone_6 X hr _ _ _ _ _ _ _  h)
set_option maxHeartbeats 4000000 in
set_option maxRecDepth 100000 in
theorem cW_worst_48 {p : Program} {l : Launch} {e : Env} {s : State} {m : MethodId} {args : Array Value} {below : List Frame} {meth : Method} {c : Code} {k : KK} {f : Nat} {o : Int32} {mem' : Mem} (X : CX p s m args meth c k prog_1_method_19_code 8 "WallShifts") (hr : meth.sig.returnType = (Option.some Jvm.ClassFile.FieldType.int)) : ∀ (n : Nat) (x2 : Int32) (x3 : Int32) (x4 : Int32) (x5 : Int32) (x6 : Int32) (mem : Mem), dW_worst_48 f n x2 x3 x4 x5 x6 mem = some (o, mem') → V p l e (rmM 3 75) s m args below meth c 0 0 (MQ below (RQc k (some (aI o)) mem') args s 0 0 (kA k)) k 8 mem 48 [(0, aR 0 0), (2, aI x2), (3, aI x3), (4, aI x4), (5, aI x5), (6, aI x6)] [] := by
  intro n
  induction n with
  | zero =>
    intro x2 x3 x4 x5 x6 mem  h
    exact nomatch (show (none : Option (Int32 × Mem)) = some _ from h)
  | succ n ih =>
    intro x2 x3 x4 x5 x6 mem  h
    rw [dW_worst_48] at h
    refine v_iload X (pc := 48) 5 rfl eW_worst_48 ?_
    refine v_aload_n X (pc := 50) 0 rfl eW_worst_50 rfl ?_
    refine v_get X (pc := 51) 0 (a := aR 1 0) (by decide) (by decide) rfl rfl rfl in_WallShifts (by decide) qw_96 rfl eW_worst_51 ?_
    refine v_get X (pc := 54) 2 (a := aI (gI mem 1 0 2)) (by decide) (by decide) rfl rfl rfl in_Palace (by decide) qw_35 rfl eW_worst_54 ?_
    refine v_icmp_ge X (pc := 57) (tgt := 93) h eW_worst_57 (by decide) (fun h => ?_) (fun h => ?_)
    · refine v_aload_n X (pc := 60) 0 rfl eW_worst_60 rfl ?_
      refine v_iconst X (pc := 61) (v := (1 : Int32)) eW_worst_61 (by decide) ?_
      refine v_iload X (pc := 62) 5 rfl eW_worst_62 ?_
      refine v_ishl X (pc := 64) eW_worst_64 ?_
      refine v_iload_n X (pc := 65) 2 rfl eW_worst_65 rfl ?_
      refine v_iload_n X (pc := 66) 1 rfl eW_worst_66 rfl ?_
      obtain ⟨r1, m1, hc1, h⟩ := bd_some h
      refine v_callV X (pc := 67) [_, _, _] [] ok_V_W_171 (cW_minutesAlone  hc1) rfl (Nat.le_of_ble_eq_true rfl) ⟨Nat.le_of_ble_eq_true rfl, Nat.le_of_ble_eq_true rfl⟩ ⟨Nat.zero_le _, Nat.zero_le _⟩ (by decide) (by decide) rfl rfl eW_worst_67 ?_
      refine v_istore X (pc := 70) (lv' := [(7, _), (0, _), (2, _), (3, _), (4, _), (5, _), (6, _)]) eW_worst_70 (Nat.le_of_ble_eq_true rfl) rfl ?_
      refine v_iload X (pc := 72) 0 rfl eW_worst_72 ?_
      refine v_iload X (pc := 74) 4 rfl eW_worst_74 ?_
      refine v_icmp_le X (pc := 76) (tgt := 87) h eW_worst_76 (by decide) (fun h => ?_) (fun h => ?_)
      · refine v_iload X (pc := 79) 0 rfl eW_worst_79 ?_
        refine v_istore X (pc := 81) (lv' := [(4, _), (7, _), (0, _), (2, _), (3, _), (5, _), (6, _)]) eW_worst_81 (Nat.le_of_ble_eq_true rfl) rfl ?_
        refine v_iload X (pc := 83) 6 rfl eW_worst_83 ?_
        refine v_istore X (pc := 85) (lv' := [(5, _), (4, _), (7, _), (0, _), (2, _), (3, _), (6, _)]) eW_worst_85 (Nat.le_of_ble_eq_true rfl) rfl ?_
        refine v_iinc X (pc := 87) (v := (x6 + (1 : Int32))) (lv' := [(6, _), (5, _), (4, _), (7, _), (0, _), (2, _), (3, _)]) 6 rfl (by rfl) eW_worst_87 (Nat.le_of_ble_eq_true rfl) rfl ?_
        refine v_goto X (pc := 90) (tgt := 48) eW_worst_90 (by decide) ?_
        exact v_sub [4, 5, 6, 2, 1, 0] rfl (ih _ _ _ _ _ _  h)
      · refine v_iinc X (pc := 87) (v := (x6 + (1 : Int32))) (lv' := [(6, _), (7, _), (0, _), (2, _), (3, _), (4, _), (5, _)]) 6 rfl (by rfl) eW_worst_87 (Nat.le_of_ble_eq_true rfl) rfl ?_
        refine v_goto X (pc := 90) (tgt := 48) eW_worst_90 (by decide) ?_
        exact v_sub [2, 3, 4, 5, 6, 0] rfl (ih _ _ _ _ _ _  h)
    · refine v_iload X (pc := 93) 4 rfl eW_worst_93 ?_
      refine v_if_ge X (pc := 95) (tgt := 107) h eW_worst_95 (by decide) (fun h => ?_) (fun h => ?_)
      · refine v_aload_n X (pc := 98) 0 rfl eW_worst_98 rfl ?_
        refine v_ldc X (pc := 99) qw_268 eW_worst_99 ?_
        obtain ⟨r2, m2, hc2, h⟩ := bd_some h
        refine v_callV X (pc := 101) [_] [] ok_V_W_52 (cW_finding  hc2) rfl (Nat.le_of_ble_eq_true rfl) ⟨Nat.le_of_ble_eq_true rfl, Nat.le_of_ble_eq_true rfl⟩ ⟨Nat.zero_le _, Nat.zero_le _⟩ (by decide) (by decide) rfl rfl eW_worst_101 ?_
        refine v_goto X (pc := 104) (tgt := 109) eW_worst_104 (by decide) ?_
        exact v_iret X (pc := 109) h hr eW_worst_109
      · refine v_iload X (pc := 107) 4 rfl eW_worst_107 ?_
        exact v_iret X (pc := 109) h hr eW_worst_109
set_option maxHeartbeats 4000000 in
set_option maxRecDepth 100000 in
theorem cW_worst {f : Nat} {a1 : Int32} {a2 : Int32} {mem : Mem} {o : Int32} {mem' : Mem}  (h : dW_worst f a1 a2 mem = some (o, mem')) : RT yW_worst prog_1_method_19_code 8 (Option.some Jvm.ClassFile.FieldType.int) (rmM 3 75) [aR 0 0, aI a1, aI a2] mem (some (aI o)) mem' := by
  refine RT.of (by decide +kernel) (Nat.le_of_ble_eq_true rfl) (fun p l e s m args below meth c k X hr => ?_)
  replace X : CX p s m args meth c k prog_1_method_19_code 8 "WallShifts" := X
  unfold dW_worst at h
  refine v_sub (lv' := [(0, _), (1, _), (2, _)]) [0, 1, 2] rfl ?_
  refine v_iload_n X (pc := 0) 1 rfl eW_worst_0 rfl ?_
  obtain ⟨r1, m1, hc1, h⟩ := bd_some h
  refine v_callS X (pc := 1) [_] [] ok_S_W_63 (cW_isRoom  hc1) rfl (Nat.le_of_ble_eq_true rfl) ⟨Nat.le_of_ble_eq_true rfl, Nat.le_of_ble_eq_true rfl⟩ ⟨Nat.zero_le _, Nat.zero_le _⟩ eW_worst_1 ?_
  refine v_if_eq X (pc := 4) (tgt := 18) h eW_worst_4 (by decide) (fun h => ?_) (fun h => ?_)
  · refine v_aload_n X (pc := 18) 0 rfl eW_worst_18 rfl ?_
    refine v_ldc X (pc := 19) qw_135 eW_worst_19 ?_
    obtain ⟨r2, m2, hc2, h⟩ := bd_some h
    refine v_callV X (pc := 21) [_] [] ok_V_W_52 (cW_finding  hc2) rfl (Nat.le_of_ble_eq_true rfl) ⟨Nat.le_of_ble_eq_true rfl, Nat.le_of_ble_eq_true rfl⟩ ⟨Nat.zero_le _, Nat.zero_le _⟩ (by decide) (by decide) rfl rfl eW_worst_21 ?_
    exact v_iret X (pc := 24) h hr eW_worst_24
  · refine v_iload_n X (pc := 7) 2 rfl eW_worst_7 rfl ?_
    refine v_iconst X (pc := 8) (v := (1 : Int32)) eW_worst_8 (by decide) ?_
    refine v_sipush X (pc := 9) (v := (240 : Int32)) eW_worst_9 (by decide) ?_
    obtain ⟨r3, m3, hc3, h⟩ := bd_some h
    refine v_callS X (pc := 12) [_, _, _] [] ok_S_W_82 (cW_isIn  hc3) rfl (Nat.le_of_ble_eq_true rfl) ⟨Nat.le_of_ble_eq_true rfl, Nat.le_of_ble_eq_true rfl⟩ ⟨Nat.zero_le _, Nat.zero_le _⟩ eW_worst_12 ?_
    refine v_if_ne X (pc := 15) (tgt := 25) h eW_worst_15 (by decide) (fun h => ?_) (fun h => ?_)
    · refine v_aload_n X (pc := 18) 0 rfl eW_worst_18 rfl ?_
      refine v_ldc X (pc := 19) qw_135 eW_worst_19 ?_
      obtain ⟨r4, m4, hc4, h⟩ := bd_some h
      refine v_callV X (pc := 21) [_] [] ok_V_W_52 (cW_finding  hc4) rfl (Nat.le_of_ble_eq_true rfl) ⟨Nat.le_of_ble_eq_true rfl, Nat.le_of_ble_eq_true rfl⟩ ⟨Nat.zero_le _, Nat.zero_le _⟩ (by decide) (by decide) rfl rfl eW_worst_21 ?_
      exact v_iret X (pc := 24) h hr eW_worst_24
    · refine v_aload_n X (pc := 25) 0 rfl eW_worst_25 rfl ?_
      refine v_iload_n X (pc := 26) 2 rfl eW_worst_26 rfl ?_
      obtain ⟨r5, m5, hc5, h⟩ := bd_some h
      refine v_callV X (pc := 27) [_] [] ok_V_W_158 (cW_foresee  hc5) rfl (Nat.le_of_ble_eq_true rfl) ⟨Nat.le_of_ble_eq_true rfl, Nat.le_of_ble_eq_true rfl⟩ ⟨Nat.zero_le _, Nat.zero_le _⟩ (by decide) (by decide) rfl rfl eW_worst_27 ?_
      refine v_aload_n X (pc := 30) 0 rfl eW_worst_30 rfl ?_
      refine v_get X (pc := 31) 0 (a := aR 1 0) (by decide) (by decide) rfl rfl rfl in_WallShifts (by decide) qw_96 rfl eW_worst_31 ?_
      refine v_iload_n X (pc := 34) 1 rfl eW_worst_34 rfl ?_
      obtain ⟨r6, m6, hc6, h⟩ := bd_some h
      refine v_callV X (pc := 35) [_] [] ok_V_W_119 (cP_near (by decide) hc6) rfl (Nat.le_of_ble_eq_true rfl) ⟨Nat.le_of_ble_eq_true rfl, Nat.le_of_ble_eq_true rfl⟩ ⟨Nat.zero_le _, Nat.zero_le _⟩ (by decide) (by decide) rfl rfl eW_worst_35 ?_
      refine v_istore_n X (pc := 38) (lv' := [(3, _), (0, _), (1, _), (2, _)]) eW_worst_38 rfl (Nat.le_of_ble_eq_true rfl) rfl ?_
      refine v_iconst X (pc := 39) (v := (0 : Int32)) eW_worst_39 (by decide) ?_
      refine v_istore X (pc := 40) (lv' := [(4, _), (3, _), (0, _), (1, _), (2, _)]) eW_worst_40 (Nat.le_of_ble_eq_true rfl) rfl ?_
      refine v_iconst X (pc := 42) (v := (-1 : Int32)) eW_worst_42 (by decide) ?_
      refine v_istore X (pc := 43) (lv' := [(5, _), (4, _), (3, _), (0, _), (1, _), (2, _)]) eW_worst_43 (Nat.le_of_ble_eq_true rfl) rfl ?_
      refine v_iconst X (pc := 45) (v := (0 : Int32)) eW_worst_45 (by decide) ?_
      refine v_istore X (pc := 46) (lv' := [(6, _), (5, _), (4, _), (3, _), (0, _), (1, _), (2, _)]) eW_worst_46 (Nat.le_of_ble_eq_true rfl) rfl ?_
      exact v_sub [4, 6, 3, 2, 1, 0] rfl (cW_worst_48 X hr _ _ _ _ _ _ _  h)
set_option maxHeartbeats 4000000 in
set_option maxRecDepth 100000 in
theorem cW_hearsAlways_2 {p : Program} {l : Launch} {e : Env} {s : State} {m : MethodId} {args : Array Value} {below : List Frame} {meth : Method} {c : Code} {k : KK} {f : Nat} {o : Int32} {mem' : Mem} (X : CX p s m args meth c k prog_1_method_43_code 4 "WallShifts") (hr : meth.sig.returnType = (Option.some Jvm.ClassFile.FieldType.boolean)) : ∀ (n : Nat) (x1 : Int32) (x2 : Int32) (x3 : Int32) (mem : Mem), dW_hearsAlways_2 f n x1 x2 x3 mem = some (o, mem') → V p l e (rmM 0 0) s m args below meth c 0 0 (MQ below (RQc k (some (aI o)) mem') args s 0 0 (kA k)) k 4 mem 2 [(0, aR 0 0), (1, aI x1), (2, aI x2), (3, aI x3)] [] := by
  intro n
  induction n with
  | zero =>
    intro x1 x2 x3 mem  h
    exact nomatch (show (none : Option (Int32 × Mem)) = some _ from h)
  | succ n ih =>
    intro x1 x2 x3 mem  h
    rw [dW_hearsAlways_2] at h
    refine v_iload_n X (pc := 2) 3 rfl eW_hearsAlways_2 rfl ?_
    refine v_iload_n X (pc := 3) 2 rfl eW_hearsAlways_3 rfl ?_
    refine v_icmp_ge X (pc := 4) (tgt := 35) h eW_hearsAlways_4 (by decide) (fun h => ?_) (fun h => ?_)
    · refine v_iload_n X (pc := 7) 3 rfl eW_hearsAlways_7 rfl ?_
      refine v_aload_n X (pc := 8) 0 rfl eW_hearsAlways_8 rfl ?_
      refine v_get X (pc := 9) 7 (a := aR 11 0) (by decide) (by decide) rfl rfl rfl in_WallShifts (by decide) qw_103 rfl eW_hearsAlways_9 ?_
      refine v_alenI X (pc := 12) (v := (270 : Int32)) rfl (by decide) (by decide) rfl eW_hearsAlways_12 ?_
      refine v_icmp_ge X (pc := 13) (tgt := 35) h eW_hearsAlways_13 (by decide) (fun h => ?_) (fun h => ?_)
      · refine v_aload_n X (pc := 16) 0 rfl eW_hearsAlways_16 rfl ?_
        refine v_get X (pc := 17) 7 (a := aR 11 0) (by decide) (by decide) rfl rfl rfl in_WallShifts (by decide) qw_103 rfl eW_hearsAlways_17 ?_
        refine v_iload_n X (pc := 20) 3 rfl eW_hearsAlways_20 rfl ?_
        refine v_iald X (pc := 21) h (by decide) (by decide) rfl eW_hearsAlways_21 (fun h => ?_)
        refine v_iload_n X (pc := 22) 1 rfl eW_hearsAlways_22 rfl ?_
        refine v_iand X (pc := 23) eW_hearsAlways_23 ?_
        refine v_if_ne X (pc := 24) (tgt := 29) h eW_hearsAlways_24 (by decide) (fun h => ?_) (fun h => ?_)
        · refine v_iconst X (pc := 27) (v := (0 : Int32)) eW_hearsAlways_27 (by decide) ?_
          exact v_zret X (pc := 28) h hr rfl eW_hearsAlways_28
        · refine v_iinc X (pc := 29) (v := (x3 + (1 : Int32))) (lv' := [(3, _), (0, _), (1, _), (2, _)]) 3 rfl (by rfl) eW_hearsAlways_29 (Nat.le_of_ble_eq_true rfl) rfl ?_
          refine v_goto X (pc := 32) (tgt := 2) eW_hearsAlways_32 (by decide) ?_
          exact v_sub [1, 2, 3, 0] rfl (ih _ _ _ _  h)
      · refine v_iconst X (pc := 35) (v := (1 : Int32)) eW_hearsAlways_35 (by decide) ?_
        exact v_zret X (pc := 36) h hr rfl eW_hearsAlways_36
    · refine v_iconst X (pc := 35) (v := (1 : Int32)) eW_hearsAlways_35 (by decide) ?_
      exact v_zret X (pc := 36) h hr rfl eW_hearsAlways_36
set_option maxHeartbeats 4000000 in
set_option maxRecDepth 100000 in
theorem cW_hearsAlways {f : Nat} {a1 : Int32} {a2 : Int32} {mem : Mem} {o : Int32} {mem' : Mem}  (h : dW_hearsAlways f a1 a2 mem = some (o, mem')) : RT yW_hearsAlways prog_1_method_43_code 4 (Option.some Jvm.ClassFile.FieldType.boolean) (rmM 0 0) [aR 0 0, aI a1, aI a2] mem (some (aI o)) mem' := by
  refine RT.of (by decide +kernel) (Nat.le_of_ble_eq_true rfl) (fun p l e s m args below meth c k X hr => ?_)
  replace X : CX p s m args meth c k prog_1_method_43_code 4 "WallShifts" := X
  unfold dW_hearsAlways at h
  refine v_sub (lv' := [(0, _), (1, _), (2, _)]) [0, 1, 2] rfl ?_
  refine v_iconst X (pc := 0) (v := (0 : Int32)) eW_hearsAlways_0 (by decide) ?_
  refine v_istore_n X (pc := 1) (lv' := [(3, _), (0, _), (1, _), (2, _)]) eW_hearsAlways_1 rfl (Nat.le_of_ble_eq_true rfl) rfl ?_
  exact v_sub [1, 2, 3, 0] rfl (cW_hearsAlways_2 X hr _ _ _ _ _  h)
set_option maxHeartbeats 4000000 in
set_option maxRecDepth 100000 in
theorem cW_cover_80 {p : Program} {l : Launch} {e : Env} {s : State} {m : MethodId} {args : Array Value} {below : List Frame} {meth : Method} {c : Code} {k : KK} {f : Nat} {o : Int32} {mem' : Mem} (X : CX p s m args meth c k prog_1_method_20_code 7 "WallShifts") (hr : meth.sig.returnType = (Option.some Jvm.ClassFile.FieldType.int)) {k60 : Int32 → Int32 → Int32 → Int32 → Mem → Option (Int32 × Mem)} (hk60 : ∀ (x2 : Int32) (x3 : Int32) (x4 : Int32) (x5 : Int32) (mem : Mem), k60 x2 x3 x4 x5 mem = some (o, mem') → V p l e (rmM 3 75) s m args below meth c 0 0 (MQ below (RQc k (some (aI o)) mem') args s 0 0 (kA k)) k 7 mem 60 [(0, aR 0 0), (2, aI x2), (3, aI x3), (4, aI x4), (5, aI x5)] []) : ∀ (x2 : Int32) (x3 : Int32) (x4 : Int32) (x5 : Int32) (s0 : Int32) (mem : Mem), dW_cover_80 f k60 x2 x3 x4 x5 s0 mem = some (o, mem') → V p l e (rmM 3 75) s m args below meth c 0 0 (MQ below (RQc k (some (aI o)) mem') args s 0 0 (kA k)) k 7 mem 80 [(0, aR 0 0), (2, aI x2), (3, aI x3), (4, aI x4), (5, aI x5)] [aI s0] := by
  intro x2 x3 x4 x5 s0 mem  h
  unfold dW_cover_80 at h
  refine v_istore X (pc := 80) (lv' := [(6, _), (0, _), (2, _), (3, _), (4, _), (5, _)]) eW_cover_80 (Nat.le_of_ble_eq_true rfl) rfl ?_
  refine v_iload X (pc := 82) 0 rfl eW_cover_82 ?_
  refine v_if_eq X (pc := 84) (tgt := 114) h eW_cover_84 (by decide) (fun h => ?_) (fun h => ?_)
  · refine v_iinc X (pc := 114) (v := (x5 + (1 : Int32))) (lv' := [(5, _), (6, _), (0, _), (2, _), (3, _), (4, _)]) 5 rfl (by rfl) eW_cover_114 (Nat.le_of_ble_eq_true rfl) rfl ?_
    refine v_goto X (pc := 117) (tgt := 60) eW_cover_117 (by decide) ?_
    exact v_sub [2, 3, 4, 5, 0] rfl (hk60 _ _ _ _ _  h)
  · refine v_iload X (pc := 87) 5 rfl eW_cover_87 ?_
    obtain ⟨r1, m1, hc1, h⟩ := bd_some h
    refine v_callS X (pc := 89) [_] [] ok_S_W_134 (cJInt_bitCount  hc1) rfl (Nat.le_of_ble_eq_true rfl) ⟨Nat.le_of_ble_eq_true rfl, Nat.le_of_ble_eq_true rfl⟩ ⟨Nat.zero_le _, Nat.zero_le _⟩ eW_cover_89 ?_
    refine v_iload X (pc := 92) 4 rfl eW_cover_92 ?_
    obtain ⟨r2, m2, hc2, h⟩ := bd_some h
    refine v_callS X (pc := 94) [_] [_] ok_S_W_134 (cJInt_bitCount  hc2) rfl (Nat.le_of_ble_eq_true rfl) ⟨Nat.le_of_ble_eq_true rfl, Nat.le_of_ble_eq_true rfl⟩ ⟨Nat.zero_le _, Nat.zero_le _⟩ eW_cover_94 ?_
    refine v_icmp_ge X (pc := 97) (tgt := 114) h eW_cover_97 (by decide) (fun h => ?_) (fun h => ?_)
    · refine v_aload_n X (pc := 100) 1 rfl eW_cover_100 rfl ?_
      refine v_iload X (pc := 101) 5 rfl eW_cover_101 ?_
      refine v_iload_n X (pc := 103) 2 rfl eW_cover_103 rfl ?_
      obtain ⟨r3, m3, hc3, h⟩ := bd_some h
      refine v_callV X (pc := 104) [_, _] [] ok_V_W_174 (cW_hearsAlways  hc3) rfl (Nat.le_of_ble_eq_true rfl) ⟨Nat.le_of_ble_eq_true rfl, Nat.le_of_ble_eq_true rfl⟩ ⟨Nat.zero_le _, Nat.zero_le _⟩ (by decide) (by decide) rfl rfl eW_cover_104 ?_
      refine v_if_eq X (pc := 107) (tgt := 114) h eW_cover_107 (by decide) (fun h => ?_) (fun h => ?_)
      · refine v_iinc X (pc := 114) (v := (x5 + (1 : Int32))) (lv' := [(5, _), (6, _), (0, _), (2, _), (3, _), (4, _)]) 5 rfl (by rfl) eW_cover_114 (Nat.le_of_ble_eq_true rfl) rfl ?_
        refine v_goto X (pc := 117) (tgt := 60) eW_cover_117 (by decide) ?_
        exact v_sub [2, 3, 4, 5, 0] rfl (hk60 _ _ _ _ _  h)
      · refine v_iload X (pc := 110) 5 rfl eW_cover_110 ?_
        refine v_istore X (pc := 112) (lv' := [(4, _), (6, _), (0, _), (2, _), (3, _), (5, _)]) eW_cover_112 (Nat.le_of_ble_eq_true rfl) rfl ?_
        refine v_iinc X (pc := 114) (v := (x5 + (1 : Int32))) (lv' := [(5, _), (4, _), (6, _), (0, _), (2, _), (3, _)]) 5 rfl (by rfl) eW_cover_114 (Nat.le_of_ble_eq_true rfl) rfl ?_
        refine v_goto X (pc := 117) (tgt := 60) eW_cover_117 (by decide) ?_
        exact v_sub [3, 4, 5, 1, 0] rfl (hk60 _ _ _ _ _  h)
    · refine v_iinc X (pc := 114) (v := (x5 + (1 : Int32))) (lv' := [(5, _), (6, _), (0, _), (2, _), (3, _), (4, _)]) 5 rfl (by rfl) eW_cover_114 (Nat.le_of_ble_eq_true rfl) rfl ?_
      refine v_goto X (pc := 117) (tgt := 60) eW_cover_117 (by decide) ?_
      exact v_sub [2, 3, 4, 5, 0] rfl (hk60 _ _ _ _ _  h)
set_option maxHeartbeats 4000000 in
set_option maxRecDepth 100000 in
theorem cW_cover_60 {p : Program} {l : Launch} {e : Env} {s : State} {m : MethodId} {args : Array Value} {below : List Frame} {meth : Method} {c : Code} {k : KK} {f : Nat} {o : Int32} {mem' : Mem} (X : CX p s m args meth c k prog_1_method_20_code 7 "WallShifts") (hr : meth.sig.returnType = (Option.some Jvm.ClassFile.FieldType.int)) : ∀ (n : Nat) (x2 : Int32) (x3 : Int32) (x4 : Int32) (x5 : Int32) (mem : Mem), dW_cover_60 f n x2 x3 x4 x5 mem = some (o, mem') → V p l e (rmM 3 75) s m args below meth c 0 0 (MQ below (RQc k (some (aI o)) mem') args s 0 0 (kA k)) k 7 mem 60 [(0, aR 0 0), (2, aI x2), (3, aI x3), (4, aI x4), (5, aI x5)] [] := by
  intro n
  induction n with
  | zero =>
    intro x2 x3 x4 x5 mem  h
    exact nomatch (show (none : Option (Int32 × Mem)) = some _ from h)
  | succ n ih =>
    intro x2 x3 x4 x5 mem  h
    rw [dW_cover_60] at h
    refine v_iload X (pc := 60) 4 rfl eW_cover_60 ?_
    refine v_iload_n X (pc := 62) 2 rfl eW_cover_62 rfl ?_
    refine v_icmp_ge X (pc := 63) (tgt := 120) h eW_cover_63 (by decide) (fun h => ?_) (fun h => ?_)
    · refine v_iload X (pc := 66) 4 rfl eW_cover_66 ?_
      refine v_iload_n X (pc := 68) 2 rfl eW_cover_68 rfl ?_
      refine v_iconst X (pc := 69) (v := (-1 : Int32)) eW_cover_69 (by decide) ?_
      refine v_ixor X (pc := 70) eW_cover_70 ?_
      refine v_iand X (pc := 71) eW_cover_71 ?_
      refine v_if_ne X (pc := 72) (tgt := 79) h eW_cover_72 (by decide) (fun h => ?_) (fun h => ?_)
      · refine v_iconst X (pc := 75) (v := (1 : Int32)) eW_cover_75 (by decide) ?_
        refine v_goto X (pc := 76) (tgt := 80) eW_cover_76 (by decide) ?_
        exact v_sub [0, 1, 2, 3, 4] rfl (cW_cover_80 X hr ih _ _ _ _ _ _  h)
      · refine v_iconst X (pc := 79) (v := (0 : Int32)) eW_cover_79 (by decide) ?_
        exact v_sub [0, 1, 2, 3, 4] rfl (cW_cover_80 X hr ih _ _ _ _ _ _  h)
    · refine v_iload X (pc := 120) 3 rfl eW_cover_120 ?_
      exact v_iret X (pc := 122) h hr eW_cover_122
set_option maxHeartbeats 4000000 in
set_option maxRecDepth 100000 in
theorem cW_cover {f : Nat} {a1 : Int32} {a2 : Int32} {mem : Mem} {o : Int32} {mem' : Mem}  (h : dW_cover f a1 a2 mem = some (o, mem')) : RT yW_cover prog_1_method_20_code 7 (Option.some Jvm.ClassFile.FieldType.int) (rmM 3 75) [aR 0 0, aI a1, aI a2] mem (some (aI o)) mem' := by
  refine RT.of (by decide +kernel) (Nat.le_of_ble_eq_true rfl) (fun p l e s m args below meth c k X hr => ?_)
  replace X : CX p s m args meth c k prog_1_method_20_code 7 "WallShifts" := X
  unfold dW_cover at h
  refine v_sub (lv' := [(0, _), (1, _), (2, _)]) [0, 1, 2] rfl ?_
  refine v_iload_n X (pc := 0) 1 rfl eW_cover_0 rfl ?_
  obtain ⟨r1, m1, hc1, h⟩ := bd_some h
  refine v_callS X (pc := 1) [_] [] ok_S_W_63 (cW_isRoom  hc1) rfl (Nat.le_of_ble_eq_true rfl) ⟨Nat.le_of_ble_eq_true rfl, Nat.le_of_ble_eq_true rfl⟩ ⟨Nat.zero_le _, Nat.zero_le _⟩ eW_cover_1 ?_
  refine v_if_eq X (pc := 4) (tgt := 17) h eW_cover_4 (by decide) (fun h => ?_) (fun h => ?_)
  · refine v_aload_n X (pc := 17) 0 rfl eW_cover_17 rfl ?_
    refine v_ldc X (pc := 18) qw_135 eW_cover_18 ?_
    obtain ⟨r2, m2, hc2, h⟩ := bd_some h
    refine v_callV X (pc := 20) [_] [] ok_V_W_52 (cW_finding  hc2) rfl (Nat.le_of_ble_eq_true rfl) ⟨Nat.le_of_ble_eq_true rfl, Nat.le_of_ble_eq_true rfl⟩ ⟨Nat.zero_le _, Nat.zero_le _⟩ (by decide) (by decide) rfl rfl eW_cover_20 ?_
    exact v_iret X (pc := 23) h hr eW_cover_23
  · refine v_iload_n X (pc := 7) 2 rfl eW_cover_7 rfl ?_
    refine v_iconst X (pc := 8) (v := (1 : Int32)) eW_cover_8 (by decide) ?_
    refine v_bipush X (pc := 9) (v := (60 : Int32)) eW_cover_9 (by decide) ?_
    obtain ⟨r3, m3, hc3, h⟩ := bd_some h
    refine v_callS X (pc := 11) [_, _, _] [] ok_S_W_82 (cW_isIn  hc3) rfl (Nat.le_of_ble_eq_true rfl) ⟨Nat.le_of_ble_eq_true rfl, Nat.le_of_ble_eq_true rfl⟩ ⟨Nat.zero_le _, Nat.zero_le _⟩ eW_cover_11 ?_
    refine v_if_ne X (pc := 14) (tgt := 24) h eW_cover_14 (by decide) (fun h => ?_) (fun h => ?_)
    · refine v_aload_n X (pc := 17) 0 rfl eW_cover_17 rfl ?_
      refine v_ldc X (pc := 18) qw_135 eW_cover_18 ?_
      obtain ⟨r4, m4, hc4, h⟩ := bd_some h
      refine v_callV X (pc := 20) [_] [] ok_V_W_52 (cW_finding  hc4) rfl (Nat.le_of_ble_eq_true rfl) ⟨Nat.le_of_ble_eq_true rfl, Nat.le_of_ble_eq_true rfl⟩ ⟨Nat.zero_le _, Nat.zero_le _⟩ (by decide) (by decide) rfl rfl eW_cover_20 ?_
      exact v_iret X (pc := 23) h hr eW_cover_23
    · refine v_aload_n X (pc := 24) 0 rfl eW_cover_24 rfl ?_
      refine v_iload_n X (pc := 25) 2 rfl eW_cover_25 rfl ?_
      obtain ⟨r5, m5, hc5, h⟩ := bd_some h
      refine v_callV X (pc := 26) [_] [] ok_V_W_158 (cW_foresee  hc5) rfl (Nat.le_of_ble_eq_true rfl) ⟨Nat.le_of_ble_eq_true rfl, Nat.le_of_ble_eq_true rfl⟩ ⟨Nat.zero_le _, Nat.zero_le _⟩ (by decide) (by decide) rfl rfl eW_cover_26 ?_
      refine v_aload_n X (pc := 29) 0 rfl eW_cover_29 rfl ?_
      refine v_get X (pc := 30) 0 (a := aR 1 0) (by decide) (by decide) rfl rfl rfl in_WallShifts (by decide) qw_96 rfl eW_cover_30 ?_
      refine v_iload_n X (pc := 33) 1 rfl eW_cover_33 rfl ?_
      obtain ⟨r6, m6, hc6, h⟩ := bd_some h
      refine v_callV X (pc := 34) [_] [] ok_V_W_119 (cP_near (by decide) hc6) rfl (Nat.le_of_ble_eq_true rfl) ⟨Nat.le_of_ble_eq_true rfl, Nat.le_of_ble_eq_true rfl⟩ ⟨Nat.zero_le _, Nat.zero_le _⟩ (by decide) (by decide) rfl rfl eW_cover_34 ?_
      refine v_istore_n X (pc := 37) (lv' := [(3, _), (0, _), (1, _), (2, _)]) eW_cover_37 rfl (Nat.le_of_ble_eq_true rfl) rfl ?_
      refine v_aload_n X (pc := 38) 1 rfl eW_cover_38 rfl ?_
      refine v_iload_n X (pc := 39) 0 rfl eW_cover_39 rfl ?_
      refine v_iload_n X (pc := 40) 3 rfl eW_cover_40 rfl ?_
      obtain ⟨r7, m7, hc7, h⟩ := bd_some h
      refine v_callV X (pc := 41) [_, _] [] ok_V_W_174 (cW_hearsAlways  hc7) rfl (Nat.le_of_ble_eq_true rfl) ⟨Nat.le_of_ble_eq_true rfl, Nat.le_of_ble_eq_true rfl⟩ ⟨Nat.zero_le _, Nat.zero_le _⟩ (by decide) (by decide) rfl rfl eW_cover_41 ?_
      refine v_if_ne X (pc := 44) (tgt := 54) h eW_cover_44 (by decide) (fun h => ?_) (fun h => ?_)
      · refine v_aload_n X (pc := 47) 1 rfl eW_cover_47 rfl ?_
        refine v_ldc X (pc := 48) qw_268 eW_cover_48 ?_
        obtain ⟨r8, m8, hc8, h⟩ := bd_some h
        refine v_callV X (pc := 50) [_] [] ok_V_W_52 (cW_finding  hc8) rfl (Nat.le_of_ble_eq_true rfl) ⟨Nat.le_of_ble_eq_true rfl, Nat.le_of_ble_eq_true rfl⟩ ⟨Nat.zero_le _, Nat.zero_le _⟩ (by decide) (by decide) rfl rfl eW_cover_50 ?_
        exact v_iret X (pc := 53) h hr eW_cover_53
      · refine v_iload_n X (pc := 54) 0 rfl eW_cover_54 rfl ?_
        refine v_istore X (pc := 55) (lv' := [(4, _), (3, _), (0, _), (1, _), (2, _)]) eW_cover_55 (Nat.le_of_ble_eq_true rfl) rfl ?_
        refine v_iconst X (pc := 57) (v := (0 : Int32)) eW_cover_57 (by decide) ?_
        refine v_istore X (pc := 58) (lv' := [(5, _), (4, _), (3, _), (0, _), (1, _), (2, _)]) eW_cover_58 (Nat.le_of_ble_eq_true rfl) rfl ?_
        exact v_sub [3, 5, 2, 1, 0] rfl (cW_cover_60 X hr _ _ _ _ _ _  h)
set_option maxHeartbeats 4000000 in
set_option maxRecDepth 100000 in
theorem cW_shift_48 {p : Program} {l : Launch} {e : Env} {s : State} {m : MethodId} {args : Array Value} {below : List Frame} {meth : Method} {c : Code} {k : KK} {f : Nat} {o : Int32} {mem' : Mem} (X : CX p s m args meth c k prog_1_method_21_code 8 "WallShifts") (hr : meth.sig.returnType = (Option.some Jvm.ClassFile.FieldType.int)) : ∀ (n : Nat) (x2 : Int32) (x3 : Int32) (x4 : Int32) (x5 : Int32) (x6 : Int32) (mem : Mem), dW_shift_48 f n x2 x3 x4 x5 x6 mem = some (o, mem') → V p l e (rmM 3 78) s m args below meth c 0 0 (MQ below (RQc k (some (aI o)) mem') args s 0 0 (kA k)) k 8 mem 48 [(0, aR 0 0), (2, aI x2), (3, aI x3), (4, aI x4), (5, aI x5), (6, aI x6)] [] := by
  intro n
  induction n with
  | zero =>
    intro x2 x3 x4 x5 x6 mem  h
    exact nomatch (show (none : Option (Int32 × Mem)) = some _ from h)
  | succ n ih =>
    intro x2 x3 x4 x5 x6 mem  h
    rw [dW_shift_48] at h
    refine v_iload X (pc := 48) 5 rfl eW_shift_48 ?_
    refine v_gets X (pc := 50) 2 (by decide) qw_133 eW_shift_50 ?_
    refine v_iconst X (pc := 53) (v := (0 : Int32)) eW_shift_53 (by decide) ?_
    refine v_stld X (pc := 54) h (by decide) eW_shift_54 (fun h => ?_)
    refine v_icmp_gt X (pc := 55) (tgt := 92) h eW_shift_55 (by decide) (fun h => ?_) (fun h => ?_)
    · refine v_iload X (pc := 92) 4 rfl eW_shift_92 ?_
      exact v_iret X (pc := 94) h hr eW_shift_94
    · refine v_aload_n X (pc := 58) 0 rfl eW_shift_58 rfl ?_
      refine v_get X (pc := 59) 0 (a := aR 1 0) (by decide) (by decide) rfl rfl rfl in_WallShifts (by decide) qw_96 rfl eW_shift_59 ?_
      refine v_iload_n X (pc := 62) 2 rfl eW_shift_62 rfl ?_
      refine v_iload_n X (pc := 63) 1 rfl eW_shift_63 rfl ?_
      refine v_iload X (pc := 64) 5 rfl eW_shift_64 ?_
      obtain ⟨r1, m1, hc1, h⟩ := bd_some h
      refine v_callV X (pc := 66) [_, _, _] [] ok_V_W_165 (cP_silentMinutes (by decide) hc1) rfl (Nat.le_of_ble_eq_true rfl) ⟨Nat.le_of_ble_eq_true rfl, Nat.le_of_ble_eq_true rfl⟩ ⟨Nat.zero_le _, Nat.zero_le _⟩ (by decide) (by decide) rfl rfl eW_shift_66 ?_
      refine v_istore X (pc := 69) (lv' := [(7, _), (0, _), (2, _), (3, _), (4, _), (5, _), (6, _)]) eW_shift_69 (Nat.le_of_ble_eq_true rfl) rfl ?_
      refine v_iload X (pc := 71) 0 rfl eW_shift_71 ?_
      refine v_iload X (pc := 73) 4 rfl eW_shift_73 ?_
      refine v_icmp_ge X (pc := 75) (tgt := 86) h eW_shift_75 (by decide) (fun h => ?_) (fun h => ?_)
      · refine v_iload X (pc := 78) 0 rfl eW_shift_78 ?_
        refine v_istore X (pc := 80) (lv' := [(4, _), (7, _), (0, _), (2, _), (3, _), (5, _), (6, _)]) eW_shift_80 (Nat.le_of_ble_eq_true rfl) rfl ?_
        refine v_iload X (pc := 82) 6 rfl eW_shift_82 ?_
        refine v_istore X (pc := 84) (lv' := [(5, _), (4, _), (7, _), (0, _), (2, _), (3, _), (6, _)]) eW_shift_84 (Nat.le_of_ble_eq_true rfl) rfl ?_
        refine v_iinc X (pc := 86) (v := (x6 + (1 : Int32))) (lv' := [(6, _), (5, _), (4, _), (7, _), (0, _), (2, _), (3, _)]) 6 rfl (by rfl) eW_shift_86 (Nat.le_of_ble_eq_true rfl) rfl ?_
        refine v_goto X (pc := 89) (tgt := 48) eW_shift_89 (by decide) ?_
        exact v_sub [4, 5, 6, 2, 1, 0] rfl (ih _ _ _ _ _ _  h)
      · refine v_iinc X (pc := 86) (v := (x6 + (1 : Int32))) (lv' := [(6, _), (7, _), (0, _), (2, _), (3, _), (4, _), (5, _)]) 6 rfl (by rfl) eW_shift_86 (Nat.le_of_ble_eq_true rfl) rfl ?_
        refine v_goto X (pc := 89) (tgt := 48) eW_shift_89 (by decide) ?_
        exact v_sub [2, 3, 4, 5, 6, 0] rfl (ih _ _ _ _ _ _  h)
set_option maxHeartbeats 4000000 in
set_option maxRecDepth 100000 in
theorem cW_shift {f : Nat} {a1 : Int32} {a2 : Int32} {mem : Mem} {o : Int32} {mem' : Mem}  (h : dW_shift f a1 a2 mem = some (o, mem')) : RT yW_shift prog_1_method_21_code 8 (Option.some Jvm.ClassFile.FieldType.int) (rmM 3 78) [aR 0 0, aI a1, aI a2] mem (some (aI o)) mem' := by
  refine RT.of (by decide +kernel) (Nat.le_of_ble_eq_true rfl) (fun p l e s m args below meth c k X hr => ?_)
  replace X : CX p s m args meth c k prog_1_method_21_code 8 "WallShifts" := X
  unfold dW_shift at h
  refine v_sub (lv' := [(0, _), (1, _), (2, _)]) [0, 1, 2] rfl ?_
  refine v_iload_n X (pc := 0) 1 rfl eW_shift_0 rfl ?_
  obtain ⟨r1, m1, hc1, h⟩ := bd_some h
  refine v_callS X (pc := 1) [_] [] ok_S_W_63 (cW_isRoom  hc1) rfl (Nat.le_of_ble_eq_true rfl) ⟨Nat.le_of_ble_eq_true rfl, Nat.le_of_ble_eq_true rfl⟩ ⟨Nat.zero_le _, Nat.zero_le _⟩ eW_shift_1 ?_
  refine v_if_eq X (pc := 4) (tgt := 17) h eW_shift_4 (by decide) (fun h => ?_) (fun h => ?_)
  · refine v_aload_n X (pc := 17) 0 rfl eW_shift_17 rfl ?_
    refine v_ldc X (pc := 18) qw_135 eW_shift_18 ?_
    obtain ⟨r2, m2, hc2, h⟩ := bd_some h
    refine v_callV X (pc := 20) [_] [] ok_V_W_52 (cW_finding  hc2) rfl (Nat.le_of_ble_eq_true rfl) ⟨Nat.le_of_ble_eq_true rfl, Nat.le_of_ble_eq_true rfl⟩ ⟨Nat.zero_le _, Nat.zero_le _⟩ (by decide) (by decide) rfl rfl eW_shift_20 ?_
    exact v_iret X (pc := 23) h hr eW_shift_23
  · refine v_iload_n X (pc := 7) 2 rfl eW_shift_7 rfl ?_
    refine v_iconst X (pc := 8) (v := (1 : Int32)) eW_shift_8 (by decide) ?_
    refine v_bipush X (pc := 9) (v := (60 : Int32)) eW_shift_9 (by decide) ?_
    obtain ⟨r3, m3, hc3, h⟩ := bd_some h
    refine v_callS X (pc := 11) [_, _, _] [] ok_S_W_82 (cW_isIn  hc3) rfl (Nat.le_of_ble_eq_true rfl) ⟨Nat.le_of_ble_eq_true rfl, Nat.le_of_ble_eq_true rfl⟩ ⟨Nat.zero_le _, Nat.zero_le _⟩ eW_shift_11 ?_
    refine v_if_ne X (pc := 14) (tgt := 24) h eW_shift_14 (by decide) (fun h => ?_) (fun h => ?_)
    · refine v_aload_n X (pc := 17) 0 rfl eW_shift_17 rfl ?_
      refine v_ldc X (pc := 18) qw_135 eW_shift_18 ?_
      obtain ⟨r4, m4, hc4, h⟩ := bd_some h
      refine v_callV X (pc := 20) [_] [] ok_V_W_52 (cW_finding  hc4) rfl (Nat.le_of_ble_eq_true rfl) ⟨Nat.le_of_ble_eq_true rfl, Nat.le_of_ble_eq_true rfl⟩ ⟨Nat.zero_le _, Nat.zero_le _⟩ (by decide) (by decide) rfl rfl eW_shift_20 ?_
      exact v_iret X (pc := 23) h hr eW_shift_23
    · refine v_aload_n X (pc := 24) 0 rfl eW_shift_24 rfl ?_
      refine v_get X (pc := 25) 0 (a := aR 1 0) (by decide) (by decide) rfl rfl rfl in_WallShifts (by decide) qw_96 rfl eW_shift_25 ?_
      refine v_iload_n X (pc := 28) 1 rfl eW_shift_28 rfl ?_
      obtain ⟨r5, m5, hc5, h⟩ := bd_some h
      refine v_callV X (pc := 29) [_] [] ok_V_W_119 (cP_near (by decide) hc5) rfl (Nat.le_of_ble_eq_true rfl) ⟨Nat.le_of_ble_eq_true rfl, Nat.le_of_ble_eq_true rfl⟩ ⟨Nat.zero_le _, Nat.zero_le _⟩ (by decide) (by decide) rfl rfl eW_shift_29 ?_
      refine v_istore_n X (pc := 32) (lv' := [(3, _), (0, _), (1, _), (2, _)]) eW_shift_32 rfl (Nat.le_of_ble_eq_true rfl) rfl ?_
      refine v_iload_n X (pc := 33) 3 rfl eW_shift_33 rfl ?_
      refine v_iconst X (pc := 34) (v := (1 : Int32)) eW_shift_34 (by decide) ?_
      refine v_iadd X (pc := 35) eW_shift_35 ?_
      refine v_istore X (pc := 36) (lv' := [(4, _), (3, _), (0, _), (1, _), (2, _)]) eW_shift_36 (Nat.le_of_ble_eq_true rfl) rfl ?_
      refine v_iconst X (pc := 38) (v := (1 : Int32)) eW_shift_38 (by decide) ?_
      refine v_istore X (pc := 39) (lv' := [(5, _), (4, _), (3, _), (0, _), (1, _), (2, _)]) eW_shift_39 (Nat.le_of_ble_eq_true rfl) rfl ?_
      refine v_gets X (pc := 41) 1 (by decide) qw_131 eW_shift_41 ?_
      refine v_iconst X (pc := 44) (v := (0 : Int32)) eW_shift_44 (by decide) ?_
      refine v_stld X (pc := 45) h (by decide) eW_shift_45 (fun h => ?_)
      refine v_istore X (pc := 46) (lv' := [(6, _), (5, _), (4, _), (3, _), (0, _), (1, _), (2, _)]) eW_shift_46 (Nat.le_of_ble_eq_true rfl) rfl ?_
      exact v_sub [4, 6, 3, 2, 1, 0] rfl (cW_shift_48 X hr _ _ _ _ _ _ _  h)
set_option maxHeartbeats 4000000 in
set_option maxRecDepth 100000 in
theorem cP_become_32 {p : Program} {l : Launch} {e : Env} {s : State} {m : MethodId} {args : Array Value} {below : List Frame} {meth : Method} {c : Code} {k : KK} {f : Nat} {o : Unit} {mem' : Mem} (X : CX p s m args meth c k prog_2_method_2_code 3 "WallShifts$Palace") (hr : meth.sig.returnType = (Option.none : Option Jvm.ClassFile.FieldType)) : ∀ (n : Nat) (q0 : Nat) (q1 : Nat) (x2 : Int32) (mem : Mem), q0 < 3 → q1 < 3 → dP_become_32 f n q0 q1 x2 mem = some (o, mem') → V p l e (rmM 1 60) s m args below meth c 0 0 (MQ below (RQc k none mem') args s 0 0 (kA k)) k 3 mem 32 [(0, aR 1 q0), (1, aR 1 q1), (2, aI x2)] [] := by
  intro n
  induction n with
  | zero =>
    intro q0 q1 x2 mem hq0 hq1 h
    exact nomatch (show (none : Option (Unit × Mem)) = some _ from h)
  | succ n ih =>
    intro q0 q1 x2 mem hq0 hq1 h
    rw [dP_become_32] at h
    refine v_iload_n X (pc := 32) 2 rfl eP_become_32 rfl ?_
    refine v_aload_n X (pc := 33) 0 rfl eP_become_33 rfl ?_
    refine v_get X (pc := 34) 2 (a := aI (gI mem 1 q0 2)) (by decide) hq0 rfl rfl rfl in_Palace (by decide) qw_34 rfl eP_become_34 ?_
    refine v_icmp_ge X (pc := 37) (tgt := 65) h eP_become_37 (by decide) (fun h => ?_) (fun h => ?_)
    · refine v_aload_n X (pc := 40) 1 rfl eP_become_40 rfl ?_
      refine v_get X (pc := 41) 3 (a := aR 3 q1) (by decide) hq1 rfl rfl rfl in_Palace (by decide) qw_36 rfl eP_become_41 ?_
      refine v_iload_n X (pc := 44) 2 rfl eP_become_44 rfl ?_
      refine v_aaldW X (pc := 45) h hq1 eP_become_45 (fun hb1 h => ?_)
      refine v_iconst X (pc := 46) (v := (0 : Int32)) eP_become_46 (by decide) ?_
      refine v_aload_n X (pc := 47) 0 rfl eP_become_47 rfl ?_
      refine v_get X (pc := 48) 3 (a := aR 3 q0) (by decide) hq0 rfl rfl rfl in_Palace (by decide) qw_36 rfl eP_become_48 ?_
      refine v_iload_n X (pc := 51) 2 rfl eP_become_51 rfl ?_
      refine v_aaldW X (pc := 52) h hq0 eP_become_52 (fun hb2 h => ?_)
      refine v_iconst X (pc := 53) (v := (0 : Int32)) eP_become_53 (by decide) ?_
      refine v_bipush X (pc := 54) (v := (6 : Int32)) eP_become_54 (by decide) ?_
      refine v_copyI X (pc := 56) h okC_P_30 (by decide) hb1 (by decide) hb2 rfl (fun _ => rfl) [] (Nat.le_of_ble_eq_true rfl) (Nat.le_of_ble_eq_true rfl) eP_become_56 (fun h => ?_)
      refine v_iinc X (pc := 59) (v := (x2 + (1 : Int32))) (lv' := [(2, _), (0, _), (1, _)]) 2 rfl (by rfl) eP_become_59 (Nat.le_of_ble_eq_true rfl) rfl ?_
      refine v_goto X (pc := 62) (tgt := 32) eP_become_62 (by decide) ?_
      exact v_sub [1, 2, 0] rfl (ih _ _ _ _ hq0 hq1 h)
    · exact v_vret X (pc := 65) h hr eP_become_65
set_option maxHeartbeats 4000000 in
set_option maxRecDepth 100000 in
theorem cP_become {f : Nat} {q0 : Nat} {q1 : Nat} {mem : Mem} {o : Unit} {mem' : Mem} (hq0 : q0 < 3) (hq1 : q1 < 3) (h : dP_become f q0 q1 mem = some (o, mem')) : RT yP_become prog_2_method_2_code 3 (Option.none : Option Jvm.ClassFile.FieldType) (rmM 1 60) [aR 1 q0, aR 1 q1] mem none mem' := by
  refine RT.of (by decide +kernel) (Nat.le_of_ble_eq_true rfl) (fun p l e s m args below meth c k X hr => ?_)
  replace X : CX p s m args meth c k prog_2_method_2_code 3 "WallShifts$Palace" := X
  unfold dP_become at h
  refine v_sub (lv' := [(0, _), (1, _)]) [0, 1] rfl ?_
  refine v_aload_n X (pc := 0) 0 rfl eP_become_0 rfl ?_
  refine v_aload_n X (pc := 1) 1 rfl eP_become_1 rfl ?_
  refine v_get X (pc := 2) 0 (a := aI (gI mem 1 q1 0)) (by decide) hq1 rfl rfl rfl in_Palace (by decide) qw_30 rfl eP_become_2 ?_
  refine v_put X (pc := 5) 0 (mem' := (sI mem 1 q0 0 (gI mem 1 q1 0))) (by decide) hq0 rfl (pf_1_0 _ _ _ _ _) rowI_ne rfl in_Palace ty_Palace_ok nm_Palace (by decide) qw_30 rfl rfl rfl (Nat.le_of_ble_eq_true rfl) eP_become_5 ?_
  refine v_aload_n X (pc := 8) 1 rfl eP_become_8 rfl ?_
  refine v_get X (pc := 9) 1 (a := aR 2 q1) (by decide) hq1 rfl rfl rfl in_Palace (by decide) qw_32 rfl eP_become_9 ?_
  refine v_iconst X (pc := 12) (v := (0 : Int32)) eP_become_12 (by decide) ?_
  refine v_aload_n X (pc := 13) 0 rfl eP_become_13 rfl ?_
  refine v_get X (pc := 14) 1 (a := aR 2 q0) (by decide) hq0 rfl rfl rfl in_Palace (by decide) qw_32 rfl eP_become_14 ?_
  refine v_iconst X (pc := 17) (v := (0 : Int32)) eP_become_17 (by decide) ?_
  refine v_iconst X (pc := 18) (v := (4 : Int32)) eP_become_18 (by decide) ?_
  refine v_copyI X (pc := 19) h okC_P_30 (by decide) hq1 (by decide) hq0 rfl (fun _ => rfl) [] (Nat.le_of_ble_eq_true rfl) (Nat.le_of_ble_eq_true rfl) eP_become_19 (fun h => ?_)
  refine v_aload_n X (pc := 22) 0 rfl eP_become_22 rfl ?_
  refine v_aload_n X (pc := 23) 1 rfl eP_become_23 rfl ?_
  refine v_get X (pc := 24) 2 (a := aI (gI (sIr (sI mem 1 q0 0 (gI mem 1 q1 0)) 2 q0 (va_cpy (gI (sI mem 1 q0 0 (gI mem 1 q1 0)) 2 q1) (gI (sI mem 1 q0 0 (gI mem 1 q1 0)) 2 q0) (0 : Int32).toNatClampNeg (0 : Int32).toNatClampNeg (4 : Int32).toNatClampNeg)) 1 q1 2)) (by decide) hq1 rfl rfl rfl in_Palace (by decide) qw_34 rfl eP_become_24 ?_
  refine v_put X (pc := 27) 2 (mem' := (sI (sIr (sI mem 1 q0 0 (gI mem 1 q1 0)) 2 q0 (va_cpy (gI (sI mem 1 q0 0 (gI mem 1 q1 0)) 2 q1) (gI (sI mem 1 q0 0 (gI mem 1 q1 0)) 2 q0) (0 : Int32).toNatClampNeg (0 : Int32).toNatClampNeg (4 : Int32).toNatClampNeg)) 1 q0 2 (gI (sIr (sI mem 1 q0 0 (gI mem 1 q1 0)) 2 q0 (va_cpy (gI (sI mem 1 q0 0 (gI mem 1 q1 0)) 2 q1) (gI (sI mem 1 q0 0 (gI mem 1 q1 0)) 2 q0) (0 : Int32).toNatClampNeg (0 : Int32).toNatClampNeg (4 : Int32).toNatClampNeg)) 1 q1 2))) (by decide) hq0 rfl (pf_1_2 _ _ _ _ _) rowI_ne rfl in_Palace ty_Palace_ok nm_Palace (by decide) qw_34 rfl rfl rfl (Nat.le_of_ble_eq_true rfl) eP_become_27 ?_
  refine v_iconst X (pc := 30) (v := (0 : Int32)) eP_become_30 (by decide) ?_
  refine v_istore_n X (pc := 31) (lv' := [(2, _), (0, _), (1, _)]) eP_become_31 rfl (Nat.le_of_ble_eq_true rfl) rfl ?_
  exact v_sub [1, 2, 0] rfl (cP_become_32 X hr _ _ _ _ _ hq0 hq1 h)
set_option maxHeartbeats 4000000 in
set_option maxRecDepth 100000 in
theorem cW_side_65 {p : Program} {l : Launch} {e : Env} {s : State} {m : MethodId} {args : Array Value} {below : List Frame} {meth : Method} {c : Code} {k : KK} {f : Nat} {o : Int32} {mem' : Mem} (X : CX p s m args meth c k prog_1_method_22_code 9 "WallShifts") (hr : meth.sig.returnType = (Option.some Jvm.ClassFile.FieldType.int)) : ∀ (n : Nat) (x1 : Int32) (x3 : Int32) (x4 : Int32) (x5 : Int32) (x6 : Int32) (x7 : Int32) (mem : Mem), dW_side_65 f n x1 x3 x4 x5 x6 x7 mem = some (o, mem') → V p l e (rmM 3 82) s m args below meth c 0 0 (MQ below (RQc k (some (aI o)) mem') args s 0 0 (kA k)) k 9 mem 65 [(0, aR 0 0), (1, aI x1), (3, aI x3), (4, aI x4), (5, aI x5), (6, aI x6), (7, aI x7)] [] := by
  intro n
  induction n with
  | zero =>
    intro x1 x3 x4 x5 x6 x7 mem  h
    exact nomatch (show (none : Option (Int32 × Mem)) = some _ from h)
  | succ n ih =>
    intro x1 x3 x4 x5 x6 x7 mem  h
    rw [dW_side_65] at h
    refine v_iload X (pc := 65) 6 rfl eW_side_65 ?_
    refine v_iconst X (pc := 67) (v := (4 : Int32)) eW_side_67 (by decide) ?_
    refine v_icmp_ge X (pc := 68) (tgt := 125) h eW_side_68 (by decide) (fun h => ?_) (fun h => ?_)
    · refine v_aload_n X (pc := 71) 0 rfl eW_side_71 rfl ?_
      refine v_get X (pc := 72) 3 (a := aR 1 2) (by decide) (by decide) rfl rfl rfl in_WallShifts (by decide) qw_99 rfl eW_side_72 ?_
      refine v_iload_n X (pc := 75) 1 rfl eW_side_75 rfl ?_
      refine v_iconst X (pc := 76) (v := (3 : Int32)) eW_side_76 (by decide) ?_
      refine v_iload X (pc := 77) 6 rfl eW_side_77 ?_
      obtain ⟨r1, m1, hc1, h⟩ := bd_some h
      refine v_callV X (pc := 79) [_, _, _] [] ok_V_W_103 (cP_replace (by decide) hc1) rfl (Nat.le_of_ble_eq_true rfl) ⟨Nat.le_of_ble_eq_true rfl, Nat.le_of_ble_eq_true rfl⟩ ⟨Nat.zero_le _, Nat.zero_le _⟩ (by decide) (by decide) rfl rfl eW_side_79 ?_
      refine v_pop X (pc := 82) rfl eW_side_82 ?_
      refine v_aload_n X (pc := 83) 0 rfl eW_side_83 rfl ?_
      refine v_get X (pc := 84) 3 (a := aR 1 2) (by decide) (by decide) rfl rfl rfl in_WallShifts (by decide) qw_99 rfl eW_side_84 ?_
      refine v_iload X (pc := 87) 3 rfl eW_side_87 ?_
      refine v_iload_n X (pc := 89) 2 rfl eW_side_89 rfl ?_
      refine v_aload_n X (pc := 90) 0 rfl eW_side_90 rfl ?_
      refine v_get X (pc := 91) 3 (a := aR 1 2) (by decide) (by decide) rfl rfl rfl in_WallShifts (by decide) qw_99 rfl eW_side_91 ?_
      refine v_get X (pc := 94) 1 (a := aR 2 2) (by decide) (by decide) rfl rfl rfl in_Palace (by decide) qw_33 rfl eW_side_94 ?_
      refine v_iconst X (pc := 97) (v := (0 : Int32)) eW_side_97 (by decide) ?_
      refine v_ialdK X (pc := 98) (n := 4) 0 (by decide) (by decide) (by decide) (by decide) rfl eW_side_98 ?_
      obtain ⟨r2, m2, hc2, h⟩ := bd_some h
      refine v_callV X (pc := 99) [_, _, _] [] ok_V_W_165 (cP_silentMinutes (by decide) hc2) rfl (Nat.le_of_ble_eq_true rfl) ⟨Nat.le_of_ble_eq_true rfl, Nat.le_of_ble_eq_true rfl⟩ ⟨Nat.zero_le _, Nat.zero_le _⟩ (by decide) (by decide) rfl rfl eW_side_99 ?_
      refine v_istore X (pc := 102) (lv' := [(8, _), (0, _), (1, _), (3, _), (4, _), (5, _), (6, _), (7, _)]) eW_side_102 (Nat.le_of_ble_eq_true rfl) rfl ?_
      refine v_iload X (pc := 104) 0 rfl eW_side_104 ?_
      refine v_iload X (pc := 106) 5 rfl eW_side_106 ?_
      refine v_icmp_ge X (pc := 108) (tgt := 119) h eW_side_108 (by decide) (fun h => ?_) (fun h => ?_)
      · refine v_iload X (pc := 111) 0 rfl eW_side_111 ?_
        refine v_istore X (pc := 113) (lv' := [(5, _), (8, _), (0, _), (1, _), (3, _), (4, _), (6, _), (7, _)]) eW_side_113 (Nat.le_of_ble_eq_true rfl) rfl ?_
        refine v_iload X (pc := 115) 7 rfl eW_side_115 ?_
        refine v_istore X (pc := 117) (lv' := [(6, _), (5, _), (8, _), (0, _), (1, _), (3, _), (4, _), (7, _)]) eW_side_117 (Nat.le_of_ble_eq_true rfl) rfl ?_
        refine v_iinc X (pc := 119) (v := (x7 + (1 : Int32))) (lv' := [(7, _), (6, _), (5, _), (8, _), (0, _), (1, _), (3, _), (4, _)]) 7 rfl (by rfl) eW_side_119 (Nat.le_of_ble_eq_true rfl) rfl ?_
        refine v_goto X (pc := 122) (tgt := 65) eW_side_122 (by decide) ?_
        exact v_sub [4, 5, 6, 7, 2, 1, 0] rfl (ih _ _ _ _ _ _ _  h)
      · refine v_iinc X (pc := 119) (v := (x7 + (1 : Int32))) (lv' := [(7, _), (8, _), (0, _), (1, _), (3, _), (4, _), (5, _), (6, _)]) 7 rfl (by rfl) eW_side_119 (Nat.le_of_ble_eq_true rfl) rfl ?_
        refine v_goto X (pc := 122) (tgt := 65) eW_side_122 (by decide) ?_
        exact v_sub [2, 3, 4, 5, 6, 7, 0] rfl (ih _ _ _ _ _ _ _  h)
    · refine v_iload X (pc := 125) 5 rfl eW_side_125 ?_
      exact v_iret X (pc := 127) h hr eW_side_127
end
section
/-! GENERATED: the walks. -/
set_option maxHeartbeats 4000000 in
set_option maxRecDepth 100000 in
theorem cW_side {f : Nat} {a1 : Int32} {a2 : Int32} {a3 : Int32} {mem : Mem} {o : Int32} {mem' : Mem}  (h : dW_side f a1 a2 a3 mem = some (o, mem')) : RT yW_side prog_1_method_22_code 9 (Option.some Jvm.ClassFile.FieldType.int) (rmM 3 82) [aR 0 0, aI a1, aI a2, aI a3] mem (some (aI o)) mem' := by
  refine RT.of (by decide +kernel) (Nat.le_of_ble_eq_true rfl) (fun p l e s m args below meth c k X hr => ?_)
  replace X : CX p s m args meth c k prog_1_method_22_code 9 "WallShifts" := X
  unfold dW_side at h
  refine v_sub (lv' := [(0, _), (1, _), (2, _), (3, _)]) [0, 1, 2, 3] rfl ?_
  refine v_aload_n X (pc := 0) 0 rfl eW_side_0 rfl ?_
  refine v_iload_n X (pc := 1) 1 rfl eW_side_1 rfl ?_
  obtain ⟨r1, m1, hc1, h⟩ := bd_some h
  refine v_callV X (pc := 2) [_] [] ok_V_W_75 (cW_isWall  hc1) rfl (Nat.le_of_ble_eq_true rfl) ⟨Nat.le_of_ble_eq_true rfl, Nat.le_of_ble_eq_true rfl⟩ ⟨Nat.zero_le _, Nat.zero_le _⟩ (by decide) (by decide) rfl rfl eW_side_2 ?_
  refine v_if_eq X (pc := 5) (tgt := 26) h eW_side_5 (by decide) (fun h => ?_) (fun h => ?_)
  · refine v_aload_n X (pc := 26) 0 rfl eW_side_26 rfl ?_
    refine v_ldc X (pc := 27) qw_135 eW_side_27 ?_
    obtain ⟨r2, m2, hc2, h⟩ := bd_some h
    refine v_callV X (pc := 29) [_] [] ok_V_W_52 (cW_finding  hc2) rfl (Nat.le_of_ble_eq_true rfl) ⟨Nat.le_of_ble_eq_true rfl, Nat.le_of_ble_eq_true rfl⟩ ⟨Nat.zero_le _, Nat.zero_le _⟩ (by decide) (by decide) rfl rfl eW_side_29 ?_
    exact v_iret X (pc := 32) h hr eW_side_32
  · refine v_iload_n X (pc := 8) 2 rfl eW_side_8 rfl ?_
    obtain ⟨r3, m3, hc3, h⟩ := bd_some h
    refine v_callS X (pc := 9) [_] [] ok_S_W_63 (cW_isRoom  hc3) rfl (Nat.le_of_ble_eq_true rfl) ⟨Nat.le_of_ble_eq_true rfl, Nat.le_of_ble_eq_true rfl⟩ ⟨Nat.zero_le _, Nat.zero_le _⟩ eW_side_9 ?_
    refine v_if_eq X (pc := 12) (tgt := 26) h eW_side_12 (by decide) (fun h => ?_) (fun h => ?_)
    · refine v_aload_n X (pc := 26) 0 rfl eW_side_26 rfl ?_
      refine v_ldc X (pc := 27) qw_135 eW_side_27 ?_
      obtain ⟨r4, m4, hc4, h⟩ := bd_some h
      refine v_callV X (pc := 29) [_] [] ok_V_W_52 (cW_finding  hc4) rfl (Nat.le_of_ble_eq_true rfl) ⟨Nat.le_of_ble_eq_true rfl, Nat.le_of_ble_eq_true rfl⟩ ⟨Nat.zero_le _, Nat.zero_le _⟩ (by decide) (by decide) rfl rfl eW_side_29 ?_
      exact v_iret X (pc := 32) h hr eW_side_32
    · refine v_iload_n X (pc := 15) 3 rfl eW_side_15 rfl ?_
      refine v_iconst X (pc := 16) (v := (1 : Int32)) eW_side_16 (by decide) ?_
      refine v_sipush X (pc := 17) (v := (240 : Int32)) eW_side_17 (by decide) ?_
      obtain ⟨r5, m5, hc5, h⟩ := bd_some h
      refine v_callS X (pc := 20) [_, _, _] [] ok_S_W_82 (cW_isIn  hc5) rfl (Nat.le_of_ble_eq_true rfl) ⟨Nat.le_of_ble_eq_true rfl, Nat.le_of_ble_eq_true rfl⟩ ⟨Nat.zero_le _, Nat.zero_le _⟩ eW_side_20 ?_
      refine v_if_ne X (pc := 23) (tgt := 33) h eW_side_23 (by decide) (fun h => ?_) (fun h => ?_)
      · refine v_aload_n X (pc := 26) 0 rfl eW_side_26 rfl ?_
        refine v_ldc X (pc := 27) qw_135 eW_side_27 ?_
        obtain ⟨r6, m6, hc6, h⟩ := bd_some h
        refine v_callV X (pc := 29) [_] [] ok_V_W_52 (cW_finding  hc6) rfl (Nat.le_of_ble_eq_true rfl) ⟨Nat.le_of_ble_eq_true rfl, Nat.le_of_ble_eq_true rfl⟩ ⟨Nat.zero_le _, Nat.zero_le _⟩ (by decide) (by decide) rfl rfl eW_side_29 ?_
        exact v_iret X (pc := 32) h hr eW_side_32
      · refine v_aload_n X (pc := 33) 0 rfl eW_side_33 rfl ?_
        refine v_get X (pc := 34) 0 (a := aR 1 0) (by decide) (by decide) rfl rfl rfl in_WallShifts (by decide) qw_96 rfl eW_side_34 ?_
        refine v_iload_n X (pc := 37) 2 rfl eW_side_37 rfl ?_
        obtain ⟨r7, m7, hc7, h⟩ := bd_some h
        refine v_callV X (pc := 38) [_] [] ok_V_W_119 (cP_near (by decide) hc7) rfl (Nat.le_of_ble_eq_true rfl) ⟨Nat.le_of_ble_eq_true rfl, Nat.le_of_ble_eq_true rfl⟩ ⟨Nat.zero_le _, Nat.zero_le _⟩ (by decide) (by decide) rfl rfl eW_side_38 ?_
        refine v_istore X (pc := 41) (lv' := [(4, _), (0, _), (1, _), (2, _), (3, _)]) eW_side_41 (Nat.le_of_ble_eq_true rfl) rfl ?_
        refine v_iload_n X (pc := 43) 4 rfl eW_side_43 rfl ?_
        refine v_iconst X (pc := 44) (v := (1 : Int32)) eW_side_44 (by decide) ?_
        refine v_iadd X (pc := 45) eW_side_45 ?_
        refine v_istore X (pc := 46) (lv' := [(5, _), (4, _), (0, _), (1, _), (2, _), (3, _)]) eW_side_46 (Nat.le_of_ble_eq_true rfl) rfl ?_
        refine v_iconst X (pc := 48) (v := (0 : Int32)) eW_side_48 (by decide) ?_
        refine v_istore X (pc := 49) (lv' := [(6, _), (5, _), (4, _), (0, _), (1, _), (2, _), (3, _)]) eW_side_49 (Nat.le_of_ble_eq_true rfl) rfl ?_
        refine v_aload_n X (pc := 51) 3 rfl eW_side_51 rfl ?_
        refine v_get X (pc := 52) 3 (a := aR 1 2) (by decide) (by decide) rfl rfl rfl in_WallShifts (by decide) qw_99 rfl eW_side_52 ?_
        refine v_aload_n X (pc := 55) 3 rfl eW_side_55 rfl ?_
        refine v_get X (pc := 56) 0 (a := aR 1 0) (by decide) (by decide) rfl rfl rfl in_WallShifts (by decide) qw_96 rfl eW_side_56 ?_
        obtain ⟨r8, m8, hc8, h⟩ := bd_some h
        refine v_callV X (pc := 59) [_] [] ok_V_W_183 (cP_become (by decide) (by decide) hc8) rfl (Nat.le_of_ble_eq_true rfl) ⟨Nat.le_of_ble_eq_true rfl, Nat.le_of_ble_eq_true rfl⟩ ⟨Nat.zero_le _, Nat.zero_le _⟩ (by decide) (by decide) rfl rfl eW_side_59 ?_
        refine v_iconst X (pc := 62) (v := (0 : Int32)) eW_side_62 (by decide) ?_
        refine v_istore X (pc := 63) (lv' := [(7, _), (6, _), (5, _), (4, _), (0, _), (1, _), (2, _), (3, _)]) eW_side_63 (Nat.le_of_ble_eq_true rfl) rfl ?_
        exact v_sub [4, 5, 7, 3, 2, 1, 0] rfl (cW_side_65 X hr _ _ _ _ _ _ _ _  h)
set_option maxHeartbeats 4000000 in
set_option maxRecDepth 100000 in
theorem cW_lost {f : Nat} {a1 : Int32} {a2 : Int32} {mem : Mem} {o : Int32} {mem' : Mem}  (h : dW_lost f a1 a2 mem = some (o, mem')) : RT yW_lost prog_1_method_23_code 3 (Option.some Jvm.ClassFile.FieldType.int) (rmM 4 106) [aR 0 0, aI a1, aI a2] mem (some (aI o)) mem' := by
  refine RT.of (by decide +kernel) (Nat.le_of_ble_eq_true rfl) (fun p l e s m args below meth c k X hr => ?_)
  replace X : CX p s m args meth c k prog_1_method_23_code 3 "WallShifts" := X
  unfold dW_lost at h
  refine v_sub (lv' := [(0, _), (1, _), (2, _)]) [0, 1, 2] rfl ?_
  refine v_iload_n X (pc := 0) 1 rfl eW_lost_0 rfl ?_
  obtain ⟨r1, m1, hc1, h⟩ := bd_some h
  refine v_callS X (pc := 1) [_] [] ok_S_W_63 (cW_isRoom  hc1) rfl (Nat.le_of_ble_eq_true rfl) ⟨Nat.le_of_ble_eq_true rfl, Nat.le_of_ble_eq_true rfl⟩ ⟨Nat.zero_le _, Nat.zero_le _⟩ eW_lost_1 ?_
  refine v_if_eq X (pc := 4) (tgt := 14) h eW_lost_4 (by decide) (fun h => ?_) (fun h => ?_)
  · refine v_aload_n X (pc := 14) 0 rfl eW_lost_14 rfl ?_
    refine v_ldc X (pc := 15) qw_135 eW_lost_15 ?_
    obtain ⟨r2, m2, hc2, h⟩ := bd_some h
    refine v_callV X (pc := 17) [_] [] ok_V_W_52 (cW_finding  hc2) rfl (Nat.le_of_ble_eq_true rfl) ⟨Nat.le_of_ble_eq_true rfl, Nat.le_of_ble_eq_true rfl⟩ ⟨Nat.zero_le _, Nat.zero_le _⟩ (by decide) (by decide) rfl rfl eW_lost_17 ?_
    exact v_iret X (pc := 20) h hr eW_lost_20
  · refine v_iload_n X (pc := 7) 2 rfl eW_lost_7 rfl ?_
    obtain ⟨r3, m3, hc3, h⟩ := bd_some h
    refine v_callS X (pc := 8) [_] [] ok_S_W_131 (cW_isSetOfWords  hc3) rfl (Nat.le_of_ble_eq_true rfl) ⟨Nat.le_of_ble_eq_true rfl, Nat.le_of_ble_eq_true rfl⟩ ⟨Nat.zero_le _, Nat.zero_le _⟩ eW_lost_8 ?_
    refine v_if_ne X (pc := 11) (tgt := 21) h eW_lost_11 (by decide) (fun h => ?_) (fun h => ?_)
    · refine v_aload_n X (pc := 14) 0 rfl eW_lost_14 rfl ?_
      refine v_ldc X (pc := 15) qw_135 eW_lost_15 ?_
      obtain ⟨r4, m4, hc4, h⟩ := bd_some h
      refine v_callV X (pc := 17) [_] [] ok_V_W_52 (cW_finding  hc4) rfl (Nat.le_of_ble_eq_true rfl) ⟨Nat.le_of_ble_eq_true rfl, Nat.le_of_ble_eq_true rfl⟩ ⟨Nat.zero_le _, Nat.zero_le _⟩ (by decide) (by decide) rfl rfl eW_lost_17 ?_
      exact v_iret X (pc := 20) h hr eW_lost_20
    · refine v_aload_n X (pc := 21) 0 rfl eW_lost_21 rfl ?_
      refine v_get X (pc := 22) 3 (a := aR 1 2) (by decide) (by decide) rfl rfl rfl in_WallShifts (by decide) qw_99 rfl eW_lost_22 ?_
      refine v_aload_n X (pc := 25) 0 rfl eW_lost_25 rfl ?_
      refine v_get X (pc := 26) 0 (a := aR 1 0) (by decide) (by decide) rfl rfl rfl in_WallShifts (by decide) qw_96 rfl eW_lost_26 ?_
      obtain ⟨r5, m5, hc5, h⟩ := bd_some h
      refine v_callV X (pc := 29) [_] [] ok_V_W_183 (cP_become (by decide) (by decide) hc5) rfl (Nat.le_of_ble_eq_true rfl) ⟨Nat.le_of_ble_eq_true rfl, Nat.le_of_ble_eq_true rfl⟩ ⟨Nat.zero_le _, Nat.zero_le _⟩ (by decide) (by decide) rfl rfl eW_lost_29 ?_
      refine v_aload_n X (pc := 32) 0 rfl eW_lost_32 rfl ?_
      refine v_get X (pc := 33) 3 (a := aR 1 2) (by decide) (by decide) rfl rfl rfl in_WallShifts (by decide) qw_99 rfl eW_lost_33 ?_
      refine v_iload_n X (pc := 36) 1 rfl eW_lost_36 rfl ?_
      refine v_iload_n X (pc := 37) 2 rfl eW_lost_37 rfl ?_
      obtain ⟨r6, m6, hc6, h⟩ := bd_some h
      refine v_callV X (pc := 38) [_, _] [] ok_V_W_139 (cP_utterAll (by decide) hc6) rfl (Nat.le_of_ble_eq_true rfl) ⟨Nat.le_of_ble_eq_true rfl, Nat.le_of_ble_eq_true rfl⟩ ⟨Nat.zero_le _, Nat.zero_le _⟩ (by decide) (by decide) rfl rfl eW_lost_38 ?_
      refine v_pop X (pc := 41) rfl eW_lost_41 ?_
      refine v_aload_n X (pc := 42) 0 rfl eW_lost_42 rfl ?_
      refine v_get X (pc := 43) 3 (a := aR 1 2) (by decide) (by decide) rfl rfl rfl in_WallShifts (by decide) qw_99 rfl eW_lost_43 ?_
      refine v_get X (pc := 46) 4 (a := aI (gI m6 1 2 4)) (by decide) (by decide) rfl rfl rfl in_Palace (by decide) qw_39 rfl eW_lost_46 ?_
      exact v_iret X (pc := 49) h hr eW_lost_49
set_option maxHeartbeats 4000000 in
set_option maxRecDepth 100000 in
theorem cW_best_23 {p : Program} {l : Launch} {e : Env} {s : State} {m : MethodId} {args : Array Value} {below : List Frame} {meth : Method} {c : Code} {k : KK} {f : Nat} {o : Int32} {mem' : Mem} (X : CX p s m args meth c k prog_1_method_24_code 6 "WallShifts") (hr : meth.sig.returnType = (Option.some Jvm.ClassFile.FieldType.int)) : ∀ (n : Nat) (x1 : Int32) (x2 : Int32) (x3 : Int32) (x4 : Int32) (mem : Mem), dW_best_23 f n x1 x2 x3 x4 mem = some (o, mem') → V p l e (rmM 4 106) s m args below meth c 0 0 (MQ below (RQc k (some (aI o)) mem') args s 0 0 (kA k)) k 6 mem 23 [(0, aR 0 0), (1, aI x1), (2, aI x2), (3, aI x3), (4, aI x4)] [] := by
  intro n
  induction n with
  | zero =>
    intro x1 x2 x3 x4 mem  h
    exact nomatch (show (none : Option (Int32 × Mem)) = some _ from h)
  | succ n ih =>
    intro x1 x2 x3 x4 mem  h
    rw [dW_best_23] at h
    refine v_iload X (pc := 23) 4 rfl eW_best_23 ?_
    refine v_bipush X (pc := 25) (v := (10 : Int32)) eW_best_25 (by decide) ?_
    refine v_icmp_ge X (pc := 27) (tgt := 71) h eW_best_27 (by decide) (fun h => ?_) (fun h => ?_)
    · refine v_aload_n X (pc := 30) 0 rfl eW_best_30 rfl ?_
      refine v_get X (pc := 31) 3 (a := aR 1 2) (by decide) (by decide) rfl rfl rfl in_WallShifts (by decide) qw_99 rfl eW_best_31 ?_
      refine v_aload_n X (pc := 34) 0 rfl eW_best_34 rfl ?_
      refine v_get X (pc := 35) 0 (a := aR 1 0) (by decide) (by decide) rfl rfl rfl in_WallShifts (by decide) qw_96 rfl eW_best_35 ?_
      obtain ⟨r1, m1, hc1, h⟩ := bd_some h
      refine v_callV X (pc := 38) [_] [] ok_V_W_183 (cP_become (by decide) (by decide) hc1) rfl (Nat.le_of_ble_eq_true rfl) ⟨Nat.le_of_ble_eq_true rfl, Nat.le_of_ble_eq_true rfl⟩ ⟨Nat.zero_le _, Nat.zero_le _⟩ (by decide) (by decide) rfl rfl eW_best_38 ?_
      refine v_aload_n X (pc := 41) 0 rfl eW_best_41 rfl ?_
      refine v_get X (pc := 42) 3 (a := aR 1 2) (by decide) (by decide) rfl rfl rfl in_WallShifts (by decide) qw_99 rfl eW_best_42 ?_
      refine v_iload X (pc := 45) 4 rfl eW_best_45 ?_
      refine v_iload_n X (pc := 47) 1 rfl eW_best_47 rfl ?_
      obtain ⟨r2, m2, hc2, h⟩ := bd_some h
      refine v_callV X (pc := 48) [_, _] [] ok_V_W_139 (cP_utterAll (by decide) hc2) rfl (Nat.le_of_ble_eq_true rfl) ⟨Nat.le_of_ble_eq_true rfl, Nat.le_of_ble_eq_true rfl⟩ ⟨Nat.zero_le _, Nat.zero_le _⟩ (by decide) (by decide) rfl rfl eW_best_48 ?_
      refine v_istore X (pc := 51) (lv' := [(5, _), (0, _), (1, _), (2, _), (3, _), (4, _)]) eW_best_51 (Nat.le_of_ble_eq_true rfl) rfl ?_
      refine v_iload X (pc := 53) 0 rfl eW_best_53 ?_
      refine v_iload_n X (pc := 55) 3 rfl eW_best_55 rfl ?_
      refine v_icmp_ge X (pc := 56) (tgt := 65) h eW_best_56 (by decide) (fun h => ?_) (fun h => ?_)
      · refine v_iload X (pc := 59) 0 rfl eW_best_59 ?_
        refine v_istore_n X (pc := 61) (lv' := [(2, _), (5, _), (0, _), (1, _), (3, _), (4, _)]) eW_best_61 rfl (Nat.le_of_ble_eq_true rfl) rfl ?_
        refine v_iload X (pc := 62) 5 rfl eW_best_62 ?_
        refine v_istore_n X (pc := 64) (lv' := [(3, _), (2, _), (5, _), (0, _), (1, _), (4, _)]) eW_best_64 rfl (Nat.le_of_ble_eq_true rfl) rfl ?_
        refine v_iinc X (pc := 65) (v := (x4 + (1 : Int32))) (lv' := [(4, _), (3, _), (2, _), (5, _), (0, _), (1, _)]) 5 rfl (by rfl) eW_best_65 (Nat.le_of_ble_eq_true rfl) rfl ?_
        refine v_goto X (pc := 68) (tgt := 23) eW_best_68 (by decide) ?_
        exact v_sub [4, 5, 2, 1, 0] rfl (ih _ _ _ _ _  h)
      · refine v_iinc X (pc := 65) (v := (x4 + (1 : Int32))) (lv' := [(4, _), (5, _), (0, _), (1, _), (2, _), (3, _)]) 5 rfl (by rfl) eW_best_65 (Nat.le_of_ble_eq_true rfl) rfl ?_
        refine v_goto X (pc := 68) (tgt := 23) eW_best_68 (by decide) ?_
        exact v_sub [2, 3, 4, 5, 0] rfl (ih _ _ _ _ _  h)
    · refine v_iload_n X (pc := 71) 3 rfl eW_best_71 rfl ?_
      exact v_iret X (pc := 72) h hr eW_best_72
set_option maxHeartbeats 4000000 in
set_option maxRecDepth 100000 in
theorem cW_best {f : Nat} {a1 : Int32} {mem : Mem} {o : Int32} {mem' : Mem}  (h : dW_best f a1 mem = some (o, mem')) : RT yW_best prog_1_method_24_code 6 (Option.some Jvm.ClassFile.FieldType.int) (rmM 4 106) [aR 0 0, aI a1] mem (some (aI o)) mem' := by
  refine RT.of (by decide +kernel) (Nat.le_of_ble_eq_true rfl) (fun p l e s m args below meth c k X hr => ?_)
  replace X : CX p s m args meth c k prog_1_method_24_code 6 "WallShifts" := X
  unfold dW_best at h
  refine v_sub (lv' := [(0, _), (1, _)]) [0, 1] rfl ?_
  refine v_iload_n X (pc := 0) 1 rfl eW_best_0 rfl ?_
  obtain ⟨r1, m1, hc1, h⟩ := bd_some h
  refine v_callS X (pc := 1) [_] [] ok_S_W_131 (cW_isSetOfWords  hc1) rfl (Nat.le_of_ble_eq_true rfl) ⟨Nat.le_of_ble_eq_true rfl, Nat.le_of_ble_eq_true rfl⟩ ⟨Nat.zero_le _, Nat.zero_le _⟩ eW_best_1 ?_
  refine v_if_ne X (pc := 4) (tgt := 14) h eW_best_4 (by decide) (fun h => ?_) (fun h => ?_)
  · refine v_aload_n X (pc := 7) 0 rfl eW_best_7 rfl ?_
    refine v_ldc X (pc := 8) qw_135 eW_best_8 ?_
    obtain ⟨r2, m2, hc2, h⟩ := bd_some h
    refine v_callV X (pc := 10) [_] [] ok_V_W_52 (cW_finding  hc2) rfl (Nat.le_of_ble_eq_true rfl) ⟨Nat.le_of_ble_eq_true rfl, Nat.le_of_ble_eq_true rfl⟩ ⟨Nat.zero_le _, Nat.zero_le _⟩ (by decide) (by decide) rfl rfl eW_best_10 ?_
    exact v_iret X (pc := 13) h hr eW_best_13
  · refine v_sipush X (pc := 14) (v := (161 : Int32)) eW_best_14 (by decide) ?_
    refine v_istore_n X (pc := 17) (lv' := [(2, _), (0, _), (1, _)]) eW_best_17 rfl (Nat.le_of_ble_eq_true rfl) rfl ?_
    refine v_iconst X (pc := 18) (v := (0 : Int32)) eW_best_18 (by decide) ?_
    refine v_istore_n X (pc := 19) (lv' := [(3, _), (2, _), (0, _), (1, _)]) eW_best_19 rfl (Nat.le_of_ble_eq_true rfl) rfl ?_
    refine v_iconst X (pc := 20) (v := (0 : Int32)) eW_best_20 (by decide) ?_
    refine v_istore X (pc := 21) (lv' := [(4, _), (3, _), (2, _), (0, _), (1, _)]) eW_best_21 (Nat.le_of_ble_eq_true rfl) rfl ?_
    exact v_sub [3, 4, 2, 1, 0] rfl (cW_best_23 X hr _ _ _ _ _ _  h)
set_option maxHeartbeats 4000000 in
set_option maxRecDepth 100000 in
theorem cW_image {f : Nat}  {mem : Mem} {o : Int32} {mem' : Mem}  (h : dW_image f  mem = some (o, mem')) : RT yW_image prog_1_method_34_code 1 (Option.some Jvm.ClassFile.FieldType.int) (rmM 2 82) [aR 0 0] mem (some (aI o)) mem' := by
  refine RT.of (by decide +kernel) (Nat.le_of_ble_eq_true rfl) (fun p l e s m args below meth c k X hr => ?_)
  replace X : CX p s m args meth c k prog_1_method_34_code 1 "WallShifts" := X
  unfold dW_image at h
  refine v_sub (lv' := [(0, _)]) [0] rfl ?_
  refine v_aload_n X (pc := 0) 0 rfl eW_image_0 rfl ?_
  refine v_get X (pc := 1) 1 (a := aR 1 1) (by decide) (by decide) rfl rfl rfl in_WallShifts (by decide) qw_97 rfl eW_image_1 ?_
  refine v_aload_n X (pc := 4) 0 rfl eW_image_4 rfl ?_
  refine v_get X (pc := 5) 0 (a := aR 1 0) (by decide) (by decide) rfl rfl rfl in_WallShifts (by decide) qw_96 rfl eW_image_5 ?_
  obtain ⟨r1, m1, hc1, h⟩ := bd_some h
  refine v_callV X (pc := 8) [_] [] ok_V_W_183 (cP_become (by decide) (by decide) hc1) rfl (Nat.le_of_ble_eq_true rfl) ⟨Nat.le_of_ble_eq_true rfl, Nat.le_of_ble_eq_true rfl⟩ ⟨Nat.zero_le _, Nat.zero_le _⟩ (by decide) (by decide) rfl rfl eW_image_8 ?_
  refine v_aload_n X (pc := 11) 0 rfl eW_image_11 rfl ?_
  refine v_iconst X (pc := 12) (v := (1 : Int32)) eW_image_12 (by decide) ?_
  refine v_put X (pc := 13) 2 (mem' := (sI m1 0 0 2 (1 : Int32))) (by decide) (by decide) rfl (pf_0_2 _ _ _ _ _) rowI_ne rfl in_WallShifts ty_WallShifts_ok nm_WallShifts (by decide) qw_98 rfl rfl rfl (Nat.le_of_ble_eq_true rfl) eW_image_13 ?_
  refine v_iconst X (pc := 16) (v := (1 : Int32)) eW_image_16 (by decide) ?_
  exact v_iret X (pc := 17) h hr eW_image_17
set_option maxHeartbeats 4000000 in
set_option maxRecDepth 100000 in
theorem cW_undo {f : Nat}  {mem : Mem} {o : Int32} {mem' : Mem}  (h : dW_undo f  mem = some (o, mem')) : RT yW_undo prog_1_method_35_code 1 (Option.some Jvm.ClassFile.FieldType.int) (rmM 2 82) [aR 0 0] mem (some (aI o)) mem' := by
  refine RT.of (by decide +kernel) (Nat.le_of_ble_eq_true rfl) (fun p l e s m args below meth c k X hr => ?_)
  replace X : CX p s m args meth c k prog_1_method_35_code 1 "WallShifts" := X
  unfold dW_undo at h
  refine v_sub (lv' := [(0, _)]) [0] rfl ?_
  refine v_aload_n X (pc := 0) 0 rfl eW_undo_0 rfl ?_
  refine v_get X (pc := 1) 2 (a := aI (gI mem 0 0 2)) (by decide) (by decide) rfl rfl rfl in_WallShifts (by decide) qw_98 rfl eW_undo_1 ?_
  refine v_if_ne X (pc := 4) (tgt := 14) h eW_undo_4 (by decide) (fun h => ?_) (fun h => ?_)
  · refine v_aload_n X (pc := 7) 0 rfl eW_undo_7 rfl ?_
    refine v_ldc X (pc := 8) qw_268 eW_undo_8 ?_
    obtain ⟨r1, m1, hc1, h⟩ := bd_some h
    refine v_callV X (pc := 10) [_] [] ok_V_W_52 (cW_finding  hc1) rfl (Nat.le_of_ble_eq_true rfl) ⟨Nat.le_of_ble_eq_true rfl, Nat.le_of_ble_eq_true rfl⟩ ⟨Nat.zero_le _, Nat.zero_le _⟩ (by decide) (by decide) rfl rfl eW_undo_10 ?_
    exact v_iret X (pc := 13) h hr eW_undo_13
  · refine v_aload_n X (pc := 14) 0 rfl eW_undo_14 rfl ?_
    refine v_get X (pc := 15) 0 (a := aR 1 0) (by decide) (by decide) rfl rfl rfl in_WallShifts (by decide) qw_96 rfl eW_undo_15 ?_
    refine v_aload_n X (pc := 18) 0 rfl eW_undo_18 rfl ?_
    refine v_get X (pc := 19) 1 (a := aR 1 1) (by decide) (by decide) rfl rfl rfl in_WallShifts (by decide) qw_97 rfl eW_undo_19 ?_
    obtain ⟨r2, m2, hc2, h⟩ := bd_some h
    refine v_callV X (pc := 22) [_] [] ok_V_W_183 (cP_become (by decide) (by decide) hc2) rfl (Nat.le_of_ble_eq_true rfl) ⟨Nat.le_of_ble_eq_true rfl, Nat.le_of_ble_eq_true rfl⟩ ⟨Nat.zero_le _, Nat.zero_le _⟩ (by decide) (by decide) rfl rfl eW_undo_22 ?_
    refine v_aload_n X (pc := 25) 0 rfl eW_undo_25 rfl ?_
    refine v_get X (pc := 26) 0 (a := aR 1 0) (by decide) (by decide) rfl rfl rfl in_WallShifts (by decide) qw_96 rfl eW_undo_26 ?_
    refine v_get X (pc := 29) 2 (a := aI (gI m2 1 0 2)) (by decide) (by decide) rfl rfl rfl in_Palace (by decide) qw_35 rfl eW_undo_29 ?_
    exact v_iret X (pc := 32) h hr eW_undo_32
set_option maxHeartbeats 4000000 in
set_option maxRecDepth 100000 in
theorem cW_isKind {f : Nat} {a0 : Int32} {mem : Mem} {o : Int32} {mem' : Mem}  (h : dW_isKind f a0 mem = some (o, mem')) : RT yW_isKind prog_1_method_47_code 1 (Option.some Jvm.ClassFile.FieldType.boolean) (rmM 1 22) [aI a0] mem (some (aI o)) mem' := by
  refine RT.of (by decide +kernel) (Nat.le_of_ble_eq_true rfl) (fun p l e s m args below meth c k X hr => ?_)
  replace X : CX p s m args meth c k prog_1_method_47_code 1 "WallShifts" := X
  unfold dW_isKind at h
  refine v_sub (lv' := [(0, _)]) [0] rfl ?_
  refine v_iload_n X (pc := 0) 0 rfl eW_isKind_0 rfl ?_
  refine v_iconst X (pc := 1) (v := (0 : Int32)) eW_isKind_1 (by decide) ?_
  refine v_iconst X (pc := 2) (v := (5 : Int32)) eW_isKind_2 (by decide) ?_
  obtain ⟨r1, m1, hc1, h⟩ := bd_some h
  refine v_callS X (pc := 3) [_, _, _] [] ok_S_W_82 (cW_isIn  hc1) rfl (Nat.le_of_ble_eq_true rfl) ⟨Nat.le_of_ble_eq_true rfl, Nat.le_of_ble_eq_true rfl⟩ ⟨Nat.zero_le _, Nat.zero_le _⟩ eW_isKind_3 ?_
  obtain ⟨hz, h⟩ := zb_some h
  exact v_zret X (pc := 6) h hr (zb_n hz) eW_isKind_6
set_option maxHeartbeats 4000000 in
set_option maxRecDepth 100000 in
theorem cP_isBuiltUp {f : Nat} {q0 : Nat} {mem : Mem} {o : Int32} {mem' : Mem} (hq0 : q0 < 3) (h : dP_isBuiltUp f q0 mem = some (o, mem')) : RT yP_isBuiltUp prog_2_method_3_code 1 (Option.some Jvm.ClassFile.FieldType.boolean) (rmM 0 0) [aR 1 q0] mem (some (aI o)) mem' := by
  refine RT.of (by decide +kernel) (Nat.le_of_ble_eq_true rfl) (fun p l e s m args below meth c k X hr => ?_)
  replace X : CX p s m args meth c k prog_2_method_3_code 1 "WallShifts$Palace" := X
  unfold dP_isBuiltUp at h
  refine v_sub (lv' := [(0, _)]) [0] rfl ?_
  refine v_aload_n X (pc := 0) 0 rfl eP_isBuiltUp_0 rfl ?_
  refine v_get X (pc := 1) 2 (a := aI (gI mem 1 q0 2)) (by decide) hq0 rfl rfl rfl in_Palace (by decide) qw_34 rfl eP_isBuiltUp_1 ?_
  refine v_bipush X (pc := 4) (v := (10 : Int32)) eP_isBuiltUp_4 (by decide) ?_
  refine v_icmp_lt X (pc := 6) (tgt := 13) h eP_isBuiltUp_6 (by decide) (fun h => ?_) (fun h => ?_)
  · refine v_iconst X (pc := 13) (v := (0 : Int32)) eP_isBuiltUp_13 (by decide) ?_
    exact v_zret X (pc := 14) h hr rfl eP_isBuiltUp_14
  · refine v_iconst X (pc := 9) (v := (1 : Int32)) eP_isBuiltUp_9 (by decide) ?_
    refine v_goto X (pc := 10) (tgt := 14) eP_isBuiltUp_10 (by decide) ?_
    exact v_zret X (pc := 14) h hr rfl eP_isBuiltUp_14
set_option maxHeartbeats 4000000 in
set_option maxRecDepth 100000 in
theorem cP_build {f : Nat} {q0 : Nat} {a1 : Int32} {a2 : Int32} {a3 : Int32} {a4 : Int32} {mem : Mem} {o : Int32} {mem' : Mem} (hq0 : q0 < 3) (h : dP_build f q0 a1 a2 a3 a4 mem = some (o, mem')) : RT yP_build prog_2_method_4_code 6 (Option.some Jvm.ClassFile.FieldType.int) (rmM 0 0) [aR 1 q0, aI a1, aI a2, aI a3, aI a4] mem (some (aI o)) mem' := by
  refine RT.of (by decide +kernel) (Nat.le_of_ble_eq_true rfl) (fun p l e s m args below meth c k X hr => ?_)
  replace X : CX p s m args meth c k prog_2_method_4_code 6 "WallShifts$Palace" := X
  unfold dP_build at h
  refine v_sub (lv' := [(0, _), (1, _), (2, _), (3, _), (4, _)]) [0, 1, 2, 3, 4] rfl ?_
  refine v_aload_n X (pc := 0) 0 rfl eP_build_0 rfl ?_
  refine v_get X (pc := 1) 3 (a := aR 3 q0) (by decide) hq0 rfl rfl rfl in_Palace (by decide) qw_36 rfl eP_build_1 ?_
  refine v_aload_n X (pc := 4) 0 rfl eP_build_4 rfl ?_
  refine v_get X (pc := 5) 2 (a := aI (gI mem 1 q0 2)) (by decide) hq0 rfl rfl rfl in_Palace (by decide) qw_34 rfl eP_build_5 ?_
  refine v_aaldW X (pc := 8) h hq0 eP_build_8 (fun hb1 h => ?_)
  refine v_astore X (pc := 9) (lv' := [(5, _), (0, _), (1, _), (2, _), (3, _), (4, _)]) eP_build_9 (Nat.le_of_ble_eq_true rfl) rfl ?_
  refine v_aload X (pc := 11) 0 rfl eP_build_11 ?_
  refine v_iconst X (pc := 13) (v := (0 : Int32)) eP_build_13 (by decide) ?_
  refine v_iload_n X (pc := 14) 2 rfl eP_build_14 rfl ?_
  refine v_iastK X (pc := 15) (n := 6) 0 (by decide) (by decide) (by decide) hb1 (fun _ => rfl) eP_build_15 ?_
  refine v_aload X (pc := 16) 0 rfl eP_build_16 ?_
  refine v_iconst X (pc := 18) (v := (1 : Int32)) eP_build_18 (by decide) ?_
  refine v_iload_n X (pc := 19) 3 rfl eP_build_19 rfl ?_
  refine v_iastK X (pc := 20) (n := 6) 1 (by decide) (by decide) (by decide) hb1 (fun _ => rfl) eP_build_20 ?_
  refine v_aload X (pc := 21) 0 rfl eP_build_21 ?_
  refine v_iconst X (pc := 23) (v := (2 : Int32)) eP_build_23 (by decide) ?_
  refine v_iload_n X (pc := 24) 4 rfl eP_build_24 rfl ?_
  refine v_iastK X (pc := 25) (n := 6) 2 (by decide) (by decide) (by decide) hb1 (fun _ => rfl) eP_build_25 ?_
  refine v_aload X (pc := 26) 0 rfl eP_build_26 ?_
  refine v_iconst X (pc := 28) (v := (3 : Int32)) eP_build_28 (by decide) ?_
  refine v_iload X (pc := 29) 5 rfl eP_build_29 ?_
  refine v_iastK X (pc := 31) (n := 6) 3 (by decide) (by decide) (by decide) hb1 (fun _ => rfl) eP_build_31 ?_
  refine v_aload X (pc := 32) 0 rfl eP_build_32 ?_
  refine v_iconst X (pc := 34) (v := (4 : Int32)) eP_build_34 (by decide) ?_
  refine v_iconst X (pc := 35) (v := (0 : Int32)) eP_build_35 (by decide) ?_
  refine v_iastK X (pc := 36) (n := 6) 4 (by decide) (by decide) (by decide) hb1 (fun _ => rfl) eP_build_36 ?_
  refine v_aload X (pc := 37) 0 rfl eP_build_37 ?_
  refine v_iconst X (pc := 39) (v := (5 : Int32)) eP_build_39 (by decide) ?_
  refine v_iconst X (pc := 40) (v := (0 : Int32)) eP_build_40 (by decide) ?_
  refine v_iastK X (pc := 41) (n := 6) 5 (by decide) (by decide) (by decide) hb1 (fun _ => rfl) eP_build_41 ?_
  refine v_aload_n X (pc := 42) 1 rfl eP_build_42 rfl ?_
  refine v_dup X (pc := 43) rfl eP_build_43 ?_
  refine v_get X (pc := 44) 2 (a := aI (gI (sI (sI (sI (sI (sI (sI mem 4 (10 * q0 + (gI mem 1 q0 2).toNatClampNeg) 0 a1) 4 (10 * q0 + (gI mem 1 q0 2).toNatClampNeg) 1 a2) 4 (10 * q0 + (gI mem 1 q0 2).toNatClampNeg) 2 a3) 4 (10 * q0 + (gI mem 1 q0 2).toNatClampNeg) 3 a4) 4 (10 * q0 + (gI mem 1 q0 2).toNatClampNeg) 4 (0 : Int32)) 4 (10 * q0 + (gI mem 1 q0 2).toNatClampNeg) 5 (0 : Int32)) 1 q0 2)) (by decide) hq0 rfl rfl rfl in_Palace (by decide) qw_34 rfl eP_build_44 ?_
  refine v_dup_x1 X (pc := 47) rfl rfl eP_build_47 ?_
  refine v_iconst X (pc := 48) (v := (1 : Int32)) eP_build_48 (by decide) ?_
  refine v_iadd X (pc := 49) eP_build_49 ?_
  refine v_put X (pc := 50) 2 (mem' := (sI (sI (sI (sI (sI (sI (sI mem 4 (10 * q0 + (gI mem 1 q0 2).toNatClampNeg) 0 a1) 4 (10 * q0 + (gI mem 1 q0 2).toNatClampNeg) 1 a2) 4 (10 * q0 + (gI mem 1 q0 2).toNatClampNeg) 2 a3) 4 (10 * q0 + (gI mem 1 q0 2).toNatClampNeg) 3 a4) 4 (10 * q0 + (gI mem 1 q0 2).toNatClampNeg) 4 (0 : Int32)) 4 (10 * q0 + (gI mem 1 q0 2).toNatClampNeg) 5 (0 : Int32)) 1 q0 2 ((gI (sI (sI (sI (sI (sI (sI mem 4 (10 * q0 + (gI mem 1 q0 2).toNatClampNeg) 0 a1) 4 (10 * q0 + (gI mem 1 q0 2).toNatClampNeg) 1 a2) 4 (10 * q0 + (gI mem 1 q0 2).toNatClampNeg) 2 a3) 4 (10 * q0 + (gI mem 1 q0 2).toNatClampNeg) 3 a4) 4 (10 * q0 + (gI mem 1 q0 2).toNatClampNeg) 4 (0 : Int32)) 4 (10 * q0 + (gI mem 1 q0 2).toNatClampNeg) 5 (0 : Int32)) 1 q0 2) + (1 : Int32)))) (by decide) hq0 rfl (pf_1_2 _ _ _ _ _) rowI_ne rfl in_Palace ty_Palace_ok nm_Palace (by decide) qw_34 rfl rfl rfl (Nat.le_of_ble_eq_true rfl) eP_build_50 ?_
  exact v_iret X (pc := 53) h hr eP_build_53
set_option maxHeartbeats 4000000 in
set_option maxRecDepth 100000 in
theorem cW_wall {f : Nat} {a1 : Int32} {a2 : Int32} {a3 : Int32} {mem : Mem} {o : Int32} {mem' : Mem}  (h : dW_wall f a1 a2 a3 mem = some (o, mem')) : RT yW_wall prog_1_method_3_code 4 (Option.some Jvm.ClassFile.FieldType.int) (rmM 2 44) [aR 0 0, aI a1, aI a2, aI a3] mem (some (aI o)) mem' := by
  refine RT.of (by decide +kernel) (Nat.le_of_ble_eq_true rfl) (fun p l e s m args below meth c k X hr => ?_)
  replace X : CX p s m args meth c k prog_1_method_3_code 4 "WallShifts" := X
  unfold dW_wall at h
  refine v_sub (lv' := [(0, _), (1, _), (2, _), (3, _)]) [0, 1, 2, 3] rfl ?_
  refine v_iload_n X (pc := 0) 1 rfl eW_wall_0 rfl ?_
  obtain ⟨r1, m1, hc1, h⟩ := bd_some h
  refine v_callS X (pc := 1) [_] [] ok_S_W_59 (cW_isKind  hc1) rfl (Nat.le_of_ble_eq_true rfl) ⟨Nat.le_of_ble_eq_true rfl, Nat.le_of_ble_eq_true rfl⟩ ⟨Nat.zero_le _, Nat.zero_le _⟩ eW_wall_1 ?_
  refine v_if_eq X (pc := 4) (tgt := 21) h eW_wall_4 (by decide) (fun h => ?_) (fun h => ?_)
  · refine v_aload_n X (pc := 21) 0 rfl eW_wall_21 rfl ?_
    refine v_ldc X (pc := 22) qw_135 eW_wall_22 ?_
    obtain ⟨r2, m2, hc2, h⟩ := bd_some h
    refine v_callV X (pc := 24) [_] [] ok_V_W_52 (cW_finding  hc2) rfl (Nat.le_of_ble_eq_true rfl) ⟨Nat.le_of_ble_eq_true rfl, Nat.le_of_ble_eq_true rfl⟩ ⟨Nat.zero_le _, Nat.zero_le _⟩ (by decide) (by decide) rfl rfl eW_wall_24 ?_
    exact v_iret X (pc := 27) h hr eW_wall_27
  · refine v_iload_n X (pc := 7) 2 rfl eW_wall_7 rfl ?_
    obtain ⟨r3, m3, hc3, h⟩ := bd_some h
    refine v_callS X (pc := 8) [_] [] ok_S_W_63 (cW_isRoom  hc3) rfl (Nat.le_of_ble_eq_true rfl) ⟨Nat.le_of_ble_eq_true rfl, Nat.le_of_ble_eq_true rfl⟩ ⟨Nat.zero_le _, Nat.zero_le _⟩ eW_wall_8 ?_
    refine v_if_eq X (pc := 11) (tgt := 21) h eW_wall_11 (by decide) (fun h => ?_) (fun h => ?_)
    · refine v_aload_n X (pc := 21) 0 rfl eW_wall_21 rfl ?_
      refine v_ldc X (pc := 22) qw_135 eW_wall_22 ?_
      obtain ⟨r4, m4, hc4, h⟩ := bd_some h
      refine v_callV X (pc := 24) [_] [] ok_V_W_52 (cW_finding  hc4) rfl (Nat.le_of_ble_eq_true rfl) ⟨Nat.le_of_ble_eq_true rfl, Nat.le_of_ble_eq_true rfl⟩ ⟨Nat.zero_le _, Nat.zero_le _⟩ (by decide) (by decide) rfl rfl eW_wall_24 ?_
      exact v_iret X (pc := 27) h hr eW_wall_27
    · refine v_iload_n X (pc := 14) 3 rfl eW_wall_14 rfl ?_
      obtain ⟨r5, m5, hc5, h⟩ := bd_some h
      refine v_callS X (pc := 15) [_] [] ok_S_W_63 (cW_isRoom  hc5) rfl (Nat.le_of_ble_eq_true rfl) ⟨Nat.le_of_ble_eq_true rfl, Nat.le_of_ble_eq_true rfl⟩ ⟨Nat.zero_le _, Nat.zero_le _⟩ eW_wall_15 ?_
      refine v_if_ne X (pc := 18) (tgt := 28) h eW_wall_18 (by decide) (fun h => ?_) (fun h => ?_)
      · refine v_aload_n X (pc := 21) 0 rfl eW_wall_21 rfl ?_
        refine v_ldc X (pc := 22) qw_135 eW_wall_22 ?_
        obtain ⟨r6, m6, hc6, h⟩ := bd_some h
        refine v_callV X (pc := 24) [_] [] ok_V_W_52 (cW_finding  hc6) rfl (Nat.le_of_ble_eq_true rfl) ⟨Nat.le_of_ble_eq_true rfl, Nat.le_of_ble_eq_true rfl⟩ ⟨Nat.zero_le _, Nat.zero_le _⟩ (by decide) (by decide) rfl rfl eW_wall_24 ?_
        exact v_iret X (pc := 27) h hr eW_wall_27
      · refine v_aload_n X (pc := 28) 0 rfl eW_wall_28 rfl ?_
        refine v_get X (pc := 29) 0 (a := aR 1 0) (by decide) (by decide) rfl rfl rfl in_WallShifts (by decide) qw_96 rfl eW_wall_29 ?_
        obtain ⟨r7, m7, hc7, h⟩ := bd_some h
        refine v_callV X (pc := 32) [] [] ok_V_W_66 (cP_isBuiltUp (by decide) hc7) rfl (Nat.le_of_ble_eq_true rfl) ⟨Nat.le_of_ble_eq_true rfl, Nat.le_of_ble_eq_true rfl⟩ ⟨Nat.zero_le _, Nat.zero_le _⟩ (by decide) (by decide) rfl rfl eW_wall_32 ?_
        refine v_if_eq X (pc := 35) (tgt := 45) h eW_wall_35 (by decide) (fun h => ?_) (fun h => ?_)
        · refine v_aload_n X (pc := 45) 0 rfl eW_wall_45 rfl ?_
          refine v_get X (pc := 46) 0 (a := aR 1 0) (by decide) (by decide) rfl rfl rfl in_WallShifts (by decide) qw_96 rfl eW_wall_46 ?_
          refine v_iload_n X (pc := 49) 1 rfl eW_wall_49 rfl ?_
          refine v_iload_n X (pc := 50) 2 rfl eW_wall_50 rfl ?_
          refine v_iload_n X (pc := 51) 3 rfl eW_wall_51 rfl ?_
          refine v_iconst X (pc := 52) (v := (0 : Int32)) eW_wall_52 (by decide) ?_
          obtain ⟨r8, m8, hc8, h⟩ := bd_some h
          refine v_callV X (pc := 53) [_, _, _, _] [] ok_V_W_71 (cP_build (by decide) hc8) rfl (Nat.le_of_ble_eq_true rfl) ⟨Nat.le_of_ble_eq_true rfl, Nat.le_of_ble_eq_true rfl⟩ ⟨Nat.zero_le _, Nat.zero_le _⟩ (by decide) (by decide) rfl rfl eW_wall_53 ?_
          exact v_iret X (pc := 56) h hr eW_wall_56
        · refine v_aload_n X (pc := 38) 0 rfl eW_wall_38 rfl ?_
          refine v_ldc X (pc := 39) qw_354 eW_wall_39 ?_
          obtain ⟨r9, m9, hc9, h⟩ := bd_some h
          refine v_callV X (pc := 41) [_] [] ok_V_W_52 (cW_finding  hc9) rfl (Nat.le_of_ble_eq_true rfl) ⟨Nat.le_of_ble_eq_true rfl, Nat.le_of_ble_eq_true rfl⟩ ⟨Nat.zero_le _, Nat.zero_le _⟩ (by decide) (by decide) rfl rfl eW_wall_41 ?_
          exact v_iret X (pc := 44) h hr eW_wall_44
set_option maxHeartbeats 4000000 in
set_option maxRecDepth 100000 in
theorem cP_dutyOf {f : Nat} {q0 : Nat} {a1 : Int32} {a2 : Int32} {mem : Mem} {o : Int32} {mem' : Mem} (hq0 : q0 < 3) (h : dP_dutyOf f q0 a1 a2 mem = some (o, mem')) : RT yP_dutyOf prog_2_method_8_code 3 (Option.some Jvm.ClassFile.FieldType.boolean) (rmM 2 53) [aR 1 q0, aI a1, aI a2] mem (some (aI o)) mem' := by
  refine RT.of (by decide +kernel) (Nat.le_of_ble_eq_true rfl) (fun p l e s m args below meth c k X hr => ?_)
  replace X : CX p s m args meth c k prog_2_method_8_code 3 "WallShifts$Palace" := X
  unfold dP_dutyOf at h
  refine v_sub (lv' := [(0, _), (1, _), (2, _)]) [0, 1, 2] rfl ?_
  refine v_aload_n X (pc := 0) 0 rfl eP_dutyOf_0 rfl ?_
  refine v_iload_n X (pc := 1) 2 rfl eP_dutyOf_1 rfl ?_
  refine v_aload_n X (pc := 2) 0 rfl eP_dutyOf_2 rfl ?_
  refine v_get X (pc := 3) 1 (a := aR 2 q0) (by decide) hq0 rfl rfl rfl in_Palace (by decide) qw_32 rfl eP_dutyOf_3 ?_
  refine v_iconst X (pc := 6) (v := (0 : Int32)) eP_dutyOf_6 (by decide) ?_
  refine v_ialdK X (pc := 7) (n := 4) 0 (by decide) (by decide) (by decide) hq0 rfl eP_dutyOf_7 ?_
  obtain ⟨r1, m1, hc1, h⟩ := bd_some h
  refine v_callV X (pc := 8) [_, _] [] ok_V_P_36 (cP_onDuty hq0 hc1) rfl (Nat.le_of_ble_eq_true rfl) ⟨Nat.le_of_ble_eq_true rfl, Nat.le_of_ble_eq_true rfl⟩ ⟨Nat.zero_le _, Nat.zero_le _⟩ (by decide) hq0 rfl rfl eP_dutyOf_8 ?_
  refine v_iload_n X (pc := 11) 1 rfl eP_dutyOf_11 rfl ?_
  refine v_ishr X (pc := 12) eP_dutyOf_12 ?_
  refine v_iconst X (pc := 13) (v := (1 : Int32)) eP_dutyOf_13 (by decide) ?_
  refine v_iand X (pc := 14) eP_dutyOf_14 ?_
  refine v_iconst X (pc := 15) (v := (1 : Int32)) eP_dutyOf_15 (by decide) ?_
  refine v_icmp_ne X (pc := 16) (tgt := 23) h eP_dutyOf_16 (by decide) (fun h => ?_) (fun h => ?_)
  · refine v_iconst X (pc := 19) (v := (1 : Int32)) eP_dutyOf_19 (by decide) ?_
    refine v_goto X (pc := 20) (tgt := 24) eP_dutyOf_20 (by decide) ?_
    exact v_zret X (pc := 24) h hr rfl eP_dutyOf_24
  · refine v_iconst X (pc := 23) (v := (0 : Int32)) eP_dutyOf_23 (by decide) ?_
    exact v_zret X (pc := 24) h hr rfl eP_dutyOf_24
set_option maxHeartbeats 4000000 in
set_option maxRecDepth 100000 in
theorem cW_of {f : Nat} {a1 : Int32} {a2 : Int32} {mem : Mem} {o : Int32} {mem' : Mem}  (h : dW_of f a1 a2 mem = some (o, mem')) : RT yW_of prog_1_method_4_code 4 (Option.some Jvm.ClassFile.FieldType.int) (rmM 3 75) [aR 0 0, aI a1, aI a2] mem (some (aI o)) mem' := by
  refine RT.of (by decide +kernel) (Nat.le_of_ble_eq_true rfl) (fun p l e s m args below meth c k X hr => ?_)
  replace X : CX p s m args meth c k prog_1_method_4_code 4 "WallShifts" := X
  unfold dW_of at h
  refine v_sub (lv' := [(0, _), (1, _), (2, _)]) [0, 1, 2] rfl ?_
  refine v_aload_n X (pc := 0) 0 rfl eW_of_0 rfl ?_
  refine v_iload_n X (pc := 1) 1 rfl eW_of_1 rfl ?_
  obtain ⟨r1, m1, hc1, h⟩ := bd_some h
  refine v_callV X (pc := 2) [_] [] ok_V_W_75 (cW_isWall  hc1) rfl (Nat.le_of_ble_eq_true rfl) ⟨Nat.le_of_ble_eq_true rfl, Nat.le_of_ble_eq_true rfl⟩ ⟨Nat.zero_le _, Nat.zero_le _⟩ (by decide) (by decide) rfl rfl eW_of_2 ?_
  refine v_if_ne X (pc := 5) (tgt := 15) h eW_of_5 (by decide) (fun h => ?_) (fun h => ?_)
  · refine v_aload_n X (pc := 8) 0 rfl eW_of_8 rfl ?_
    refine v_ldc X (pc := 9) qw_135 eW_of_9 ?_
    obtain ⟨r2, m2, hc2, h⟩ := bd_some h
    refine v_callV X (pc := 11) [_] [] ok_V_W_52 (cW_finding  hc2) rfl (Nat.le_of_ble_eq_true rfl) ⟨Nat.le_of_ble_eq_true rfl, Nat.le_of_ble_eq_true rfl⟩ ⟨Nat.zero_le _, Nat.zero_le _⟩ (by decide) (by decide) rfl rfl eW_of_11 ?_
    exact v_iret X (pc := 14) h hr eW_of_14
  · refine v_aload_n X (pc := 15) 0 rfl eW_of_15 rfl ?_
    refine v_get X (pc := 16) 0 (a := aR 1 0) (by decide) (by decide) rfl rfl rfl in_WallShifts (by decide) qw_96 rfl eW_of_16 ?_
    refine v_get X (pc := 19) 3 (a := aR 3 0) (by decide) (by decide) rfl rfl rfl in_Palace (by decide) qw_37 rfl eW_of_19 ?_
    refine v_iload_n X (pc := 22) 1 rfl eW_of_22 rfl ?_
    refine v_aaldW X (pc := 23) h (by decide) eW_of_23 (fun hb3 h => ?_)
    refine v_astore_n X (pc := 24) (lv' := [(3, _), (0, _), (1, _), (2, _)]) eW_of_24 rfl (Nat.le_of_ble_eq_true rfl) rfl ?_
    refine v_iload_n X (pc := 25) 3 rfl eW_of_25 rfl ?_
    refine v_iconst X (pc := 26) (v := (0 : Int32)) eW_of_26 (by decide) ?_
    refine v_iconst X (pc := 27) (v := (5 : Int32)) eW_of_27 (by decide) ?_
    obtain ⟨r4, m4, hc4, h⟩ := bd_some h
    refine v_callS X (pc := 28) [_, _, _] [] ok_S_W_82 (cW_isIn  hc4) rfl (Nat.le_of_ble_eq_true rfl) ⟨Nat.le_of_ble_eq_true rfl, Nat.le_of_ble_eq_true rfl⟩ ⟨Nat.zero_le _, Nat.zero_le _⟩ eW_of_28 ?_
    refine v_if_eq X (pc := 31) (tgt := 38) h eW_of_31 (by decide) (fun h => ?_) (fun h => ?_)
    · refine v_iload_n X (pc := 38) 3 rfl eW_of_38 rfl ?_
      by_cases g6 : a2 = (6 : Int32)
      · have h := it_t h g6
        refine v_tsw X (pc := 39) (tgt := 64) (6 : Int32) g6 eW_of_39 (by decide) (by decide) rfl (by decide) ?_
        refine v_aload_n X (pc := 64) 1 rfl eW_of_64 rfl ?_
        refine v_get X (pc := 65) 0 (a := aR 1 0) (by decide) (by decide) rfl rfl rfl in_WallShifts (by decide) qw_96 rfl eW_of_65 ?_
        refine v_iload_n X (pc := 68) 2 rfl eW_of_68 rfl ?_
        refine v_aload_n X (pc := 69) 1 rfl eW_of_69 rfl ?_
        refine v_get X (pc := 70) 0 (a := aR 1 0) (by decide) (by decide) rfl rfl rfl in_WallShifts (by decide) qw_96 rfl eW_of_70 ?_
        refine v_get X (pc := 73) 0 (a := aI (gI m4 1 0 0)) (by decide) (by decide) rfl rfl rfl in_Palace (by decide) qw_31 rfl eW_of_73 ?_
        obtain ⟨r5, m5, hc5, h⟩ := bd_some h
        refine v_callV X (pc := 76) [_, _] [] ok_V_W_90 (cP_dutyOf (by decide) hc5) rfl (Nat.le_of_ble_eq_true rfl) ⟨Nat.le_of_ble_eq_true rfl, Nat.le_of_ble_eq_true rfl⟩ ⟨Nat.zero_le _, Nat.zero_le _⟩ (by decide) (by decide) rfl rfl eW_of_76 ?_
        refine v_if_eq X (pc := 79) (tgt := 86) h eW_of_79 (by decide) (fun h => ?_) (fun h => ?_)
        · refine v_iconst X (pc := 86) (v := (0 : Int32)) eW_of_86 (by decide) ?_
          exact v_iret X (pc := 87) h hr eW_of_87
        · refine v_iconst X (pc := 82) (v := (1 : Int32)) eW_of_82 (by decide) ?_
          refine v_goto X (pc := 83) (tgt := 87) eW_of_83 (by decide) ?_
          exact v_iret X (pc := 87) h hr eW_of_87
      have h := it_f h g6
      by_cases g7 : a2 = (7 : Int32)
      · have h := it_t h g7
        refine v_tsw X (pc := 39) (tgt := 88) (7 : Int32) g7 eW_of_39 (by decide) (by decide) rfl (by decide) ?_
        refine v_aload_n X (pc := 88) 1 rfl eW_of_88 rfl ?_
        refine v_get X (pc := 89) 0 (a := aR 1 0) (by decide) (by decide) rfl rfl rfl in_WallShifts (by decide) qw_96 rfl eW_of_89 ?_
        refine v_aload_n X (pc := 92) 0 rfl eW_of_92 rfl ?_
        obtain ⟨r6, m6, hc6, h⟩ := bd_some h
        refine v_callV X (pc := 93) [_] [] ok_V_W_93 (cP_isAwake (by decide) hb3 hc6) rfl (Nat.le_of_ble_eq_true rfl) ⟨Nat.le_of_ble_eq_true rfl, Nat.le_of_ble_eq_true rfl⟩ ⟨Nat.zero_le _, Nat.zero_le _⟩ (by decide) (by decide) rfl rfl eW_of_93 ?_
        refine v_if_eq X (pc := 96) (tgt := 103) h eW_of_96 (by decide) (fun h => ?_) (fun h => ?_)
        · refine v_iconst X (pc := 103) (v := (0 : Int32)) eW_of_103 (by decide) ?_
          exact v_iret X (pc := 104) h hr eW_of_104
        · refine v_iconst X (pc := 99) (v := (1 : Int32)) eW_of_99 (by decide) ?_
          refine v_goto X (pc := 100) (tgt := 104) eW_of_100 (by decide) ?_
          exact v_iret X (pc := 104) h hr eW_of_104
      have h := it_f h g7
      by_cases g8 : a2 = (8 : Int32)
      · have h := it_t h g8
        refine v_tsw X (pc := 39) (tgt := 105) (8 : Int32) g8 eW_of_39 (by decide) (by decide) rfl (by decide) ?_
        refine v_aload_n X (pc := 105) 0 rfl eW_of_105 rfl ?_
        refine v_iconst X (pc := 106) (v := (0 : Int32)) eW_of_106 (by decide) ?_
        refine v_ialdK X (pc := 107) (n := 6) 0 (by decide) (by decide) (by decide) hb3 rfl eW_of_107 ?_
        obtain ⟨r7, m7, hc7, h⟩ := bd_some h
        refine v_callS X (pc := 108) [_] [] ok_S_W_97 (cW_tires  hc7) rfl (Nat.le_of_ble_eq_true rfl) ⟨Nat.le_of_ble_eq_true rfl, Nat.le_of_ble_eq_true rfl⟩ ⟨Nat.zero_le _, Nat.zero_le _⟩ eW_of_108 ?_
        exact v_iret X (pc := 111) h hr eW_of_111
      have h := it_f h g8
      refine v_tswD X (pc := 39) (tgt := 112) (tsw_out_6_8 g6 g7 g8) eW_of_39 (by decide) ?_
      refine v_aload_n X (pc := 112) 1 rfl eW_of_112 rfl ?_
      refine v_ldc X (pc := 113) qw_135 eW_of_113 ?_
      obtain ⟨r8, m8, hc8, h⟩ := bd_some h
      refine v_callV X (pc := 115) [_] [] ok_V_W_52 (cW_finding  hc8) rfl (Nat.le_of_ble_eq_true rfl) ⟨Nat.le_of_ble_eq_true rfl, Nat.le_of_ble_eq_true rfl⟩ ⟨Nat.zero_le _, Nat.zero_le _⟩ (by decide) (by decide) rfl rfl eW_of_115 ?_
      exact v_iret X (pc := 118) h hr eW_of_118
    · refine v_aload_n X (pc := 34) 0 rfl eW_of_34 rfl ?_
      refine v_iload_n X (pc := 35) 3 rfl eW_of_35 rfl ?_
      refine v_iald X (pc := 36) h (by decide) hb3 rfl eW_of_36 (fun h => ?_)
      exact v_iret X (pc := 37) h hr eW_of_37
set_option maxHeartbeats 4000000 in
set_option maxRecDepth 100000 in
theorem cW_reach {f : Nat} {a1 : Int32} {mem : Mem} {o : Int32} {mem' : Mem}  (h : dW_reach f a1 mem = some (o, mem')) : RT yW_reach prog_1_method_12_code 2 (Option.some Jvm.ClassFile.FieldType.int) (rmM 2 46) [aR 0 0, aI a1] mem (some (aI o)) mem' := by
  refine RT.of (by decide +kernel) (Nat.le_of_ble_eq_true rfl) (fun p l e s m args below meth c k X hr => ?_)
  replace X : CX p s m args meth c k prog_1_method_12_code 2 "WallShifts" := X
  unfold dW_reach at h
  refine v_sub (lv' := [(0, _), (1, _)]) [0, 1] rfl ?_
  refine v_iload_n X (pc := 0) 1 rfl eW_reach_0 rfl ?_
  obtain ⟨r1, m1, hc1, h⟩ := bd_some h
  refine v_callS X (pc := 1) [_] [] ok_S_W_63 (cW_isRoom  hc1) rfl (Nat.le_of_ble_eq_true rfl) ⟨Nat.le_of_ble_eq_true rfl, Nat.le_of_ble_eq_true rfl⟩ ⟨Nat.zero_le _, Nat.zero_le _⟩ eW_reach_1 ?_
  refine v_if_eq X (pc := 4) (tgt := 18) h eW_reach_4 (by decide) (fun h => ?_) (fun h => ?_)
  · refine v_aload_n X (pc := 18) 0 rfl eW_reach_18 rfl ?_
    refine v_ldc X (pc := 19) qw_135 eW_reach_19 ?_
    obtain ⟨r2, m2, hc2, h⟩ := bd_some h
    refine v_callV X (pc := 21) [_] [] ok_V_W_52 (cW_finding  hc2) rfl (Nat.le_of_ble_eq_true rfl) ⟨Nat.le_of_ble_eq_true rfl, Nat.le_of_ble_eq_true rfl⟩ ⟨Nat.zero_le _, Nat.zero_le _⟩ (by decide) (by decide) rfl rfl eW_reach_21 ?_
    exact v_iret X (pc := 24) h hr eW_reach_24
  · refine v_aload_n X (pc := 7) 0 rfl eW_reach_7 rfl ?_
    refine v_get X (pc := 8) 0 (a := aR 1 0) (by decide) (by decide) rfl rfl rfl in_WallShifts (by decide) qw_96 rfl eW_reach_8 ?_
    refine v_iload_n X (pc := 11) 1 rfl eW_reach_11 rfl ?_
    obtain ⟨r3, m3, hc3, h⟩ := bd_some h
    refine v_callV X (pc := 12) [_] [] ok_V_W_142 (cP_leaks (by decide) hc3) rfl (Nat.le_of_ble_eq_true rfl) ⟨Nat.le_of_ble_eq_true rfl, Nat.le_of_ble_eq_true rfl⟩ ⟨Nat.zero_le _, Nat.zero_le _⟩ (by decide) (by decide) rfl rfl eW_reach_12 ?_
    refine v_goto X (pc := 15) (tgt := 24) eW_reach_15 (by decide) ?_
    exact v_iret X (pc := 24) h hr eW_reach_24
set_option maxHeartbeats 4000000 in
set_option maxRecDepth 100000 in
theorem cP_wordsCountedEach_4 {p : Program} {l : Launch} {e : Env} {s : State} {m : MethodId} {args : Array Value} {below : List Frame} {meth : Method} {c : Code} {k : KK} {f : Nat} {o : Int32} {mem' : Mem} (X : CX p s m args meth c k prog_2_method_18_code 3 "WallShifts$Palace") (hr : meth.sig.returnType = (Option.some Jvm.ClassFile.FieldType.int)) : ∀ (n : Nat) (q0 : Nat) (x1 : Int32) (x2 : Int32) (mem : Mem), q0 < 3 → dP_wordsCountedEach_4 f n q0 x1 x2 mem = some (o, mem') → V p l e (rmM 1 20) s m args below meth c 0 0 (MQ below (RQc k (some (aI o)) mem') args s 0 0 (kA k)) k 3 mem 4 [(0, aR 1 q0), (1, aI x1), (2, aI x2)] [] := by
  intro n
  induction n with
  | zero =>
    intro q0 x1 x2 mem hq0 h
    exact nomatch (show (none : Option (Int32 × Mem)) = some _ from h)
  | succ n ih =>
    intro q0 x1 x2 mem hq0 h
    rw [dP_wordsCountedEach_4] at h
    refine v_iload_n X (pc := 4) 2 rfl eP_wordsCountedEach_4 rfl ?_
    refine v_aload_n X (pc := 5) 0 rfl eP_wordsCountedEach_5 rfl ?_
    refine v_get X (pc := 6) 2 (a := aI (gI mem 1 q0 2)) (by decide) hq0 rfl rfl rfl in_Palace (by decide) qw_34 rfl eP_wordsCountedEach_6 ?_
    refine v_icmp_ge X (pc := 9) (tgt := 32) h eP_wordsCountedEach_9 (by decide) (fun h => ?_) (fun h => ?_)
    · refine v_iload_n X (pc := 12) 1 rfl eP_wordsCountedEach_12 rfl ?_
      refine v_aload_n X (pc := 13) 0 rfl eP_wordsCountedEach_13 rfl ?_
      refine v_get X (pc := 14) 3 (a := aR 3 q0) (by decide) hq0 rfl rfl rfl in_Palace (by decide) qw_36 rfl eP_wordsCountedEach_14 ?_
      refine v_iload_n X (pc := 17) 2 rfl eP_wordsCountedEach_17 rfl ?_
      refine v_aaldW X (pc := 18) h hq0 eP_wordsCountedEach_18 (fun hb1 h => ?_)
      refine v_iconst X (pc := 19) (v := (4 : Int32)) eP_wordsCountedEach_19 (by decide) ?_
      refine v_ialdK X (pc := 20) (n := 6) 4 (by decide) (by decide) (by decide) hb1 rfl eP_wordsCountedEach_20 ?_
      obtain ⟨r2, m2, hc2, h⟩ := bd_some h
      refine v_callS X (pc := 21) [_] [_] ok_S_P_80 (cJInt_bitCount  hc2) rfl (Nat.le_of_ble_eq_true rfl) ⟨Nat.le_of_ble_eq_true rfl, Nat.le_of_ble_eq_true rfl⟩ ⟨Nat.zero_le _, Nat.zero_le _⟩ eP_wordsCountedEach_21 ?_
      refine v_iadd X (pc := 24) eP_wordsCountedEach_24 ?_
      refine v_istore_n X (pc := 25) (lv' := [(1, _), (0, _), (2, _)]) eP_wordsCountedEach_25 rfl (Nat.le_of_ble_eq_true rfl) rfl ?_
      refine v_iinc X (pc := 26) (v := (x2 + (1 : Int32))) (lv' := [(2, _), (1, _), (0, _)]) 2 rfl (by rfl) eP_wordsCountedEach_26 (Nat.le_of_ble_eq_true rfl) rfl ?_
      refine v_goto X (pc := 29) (tgt := 4) eP_wordsCountedEach_29 (by decide) ?_
      exact v_sub [2, 1, 0] rfl (ih _ _ _ _ hq0 h)
    · refine v_iload_n X (pc := 32) 1 rfl eP_wordsCountedEach_32 rfl ?_
      exact v_iret X (pc := 33) h hr eP_wordsCountedEach_33
set_option maxHeartbeats 4000000 in
set_option maxRecDepth 100000 in
theorem cP_wordsCountedEach {f : Nat} {q0 : Nat} {mem : Mem} {o : Int32} {mem' : Mem} (hq0 : q0 < 3) (h : dP_wordsCountedEach f q0 mem = some (o, mem')) : RT yP_wordsCountedEach prog_2_method_18_code 3 (Option.some Jvm.ClassFile.FieldType.int) (rmM 1 20) [aR 1 q0] mem (some (aI o)) mem' := by
  refine RT.of (by decide +kernel) (Nat.le_of_ble_eq_true rfl) (fun p l e s m args below meth c k X hr => ?_)
  replace X : CX p s m args meth c k prog_2_method_18_code 3 "WallShifts$Palace" := X
  unfold dP_wordsCountedEach at h
  refine v_sub (lv' := [(0, _)]) [0] rfl ?_
  refine v_iconst X (pc := 0) (v := (0 : Int32)) eP_wordsCountedEach_0 (by decide) ?_
  refine v_istore_n X (pc := 1) (lv' := [(1, _), (0, _)]) eP_wordsCountedEach_1 rfl (Nat.le_of_ble_eq_true rfl) rfl ?_
  refine v_iconst X (pc := 2) (v := (0 : Int32)) eP_wordsCountedEach_2 (by decide) ?_
  refine v_istore_n X (pc := 3) (lv' := [(2, _), (1, _), (0, _)]) eP_wordsCountedEach_3 rfl (Nat.le_of_ble_eq_true rfl) rfl ?_
  exact v_sub [2, 1, 0] rfl (cP_wordsCountedEach_4 X hr _ _ _ _ _ hq0 h)
set_option maxHeartbeats 4000000 in
set_option maxRecDepth 100000 in
theorem cP_howManyAwake_4 {p : Program} {l : Launch} {e : Env} {s : State} {m : MethodId} {args : Array Value} {below : List Frame} {meth : Method} {c : Code} {k : KK} {f : Nat} {o : Int32} {mem' : Mem} (X : CX p s m args meth c k prog_2_method_21_code 3 "WallShifts$Palace") (hr : meth.sig.returnType = (Option.some Jvm.ClassFile.FieldType.int)) : ∀ (n : Nat) (q0 : Nat) (x1 : Int32) (x2 : Int32) (mem : Mem), q0 < 3 → dP_howManyAwake_4 f n q0 x1 x2 mem = some (o, mem') → V p l e (rmM 1 21) s m args below meth c 0 0 (MQ below (RQc k (some (aI o)) mem') args s 0 0 (kA k)) k 3 mem 4 [(0, aR 1 q0), (1, aI x1), (2, aI x2)] [] := by
  intro n
  induction n with
  | zero =>
    intro q0 x1 x2 mem hq0 h
    exact nomatch (show (none : Option (Int32 × Mem)) = some _ from h)
  | succ n ih =>
    intro q0 x1 x2 mem hq0 h
    rw [dP_howManyAwake_4] at h
    refine v_iload_n X (pc := 4) 2 rfl eP_howManyAwake_4 rfl ?_
    refine v_aload_n X (pc := 5) 0 rfl eP_howManyAwake_5 rfl ?_
    refine v_get X (pc := 6) 2 (a := aI (gI mem 1 q0 2)) (by decide) hq0 rfl rfl rfl in_Palace (by decide) qw_34 rfl eP_howManyAwake_6 ?_
    refine v_icmp_ge X (pc := 9) (tgt := 39) h eP_howManyAwake_9 (by decide) (fun h => ?_) (fun h => ?_)
    · refine v_iload_n X (pc := 12) 1 rfl eP_howManyAwake_12 rfl ?_
      refine v_aload_n X (pc := 13) 0 rfl eP_howManyAwake_13 rfl ?_
      refine v_aload_n X (pc := 14) 0 rfl eP_howManyAwake_14 rfl ?_
      refine v_get X (pc := 15) 3 (a := aR 3 q0) (by decide) hq0 rfl rfl rfl in_Palace (by decide) qw_36 rfl eP_howManyAwake_15 ?_
      refine v_iload_n X (pc := 18) 2 rfl eP_howManyAwake_18 rfl ?_
      refine v_aaldW X (pc := 19) h hq0 eP_howManyAwake_19 (fun hb1 h => ?_)
      obtain ⟨r2, m2, hc2, h⟩ := bd_some h
      refine v_callV X (pc := 20) [_] [_] ok_V_P_62 (cP_isAwake hq0 hb1 hc2) rfl (Nat.le_of_ble_eq_true rfl) ⟨Nat.le_of_ble_eq_true rfl, Nat.le_of_ble_eq_true rfl⟩ ⟨Nat.zero_le _, Nat.zero_le _⟩ (by decide) hq0 rfl rfl eP_howManyAwake_20 ?_
      refine v_if_eq X (pc := 23) (tgt := 30) h eP_howManyAwake_23 (by decide) (fun h => ?_) (fun h => ?_)
      · refine v_iconst X (pc := 30) (v := (0 : Int32)) eP_howManyAwake_30 (by decide) ?_
        refine v_iadd X (pc := 31) eP_howManyAwake_31 ?_
        refine v_istore_n X (pc := 32) (lv' := [(1, _), (0, _), (2, _)]) eP_howManyAwake_32 rfl (Nat.le_of_ble_eq_true rfl) rfl ?_
        refine v_iinc X (pc := 33) (v := (x2 + (1 : Int32))) (lv' := [(2, _), (1, _), (0, _)]) 2 rfl (by rfl) eP_howManyAwake_33 (Nat.le_of_ble_eq_true rfl) rfl ?_
        refine v_goto X (pc := 36) (tgt := 4) eP_howManyAwake_36 (by decide) ?_
        exact v_sub [2, 1, 0] rfl (ih _ _ _ _ hq0 h)
      · refine v_iconst X (pc := 26) (v := (1 : Int32)) eP_howManyAwake_26 (by decide) ?_
        refine v_goto X (pc := 27) (tgt := 31) eP_howManyAwake_27 (by decide) ?_
        refine v_iadd X (pc := 31) eP_howManyAwake_31 ?_
        refine v_istore_n X (pc := 32) (lv' := [(1, _), (0, _), (2, _)]) eP_howManyAwake_32 rfl (Nat.le_of_ble_eq_true rfl) rfl ?_
        refine v_iinc X (pc := 33) (v := (x2 + (1 : Int32))) (lv' := [(2, _), (1, _), (0, _)]) 2 rfl (by rfl) eP_howManyAwake_33 (Nat.le_of_ble_eq_true rfl) rfl ?_
        refine v_goto X (pc := 36) (tgt := 4) eP_howManyAwake_36 (by decide) ?_
        exact v_sub [2, 1, 0] rfl (ih _ _ _ _ hq0 h)
    · refine v_iload_n X (pc := 39) 1 rfl eP_howManyAwake_39 rfl ?_
      exact v_iret X (pc := 40) h hr eP_howManyAwake_40
set_option maxHeartbeats 4000000 in
set_option maxRecDepth 100000 in
theorem cP_howManyAwake {f : Nat} {q0 : Nat} {mem : Mem} {o : Int32} {mem' : Mem} (hq0 : q0 < 3) (h : dP_howManyAwake f q0 mem = some (o, mem')) : RT yP_howManyAwake prog_2_method_21_code 3 (Option.some Jvm.ClassFile.FieldType.int) (rmM 1 21) [aR 1 q0] mem (some (aI o)) mem' := by
  refine RT.of (by decide +kernel) (Nat.le_of_ble_eq_true rfl) (fun p l e s m args below meth c k X hr => ?_)
  replace X : CX p s m args meth c k prog_2_method_21_code 3 "WallShifts$Palace" := X
  unfold dP_howManyAwake at h
  refine v_sub (lv' := [(0, _)]) [0] rfl ?_
  refine v_iconst X (pc := 0) (v := (0 : Int32)) eP_howManyAwake_0 (by decide) ?_
  refine v_istore_n X (pc := 1) (lv' := [(1, _), (0, _)]) eP_howManyAwake_1 rfl (Nat.le_of_ble_eq_true rfl) rfl ?_
  refine v_iconst X (pc := 2) (v := (0 : Int32)) eP_howManyAwake_2 (by decide) ?_
  refine v_istore_n X (pc := 3) (lv' := [(2, _), (1, _), (0, _)]) eP_howManyAwake_3 rfl (Nat.le_of_ble_eq_true rfl) rfl ?_
  exact v_sub [2, 1, 0] rfl (cP_howManyAwake_4 X hr _ _ _ _ _ hq0 h)
set_option maxHeartbeats 4000000 in
set_option maxRecDepth 100000 in
theorem cW_count {f : Nat} {a1 : Int32} {mem : Mem} {o : Int32} {mem' : Mem}  (h : dW_count f a1 mem = some (o, mem')) : RT yW_count prog_1_method_37_code 2 (Option.some Jvm.ClassFile.FieldType.int) (rmM 2 44) [aR 0 0, aI a1] mem (some (aI o)) mem' := by
  refine RT.of (by decide +kernel) (Nat.le_of_ble_eq_true rfl) (fun p l e s m args below meth c k X hr => ?_)
  replace X : CX p s m args meth c k prog_1_method_37_code 2 "WallShifts" := X
  unfold dW_count at h
  refine v_sub (lv' := [(0, _), (1, _)]) [0, 1] rfl ?_
  refine v_iload_n X (pc := 0) 1 rfl eW_count_0 rfl ?_
  by_cases g0 : a1 = (0 : Int32)
  · have h := it_t h g0
    refine v_tsw X (pc := 1) (tgt := 32) (0 : Int32) g0 eW_count_1 (by decide) (by decide) rfl (by decide) ?_
    refine v_aload_n X (pc := 32) 0 rfl eW_count_32 rfl ?_
    refine v_get X (pc := 33) 0 (a := aR 1 0) (by decide) (by decide) rfl rfl rfl in_WallShifts (by decide) qw_96 rfl eW_count_33 ?_
    refine v_get X (pc := 36) 2 (a := aI (gI mem 1 0 2)) (by decide) (by decide) rfl rfl rfl in_Palace (by decide) qw_35 rfl eW_count_36 ?_
    exact v_iret X (pc := 39) h hr eW_count_39
  have h := it_f h g0
  by_cases g1 : a1 = (1 : Int32)
  · have h := it_t h g1
    refine v_tsw X (pc := 1) (tgt := 40) (1 : Int32) g1 eW_count_1 (by decide) (by decide) rfl (by decide) ?_
    refine v_aload_n X (pc := 40) 0 rfl eW_count_40 rfl ?_
    refine v_get X (pc := 41) 4 (a := aR 5 0) (by decide) (by decide) rfl rfl rfl in_WallShifts (by decide) qw_100 rfl eW_count_41 ?_
    refine v_get X (pc := 44) 1 (a := aI (gI mem 5 0 1)) (by decide) (by decide) rfl rfl rfl in_Tape (by decide) qw_60 rfl eW_count_44 ?_
    exact v_iret X (pc := 47) h hr eW_count_47
  have h := it_f h g1
  by_cases g2 : a1 = (2 : Int32)
  · have h := it_t h g2
    refine v_tsw X (pc := 1) (tgt := 48) (2 : Int32) g2 eW_count_1 (by decide) (by decide) rfl (by decide) ?_
    refine v_aload_n X (pc := 48) 0 rfl eW_count_48 rfl ?_
    refine v_get X (pc := 49) 0 (a := aR 1 0) (by decide) (by decide) rfl rfl rfl in_WallShifts (by decide) qw_96 rfl eW_count_49 ?_
    obtain ⟨r1, m1, hc1, h⟩ := bd_some h
    refine v_callV X (pc := 52) [] [] ok_V_W_241 (cP_wordsCountedEach (by decide) hc1) rfl (Nat.le_of_ble_eq_true rfl) ⟨Nat.le_of_ble_eq_true rfl, Nat.le_of_ble_eq_true rfl⟩ ⟨Nat.zero_le _, Nat.zero_le _⟩ (by decide) (by decide) rfl rfl eW_count_52 ?_
    exact v_iret X (pc := 55) h hr eW_count_55
  have h := it_f h g2
  by_cases g3 : a1 = (3 : Int32)
  · have h := it_t h g3
    refine v_tsw X (pc := 1) (tgt := 56) (3 : Int32) g3 eW_count_1 (by decide) (by decide) rfl (by decide) ?_
    refine v_aload_n X (pc := 56) 0 rfl eW_count_56 rfl ?_
    refine v_get X (pc := 57) 0 (a := aR 1 0) (by decide) (by decide) rfl rfl rfl in_WallShifts (by decide) qw_96 rfl eW_count_57 ?_
    obtain ⟨r2, m2, hc2, h⟩ := bd_some h
    refine v_callV X (pc := 60) [] [] ok_V_W_244 (cP_howManyAwake (by decide) hc2) rfl (Nat.le_of_ble_eq_true rfl) ⟨Nat.le_of_ble_eq_true rfl, Nat.le_of_ble_eq_true rfl⟩ ⟨Nat.zero_le _, Nat.zero_le _⟩ (by decide) (by decide) rfl rfl eW_count_60 ?_
    exact v_iret X (pc := 63) h hr eW_count_63
  have h := it_f h g3
  refine v_tswD X (pc := 1) (tgt := 64) (tsw_out_0_3 g0 g1 g2 g3) eW_count_1 (by decide) ?_
  refine v_aload_n X (pc := 64) 0 rfl eW_count_64 rfl ?_
  refine v_ldc X (pc := 65) qw_135 eW_count_65 ?_
  obtain ⟨r3, m3, hc3, h⟩ := bd_some h
  refine v_callV X (pc := 67) [_] [] ok_V_W_52 (cW_finding  hc3) rfl (Nat.le_of_ble_eq_true rfl) ⟨Nat.le_of_ble_eq_true rfl, Nat.le_of_ble_eq_true rfl⟩ ⟨Nat.zero_le _, Nat.zero_le _⟩ (by decide) (by decide) rfl rfl eW_count_67 ?_
  exact v_iret X (pc := 70) h hr eW_count_70
end
section
/-! GENERATED: the law's own helpers: names, decode rows, program texts, walks. -/
abbrev yL_law : MethodName := x
abbrev yL_lay : MethodName := ⟨"WallShiftsLaw", "lay", "(LWallShifts;[I[I)Z"⟩
abbrev yL_at : MethodName := ⟨"WallShiftsLaw", "at", "([II)I"⟩
abbrev yL_mod : MethodName := ⟨"WallShiftsLaw", "mod", "(II)I"⟩
abbrev yL_wall : MethodName := ⟨"WallShiftsLaw", "wall", "(LWallShifts;[IIII)Z"⟩
abbrev yL_minute : MethodName := ⟨"WallShiftsLaw", "minute", "([I)V"⟩
abbrev yL_isUnheard : MethodName := ⟨"WallShiftsLaw", "isUnheard", "(LWallShifts;II)Z"⟩
abbrev yL_ones : MethodName := ⟨"WallShiftsLaw", "ones", "(I)I"⟩
abbrev yL_isSo : MethodName := ⟨"WallShiftsLaw", "isSo", "(LWallShifts;[I)Z"⟩
abbrev yL_duty : MethodName := ⟨"WallShiftsLaw", "duty", "([III)Z"⟩
abbrev yL_tires : MethodName := ⟨"WallShiftsLaw", "tires", "([II)I"⟩
abbrev yL_reach : MethodName := ⟨"WallShiftsLaw", "reach", "([II)I"⟩
theorem qw_333 : Cond.code yL_at method_3_code 2 (Option.some Jvm.ClassFile.FieldType.int) ∈ wG := wG_mem (i := 333) (by decide +kernel) (by decide +kernel)
theorem qw_6 : Cond.initialized yL_at.cls ∈ wG := wG_mem (i := 6) (by decide +kernel) (by decide +kernel)
theorem qw_331 : Cond.methodLink "WallShiftsLaw" 50 yL_at ∈ wG := wG_mem (i := 331) (by decide +kernel) (by decide +kernel)
theorem qw_332 : Cond.static yL_at ∈ wG := wG_mem (i := 332) (by decide +kernel) (by decide +kernel)
theorem qw_330 : Cond.code yL_mod method_2_code 3 (Option.some Jvm.ClassFile.FieldType.int) ∈ wG := wG_mem (i := 330) (by decide +kernel) (by decide +kernel)
theorem qw_328 : Cond.methodLink "WallShiftsLaw" 52 yL_mod ∈ wG := wG_mem (i := 328) (by decide +kernel) (by decide +kernel)
theorem qw_329 : Cond.static yL_mod ∈ wG := wG_mem (i := 329) (by decide +kernel) (by decide +kernel)
theorem qw_124 : Cond.code yW_rota prog_1_method_2_code 4 (Option.some Jvm.ClassFile.FieldType.int) ∈ wG := wG_mem (i := 124) (by decide +kernel) (by decide +kernel)
theorem qw_121 : Cond.methodLink "WallShiftsLaw" 56 yW_rota ∈ wG := wG_mem (i := 121) (by decide +kernel) (by decide +kernel)
theorem qw_122 : Cond.instanceMethod yW_rota ∈ wG := wG_mem (i := 122) (by decide +kernel) (by decide +kernel)
theorem qw_123 : Cond.selects yW_rota.cls yW_rota yW_rota ∈ wG := wG_mem (i := 123) (by decide +kernel) (by decide +kernel)
theorem qw_346 : Cond.code yW_wall prog_1_method_3_code 4 (Option.some Jvm.ClassFile.FieldType.int) ∈ wG := wG_mem (i := 346) (by decide +kernel) (by decide +kernel)
theorem qw_343 : Cond.methodLink "WallShiftsLaw" 44 yW_wall ∈ wG := wG_mem (i := 343) (by decide +kernel) (by decide +kernel)
theorem qw_344 : Cond.instanceMethod yW_wall ∈ wG := wG_mem (i := 344) (by decide +kernel) (by decide +kernel)
theorem qw_345 : Cond.selects yW_wall.cls yW_wall yW_wall ∈ wG := wG_mem (i := 345) (by decide +kernel) (by decide +kernel)
theorem qw_342 : Cond.code yL_wall method_17_code 6 (Option.some Jvm.ClassFile.FieldType.boolean) ∈ wG := wG_mem (i := 342) (by decide +kernel) (by decide +kernel)
theorem qw_340 : Cond.methodLink "WallShiftsLaw" 59 yL_wall ∈ wG := wG_mem (i := 340) (by decide +kernel) (by decide +kernel)
theorem qw_341 : Cond.static yL_wall ∈ wG := wG_mem (i := 341) (by decide +kernel) (by decide +kernel)
theorem qw_143 : Cond.code yW_set prog_1_method_5_code 4 (Option.some Jvm.ClassFile.FieldType.int) ∈ wG := wG_mem (i := 143) (by decide +kernel) (by decide +kernel)
theorem qw_140 : Cond.methodLink "WallShiftsLaw" 62 yW_set ∈ wG := wG_mem (i := 140) (by decide +kernel) (by decide +kernel)
theorem qw_141 : Cond.instanceMethod yW_set ∈ wG := wG_mem (i := 141) (by decide +kernel) (by decide +kernel)
theorem qw_142 : Cond.selects yW_set.cls yW_set yW_set ∈ wG := wG_mem (i := 142) (by decide +kernel) (by decide +kernel)
theorem qw_359 : Cond.constant "WallShiftsLaw" 65 (65536 : Int32) ∈ wG := wG_mem (i := 359) (by decide +kernel) (by decide +kernel)
theorem qw_362 : Cond.code yL_minute method_10_code 2 (Option.none : Option Jvm.ClassFile.FieldType) ∈ wG := wG_mem (i := 362) (by decide +kernel) (by decide +kernel)
theorem qw_360 : Cond.methodLink "WallShiftsLaw" 34 yL_minute ∈ wG := wG_mem (i := 360) (by decide +kernel) (by decide +kernel)
theorem qw_361 : Cond.static yL_minute ∈ wG := wG_mem (i := 361) (by decide +kernel) (by decide +kernel)
theorem qw_210 : Cond.code yW_pass prog_1_method_10_code 3 (Option.some Jvm.ClassFile.FieldType.int) ∈ wG := wG_mem (i := 210) (by decide +kernel) (by decide +kernel)
theorem qw_207 : Cond.methodLink "WallShiftsLaw" 66 yW_pass ∈ wG := wG_mem (i := 207) (by decide +kernel) (by decide +kernel)
theorem qw_208 : Cond.instanceMethod yW_pass ∈ wG := wG_mem (i := 208) (by decide +kernel) (by decide +kernel)
theorem qw_209 : Cond.selects yW_pass.cls yW_pass yW_pass ∈ wG := wG_mem (i := 209) (by decide +kernel) (by decide +kernel)
theorem qw_339 : Cond.code yL_lay method_18_code 10 (Option.some Jvm.ClassFile.FieldType.boolean) ∈ wG := wG_mem (i := 339) (by decide +kernel) (by decide +kernel)
theorem qw_337 : Cond.methodLink "WallShiftsLaw" 83 yL_lay ∈ wG := wG_mem (i := 337) (by decide +kernel) (by decide +kernel)
theorem qw_338 : Cond.static yL_lay ∈ wG := wG_mem (i := 338) (by decide +kernel) (by decide +kernel)
theorem qw_323 : Cond.code yW_image prog_1_method_34_code 1 (Option.some Jvm.ClassFile.FieldType.int) ∈ wG := wG_mem (i := 323) (by decide +kernel) (by decide +kernel)
theorem qw_320 : Cond.methodLink "WallShiftsLaw" 87 yW_image ∈ wG := wG_mem (i := 320) (by decide +kernel) (by decide +kernel)
theorem qw_321 : Cond.instanceMethod yW_image ∈ wG := wG_mem (i := 321) (by decide +kernel) (by decide +kernel)
theorem qw_322 : Cond.selects yW_image.cls yW_image yW_image ∈ wG := wG_mem (i := 322) (by decide +kernel) (by decide +kernel)
theorem qw_259 : Cond.code yW_safe prog_1_method_16_code 4 (Option.some Jvm.ClassFile.FieldType.int) ∈ wG := wG_mem (i := 259) (by decide +kernel) (by decide +kernel)
theorem qw_256 : Cond.methodLink "WallShiftsLaw" 91 yW_safe ∈ wG := wG_mem (i := 256) (by decide +kernel) (by decide +kernel)
theorem qw_257 : Cond.instanceMethod yW_safe ∈ wG := wG_mem (i := 257) (by decide +kernel) (by decide +kernel)
theorem qw_258 : Cond.selects yW_safe.cls yW_safe yW_safe ∈ wG := wG_mem (i := 258) (by decide +kernel) (by decide +kernel)
theorem qw_272 : Cond.code yW_where prog_1_method_17_code 6 (Option.some Jvm.ClassFile.FieldType.int) ∈ wG := wG_mem (i := 272) (by decide +kernel) (by decide +kernel)
theorem qw_269 : Cond.methodLink "WallShiftsLaw" 94 yW_where ∈ wG := wG_mem (i := 269) (by decide +kernel) (by decide +kernel)
theorem qw_270 : Cond.instanceMethod yW_where ∈ wG := wG_mem (i := 270) (by decide +kernel) (by decide +kernel)
theorem qw_271 : Cond.selects yW_where.cls yW_where yW_where ∈ wG := wG_mem (i := 271) (by decide +kernel) (by decide +kernel)
theorem qw_405 : Cond.constant "WallShiftsLaw" 97 (-1000000004 : Int32) ∈ wG := wG_mem (i := 405) (by decide +kernel) (by decide +kernel)
theorem qw_276 : Cond.code yW_quiet prog_1_method_18_code 3 (Option.some Jvm.ClassFile.FieldType.int) ∈ wG := wG_mem (i := 276) (by decide +kernel) (by decide +kernel)
theorem qw_273 : Cond.methodLink "WallShiftsLaw" 98 yW_quiet ∈ wG := wG_mem (i := 273) (by decide +kernel) (by decide +kernel)
theorem qw_274 : Cond.instanceMethod yW_quiet ∈ wG := wG_mem (i := 274) (by decide +kernel) (by decide +kernel)
theorem qw_275 : Cond.selects yW_quiet.cls yW_quiet yW_quiet ∈ wG := wG_mem (i := 275) (by decide +kernel) (by decide +kernel)
theorem qw_284 : Cond.code yW_worst prog_1_method_19_code 8 (Option.some Jvm.ClassFile.FieldType.int) ∈ wG := wG_mem (i := 284) (by decide +kernel) (by decide +kernel)
theorem qw_281 : Cond.methodLink "WallShiftsLaw" 101 yW_worst ∈ wG := wG_mem (i := 281) (by decide +kernel) (by decide +kernel)
theorem qw_282 : Cond.instanceMethod yW_worst ∈ wG := wG_mem (i := 282) (by decide +kernel) (by decide +kernel)
theorem qw_283 : Cond.selects yW_worst.cls yW_worst yW_worst ∈ wG := wG_mem (i := 283) (by decide +kernel) (by decide +kernel)
theorem qw_292 : Cond.code yW_cover prog_1_method_20_code 7 (Option.some Jvm.ClassFile.FieldType.int) ∈ wG := wG_mem (i := 292) (by decide +kernel) (by decide +kernel)
theorem qw_289 : Cond.methodLink "WallShiftsLaw" 104 yW_cover ∈ wG := wG_mem (i := 289) (by decide +kernel) (by decide +kernel)
theorem qw_290 : Cond.instanceMethod yW_cover ∈ wG := wG_mem (i := 290) (by decide +kernel) (by decide +kernel)
theorem qw_291 : Cond.selects yW_cover.cls yW_cover yW_cover ∈ wG := wG_mem (i := 291) (by decide +kernel) (by decide +kernel)
theorem qw_300 : Cond.code yW_shift prog_1_method_21_code 8 (Option.some Jvm.ClassFile.FieldType.int) ∈ wG := wG_mem (i := 300) (by decide +kernel) (by decide +kernel)
theorem qw_297 : Cond.methodLink "WallShiftsLaw" 107 yW_shift ∈ wG := wG_mem (i := 297) (by decide +kernel) (by decide +kernel)
theorem qw_298 : Cond.instanceMethod yW_shift ∈ wG := wG_mem (i := 298) (by decide +kernel) (by decide +kernel)
theorem qw_299 : Cond.selects yW_shift.cls yW_shift yW_shift ∈ wG := wG_mem (i := 299) (by decide +kernel) (by decide +kernel)
theorem qw_304 : Cond.code yW_side prog_1_method_22_code 9 (Option.some Jvm.ClassFile.FieldType.int) ∈ wG := wG_mem (i := 304) (by decide +kernel) (by decide +kernel)
theorem qw_301 : Cond.methodLink "WallShiftsLaw" 110 yW_side ∈ wG := wG_mem (i := 301) (by decide +kernel) (by decide +kernel)
theorem qw_302 : Cond.instanceMethod yW_side ∈ wG := wG_mem (i := 302) (by decide +kernel) (by decide +kernel)
theorem qw_303 : Cond.selects yW_side.cls yW_side yW_side ∈ wG := wG_mem (i := 303) (by decide +kernel) (by decide +kernel)
theorem qw_385 : Cond.code yW_reach prog_1_method_12_code 2 (Option.some Jvm.ClassFile.FieldType.int) ∈ wG := wG_mem (i := 385) (by decide +kernel) (by decide +kernel)
theorem qw_382 : Cond.methodLink "WallShiftsLaw" 72 yW_reach ∈ wG := wG_mem (i := 382) (by decide +kernel) (by decide +kernel)
theorem qw_383 : Cond.instanceMethod yW_reach ∈ wG := wG_mem (i := 383) (by decide +kernel) (by decide +kernel)
theorem qw_384 : Cond.selects yW_reach.cls yW_reach yW_reach ∈ wG := wG_mem (i := 384) (by decide +kernel) (by decide +kernel)
theorem qw_393 : Cond.code yW_count prog_1_method_37_code 2 (Option.some Jvm.ClassFile.FieldType.int) ∈ wG := wG_mem (i := 393) (by decide +kernel) (by decide +kernel)
theorem qw_390 : Cond.methodLink "WallShiftsLaw" 79 yW_count ∈ wG := wG_mem (i := 390) (by decide +kernel) (by decide +kernel)
theorem qw_391 : Cond.instanceMethod yW_count ∈ wG := wG_mem (i := 391) (by decide +kernel) (by decide +kernel)
theorem qw_392 : Cond.selects yW_count.cls yW_count yW_count ∈ wG := wG_mem (i := 392) (by decide +kernel) (by decide +kernel)
theorem qw_369 : Cond.code yW_of prog_1_method_4_code 4 (Option.some Jvm.ClassFile.FieldType.int) ∈ wG := wG_mem (i := 369) (by decide +kernel) (by decide +kernel)
theorem qw_366 : Cond.methodLink "WallShiftsLaw" 69 yW_of ∈ wG := wG_mem (i := 366) (by decide +kernel) (by decide +kernel)
theorem qw_367 : Cond.instanceMethod yW_of ∈ wG := wG_mem (i := 367) (by decide +kernel) (by decide +kernel)
theorem qw_368 : Cond.selects yW_of.cls yW_of yW_of ∈ wG := wG_mem (i := 368) (by decide +kernel) (by decide +kernel)
theorem qw_404 : Cond.code yL_isUnheard method_20_code 5 (Option.some Jvm.ClassFile.FieldType.boolean) ∈ wG := wG_mem (i := 404) (by decide +kernel) (by decide +kernel)
theorem qw_402 : Cond.methodLink "WallShiftsLaw" 113 yL_isUnheard ∈ wG := wG_mem (i := 402) (by decide +kernel) (by decide +kernel)
theorem qw_403 : Cond.static yL_isUnheard ∈ wG := wG_mem (i := 403) (by decide +kernel) (by decide +kernel)
theorem qw_327 : Cond.code yW_undo prog_1_method_35_code 1 (Option.some Jvm.ClassFile.FieldType.int) ∈ wG := wG_mem (i := 327) (by decide +kernel) (by decide +kernel)
theorem qw_324 : Cond.methodLink "WallShiftsLaw" 117 yW_undo ∈ wG := wG_mem (i := 324) (by decide +kernel) (by decide +kernel)
theorem qw_325 : Cond.instanceMethod yW_undo ∈ wG := wG_mem (i := 325) (by decide +kernel) (by decide +kernel)
theorem qw_326 : Cond.selects yW_undo.cls yW_undo yW_undo ∈ wG := wG_mem (i := 326) (by decide +kernel) (by decide +kernel)
theorem qw_247 : Cond.code yW_now prog_1_method_14_code 2 (Option.some Jvm.ClassFile.FieldType.int) ∈ wG := wG_mem (i := 247) (by decide +kernel) (by decide +kernel)
theorem qw_244 : Cond.methodLink "WallShiftsLaw" 74 yW_now ∈ wG := wG_mem (i := 244) (by decide +kernel) (by decide +kernel)
theorem qw_245 : Cond.instanceMethod yW_now ∈ wG := wG_mem (i := 245) (by decide +kernel) (by decide +kernel)
theorem qw_246 : Cond.selects yW_now.cls yW_now yW_now ∈ wG := wG_mem (i := 246) (by decide +kernel) (by decide +kernel)
theorem qw_315 : Cond.code yW_lost prog_1_method_23_code 3 (Option.some Jvm.ClassFile.FieldType.int) ∈ wG := wG_mem (i := 315) (by decide +kernel) (by decide +kernel)
theorem qw_312 : Cond.methodLink "WallShiftsLaw" 120 yW_lost ∈ wG := wG_mem (i := 312) (by decide +kernel) (by decide +kernel)
theorem qw_313 : Cond.instanceMethod yW_lost ∈ wG := wG_mem (i := 313) (by decide +kernel) (by decide +kernel)
theorem qw_314 : Cond.selects yW_lost.cls yW_lost yW_lost ∈ wG := wG_mem (i := 314) (by decide +kernel) (by decide +kernel)
theorem qw_319 : Cond.code yW_best prog_1_method_24_code 6 (Option.some Jvm.ClassFile.FieldType.int) ∈ wG := wG_mem (i := 319) (by decide +kernel) (by decide +kernel)
theorem qw_316 : Cond.methodLink "WallShiftsLaw" 123 yW_best ∈ wG := wG_mem (i := 316) (by decide +kernel) (by decide +kernel)
theorem qw_317 : Cond.instanceMethod yW_best ∈ wG := wG_mem (i := 317) (by decide +kernel) (by decide +kernel)
theorem qw_318 : Cond.selects yW_best.cls yW_best yW_best ∈ wG := wG_mem (i := 318) (by decide +kernel) (by decide +kernel)
theorem qw_242 : Cond.code yW_duty prog_1_method_13_code 2 (Option.some Jvm.ClassFile.FieldType.int) ∈ wG := wG_mem (i := 242) (by decide +kernel) (by decide +kernel)
theorem qw_239 : Cond.methodLink "WallShiftsLaw" 77 yW_duty ∈ wG := wG_mem (i := 239) (by decide +kernel) (by decide +kernel)
theorem qw_240 : Cond.instanceMethod yW_duty ∈ wG := wG_mem (i := 240) (by decide +kernel) (by decide +kernel)
theorem qw_241 : Cond.selects yW_duty.cls yW_duty yW_duty ∈ wG := wG_mem (i := 241) (by decide +kernel) (by decide +kernel)
theorem qw_157 : Cond.code yW_say prog_1_method_9_code 3 (Option.some Jvm.ClassFile.FieldType.int) ∈ wG := wG_mem (i := 157) (by decide +kernel) (by decide +kernel)
theorem qw_154 : Cond.methodLink "WallShiftsLaw" 126 yW_say ∈ wG := wG_mem (i := 154) (by decide +kernel) (by decide +kernel)
theorem qw_155 : Cond.instanceMethod yW_say ∈ wG := wG_mem (i := 155) (by decide +kernel) (by decide +kernel)
theorem qw_156 : Cond.selects yW_say.cls yW_say yW_say ∈ wG := wG_mem (i := 156) (by decide +kernel) (by decide +kernel)
theorem qw_336 : Cond.code yL_ones method_11_code 3 (Option.some Jvm.ClassFile.FieldType.int) ∈ wG := wG_mem (i := 336) (by decide +kernel) (by decide +kernel)
theorem qw_334 : Cond.methodLink "WallShiftsLaw" 30 yL_ones ∈ wG := wG_mem (i := 334) (by decide +kernel) (by decide +kernel)
theorem qw_335 : Cond.static yL_ones ∈ wG := wG_mem (i := 335) (by decide +kernel) (by decide +kernel)
theorem qw_220 : Cond.code yW_speak prog_1_method_11_code 3 (Option.some Jvm.ClassFile.FieldType.int) ∈ wG := wG_mem (i := 220) (by decide +kernel) (by decide +kernel)
theorem qw_217 : Cond.methodLink "WallShiftsLaw" 128 yW_speak ∈ wG := wG_mem (i := 217) (by decide +kernel) (by decide +kernel)
theorem qw_218 : Cond.instanceMethod yW_speak ∈ wG := wG_mem (i := 218) (by decide +kernel) (by decide +kernel)
theorem qw_219 : Cond.selects yW_speak.cls yW_speak yW_speak ∈ wG := wG_mem (i := 219) (by decide +kernel) (by decide +kernel)
theorem qw_378 : Cond.code yL_duty method_4_code 7 (Option.some Jvm.ClassFile.FieldType.boolean) ∈ wG := wG_mem (i := 378) (by decide +kernel) (by decide +kernel)
theorem qw_376 : Cond.methodLink "WallShiftsLaw" 17 yL_duty ∈ wG := wG_mem (i := 376) (by decide +kernel) (by decide +kernel)
theorem qw_377 : Cond.static yL_duty ∈ wG := wG_mem (i := 377) (by decide +kernel) (by decide +kernel)
theorem qw_381 : Cond.code yL_tires method_6_code 3 (Option.some Jvm.ClassFile.FieldType.int) ∈ wG := wG_mem (i := 381) (by decide +kernel) (by decide +kernel)
theorem qw_379 : Cond.methodLink "WallShiftsLaw" 24 yL_tires ∈ wG := wG_mem (i := 379) (by decide +kernel) (by decide +kernel)
theorem qw_380 : Cond.static yL_tires ∈ wG := wG_mem (i := 380) (by decide +kernel) (by decide +kernel)
theorem qw_389 : Cond.code yL_reach method_7_code 6 (Option.some Jvm.ClassFile.FieldType.int) ∈ wG := wG_mem (i := 389) (by decide +kernel) (by decide +kernel)
theorem qw_387 : Cond.methodLink "WallShiftsLaw" 7 yL_reach ∈ wG := wG_mem (i := 387) (by decide +kernel) (by decide +kernel)
theorem qw_388 : Cond.static yL_reach ∈ wG := wG_mem (i := 388) (by decide +kernel) (by decide +kernel)
theorem qw_365 : Cond.code yL_isSo method_19_code 10 (Option.some Jvm.ClassFile.FieldType.boolean) ∈ wG := wG_mem (i := 365) (by decide +kernel) (by decide +kernel)
theorem qw_363 : Cond.methodLink "WallShiftsLaw" 131 yL_isSo ∈ wG := wG_mem (i := 363) (by decide +kernel) (by decide +kernel)
theorem qw_364 : Cond.static yL_isSo ∈ wG := wG_mem (i := 364) (by decide +kernel) (by decide +kernel)
theorem ok_S_L_50 : okS "WallShiftsLaw" 50 yL_at method_3_code 2 (Option.some Jvm.ClassFile.FieldType.int) 2 := okS_of qw_331 qw_332 qw_6 qw_333 ⟨by decide +kernel, by decide +kernel, by decide +kernel⟩
theorem ok_S_L_52 : okS "WallShiftsLaw" 52 yL_mod method_2_code 3 (Option.some Jvm.ClassFile.FieldType.int) 2 := okS_of qw_328 qw_329 qw_6 qw_330 ⟨by decide +kernel, by decide +kernel, by decide +kernel⟩
theorem ok_V_L_56 : okV "WallShiftsLaw" 56 yW_rota prog_1_method_2_code 4 (Option.some Jvm.ClassFile.FieldType.int) 2 := okV_of qw_121 qw_122 qw_123 qw_7 qw_124 ⟨by decide +kernel, by decide +kernel, by decide +kernel⟩
theorem ok_V_L_44 : okV "WallShiftsLaw" 44 yW_wall prog_1_method_3_code 4 (Option.some Jvm.ClassFile.FieldType.int) 3 := okV_of qw_343 qw_344 qw_345 qw_7 qw_346 ⟨by decide +kernel, by decide +kernel, by decide +kernel⟩
theorem ok_S_L_59 : okS "WallShiftsLaw" 59 yL_wall method_17_code 6 (Option.some Jvm.ClassFile.FieldType.boolean) 5 := okS_of qw_340 qw_341 qw_6 qw_342 ⟨by decide +kernel, by decide +kernel, by decide +kernel⟩
theorem ok_V_L_62 : okV "WallShiftsLaw" 62 yW_set prog_1_method_5_code 4 (Option.some Jvm.ClassFile.FieldType.int) 3 := okV_of qw_140 qw_141 qw_142 qw_7 qw_143 ⟨by decide +kernel, by decide +kernel, by decide +kernel⟩
theorem ok_S_L_34 : okS "WallShiftsLaw" 34 yL_minute method_10_code 2 (Option.none : Option Jvm.ClassFile.FieldType) 1 := okS_of qw_360 qw_361 qw_6 qw_362 ⟨by decide +kernel, by decide +kernel, by decide +kernel⟩
theorem ok_V_L_66 : okV "WallShiftsLaw" 66 yW_pass prog_1_method_10_code 3 (Option.some Jvm.ClassFile.FieldType.int) 1 := okV_of qw_207 qw_208 qw_209 qw_7 qw_210 ⟨by decide +kernel, by decide +kernel, by decide +kernel⟩
theorem ok_S_L_83 : okS "WallShiftsLaw" 83 yL_lay method_18_code 10 (Option.some Jvm.ClassFile.FieldType.boolean) 3 := okS_of qw_337 qw_338 qw_6 qw_339 ⟨by decide +kernel, by decide +kernel, by decide +kernel⟩
theorem ok_V_L_87 : okV "WallShiftsLaw" 87 yW_image prog_1_method_34_code 1 (Option.some Jvm.ClassFile.FieldType.int) 0 := okV_of qw_320 qw_321 qw_322 qw_7 qw_323 ⟨by decide +kernel, by decide +kernel, by decide +kernel⟩
theorem ok_V_L_91 : okV "WallShiftsLaw" 91 yW_safe prog_1_method_16_code 4 (Option.some Jvm.ClassFile.FieldType.int) 2 := okV_of qw_256 qw_257 qw_258 qw_7 qw_259 ⟨by decide +kernel, by decide +kernel, by decide +kernel⟩
theorem ok_V_L_94 : okV "WallShiftsLaw" 94 yW_where prog_1_method_17_code 6 (Option.some Jvm.ClassFile.FieldType.int) 1 := okV_of qw_269 qw_270 qw_271 qw_7 qw_272 ⟨by decide +kernel, by decide +kernel, by decide +kernel⟩
theorem ok_V_L_98 : okV "WallShiftsLaw" 98 yW_quiet prog_1_method_18_code 3 (Option.some Jvm.ClassFile.FieldType.int) 2 := okV_of qw_273 qw_274 qw_275 qw_7 qw_276 ⟨by decide +kernel, by decide +kernel, by decide +kernel⟩
theorem ok_V_L_101 : okV "WallShiftsLaw" 101 yW_worst prog_1_method_19_code 8 (Option.some Jvm.ClassFile.FieldType.int) 2 := okV_of qw_281 qw_282 qw_283 qw_7 qw_284 ⟨by decide +kernel, by decide +kernel, by decide +kernel⟩
theorem ok_V_L_104 : okV "WallShiftsLaw" 104 yW_cover prog_1_method_20_code 7 (Option.some Jvm.ClassFile.FieldType.int) 2 := okV_of qw_289 qw_290 qw_291 qw_7 qw_292 ⟨by decide +kernel, by decide +kernel, by decide +kernel⟩
theorem ok_V_L_107 : okV "WallShiftsLaw" 107 yW_shift prog_1_method_21_code 8 (Option.some Jvm.ClassFile.FieldType.int) 2 := okV_of qw_297 qw_298 qw_299 qw_7 qw_300 ⟨by decide +kernel, by decide +kernel, by decide +kernel⟩
theorem ok_V_L_110 : okV "WallShiftsLaw" 110 yW_side prog_1_method_22_code 9 (Option.some Jvm.ClassFile.FieldType.int) 3 := okV_of qw_301 qw_302 qw_303 qw_7 qw_304 ⟨by decide +kernel, by decide +kernel, by decide +kernel⟩
theorem ok_V_L_72 : okV "WallShiftsLaw" 72 yW_reach prog_1_method_12_code 2 (Option.some Jvm.ClassFile.FieldType.int) 1 := okV_of qw_382 qw_383 qw_384 qw_7 qw_385 ⟨by decide +kernel, by decide +kernel, by decide +kernel⟩
theorem ok_V_L_79 : okV "WallShiftsLaw" 79 yW_count prog_1_method_37_code 2 (Option.some Jvm.ClassFile.FieldType.int) 1 := okV_of qw_390 qw_391 qw_392 qw_7 qw_393 ⟨by decide +kernel, by decide +kernel, by decide +kernel⟩
theorem ok_V_L_69 : okV "WallShiftsLaw" 69 yW_of prog_1_method_4_code 4 (Option.some Jvm.ClassFile.FieldType.int) 2 := okV_of qw_366 qw_367 qw_368 qw_7 qw_369 ⟨by decide +kernel, by decide +kernel, by decide +kernel⟩
theorem ok_S_L_113 : okS "WallShiftsLaw" 113 yL_isUnheard method_20_code 5 (Option.some Jvm.ClassFile.FieldType.boolean) 3 := okS_of qw_402 qw_403 qw_6 qw_404 ⟨by decide +kernel, by decide +kernel, by decide +kernel⟩
theorem ok_V_L_117 : okV "WallShiftsLaw" 117 yW_undo prog_1_method_35_code 1 (Option.some Jvm.ClassFile.FieldType.int) 0 := okV_of qw_324 qw_325 qw_326 qw_7 qw_327 ⟨by decide +kernel, by decide +kernel, by decide +kernel⟩
theorem ok_V_L_74 : okV "WallShiftsLaw" 74 yW_now prog_1_method_14_code 2 (Option.some Jvm.ClassFile.FieldType.int) 1 := okV_of qw_244 qw_245 qw_246 qw_7 qw_247 ⟨by decide +kernel, by decide +kernel, by decide +kernel⟩
theorem ok_V_L_120 : okV "WallShiftsLaw" 120 yW_lost prog_1_method_23_code 3 (Option.some Jvm.ClassFile.FieldType.int) 2 := okV_of qw_312 qw_313 qw_314 qw_7 qw_315 ⟨by decide +kernel, by decide +kernel, by decide +kernel⟩
theorem ok_V_L_123 : okV "WallShiftsLaw" 123 yW_best prog_1_method_24_code 6 (Option.some Jvm.ClassFile.FieldType.int) 1 := okV_of qw_316 qw_317 qw_318 qw_7 qw_319 ⟨by decide +kernel, by decide +kernel, by decide +kernel⟩
theorem ok_V_L_77 : okV "WallShiftsLaw" 77 yW_duty prog_1_method_13_code 2 (Option.some Jvm.ClassFile.FieldType.int) 1 := okV_of qw_239 qw_240 qw_241 qw_7 qw_242 ⟨by decide +kernel, by decide +kernel, by decide +kernel⟩
theorem ok_V_L_126 : okV "WallShiftsLaw" 126 yW_say prog_1_method_9_code 3 (Option.some Jvm.ClassFile.FieldType.int) 2 := okV_of qw_154 qw_155 qw_156 qw_7 qw_157 ⟨by decide +kernel, by decide +kernel, by decide +kernel⟩
theorem ok_S_L_30 : okS "WallShiftsLaw" 30 yL_ones method_11_code 3 (Option.some Jvm.ClassFile.FieldType.int) 1 := okS_of qw_334 qw_335 qw_6 qw_336 ⟨by decide +kernel, by decide +kernel, by decide +kernel⟩
theorem ok_V_L_128 : okV "WallShiftsLaw" 128 yW_speak prog_1_method_11_code 3 (Option.some Jvm.ClassFile.FieldType.int) 2 := okV_of qw_217 qw_218 qw_219 qw_7 qw_220 ⟨by decide +kernel, by decide +kernel, by decide +kernel⟩
theorem ok_S_L_17 : okS "WallShiftsLaw" 17 yL_duty method_4_code 7 (Option.some Jvm.ClassFile.FieldType.boolean) 3 := okS_of qw_376 qw_377 qw_6 qw_378 ⟨by decide +kernel, by decide +kernel, by decide +kernel⟩
theorem ok_S_L_24 : okS "WallShiftsLaw" 24 yL_tires method_6_code 3 (Option.some Jvm.ClassFile.FieldType.int) 2 := okS_of qw_379 qw_380 qw_6 qw_381 ⟨by decide +kernel, by decide +kernel, by decide +kernel⟩
theorem ok_S_L_7 : okS "WallShiftsLaw" 7 yL_reach method_7_code 6 (Option.some Jvm.ClassFile.FieldType.int) 2 := okS_of qw_387 qw_388 qw_6 qw_389 ⟨by decide +kernel, by decide +kernel, by decide +kernel⟩
theorem ok_S_L_131 : okS "WallShiftsLaw" 131 yL_isSo method_19_code 10 (Option.some Jvm.ClassFile.FieldType.boolean) 2 := okS_of qw_363 qw_364 qw_6 qw_365 ⟨by decide +kernel, by decide +kernel, by decide +kernel⟩
theorem eL_lay_0 : decode method_18_code 0 = .ok (.aload_n 1, 1) := by decide +kernel
theorem eL_lay_1 : decode method_18_code 1 = .ok (.iconst 0, 1) := by decide +kernel
theorem eL_lay_2 : decode method_18_code 2 = .ok (.invokestatic 50, 3) := by decide +kernel
theorem eL_lay_5 : decode method_18_code 5 = .ok (.istore_n 3, 1) := by decide +kernel
theorem eL_lay_6 : decode method_18_code 6 = .ok (.aload_n 2, 1) := by decide +kernel
theorem eL_lay_7 : decode method_18_code 7 = .ok (.iconst 1, 1) := by decide +kernel
theorem eL_lay_8 : decode method_18_code 8 = .ok (.iconst 1, 1) := by decide +kernel
theorem eL_lay_9 : decode method_18_code 9 = .ok (.iload_n 3, 1) := by decide +kernel
theorem eL_lay_10 : decode method_18_code 10 = .ok (.iload_n 3, 1) := by decide +kernel
theorem eL_lay_11 : decode method_18_code 11 = .ok (.iconst 3, 1) := by decide +kernel
theorem eL_lay_12 : decode method_18_code 12 = .ok (.ishr, 1) := by decide +kernel
theorem eL_lay_13 : decode method_18_code 13 = .ok (.iconst 3, 1) := by decide +kernel
theorem eL_lay_14 : decode method_18_code 14 = .ok (.iand, 1) := by decide +kernel
theorem eL_lay_15 : decode method_18_code 15 = .ok (.ifCond .ne 8, 3) := by decide +kernel
theorem eL_lay_18 : decode method_18_code 18 = .ok (.bipush 60, 2) := by decide +kernel
theorem eL_lay_20 : decode method_18_code 20 = .ok (.goto 5, 3) := by decide +kernel
theorem eL_lay_23 : decode method_18_code 23 = .ok (.bipush 9, 2) := by decide +kernel
theorem eL_lay_25 : decode method_18_code 25 = .ok (.invokestatic 52, 3) := by decide +kernel
theorem eL_lay_28 : decode method_18_code 28 = .ok (.iadd, 1) := by decide +kernel
theorem eL_lay_29 : decode method_18_code 29 = .ok (.iastore, 1) := by decide +kernel
theorem eL_lay_30 : decode method_18_code 30 = .ok (.aload_n 2, 1) := by decide +kernel
theorem eL_lay_31 : decode method_18_code 31 = .ok (.iconst 2, 1) := by decide +kernel
theorem eL_lay_32 : decode method_18_code 32 = .ok (.iload_n 3, 1) := by decide +kernel
theorem eL_lay_33 : decode method_18_code 33 = .ok (.iconst 5, 1) := by decide +kernel
theorem eL_lay_34 : decode method_18_code 34 = .ok (.ishr, 1) := by decide +kernel
theorem eL_lay_35 : decode method_18_code 35 = .ok (.iload_n 3, 1) := by decide +kernel
theorem eL_lay_36 : decode method_18_code 36 = .ok (.bipush 7, 2) := by decide +kernel
theorem eL_lay_38 : decode method_18_code 38 = .ok (.ishr, 1) := by decide +kernel
theorem eL_lay_39 : decode method_18_code 39 = .ok (.iconst 3, 1) := by decide +kernel
theorem eL_lay_40 : decode method_18_code 40 = .ok (.iand, 1) := by decide +kernel
theorem eL_lay_41 : decode method_18_code 41 = .ok (.ifCond .ne 8, 3) := by decide +kernel
theorem eL_lay_44 : decode method_18_code 44 = .ok (.bipush 12, 2) := by decide +kernel
theorem eL_lay_46 : decode method_18_code 46 = .ok (.goto 4, 3) := by decide +kernel
theorem eL_lay_49 : decode method_18_code 49 = .ok (.iconst 3, 1) := by decide +kernel
theorem eL_lay_50 : decode method_18_code 50 = .ok (.invokestatic 52, 3) := by decide +kernel
theorem eL_lay_53 : decode method_18_code 53 = .ok (.iastore, 1) := by decide +kernel
theorem eL_lay_54 : decode method_18_code 54 = .ok (.aload_n 2, 1) := by decide +kernel
theorem eL_lay_55 : decode method_18_code 55 = .ok (.iconst 3, 1) := by decide +kernel
theorem eL_lay_56 : decode method_18_code 56 = .ok (.iload_n 3, 1) := by decide +kernel
theorem eL_lay_57 : decode method_18_code 57 = .ok (.bipush 9, 2) := by decide +kernel
theorem eL_lay_59 : decode method_18_code 59 = .ok (.ishr, 1) := by decide +kernel
theorem eL_lay_60 : decode method_18_code 60 = .ok (.iconst 3, 1) := by decide +kernel
theorem eL_lay_61 : decode method_18_code 61 = .ok (.iand, 1) := by decide +kernel
theorem eL_lay_62 : decode method_18_code 62 = .ok (.iastore, 1) := by decide +kernel
theorem eL_lay_63 : decode method_18_code 63 = .ok (.aload_n 2, 1) := by decide +kernel
theorem eL_lay_64 : decode method_18_code 64 = .ok (.iconst 4, 1) := by decide +kernel
theorem eL_lay_65 : decode method_18_code 65 = .ok (.iconst 1, 1) := by decide +kernel
theorem eL_lay_66 : decode method_18_code 66 = .ok (.iload_n 3, 1) := by decide +kernel
theorem eL_lay_67 : decode method_18_code 67 = .ok (.bipush 11, 2) := by decide +kernel
theorem eL_lay_69 : decode method_18_code 69 = .ok (.ishr, 1) := by decide +kernel
theorem eL_lay_70 : decode method_18_code 70 = .ok (.bipush 20, 2) := by decide +kernel
theorem eL_lay_72 : decode method_18_code 72 = .ok (.invokestatic 52, 3) := by decide +kernel
theorem eL_lay_75 : decode method_18_code 75 = .ok (.iadd, 1) := by decide +kernel
theorem eL_lay_76 : decode method_18_code 76 = .ok (.iastore, 1) := by decide +kernel
theorem eL_lay_77 : decode method_18_code 77 = .ok (.aload_n 0, 1) := by decide +kernel
theorem eL_lay_78 : decode method_18_code 78 = .ok (.iconst 0, 1) := by decide +kernel
theorem eL_lay_79 : decode method_18_code 79 = .ok (.aload_n 2, 1) := by decide +kernel
theorem eL_lay_80 : decode method_18_code 80 = .ok (.iconst 1, 1) := by decide +kernel
theorem eL_lay_81 : decode method_18_code 81 = .ok (.iaload, 1) := by decide +kernel
theorem eL_lay_82 : decode method_18_code 82 = .ok (.invokevirtual 56, 3) := by decide +kernel
theorem eL_lay_85 : decode method_18_code 85 = .ok (.bipush 15, 2) := by decide +kernel
theorem eL_lay_87 : decode method_18_code 87 = .ok (.if_icmp .ne 38, 3) := by decide +kernel
theorem eL_lay_90 : decode method_18_code 90 = .ok (.aload_n 0, 1) := by decide +kernel
theorem eL_lay_91 : decode method_18_code 91 = .ok (.iconst 1, 1) := by decide +kernel
theorem eL_lay_92 : decode method_18_code 92 = .ok (.aload_n 2, 1) := by decide +kernel
theorem eL_lay_93 : decode method_18_code 93 = .ok (.iconst 2, 1) := by decide +kernel
theorem eL_lay_94 : decode method_18_code 94 = .ok (.iaload, 1) := by decide +kernel
theorem eL_lay_95 : decode method_18_code 95 = .ok (.invokevirtual 56, 3) := by decide +kernel
theorem eL_lay_98 : decode method_18_code 98 = .ok (.iconst 2, 1) := by decide +kernel
theorem eL_lay_99 : decode method_18_code 99 = .ok (.if_icmp .ne 26, 3) := by decide +kernel
theorem eL_lay_102 : decode method_18_code 102 = .ok (.aload_n 0, 1) := by decide +kernel
theorem eL_lay_103 : decode method_18_code 103 = .ok (.iconst 2, 1) := by decide +kernel
theorem eL_lay_104 : decode method_18_code 104 = .ok (.aload_n 2, 1) := by decide +kernel
theorem eL_lay_105 : decode method_18_code 105 = .ok (.iconst 3, 1) := by decide +kernel
theorem eL_lay_106 : decode method_18_code 106 = .ok (.iaload, 1) := by decide +kernel
theorem eL_lay_107 : decode method_18_code 107 = .ok (.invokevirtual 56, 3) := by decide +kernel
theorem eL_lay_110 : decode method_18_code 110 = .ok (.ifCond .ne 15, 3) := by decide +kernel
theorem eL_lay_113 : decode method_18_code 113 = .ok (.aload_n 0, 1) := by decide +kernel
theorem eL_lay_114 : decode method_18_code 114 = .ok (.iconst 3, 1) := by decide +kernel
theorem eL_lay_115 : decode method_18_code 115 = .ok (.aload_n 2, 1) := by decide +kernel
theorem eL_lay_116 : decode method_18_code 116 = .ok (.iconst 4, 1) := by decide +kernel
theorem eL_lay_117 : decode method_18_code 117 = .ok (.iaload, 1) := by decide +kernel
theorem eL_lay_118 : decode method_18_code 118 = .ok (.invokevirtual 56, 3) := by decide +kernel
theorem eL_lay_121 : decode method_18_code 121 = .ok (.iconst 5, 1) := by decide +kernel
theorem eL_lay_122 : decode method_18_code 122 = .ok (.if_icmp .eq 5, 3) := by decide +kernel
theorem eL_lay_125 : decode method_18_code 125 = .ok (.iconst 0, 1) := by decide +kernel
theorem eL_lay_126 : decode method_18_code 126 = .ok (.ireturn, 1) := by decide +kernel
theorem eL_lay_127 : decode method_18_code 127 = .ok (.iconst 1, 1) := by decide +kernel
theorem eL_lay_128 : decode method_18_code 128 = .ok (.iload_n 3, 1) := by decide +kernel
theorem eL_lay_129 : decode method_18_code 129 = .ok (.bipush 16, 2) := by decide +kernel
theorem eL_lay_131 : decode method_18_code 131 = .ok (.ishr, 1) := by decide +kernel
theorem eL_lay_132 : decode method_18_code 132 = .ok (.bipush 10, 2) := by decide +kernel
theorem eL_lay_134 : decode method_18_code 134 = .ok (.invokestatic 52, 3) := by decide +kernel
theorem eL_lay_137 : decode method_18_code 137 = .ok (.iadd, 1) := by decide +kernel
theorem eL_lay_138 : decode method_18_code 138 = .ok (.istore 4, 2) := by decide +kernel
theorem eL_lay_140 : decode method_18_code 140 = .ok (.iconst 0, 1) := by decide +kernel
theorem eL_lay_141 : decode method_18_code 141 = .ok (.istore 5, 2) := by decide +kernel
theorem eL_lay_143 : decode method_18_code 143 = .ok (.iload 5, 2) := by decide +kernel
theorem eL_lay_145 : decode method_18_code 145 = .ok (.iload 4, 2) := by decide +kernel
theorem eL_lay_147 : decode method_18_code 147 = .ok (.if_icmp .ge 215, 3) := by decide +kernel
theorem eL_lay_150 : decode method_18_code 150 = .ok (.aload_n 1, 1) := by decide +kernel
theorem eL_lay_151 : decode method_18_code 151 = .ok (.iconst 1, 1) := by decide +kernel
theorem eL_lay_152 : decode method_18_code 152 = .ok (.iload 5, 2) := by decide +kernel
theorem eL_lay_154 : decode method_18_code 154 = .ok (.iconst 5, 1) := by decide +kernel
theorem eL_lay_155 : decode method_18_code 155 = .ok (.irem, 1) := by decide +kernel
theorem eL_lay_156 : decode method_18_code 156 = .ok (.iadd, 1) := by decide +kernel
theorem eL_lay_157 : decode method_18_code 157 = .ok (.invokestatic 50, 3) := by decide +kernel
theorem eL_lay_160 : decode method_18_code 160 = .ok (.bipush 15, 2) := by decide +kernel
theorem eL_lay_162 : decode method_18_code 162 = .ok (.iload 5, 2) := by decide +kernel
theorem eL_lay_164 : decode method_18_code 164 = .ok (.iconst 5, 1) := by decide +kernel
theorem eL_lay_165 : decode method_18_code 165 = .ok (.idiv, 1) := by decide +kernel
theorem eL_lay_166 : decode method_18_code 166 = .ok (.imul, 1) := by decide +kernel
theorem eL_lay_167 : decode method_18_code 167 = .ok (.ishr, 1) := by decide +kernel
theorem eL_lay_168 : decode method_18_code 168 = .ok (.istore 6, 2) := by decide +kernel
theorem eL_lay_170 : decode method_18_code 170 = .ok (.aload_n 0, 1) := by decide +kernel
theorem eL_lay_171 : decode method_18_code 171 = .ok (.aload_n 2, 1) := by decide +kernel
theorem eL_lay_172 : decode method_18_code 172 = .ok (.iload 6, 2) := by decide +kernel
theorem eL_lay_174 : decode method_18_code 174 = .ok (.bipush 6, 2) := by decide +kernel
theorem eL_lay_176 : decode method_18_code 176 = .ok (.invokestatic 52, 3) := by decide +kernel
theorem eL_lay_179 : decode method_18_code 179 = .ok (.iload 6, 2) := by decide +kernel
theorem eL_lay_181 : decode method_18_code 181 = .ok (.iconst 3, 1) := by decide +kernel
theorem eL_lay_182 : decode method_18_code 182 = .ok (.ishr, 1) := by decide +kernel
theorem eL_lay_183 : decode method_18_code 183 = .ok (.iload 6, 2) := by decide +kernel
theorem eL_lay_185 : decode method_18_code 185 = .ok (.bipush 14, 2) := by decide +kernel
theorem eL_lay_187 : decode method_18_code 187 = .ok (.ishr, 1) := by decide +kernel
theorem eL_lay_188 : decode method_18_code 188 = .ok (.iconst 1, 1) := by decide +kernel
theorem eL_lay_189 : decode method_18_code 189 = .ok (.iand, 1) := by decide +kernel
theorem eL_lay_190 : decode method_18_code 190 = .ok (.ifCond .ne 7, 3) := by decide +kernel
theorem eL_lay_193 : decode method_18_code 193 = .ok (.iconst 3, 1) := by decide +kernel
theorem eL_lay_194 : decode method_18_code 194 = .ok (.goto 5, 3) := by decide +kernel
theorem eL_lay_197 : decode method_18_code 197 = .ok (.bipush 10, 2) := by decide +kernel
theorem eL_lay_199 : decode method_18_code 199 = .ok (.invokestatic 52, 3) := by decide +kernel
theorem eL_lay_202 : decode method_18_code 202 = .ok (.iload 6, 2) := by decide +kernel
theorem eL_lay_204 : decode method_18_code 204 = .ok (.bipush 6, 2) := by decide +kernel
theorem eL_lay_206 : decode method_18_code 206 = .ok (.ishr, 1) := by decide +kernel
theorem eL_lay_207 : decode method_18_code 207 = .ok (.iload 6, 2) := by decide +kernel
theorem eL_lay_209 : decode method_18_code 209 = .ok (.bipush 14, 2) := by decide +kernel
theorem eL_lay_211 : decode method_18_code 211 = .ok (.ishr, 1) := by decide +kernel
theorem eL_lay_212 : decode method_18_code 212 = .ok (.iconst 1, 1) := by decide +kernel
theorem eL_lay_213 : decode method_18_code 213 = .ok (.iand, 1) := by decide +kernel
theorem eL_lay_214 : decode method_18_code 214 = .ok (.ifCond .ne 7, 3) := by decide +kernel
theorem eL_lay_217 : decode method_18_code 217 = .ok (.iconst 3, 1) := by decide +kernel
theorem eL_lay_218 : decode method_18_code 218 = .ok (.goto 5, 3) := by decide +kernel
theorem eL_lay_221 : decode method_18_code 221 = .ok (.bipush 10, 2) := by decide +kernel
theorem eL_lay_223 : decode method_18_code 223 = .ok (.invokestatic 52, 3) := by decide +kernel
theorem eL_lay_226 : decode method_18_code 226 = .ok (.invokestatic 59, 3) := by decide +kernel
theorem eL_lay_229 : decode method_18_code 229 = .ok (.ifCond .ne 5, 3) := by decide +kernel
theorem eL_lay_232 : decode method_18_code 232 = .ok (.iconst 0, 1) := by decide +kernel
theorem eL_lay_233 : decode method_18_code 233 = .ok (.ireturn, 1) := by decide +kernel
theorem eL_lay_234 : decode method_18_code 234 = .ok (.iload 6, 2) := by decide +kernel
theorem eL_lay_236 : decode method_18_code 236 = .ok (.bipush 10, 2) := by decide +kernel
theorem eL_lay_238 : decode method_18_code 238 = .ok (.ishr, 1) := by decide +kernel
theorem eL_lay_239 : decode method_18_code 239 = .ok (.iconst 3, 1) := by decide +kernel
theorem eL_lay_240 : decode method_18_code 240 = .ok (.iand, 1) := by decide +kernel
theorem eL_lay_241 : decode method_18_code 241 = .ok (.istore 7, 2) := by decide +kernel
theorem eL_lay_243 : decode method_18_code 243 = .ok (.aload_n 0, 1) := by decide +kernel
theorem eL_lay_244 : decode method_18_code 244 = .ok (.iload 5, 2) := by decide +kernel
theorem eL_lay_246 : decode method_18_code 246 = .ok (.iconst 3, 1) := by decide +kernel
theorem eL_lay_247 : decode method_18_code 247 = .ok (.iload 7, 2) := by decide +kernel
theorem eL_lay_249 : decode method_18_code 249 = .ok (.invokevirtual 62, 3) := by decide +kernel
theorem eL_lay_252 : decode method_18_code 252 = .ok (.ifCond .eq 5, 3) := by decide +kernel
theorem eL_lay_255 : decode method_18_code 255 = .ok (.iconst 0, 1) := by decide +kernel
theorem eL_lay_256 : decode method_18_code 256 = .ok (.ireturn, 1) := by decide +kernel
theorem eL_lay_257 : decode method_18_code 257 = .ok (.aload_n 2, 1) := by decide +kernel
theorem eL_lay_258 : decode method_18_code 258 = .ok (.bipush 9, 2) := by decide +kernel
theorem eL_lay_260 : decode method_18_code 260 = .ok (.bipush 6, 2) := by decide +kernel
theorem eL_lay_262 : decode method_18_code 262 = .ok (.iload 5, 2) := by decide +kernel
theorem eL_lay_264 : decode method_18_code 264 = .ok (.imul, 1) := by decide +kernel
theorem eL_lay_265 : decode method_18_code 265 = .ok (.iadd, 1) := by decide +kernel
theorem eL_lay_266 : decode method_18_code 266 = .ok (.iload 7, 2) := by decide +kernel
theorem eL_lay_268 : decode method_18_code 268 = .ok (.iastore, 1) := by decide +kernel
theorem eL_lay_269 : decode method_18_code 269 = .ok (.iload 6, 2) := by decide +kernel
theorem eL_lay_271 : decode method_18_code 271 = .ok (.bipush 12, 2) := by decide +kernel
theorem eL_lay_273 : decode method_18_code 273 = .ok (.ishr, 1) := by decide +kernel
theorem eL_lay_274 : decode method_18_code 274 = .ok (.iconst 3, 1) := by decide +kernel
theorem eL_lay_275 : decode method_18_code 275 = .ok (.iand, 1) := by decide +kernel
theorem eL_lay_276 : decode method_18_code 276 = .ok (.ifCond .le 6, 3) := by decide +kernel
theorem eL_lay_279 : decode method_18_code 279 = .ok (.goto 77, 3) := by decide +kernel
theorem eL_lay_282 : decode method_18_code 282 = .ok (.iload 6, 2) := by decide +kernel
theorem eL_lay_284 : decode method_18_code 284 = .ok (.bipush 31, 2) := by decide +kernel
theorem eL_lay_286 : decode method_18_code 286 = .ok (.imul, 1) := by decide +kernel
theorem eL_lay_287 : decode method_18_code 287 = .ok (.ldc 65, 2) := by decide +kernel
theorem eL_lay_289 : decode method_18_code 289 = .ok (.invokestatic 52, 3) := by decide +kernel
theorem eL_lay_292 : decode method_18_code 292 = .ok (.istore 8, 2) := by decide +kernel
theorem eL_lay_294 : decode method_18_code 294 = .ok (.iload 6, 2) := by decide +kernel
theorem eL_lay_296 : decode method_18_code 296 = .ok (.bipush 8, 2) := by decide +kernel
theorem eL_lay_298 : decode method_18_code 298 = .ok (.ishr, 1) := by decide +kernel
theorem eL_lay_299 : decode method_18_code 299 = .ok (.bipush 9, 2) := by decide +kernel
theorem eL_lay_301 : decode method_18_code 301 = .ok (.invokestatic 52, 3) := by decide +kernel
theorem eL_lay_304 : decode method_18_code 304 = .ok (.istore 9, 2) := by decide +kernel
theorem eL_lay_306 : decode method_18_code 306 = .ok (.aload_n 0, 1) := by decide +kernel
theorem eL_lay_307 : decode method_18_code 307 = .ok (.iload 5, 2) := by decide +kernel
theorem eL_lay_309 : decode method_18_code 309 = .ok (.iconst 4, 1) := by decide +kernel
theorem eL_lay_310 : decode method_18_code 310 = .ok (.iload 8, 2) := by decide +kernel
theorem eL_lay_312 : decode method_18_code 312 = .ok (.invokevirtual 62, 3) := by decide +kernel
theorem eL_lay_315 : decode method_18_code 315 = .ok (.ifCond .ne 15, 3) := by decide +kernel
theorem eL_lay_318 : decode method_18_code 318 = .ok (.aload_n 0, 1) := by decide +kernel
theorem eL_lay_319 : decode method_18_code 319 = .ok (.iload 5, 2) := by decide +kernel
theorem eL_lay_321 : decode method_18_code 321 = .ok (.iconst 5, 1) := by decide +kernel
theorem eL_lay_322 : decode method_18_code 322 = .ok (.iload 9, 2) := by decide +kernel
theorem eL_lay_324 : decode method_18_code 324 = .ok (.invokevirtual 62, 3) := by decide +kernel
theorem eL_lay_327 : decode method_18_code 327 = .ok (.ifCond .eq 5, 3) := by decide +kernel
theorem eL_lay_330 : decode method_18_code 330 = .ok (.iconst 0, 1) := by decide +kernel
theorem eL_lay_331 : decode method_18_code 331 = .ok (.ireturn, 1) := by decide +kernel
theorem eL_lay_332 : decode method_18_code 332 = .ok (.aload_n 2, 1) := by decide +kernel
theorem eL_lay_333 : decode method_18_code 333 = .ok (.bipush 10, 2) := by decide +kernel
theorem eL_lay_335 : decode method_18_code 335 = .ok (.bipush 6, 2) := by decide +kernel
theorem eL_lay_337 : decode method_18_code 337 = .ok (.iload 5, 2) := by decide +kernel
theorem eL_lay_339 : decode method_18_code 339 = .ok (.imul, 1) := by decide +kernel
theorem eL_lay_340 : decode method_18_code 340 = .ok (.iadd, 1) := by decide +kernel
theorem eL_lay_341 : decode method_18_code 341 = .ok (.iload 8, 2) := by decide +kernel
theorem eL_lay_343 : decode method_18_code 343 = .ok (.iastore, 1) := by decide +kernel
theorem eL_lay_344 : decode method_18_code 344 = .ok (.aload_n 2, 1) := by decide +kernel
theorem eL_lay_345 : decode method_18_code 345 = .ok (.bipush 11, 2) := by decide +kernel
theorem eL_lay_347 : decode method_18_code 347 = .ok (.bipush 6, 2) := by decide +kernel
theorem eL_lay_349 : decode method_18_code 349 = .ok (.iload 5, 2) := by decide +kernel
theorem eL_lay_351 : decode method_18_code 351 = .ok (.imul, 1) := by decide +kernel
theorem eL_lay_352 : decode method_18_code 352 = .ok (.iadd, 1) := by decide +kernel
theorem eL_lay_353 : decode method_18_code 353 = .ok (.iload 9, 2) := by decide +kernel
theorem eL_lay_355 : decode method_18_code 355 = .ok (.iastore, 1) := by decide +kernel
theorem eL_lay_356 : decode method_18_code 356 = .ok (.iinc 5 1, 3) := by decide +kernel
theorem eL_lay_359 : decode method_18_code 359 = .ok (.goto (-216), 3) := by decide +kernel
theorem eL_lay_362 : decode method_18_code 362 = .ok (.iload_n 3, 1) := by decide +kernel
theorem eL_lay_363 : decode method_18_code 363 = .ok (.bipush 20, 2) := by decide +kernel
theorem eL_lay_365 : decode method_18_code 365 = .ok (.ishr, 1) := by decide +kernel
theorem eL_lay_366 : decode method_18_code 366 = .ok (.bipush 40, 2) := by decide +kernel
theorem eL_lay_368 : decode method_18_code 368 = .ok (.invokestatic 52, 3) := by decide +kernel
theorem eL_lay_371 : decode method_18_code 371 = .ok (.istore 5, 2) := by decide +kernel
theorem eL_lay_373 : decode method_18_code 373 = .ok (.iconst 0, 1) := by decide +kernel
theorem eL_lay_374 : decode method_18_code 374 = .ok (.istore 6, 2) := by decide +kernel
theorem eL_lay_376 : decode method_18_code 376 = .ok (.iload 6, 2) := by decide +kernel
theorem eL_lay_378 : decode method_18_code 378 = .ok (.iload 5, 2) := by decide +kernel
theorem eL_lay_380 : decode method_18_code 380 = .ok (.if_icmp .ge 13, 3) := by decide +kernel
theorem eL_lay_383 : decode method_18_code 383 = .ok (.aload_n 2, 1) := by decide +kernel
theorem eL_lay_384 : decode method_18_code 384 = .ok (.invokestatic 34, 3) := by decide +kernel
theorem eL_lay_387 : decode method_18_code 387 = .ok (.iinc 6 1, 3) := by decide +kernel
theorem eL_lay_390 : decode method_18_code 390 = .ok (.goto (-14), 3) := by decide +kernel
theorem eL_lay_393 : decode method_18_code 393 = .ok (.iload 5, 2) := by decide +kernel
theorem eL_lay_395 : decode method_18_code 395 = .ok (.ifCond .eq 14, 3) := by decide +kernel
theorem eL_lay_398 : decode method_18_code 398 = .ok (.aload_n 0, 1) := by decide +kernel
theorem eL_lay_399 : decode method_18_code 399 = .ok (.iload 5, 2) := by decide +kernel
theorem eL_lay_401 : decode method_18_code 401 = .ok (.invokevirtual 66, 3) := by decide +kernel
theorem eL_lay_404 : decode method_18_code 404 = .ok (.iload 5, 2) := by decide +kernel
theorem eL_lay_406 : decode method_18_code 406 = .ok (.if_icmp .ne 7, 3) := by decide +kernel
theorem eL_lay_409 : decode method_18_code 409 = .ok (.iconst 1, 1) := by decide +kernel
theorem eL_lay_410 : decode method_18_code 410 = .ok (.goto 4, 3) := by decide +kernel
theorem eL_lay_413 : decode method_18_code 413 = .ok (.iconst 0, 1) := by decide +kernel
theorem eL_lay_414 : decode method_18_code 414 = .ok (.ireturn, 1) := by decide +kernel
theorem eL_at_0 : decode method_3_code 0 = .ok (.aload_n 0, 1) := by decide +kernel
theorem eL_at_1 : decode method_3_code 1 = .ok (.arraylength, 1) := by decide +kernel
theorem eL_at_2 : decode method_3_code 2 = .ok (.iload_n 1, 1) := by decide +kernel
theorem eL_at_3 : decode method_3_code 3 = .ok (.if_icmp .le 9, 3) := by decide +kernel
theorem eL_at_6 : decode method_3_code 6 = .ok (.aload_n 0, 1) := by decide +kernel
theorem eL_at_7 : decode method_3_code 7 = .ok (.iload_n 1, 1) := by decide +kernel
theorem eL_at_8 : decode method_3_code 8 = .ok (.iaload, 1) := by decide +kernel
theorem eL_at_9 : decode method_3_code 9 = .ok (.goto 10, 3) := by decide +kernel
theorem eL_at_12 : decode method_3_code 12 = .ok (.bipush 41, 2) := by decide +kernel
theorem eL_at_14 : decode method_3_code 14 = .ok (.iload_n 1, 1) := by decide +kernel
theorem eL_at_15 : decode method_3_code 15 = .ok (.imul, 1) := by decide +kernel
theorem eL_at_16 : decode method_3_code 16 = .ok (.bipush 13, 2) := by decide +kernel
theorem eL_at_18 : decode method_3_code 18 = .ok (.iadd, 1) := by decide +kernel
theorem eL_at_19 : decode method_3_code 19 = .ok (.ireturn, 1) := by decide +kernel
theorem eL_mod_0 : decode method_2_code 0 = .ok (.iload_n 0, 1) := by decide +kernel
theorem eL_mod_1 : decode method_2_code 1 = .ok (.iload_n 1, 1) := by decide +kernel
theorem eL_mod_2 : decode method_2_code 2 = .ok (.irem, 1) := by decide +kernel
theorem eL_mod_3 : decode method_2_code 3 = .ok (.istore_n 2, 1) := by decide +kernel
theorem eL_mod_4 : decode method_2_code 4 = .ok (.iload_n 2, 1) := by decide +kernel
theorem eL_mod_5 : decode method_2_code 5 = .ok (.ifCond .ge 9, 3) := by decide +kernel
theorem eL_mod_8 : decode method_2_code 8 = .ok (.iload_n 2, 1) := by decide +kernel
theorem eL_mod_9 : decode method_2_code 9 = .ok (.iload_n 1, 1) := by decide +kernel
theorem eL_mod_10 : decode method_2_code 10 = .ok (.iadd, 1) := by decide +kernel
theorem eL_mod_11 : decode method_2_code 11 = .ok (.goto 4, 3) := by decide +kernel
theorem eL_mod_14 : decode method_2_code 14 = .ok (.iload_n 2, 1) := by decide +kernel
theorem eL_mod_15 : decode method_2_code 15 = .ok (.ireturn, 1) := by decide +kernel
theorem eL_wall_0 : decode method_17_code 0 = .ok (.aload_n 1, 1) := by decide +kernel
theorem eL_wall_1 : decode method_17_code 1 = .ok (.iconst 5, 1) := by decide +kernel
theorem eL_wall_2 : decode method_17_code 2 = .ok (.iaload, 1) := by decide +kernel
theorem eL_wall_3 : decode method_17_code 3 = .ok (.istore 5, 2) := by decide +kernel
theorem eL_wall_5 : decode method_17_code 5 = .ok (.aload_n 0, 1) := by decide +kernel
theorem eL_wall_6 : decode method_17_code 6 = .ok (.iload_n 2, 1) := by decide +kernel
theorem eL_wall_7 : decode method_17_code 7 = .ok (.iload_n 3, 1) := by decide +kernel
theorem eL_wall_8 : decode method_17_code 8 = .ok (.iload 4, 2) := by decide +kernel
theorem eL_wall_10 : decode method_17_code 10 = .ok (.invokevirtual 44, 3) := by decide +kernel
theorem eL_wall_13 : decode method_17_code 13 = .ok (.iload 5, 2) := by decide +kernel
theorem eL_wall_15 : decode method_17_code 15 = .ok (.if_icmp .eq 5, 3) := by decide +kernel
theorem eL_wall_18 : decode method_17_code 18 = .ok (.iconst 0, 1) := by decide +kernel
theorem eL_wall_19 : decode method_17_code 19 = .ok (.ireturn, 1) := by decide +kernel
theorem eL_wall_20 : decode method_17_code 20 = .ok (.aload_n 1, 1) := by decide +kernel
theorem eL_wall_21 : decode method_17_code 21 = .ok (.bipush 6, 2) := by decide +kernel
theorem eL_wall_23 : decode method_17_code 23 = .ok (.bipush 6, 2) := by decide +kernel
theorem eL_wall_25 : decode method_17_code 25 = .ok (.iload 5, 2) := by decide +kernel
theorem eL_wall_27 : decode method_17_code 27 = .ok (.imul, 1) := by decide +kernel
theorem eL_wall_28 : decode method_17_code 28 = .ok (.iadd, 1) := by decide +kernel
theorem eL_wall_29 : decode method_17_code 29 = .ok (.iload_n 2, 1) := by decide +kernel
theorem eL_wall_30 : decode method_17_code 30 = .ok (.iastore, 1) := by decide +kernel
theorem eL_wall_31 : decode method_17_code 31 = .ok (.aload_n 1, 1) := by decide +kernel
theorem eL_wall_32 : decode method_17_code 32 = .ok (.bipush 7, 2) := by decide +kernel
theorem eL_wall_34 : decode method_17_code 34 = .ok (.bipush 6, 2) := by decide +kernel
theorem eL_wall_36 : decode method_17_code 36 = .ok (.iload 5, 2) := by decide +kernel
theorem eL_wall_38 : decode method_17_code 38 = .ok (.imul, 1) := by decide +kernel
theorem eL_wall_39 : decode method_17_code 39 = .ok (.iadd, 1) := by decide +kernel
theorem eL_wall_40 : decode method_17_code 40 = .ok (.iload_n 3, 1) := by decide +kernel
theorem eL_wall_41 : decode method_17_code 41 = .ok (.iastore, 1) := by decide +kernel
theorem eL_wall_42 : decode method_17_code 42 = .ok (.aload_n 1, 1) := by decide +kernel
theorem eL_wall_43 : decode method_17_code 43 = .ok (.bipush 8, 2) := by decide +kernel
theorem eL_wall_45 : decode method_17_code 45 = .ok (.bipush 6, 2) := by decide +kernel
theorem eL_wall_47 : decode method_17_code 47 = .ok (.iload 5, 2) := by decide +kernel
theorem eL_wall_49 : decode method_17_code 49 = .ok (.imul, 1) := by decide +kernel
theorem eL_wall_50 : decode method_17_code 50 = .ok (.iadd, 1) := by decide +kernel
theorem eL_wall_51 : decode method_17_code 51 = .ok (.iload 4, 2) := by decide +kernel
theorem eL_wall_53 : decode method_17_code 53 = .ok (.iastore, 1) := by decide +kernel
theorem eL_wall_54 : decode method_17_code 54 = .ok (.aload_n 1, 1) := by decide +kernel
theorem eL_wall_55 : decode method_17_code 55 = .ok (.bipush 9, 2) := by decide +kernel
theorem eL_wall_57 : decode method_17_code 57 = .ok (.bipush 6, 2) := by decide +kernel
theorem eL_wall_59 : decode method_17_code 59 = .ok (.iload 5, 2) := by decide +kernel
theorem eL_wall_61 : decode method_17_code 61 = .ok (.imul, 1) := by decide +kernel
theorem eL_wall_62 : decode method_17_code 62 = .ok (.iadd, 1) := by decide +kernel
theorem eL_wall_63 : decode method_17_code 63 = .ok (.iconst 0, 1) := by decide +kernel
theorem eL_wall_64 : decode method_17_code 64 = .ok (.iastore, 1) := by decide +kernel
theorem eL_wall_65 : decode method_17_code 65 = .ok (.aload_n 1, 1) := by decide +kernel
theorem eL_wall_66 : decode method_17_code 66 = .ok (.bipush 10, 2) := by decide +kernel
theorem eL_wall_68 : decode method_17_code 68 = .ok (.bipush 6, 2) := by decide +kernel
theorem eL_wall_70 : decode method_17_code 70 = .ok (.iload 5, 2) := by decide +kernel
theorem eL_wall_72 : decode method_17_code 72 = .ok (.imul, 1) := by decide +kernel
theorem eL_wall_73 : decode method_17_code 73 = .ok (.iadd, 1) := by decide +kernel
theorem eL_wall_74 : decode method_17_code 74 = .ok (.iconst 0, 1) := by decide +kernel
theorem eL_wall_75 : decode method_17_code 75 = .ok (.iastore, 1) := by decide +kernel
theorem eL_wall_76 : decode method_17_code 76 = .ok (.aload_n 1, 1) := by decide +kernel
theorem eL_wall_77 : decode method_17_code 77 = .ok (.bipush 11, 2) := by decide +kernel
theorem eL_wall_79 : decode method_17_code 79 = .ok (.bipush 6, 2) := by decide +kernel
theorem eL_wall_81 : decode method_17_code 81 = .ok (.iload 5, 2) := by decide +kernel
theorem eL_wall_83 : decode method_17_code 83 = .ok (.imul, 1) := by decide +kernel
theorem eL_wall_84 : decode method_17_code 84 = .ok (.iadd, 1) := by decide +kernel
theorem eL_wall_85 : decode method_17_code 85 = .ok (.iconst 0, 1) := by decide +kernel
theorem eL_wall_86 : decode method_17_code 86 = .ok (.iastore, 1) := by decide +kernel
theorem eL_wall_87 : decode method_17_code 87 = .ok (.aload_n 1, 1) := by decide +kernel
theorem eL_wall_88 : decode method_17_code 88 = .ok (.iconst 5, 1) := by decide +kernel
theorem eL_wall_89 : decode method_17_code 89 = .ok (.dup2, 1) := by decide +kernel
theorem eL_wall_90 : decode method_17_code 90 = .ok (.iaload, 1) := by decide +kernel
theorem eL_wall_91 : decode method_17_code 91 = .ok (.iconst 1, 1) := by decide +kernel
theorem eL_wall_92 : decode method_17_code 92 = .ok (.iadd, 1) := by decide +kernel
theorem eL_wall_93 : decode method_17_code 93 = .ok (.iastore, 1) := by decide +kernel
theorem eL_wall_94 : decode method_17_code 94 = .ok (.iconst 1, 1) := by decide +kernel
theorem eL_wall_95 : decode method_17_code 95 = .ok (.ireturn, 1) := by decide +kernel
theorem eL_minute_0 : decode method_10_code 0 = .ok (.aload_n 0, 1) := by decide +kernel
theorem eL_minute_1 : decode method_10_code 1 = .ok (.iconst 0, 1) := by decide +kernel
theorem eL_minute_2 : decode method_10_code 2 = .ok (.dup2, 1) := by decide +kernel
theorem eL_minute_3 : decode method_10_code 3 = .ok (.iaload, 1) := by decide +kernel
theorem eL_minute_4 : decode method_10_code 4 = .ok (.iconst 1, 1) := by decide +kernel
theorem eL_minute_5 : decode method_10_code 5 = .ok (.iadd, 1) := by decide +kernel
theorem eL_minute_6 : decode method_10_code 6 = .ok (.iastore, 1) := by decide +kernel
theorem eL_minute_7 : decode method_10_code 7 = .ok (.aload_n 0, 1) := by decide +kernel
theorem eL_minute_8 : decode method_10_code 8 = .ok (.iconst 0, 1) := by decide +kernel
theorem eL_minute_9 : decode method_10_code 9 = .ok (.iaload, 1) := by decide +kernel
theorem eL_minute_10 : decode method_10_code 10 = .ok (.aload_n 0, 1) := by decide +kernel
theorem eL_minute_11 : decode method_10_code 11 = .ok (.iconst 1, 1) := by decide +kernel
theorem eL_minute_12 : decode method_10_code 12 = .ok (.iaload, 1) := by decide +kernel
theorem eL_minute_13 : decode method_10_code 13 = .ok (.irem, 1) := by decide +kernel
theorem eL_minute_14 : decode method_10_code 14 = .ok (.ifCond .le 4, 3) := by decide +kernel
theorem eL_minute_17 : decode method_10_code 17 = .ok (.return_, 1) := by decide +kernel
theorem eL_minute_18 : decode method_10_code 18 = .ok (.iconst 0, 1) := by decide +kernel
theorem eL_minute_19 : decode method_10_code 19 = .ok (.istore_n 1, 1) := by decide +kernel
theorem eL_minute_20 : decode method_10_code 20 = .ok (.iload_n 1, 1) := by decide +kernel
theorem eL_minute_21 : decode method_10_code 21 = .ok (.aload_n 0, 1) := by decide +kernel
theorem eL_minute_22 : decode method_10_code 22 = .ok (.iconst 5, 1) := by decide +kernel
theorem eL_minute_23 : decode method_10_code 23 = .ok (.iaload, 1) := by decide +kernel
theorem eL_minute_24 : decode method_10_code 24 = .ok (.if_icmp .ge 40, 3) := by decide +kernel
theorem eL_minute_27 : decode method_10_code 27 = .ok (.aload_n 0, 1) := by decide +kernel
theorem eL_minute_28 : decode method_10_code 28 = .ok (.bipush 9, 2) := by decide +kernel
theorem eL_minute_30 : decode method_10_code 30 = .ok (.bipush 6, 2) := by decide +kernel
theorem eL_minute_32 : decode method_10_code 32 = .ok (.iload_n 1, 1) := by decide +kernel
theorem eL_minute_33 : decode method_10_code 33 = .ok (.imul, 1) := by decide +kernel
theorem eL_minute_34 : decode method_10_code 34 = .ok (.iadd, 1) := by decide +kernel
theorem eL_minute_35 : decode method_10_code 35 = .ok (.iaload, 1) := by decide +kernel
theorem eL_minute_36 : decode method_10_code 36 = .ok (.aload_n 0, 1) := by decide +kernel
theorem eL_minute_37 : decode method_10_code 37 = .ok (.iconst 0, 1) := by decide +kernel
theorem eL_minute_38 : decode method_10_code 38 = .ok (.iaload, 1) := by decide +kernel
theorem eL_minute_39 : decode method_10_code 39 = .ok (.aload_n 0, 1) := by decide +kernel
theorem eL_minute_40 : decode method_10_code 40 = .ok (.iconst 1, 1) := by decide +kernel
theorem eL_minute_41 : decode method_10_code 41 = .ok (.iaload, 1) := by decide +kernel
theorem eL_minute_42 : decode method_10_code 42 = .ok (.idiv, 1) := by decide +kernel
theorem eL_minute_43 : decode method_10_code 43 = .ok (.iconst 4, 1) := by decide +kernel
theorem eL_minute_44 : decode method_10_code 44 = .ok (.irem, 1) := by decide +kernel
theorem eL_minute_45 : decode method_10_code 45 = .ok (.if_icmp .ne 13, 3) := by decide +kernel
theorem eL_minute_48 : decode method_10_code 48 = .ok (.aload_n 0, 1) := by decide +kernel
theorem eL_minute_49 : decode method_10_code 49 = .ok (.bipush 11, 2) := by decide +kernel
theorem eL_minute_51 : decode method_10_code 51 = .ok (.bipush 6, 2) := by decide +kernel
theorem eL_minute_53 : decode method_10_code 53 = .ok (.iload_n 1, 1) := by decide +kernel
theorem eL_minute_54 : decode method_10_code 54 = .ok (.imul, 1) := by decide +kernel
theorem eL_minute_55 : decode method_10_code 55 = .ok (.iadd, 1) := by decide +kernel
theorem eL_minute_56 : decode method_10_code 56 = .ok (.iconst 0, 1) := by decide +kernel
theorem eL_minute_57 : decode method_10_code 57 = .ok (.iastore, 1) := by decide +kernel
theorem eL_minute_58 : decode method_10_code 58 = .ok (.iinc 1 1, 3) := by decide +kernel
theorem eL_minute_61 : decode method_10_code 61 = .ok (.goto (-41), 3) := by decide +kernel
theorem eL_minute_64 : decode method_10_code 64 = .ok (.return_, 1) := by decide +kernel
theorem eL_isUnheard_0 : decode method_20_code 0 = .ok (.aload_n 0, 1) := by decide +kernel
theorem eL_isUnheard_1 : decode method_20_code 1 = .ok (.iload_n 1, 1) := by decide +kernel
theorem eL_isUnheard_2 : decode method_20_code 2 = .ok (.invokevirtual 72, 3) := by decide +kernel
theorem eL_isUnheard_5 : decode method_20_code 5 = .ok (.istore_n 3, 1) := by decide +kernel
theorem eL_isUnheard_6 : decode method_20_code 6 = .ok (.iconst 0, 1) := by decide +kernel
theorem eL_isUnheard_7 : decode method_20_code 7 = .ok (.istore 4, 2) := by decide +kernel
theorem eL_isUnheard_9 : decode method_20_code 9 = .ok (.iload 4, 2) := by decide +kernel
theorem eL_isUnheard_11 : decode method_20_code 11 = .ok (.aload_n 0, 1) := by decide +kernel
theorem eL_isUnheard_12 : decode method_20_code 12 = .ok (.iconst 0, 1) := by decide +kernel
theorem eL_isUnheard_13 : decode method_20_code 13 = .ok (.invokevirtual 79, 3) := by decide +kernel
theorem eL_isUnheard_16 : decode method_20_code 16 = .ok (.if_icmp .ge 57, 3) := by decide +kernel
theorem eL_isUnheard_19 : decode method_20_code 19 = .ok (.iload_n 2, 1) := by decide +kernel
theorem eL_isUnheard_20 : decode method_20_code 20 = .ok (.iload 4, 2) := by decide +kernel
theorem eL_isUnheard_22 : decode method_20_code 22 = .ok (.ishr, 1) := by decide +kernel
theorem eL_isUnheard_23 : decode method_20_code 23 = .ok (.iconst 1, 1) := by decide +kernel
theorem eL_isUnheard_24 : decode method_20_code 24 = .ok (.iand, 1) := by decide +kernel
theorem eL_isUnheard_25 : decode method_20_code 25 = .ok (.iconst 1, 1) := by decide +kernel
theorem eL_isUnheard_26 : decode method_20_code 26 = .ok (.if_icmp .ne 41, 3) := by decide +kernel
theorem eL_isUnheard_29 : decode method_20_code 29 = .ok (.aload_n 0, 1) := by decide +kernel
theorem eL_isUnheard_30 : decode method_20_code 30 = .ok (.iload 4, 2) := by decide +kernel
theorem eL_isUnheard_32 : decode method_20_code 32 = .ok (.bipush 6, 2) := by decide +kernel
theorem eL_isUnheard_34 : decode method_20_code 34 = .ok (.invokevirtual 69, 3) := by decide +kernel
theorem eL_isUnheard_37 : decode method_20_code 37 = .ok (.iconst 1, 1) := by decide +kernel
theorem eL_isUnheard_38 : decode method_20_code 38 = .ok (.if_icmp .ne 29, 3) := by decide +kernel
theorem eL_isUnheard_41 : decode method_20_code 41 = .ok (.iconst 1, 1) := by decide +kernel
theorem eL_isUnheard_42 : decode method_20_code 42 = .ok (.aload_n 0, 1) := by decide +kernel
theorem eL_isUnheard_43 : decode method_20_code 43 = .ok (.iload 4, 2) := by decide +kernel
theorem eL_isUnheard_45 : decode method_20_code 45 = .ok (.iconst 1, 1) := by decide +kernel
theorem eL_isUnheard_46 : decode method_20_code 46 = .ok (.invokevirtual 69, 3) := by decide +kernel
theorem eL_isUnheard_49 : decode method_20_code 49 = .ok (.ishl, 1) := by decide +kernel
theorem eL_isUnheard_50 : decode method_20_code 50 = .ok (.iconst 1, 1) := by decide +kernel
theorem eL_isUnheard_51 : decode method_20_code 51 = .ok (.aload_n 0, 1) := by decide +kernel
theorem eL_isUnheard_52 : decode method_20_code 52 = .ok (.iload 4, 2) := by decide +kernel
theorem eL_isUnheard_54 : decode method_20_code 54 = .ok (.iconst 2, 1) := by decide +kernel
theorem eL_isUnheard_55 : decode method_20_code 55 = .ok (.invokevirtual 69, 3) := by decide +kernel
theorem eL_isUnheard_58 : decode method_20_code 58 = .ok (.ishl, 1) := by decide +kernel
theorem eL_isUnheard_59 : decode method_20_code 59 = .ok (.ior, 1) := by decide +kernel
theorem eL_isUnheard_60 : decode method_20_code 60 = .ok (.iload_n 3, 1) := by decide +kernel
theorem eL_isUnheard_61 : decode method_20_code 61 = .ok (.iand, 1) := by decide +kernel
theorem eL_isUnheard_62 : decode method_20_code 62 = .ok (.ifCond .eq 5, 3) := by decide +kernel
theorem eL_isUnheard_65 : decode method_20_code 65 = .ok (.iconst 0, 1) := by decide +kernel
theorem eL_isUnheard_66 : decode method_20_code 66 = .ok (.ireturn, 1) := by decide +kernel
theorem eL_isUnheard_67 : decode method_20_code 67 = .ok (.iinc 4 1, 3) := by decide +kernel
theorem eL_isUnheard_70 : decode method_20_code 70 = .ok (.goto (-61), 3) := by decide +kernel
theorem eL_isUnheard_73 : decode method_20_code 73 = .ok (.iconst 1, 1) := by decide +kernel
theorem eL_isUnheard_74 : decode method_20_code 74 = .ok (.ireturn, 1) := by decide +kernel
theorem eL_ones_0 : decode method_11_code 0 = .ok (.iconst 0, 1) := by decide +kernel
theorem eL_ones_1 : decode method_11_code 1 = .ok (.istore_n 1, 1) := by decide +kernel
theorem eL_ones_2 : decode method_11_code 2 = .ok (.iconst 0, 1) := by decide +kernel
theorem eL_ones_3 : decode method_11_code 3 = .ok (.istore_n 2, 1) := by decide +kernel
theorem eL_ones_4 : decode method_11_code 4 = .ok (.iload_n 2, 1) := by decide +kernel
theorem eL_ones_5 : decode method_11_code 5 = .ok (.bipush 16, 2) := by decide +kernel
theorem eL_ones_7 : decode method_11_code 7 = .ok (.if_icmp .ge 17, 3) := by decide +kernel
theorem eL_ones_10 : decode method_11_code 10 = .ok (.iload_n 1, 1) := by decide +kernel
theorem eL_ones_11 : decode method_11_code 11 = .ok (.iload_n 0, 1) := by decide +kernel
theorem eL_ones_12 : decode method_11_code 12 = .ok (.iload_n 2, 1) := by decide +kernel
theorem eL_ones_13 : decode method_11_code 13 = .ok (.ishr, 1) := by decide +kernel
theorem eL_ones_14 : decode method_11_code 14 = .ok (.iconst 1, 1) := by decide +kernel
theorem eL_ones_15 : decode method_11_code 15 = .ok (.iand, 1) := by decide +kernel
theorem eL_ones_16 : decode method_11_code 16 = .ok (.iadd, 1) := by decide +kernel
theorem eL_ones_17 : decode method_11_code 17 = .ok (.istore_n 1, 1) := by decide +kernel
theorem eL_ones_18 : decode method_11_code 18 = .ok (.iinc 2 1, 3) := by decide +kernel
theorem eL_ones_21 : decode method_11_code 21 = .ok (.goto (-17), 3) := by decide +kernel
theorem eL_ones_24 : decode method_11_code 24 = .ok (.iload_n 1, 1) := by decide +kernel
theorem eL_ones_25 : decode method_11_code 25 = .ok (.ireturn, 1) := by decide +kernel
theorem eL_isSo_0 : decode method_19_code 0 = .ok (.iconst 0, 1) := by decide +kernel
theorem eL_isSo_1 : decode method_19_code 1 = .ok (.istore_n 2, 1) := by decide +kernel
theorem eL_isSo_2 : decode method_19_code 2 = .ok (.iconst 0, 1) := by decide +kernel
theorem eL_isSo_3 : decode method_19_code 3 = .ok (.istore_n 3, 1) := by decide +kernel
theorem eL_isSo_4 : decode method_19_code 4 = .ok (.iconst 0, 1) := by decide +kernel
theorem eL_isSo_5 : decode method_19_code 5 = .ok (.istore 4, 2) := by decide +kernel
theorem eL_isSo_7 : decode method_19_code 7 = .ok (.iconst 0, 1) := by decide +kernel
theorem eL_isSo_8 : decode method_19_code 8 = .ok (.istore 5, 2) := by decide +kernel
theorem eL_isSo_10 : decode method_19_code 10 = .ok (.iconst 0, 1) := by decide +kernel
theorem eL_isSo_11 : decode method_19_code 11 = .ok (.istore 6, 2) := by decide +kernel
theorem eL_isSo_13 : decode method_19_code 13 = .ok (.iconst 0, 1) := by decide +kernel
theorem eL_isSo_14 : decode method_19_code 14 = .ok (.istore 7, 2) := by decide +kernel
theorem eL_isSo_16 : decode method_19_code 16 = .ok (.iload 7, 2) := by decide +kernel
theorem eL_isSo_18 : decode method_19_code 18 = .ok (.aload_n 1, 1) := by decide +kernel
theorem eL_isSo_19 : decode method_19_code 19 = .ok (.iconst 5, 1) := by decide +kernel
theorem eL_isSo_20 : decode method_19_code 20 = .ok (.iaload, 1) := by decide +kernel
theorem eL_isSo_21 : decode method_19_code 21 = .ok (.if_icmp .ge 212, 3) := by decide +kernel
theorem eL_isSo_24 : decode method_19_code 24 = .ok (.iconst 0, 1) := by decide +kernel
theorem eL_isSo_25 : decode method_19_code 25 = .ok (.istore 8, 2) := by decide +kernel
theorem eL_isSo_27 : decode method_19_code 27 = .ok (.iload 8, 2) := by decide +kernel
theorem eL_isSo_29 : decode method_19_code 29 = .ok (.bipush 6, 2) := by decide +kernel
theorem eL_isSo_31 : decode method_19_code 31 = .ok (.if_icmp .ge 35, 3) := by decide +kernel
theorem eL_isSo_34 : decode method_19_code 34 = .ok (.aload_n 0, 1) := by decide +kernel
theorem eL_isSo_35 : decode method_19_code 35 = .ok (.iload 7, 2) := by decide +kernel
theorem eL_isSo_37 : decode method_19_code 37 = .ok (.iload 8, 2) := by decide +kernel
theorem eL_isSo_39 : decode method_19_code 39 = .ok (.invokevirtual 69, 3) := by decide +kernel
theorem eL_isSo_42 : decode method_19_code 42 = .ok (.aload_n 1, 1) := by decide +kernel
theorem eL_isSo_43 : decode method_19_code 43 = .ok (.bipush 6, 2) := by decide +kernel
theorem eL_isSo_45 : decode method_19_code 45 = .ok (.bipush 6, 2) := by decide +kernel
theorem eL_isSo_47 : decode method_19_code 47 = .ok (.iload 7, 2) := by decide +kernel
theorem eL_isSo_49 : decode method_19_code 49 = .ok (.imul, 1) := by decide +kernel
theorem eL_isSo_50 : decode method_19_code 50 = .ok (.iadd, 1) := by decide +kernel
theorem eL_isSo_51 : decode method_19_code 51 = .ok (.iload 8, 2) := by decide +kernel
theorem eL_isSo_53 : decode method_19_code 53 = .ok (.iadd, 1) := by decide +kernel
theorem eL_isSo_54 : decode method_19_code 54 = .ok (.iaload, 1) := by decide +kernel
theorem eL_isSo_55 : decode method_19_code 55 = .ok (.if_icmp .eq 5, 3) := by decide +kernel
theorem eL_isSo_58 : decode method_19_code 58 = .ok (.iconst 0, 1) := by decide +kernel
theorem eL_isSo_59 : decode method_19_code 59 = .ok (.ireturn, 1) := by decide +kernel
theorem eL_isSo_60 : decode method_19_code 60 = .ok (.iinc 8 1, 3) := by decide +kernel
theorem eL_isSo_63 : decode method_19_code 63 = .ok (.goto (-36), 3) := by decide +kernel
theorem eL_isSo_66 : decode method_19_code 66 = .ok (.aload_n 1, 1) := by decide +kernel
theorem eL_isSo_67 : decode method_19_code 67 = .ok (.iload 7, 2) := by decide +kernel
theorem eL_isSo_69 : decode method_19_code 69 = .ok (.aload_n 1, 1) := by decide +kernel
theorem eL_isSo_70 : decode method_19_code 70 = .ok (.iconst 0, 1) := by decide +kernel
theorem eL_isSo_71 : decode method_19_code 71 = .ok (.iaload, 1) := by decide +kernel
theorem eL_isSo_72 : decode method_19_code 72 = .ok (.invokestatic 17, 3) := by decide +kernel
theorem eL_isSo_75 : decode method_19_code 75 = .ok (.istore 8, 2) := by decide +kernel
theorem eL_isSo_77 : decode method_19_code 77 = .ok (.aload_n 1, 1) := by decide +kernel
theorem eL_isSo_78 : decode method_19_code 78 = .ok (.bipush 11, 2) := by decide +kernel
theorem eL_isSo_80 : decode method_19_code 80 = .ok (.bipush 6, 2) := by decide +kernel
theorem eL_isSo_82 : decode method_19_code 82 = .ok (.iload 7, 2) := by decide +kernel
theorem eL_isSo_84 : decode method_19_code 84 = .ok (.imul, 1) := by decide +kernel
theorem eL_isSo_85 : decode method_19_code 85 = .ok (.iadd, 1) := by decide +kernel
theorem eL_isSo_86 : decode method_19_code 86 = .ok (.iaload, 1) := by decide +kernel
theorem eL_isSo_87 : decode method_19_code 87 = .ok (.aload_n 1, 1) := by decide +kernel
theorem eL_isSo_88 : decode method_19_code 88 = .ok (.iconst 4, 1) := by decide +kernel
theorem eL_isSo_89 : decode method_19_code 89 = .ok (.iaload, 1) := by decide +kernel
theorem eL_isSo_90 : decode method_19_code 90 = .ok (.if_icmp .ge 7, 3) := by decide +kernel
theorem eL_isSo_93 : decode method_19_code 93 = .ok (.iconst 1, 1) := by decide +kernel
theorem eL_isSo_94 : decode method_19_code 94 = .ok (.goto 4, 3) := by decide +kernel
theorem eL_isSo_97 : decode method_19_code 97 = .ok (.iconst 0, 1) := by decide +kernel
theorem eL_isSo_98 : decode method_19_code 98 = .ok (.istore 9, 2) := by decide +kernel
theorem eL_isSo_100 : decode method_19_code 100 = .ok (.aload_n 0, 1) := by decide +kernel
theorem eL_isSo_101 : decode method_19_code 101 = .ok (.iload 7, 2) := by decide +kernel
theorem eL_isSo_103 : decode method_19_code 103 = .ok (.bipush 6, 2) := by decide +kernel
theorem eL_isSo_105 : decode method_19_code 105 = .ok (.invokevirtual 69, 3) := by decide +kernel
theorem eL_isSo_108 : decode method_19_code 108 = .ok (.iload 8, 2) := by decide +kernel
theorem eL_isSo_110 : decode method_19_code 110 = .ok (.ifCond .eq 7, 3) := by decide +kernel
theorem eL_isSo_113 : decode method_19_code 113 = .ok (.iconst 1, 1) := by decide +kernel
theorem eL_isSo_114 : decode method_19_code 114 = .ok (.goto 4, 3) := by decide +kernel
theorem eL_isSo_117 : decode method_19_code 117 = .ok (.iconst 0, 1) := by decide +kernel
theorem eL_isSo_118 : decode method_19_code 118 = .ok (.if_icmp .ne 41, 3) := by decide +kernel
theorem eL_isSo_121 : decode method_19_code 121 = .ok (.aload_n 0, 1) := by decide +kernel
theorem eL_isSo_122 : decode method_19_code 122 = .ok (.iload 7, 2) := by decide +kernel
theorem eL_isSo_124 : decode method_19_code 124 = .ok (.bipush 7, 2) := by decide +kernel
theorem eL_isSo_126 : decode method_19_code 126 = .ok (.invokevirtual 69, 3) := by decide +kernel
theorem eL_isSo_129 : decode method_19_code 129 = .ok (.iload 9, 2) := by decide +kernel
theorem eL_isSo_131 : decode method_19_code 131 = .ok (.ifCond .eq 7, 3) := by decide +kernel
theorem eL_isSo_134 : decode method_19_code 134 = .ok (.iconst 1, 1) := by decide +kernel
theorem eL_isSo_135 : decode method_19_code 135 = .ok (.goto 4, 3) := by decide +kernel
theorem eL_isSo_138 : decode method_19_code 138 = .ok (.iconst 0, 1) := by decide +kernel
theorem eL_isSo_139 : decode method_19_code 139 = .ok (.if_icmp .ne 20, 3) := by decide +kernel
theorem eL_isSo_142 : decode method_19_code 142 = .ok (.aload_n 0, 1) := by decide +kernel
theorem eL_isSo_143 : decode method_19_code 143 = .ok (.iload 7, 2) := by decide +kernel
theorem eL_isSo_145 : decode method_19_code 145 = .ok (.bipush 8, 2) := by decide +kernel
theorem eL_isSo_147 : decode method_19_code 147 = .ok (.invokevirtual 69, 3) := by decide +kernel
theorem eL_isSo_150 : decode method_19_code 150 = .ok (.aload_n 1, 1) := by decide +kernel
theorem eL_isSo_151 : decode method_19_code 151 = .ok (.iload 7, 2) := by decide +kernel
theorem eL_isSo_153 : decode method_19_code 153 = .ok (.invokestatic 24, 3) := by decide +kernel
theorem eL_isSo_156 : decode method_19_code 156 = .ok (.if_icmp .eq 5, 3) := by decide +kernel
theorem eL_isSo_159 : decode method_19_code 159 = .ok (.iconst 0, 1) := by decide +kernel
theorem eL_isSo_160 : decode method_19_code 160 = .ok (.ireturn, 1) := by decide +kernel
theorem eL_isSo_161 : decode method_19_code 161 = .ok (.iload_n 2, 1) := by decide +kernel
theorem eL_isSo_162 : decode method_19_code 162 = .ok (.aload_n 1, 1) := by decide +kernel
theorem eL_isSo_163 : decode method_19_code 163 = .ok (.bipush 10, 2) := by decide +kernel
theorem eL_isSo_165 : decode method_19_code 165 = .ok (.bipush 6, 2) := by decide +kernel
theorem eL_isSo_167 : decode method_19_code 167 = .ok (.iload 7, 2) := by decide +kernel
theorem eL_isSo_169 : decode method_19_code 169 = .ok (.imul, 1) := by decide +kernel
theorem eL_isSo_170 : decode method_19_code 170 = .ok (.iadd, 1) := by decide +kernel
theorem eL_isSo_171 : decode method_19_code 171 = .ok (.iaload, 1) := by decide +kernel
theorem eL_isSo_172 : decode method_19_code 172 = .ok (.ior, 1) := by decide +kernel
theorem eL_isSo_173 : decode method_19_code 173 = .ok (.istore_n 2, 1) := by decide +kernel
theorem eL_isSo_174 : decode method_19_code 174 = .ok (.iload_n 3, 1) := by decide +kernel
theorem eL_isSo_175 : decode method_19_code 175 = .ok (.aload_n 1, 1) := by decide +kernel
theorem eL_isSo_176 : decode method_19_code 176 = .ok (.bipush 11, 2) := by decide +kernel
theorem eL_isSo_178 : decode method_19_code 178 = .ok (.bipush 6, 2) := by decide +kernel
theorem eL_isSo_180 : decode method_19_code 180 = .ok (.iload 7, 2) := by decide +kernel
theorem eL_isSo_182 : decode method_19_code 182 = .ok (.imul, 1) := by decide +kernel
theorem eL_isSo_183 : decode method_19_code 183 = .ok (.iadd, 1) := by decide +kernel
theorem eL_isSo_184 : decode method_19_code 184 = .ok (.iaload, 1) := by decide +kernel
theorem eL_isSo_185 : decode method_19_code 185 = .ok (.iadd, 1) := by decide +kernel
theorem eL_isSo_186 : decode method_19_code 186 = .ok (.istore_n 3, 1) := by decide +kernel
theorem eL_isSo_187 : decode method_19_code 187 = .ok (.iload 4, 2) := by decide +kernel
theorem eL_isSo_189 : decode method_19_code 189 = .ok (.aload_n 1, 1) := by decide +kernel
theorem eL_isSo_190 : decode method_19_code 190 = .ok (.bipush 10, 2) := by decide +kernel
theorem eL_isSo_192 : decode method_19_code 192 = .ok (.bipush 6, 2) := by decide +kernel
theorem eL_isSo_194 : decode method_19_code 194 = .ok (.iload 7, 2) := by decide +kernel
theorem eL_isSo_196 : decode method_19_code 196 = .ok (.imul, 1) := by decide +kernel
theorem eL_isSo_197 : decode method_19_code 197 = .ok (.iadd, 1) := by decide +kernel
theorem eL_isSo_198 : decode method_19_code 198 = .ok (.iaload, 1) := by decide +kernel
theorem eL_isSo_199 : decode method_19_code 199 = .ok (.invokestatic 30, 3) := by decide +kernel
theorem eL_isSo_202 : decode method_19_code 202 = .ok (.iadd, 1) := by decide +kernel
theorem eL_isSo_203 : decode method_19_code 203 = .ok (.istore 4, 2) := by decide +kernel
theorem eL_isSo_205 : decode method_19_code 205 = .ok (.iload 9, 2) := by decide +kernel
theorem eL_isSo_207 : decode method_19_code 207 = .ok (.ifCond .eq 6, 3) := by decide +kernel
theorem eL_isSo_210 : decode method_19_code 210 = .ok (.iinc 5 1, 3) := by decide +kernel
theorem eL_isSo_213 : decode method_19_code 213 = .ok (.iload 8, 2) := by decide +kernel
theorem eL_isSo_215 : decode method_19_code 215 = .ok (.ifCond .eq 12, 3) := by decide +kernel
theorem eL_isSo_218 : decode method_19_code 218 = .ok (.iload 6, 2) := by decide +kernel
theorem eL_isSo_220 : decode method_19_code 220 = .ok (.iconst 1, 1) := by decide +kernel
theorem eL_isSo_221 : decode method_19_code 221 = .ok (.iload 7, 2) := by decide +kernel
theorem eL_isSo_223 : decode method_19_code 223 = .ok (.ishl, 1) := by decide +kernel
theorem eL_isSo_224 : decode method_19_code 224 = .ok (.ior, 1) := by decide +kernel
theorem eL_isSo_225 : decode method_19_code 225 = .ok (.istore 6, 2) := by decide +kernel
theorem eL_isSo_227 : decode method_19_code 227 = .ok (.iinc 7 1, 3) := by decide +kernel
theorem eL_isSo_230 : decode method_19_code 230 = .ok (.goto (-214), 3) := by decide +kernel
theorem eL_isSo_233 : decode method_19_code 233 = .ok (.iconst 0, 1) := by decide +kernel
theorem eL_isSo_234 : decode method_19_code 234 = .ok (.istore 7, 2) := by decide +kernel
theorem eL_isSo_236 : decode method_19_code 236 = .ok (.iload 7, 2) := by decide +kernel
theorem eL_isSo_238 : decode method_19_code 238 = .ok (.bipush 10, 2) := by decide +kernel
theorem eL_isSo_240 : decode method_19_code 240 = .ok (.if_icmp .ge 26, 3) := by decide +kernel
theorem eL_isSo_243 : decode method_19_code 243 = .ok (.aload_n 0, 1) := by decide +kernel
theorem eL_isSo_244 : decode method_19_code 244 = .ok (.iload 7, 2) := by decide +kernel
theorem eL_isSo_246 : decode method_19_code 246 = .ok (.invokevirtual 72, 3) := by decide +kernel
theorem eL_isSo_249 : decode method_19_code 249 = .ok (.aload_n 1, 1) := by decide +kernel
theorem eL_isSo_250 : decode method_19_code 250 = .ok (.iload 7, 2) := by decide +kernel
theorem eL_isSo_252 : decode method_19_code 252 = .ok (.invokestatic 7, 3) := by decide +kernel
theorem eL_isSo_255 : decode method_19_code 255 = .ok (.if_icmp .eq 5, 3) := by decide +kernel
theorem eL_isSo_258 : decode method_19_code 258 = .ok (.iconst 0, 1) := by decide +kernel
theorem eL_isSo_259 : decode method_19_code 259 = .ok (.ireturn, 1) := by decide +kernel
theorem eL_isSo_260 : decode method_19_code 260 = .ok (.iinc 7 1, 3) := by decide +kernel
theorem eL_isSo_263 : decode method_19_code 263 = .ok (.goto (-27), 3) := by decide +kernel
theorem eL_isSo_266 : decode method_19_code 266 = .ok (.iconst 0, 1) := by decide +kernel
theorem eL_isSo_267 : decode method_19_code 267 = .ok (.istore 7, 2) := by decide +kernel
theorem eL_isSo_269 : decode method_19_code 269 = .ok (.iload 7, 2) := by decide +kernel
theorem eL_isSo_271 : decode method_19_code 271 = .ok (.iconst 5, 1) := by decide +kernel
theorem eL_isSo_272 : decode method_19_code 272 = .ok (.if_icmp .ge 24, 3) := by decide +kernel
theorem eL_isSo_275 : decode method_19_code 275 = .ok (.aload_n 0, 1) := by decide +kernel
theorem eL_isSo_276 : decode method_19_code 276 = .ok (.iload 7, 2) := by decide +kernel
theorem eL_isSo_278 : decode method_19_code 278 = .ok (.invokevirtual 74, 3) := by decide +kernel
theorem eL_isSo_281 : decode method_19_code 281 = .ok (.aload_n 1, 1) := by decide +kernel
theorem eL_isSo_282 : decode method_19_code 282 = .ok (.iload 7, 2) := by decide +kernel
theorem eL_isSo_284 : decode method_19_code 284 = .ok (.iaload, 1) := by decide +kernel
theorem eL_isSo_285 : decode method_19_code 285 = .ok (.if_icmp .eq 5, 3) := by decide +kernel
theorem eL_isSo_288 : decode method_19_code 288 = .ok (.iconst 0, 1) := by decide +kernel
theorem eL_isSo_289 : decode method_19_code 289 = .ok (.ireturn, 1) := by decide +kernel
theorem eL_isSo_290 : decode method_19_code 290 = .ok (.iinc 7 1, 3) := by decide +kernel
theorem eL_isSo_293 : decode method_19_code 293 = .ok (.goto (-24), 3) := by decide +kernel
theorem eL_isSo_296 : decode method_19_code 296 = .ok (.aload_n 0, 1) := by decide +kernel
theorem eL_isSo_297 : decode method_19_code 297 = .ok (.iconst 5, 1) := by decide +kernel
theorem eL_isSo_298 : decode method_19_code 298 = .ok (.invokevirtual 74, 3) := by decide +kernel
theorem eL_isSo_301 : decode method_19_code 301 = .ok (.iload_n 2, 1) := by decide +kernel
theorem eL_isSo_302 : decode method_19_code 302 = .ok (.if_icmp .ne 60, 3) := by decide +kernel
theorem eL_isSo_305 : decode method_19_code 305 = .ok (.aload_n 0, 1) := by decide +kernel
theorem eL_isSo_306 : decode method_19_code 306 = .ok (.bipush 6, 2) := by decide +kernel
theorem eL_isSo_308 : decode method_19_code 308 = .ok (.invokevirtual 74, 3) := by decide +kernel
theorem eL_isSo_311 : decode method_19_code 311 = .ok (.iload_n 3, 1) := by decide +kernel
theorem eL_isSo_312 : decode method_19_code 312 = .ok (.if_icmp .ne 50, 3) := by decide +kernel
theorem eL_isSo_315 : decode method_19_code 315 = .ok (.aload_n 0, 1) := by decide +kernel
theorem eL_isSo_316 : decode method_19_code 316 = .ok (.aload_n 1, 1) := by decide +kernel
theorem eL_isSo_317 : decode method_19_code 317 = .ok (.iconst 0, 1) := by decide +kernel
theorem eL_isSo_318 : decode method_19_code 318 = .ok (.iaload, 1) := by decide +kernel
theorem eL_isSo_319 : decode method_19_code 319 = .ok (.invokevirtual 77, 3) := by decide +kernel
theorem eL_isSo_322 : decode method_19_code 322 = .ok (.iload 6, 2) := by decide +kernel
theorem eL_isSo_324 : decode method_19_code 324 = .ok (.if_icmp .ne 38, 3) := by decide +kernel
theorem eL_isSo_327 : decode method_19_code 327 = .ok (.aload_n 0, 1) := by decide +kernel
theorem eL_isSo_328 : decode method_19_code 328 = .ok (.iconst 0, 1) := by decide +kernel
theorem eL_isSo_329 : decode method_19_code 329 = .ok (.invokevirtual 79, 3) := by decide +kernel
theorem eL_isSo_332 : decode method_19_code 332 = .ok (.aload_n 1, 1) := by decide +kernel
theorem eL_isSo_333 : decode method_19_code 333 = .ok (.iconst 5, 1) := by decide +kernel
theorem eL_isSo_334 : decode method_19_code 334 = .ok (.iaload, 1) := by decide +kernel
theorem eL_isSo_335 : decode method_19_code 335 = .ok (.if_icmp .ne 27, 3) := by decide +kernel
theorem eL_isSo_338 : decode method_19_code 338 = .ok (.aload_n 0, 1) := by decide +kernel
theorem eL_isSo_339 : decode method_19_code 339 = .ok (.iconst 2, 1) := by decide +kernel
theorem eL_isSo_340 : decode method_19_code 340 = .ok (.invokevirtual 79, 3) := by decide +kernel
theorem eL_isSo_343 : decode method_19_code 343 = .ok (.iload 4, 2) := by decide +kernel
theorem eL_isSo_345 : decode method_19_code 345 = .ok (.if_icmp .ne 17, 3) := by decide +kernel
theorem eL_isSo_348 : decode method_19_code 348 = .ok (.aload_n 0, 1) := by decide +kernel
theorem eL_isSo_349 : decode method_19_code 349 = .ok (.iconst 3, 1) := by decide +kernel
theorem eL_isSo_350 : decode method_19_code 350 = .ok (.invokevirtual 79, 3) := by decide +kernel
theorem eL_isSo_353 : decode method_19_code 353 = .ok (.iload 5, 2) := by decide +kernel
theorem eL_isSo_355 : decode method_19_code 355 = .ok (.if_icmp .ne 7, 3) := by decide +kernel
theorem eL_isSo_358 : decode method_19_code 358 = .ok (.iconst 1, 1) := by decide +kernel
theorem eL_isSo_359 : decode method_19_code 359 = .ok (.goto 4, 3) := by decide +kernel
theorem eL_isSo_362 : decode method_19_code 362 = .ok (.iconst 0, 1) := by decide +kernel
theorem eL_isSo_363 : decode method_19_code 363 = .ok (.ireturn, 1) := by decide +kernel
theorem eL_duty_0 : decode method_4_code 0 = .ok (.aload_n 0, 1) := by decide +kernel
theorem eL_duty_1 : decode method_4_code 1 = .ok (.bipush 6, 2) := by decide +kernel
theorem eL_duty_3 : decode method_4_code 3 = .ok (.bipush 6, 2) := by decide +kernel
theorem eL_duty_5 : decode method_4_code 5 = .ok (.iload_n 1, 1) := by decide +kernel
theorem eL_duty_6 : decode method_4_code 6 = .ok (.imul, 1) := by decide +kernel
theorem eL_duty_7 : decode method_4_code 7 = .ok (.iadd, 1) := by decide +kernel
theorem eL_duty_8 : decode method_4_code 8 = .ok (.iaload, 1) := by decide +kernel
theorem eL_duty_9 : decode method_4_code 9 = .ok (.istore_n 3, 1) := by decide +kernel
theorem eL_duty_10 : decode method_4_code 10 = .ok (.aload_n 0, 1) := by decide +kernel
theorem eL_duty_11 : decode method_4_code 11 = .ok (.bipush 9, 2) := by decide +kernel
theorem eL_duty_13 : decode method_4_code 13 = .ok (.bipush 6, 2) := by decide +kernel
theorem eL_duty_15 : decode method_4_code 15 = .ok (.iload_n 1, 1) := by decide +kernel
theorem eL_duty_16 : decode method_4_code 16 = .ok (.imul, 1) := by decide +kernel
theorem eL_duty_17 : decode method_4_code 17 = .ok (.iadd, 1) := by decide +kernel
theorem eL_duty_18 : decode method_4_code 18 = .ok (.iaload, 1) := by decide +kernel
theorem eL_duty_19 : decode method_4_code 19 = .ok (.istore 4, 2) := by decide +kernel
theorem eL_duty_21 : decode method_4_code 21 = .ok (.iload_n 2, 1) := by decide +kernel
theorem eL_duty_22 : decode method_4_code 22 = .ok (.aload_n 0, 1) := by decide +kernel
theorem eL_duty_23 : decode method_4_code 23 = .ok (.iconst 1, 1) := by decide +kernel
theorem eL_duty_24 : decode method_4_code 24 = .ok (.iaload, 1) := by decide +kernel
theorem eL_duty_25 : decode method_4_code 25 = .ok (.irem, 1) := by decide +kernel
theorem eL_duty_26 : decode method_4_code 26 = .ok (.istore 5, 2) := by decide +kernel
theorem eL_duty_28 : decode method_4_code 28 = .ok (.iload_n 2, 1) := by decide +kernel
theorem eL_duty_29 : decode method_4_code 29 = .ok (.aload_n 0, 1) := by decide +kernel
theorem eL_duty_30 : decode method_4_code 30 = .ok (.iconst 1, 1) := by decide +kernel
theorem eL_duty_31 : decode method_4_code 31 = .ok (.iaload, 1) := by decide +kernel
theorem eL_duty_32 : decode method_4_code 32 = .ok (.idiv, 1) := by decide +kernel
theorem eL_duty_33 : decode method_4_code 33 = .ok (.iconst 4, 1) := by decide +kernel
theorem eL_duty_34 : decode method_4_code 34 = .ok (.irem, 1) := by decide +kernel
theorem eL_duty_35 : decode method_4_code 35 = .ok (.istore 6, 2) := by decide +kernel
theorem eL_duty_37 : decode method_4_code 37 = .ok (.iload_n 3, 1) := by decide +kernel
theorem eL_duty_38 : decode method_4_code 38 = .ok (.iconst 4, 1) := by decide +kernel
theorem eL_duty_39 : decode method_4_code 39 = .ok (.if_icmp .ne 21, 3) := by decide +kernel
theorem eL_duty_42 : decode method_4_code 42 = .ok (.aload_n 0, 1) := by decide +kernel
theorem eL_duty_43 : decode method_4_code 43 = .ok (.iconst 3, 1) := by decide +kernel
theorem eL_duty_44 : decode method_4_code 44 = .ok (.iaload, 1) := by decide +kernel
theorem eL_duty_45 : decode method_4_code 45 = .ok (.iconst 3, 1) := by decide +kernel
theorem eL_duty_46 : decode method_4_code 46 = .ok (.if_icmp .ne 14, 3) := by decide +kernel
theorem eL_duty_49 : decode method_4_code 49 = .ok (.iload 5, 2) := by decide +kernel
theorem eL_duty_51 : decode method_4_code 51 = .ok (.ifCond .ne 7, 3) := by decide +kernel
theorem eL_duty_54 : decode method_4_code 54 = .ok (.iconst 1, 1) := by decide +kernel
theorem eL_duty_55 : decode method_4_code 55 = .ok (.goto 4, 3) := by decide +kernel
theorem eL_duty_58 : decode method_4_code 58 = .ok (.iconst 0, 1) := by decide +kernel
theorem eL_duty_59 : decode method_4_code 59 = .ok (.ireturn, 1) := by decide +kernel
theorem eL_duty_60 : decode method_4_code 60 = .ok (.iload 5, 2) := by decide +kernel
theorem eL_duty_62 : decode method_4_code 62 = .ok (.aload_n 0, 1) := by decide +kernel
theorem eL_duty_63 : decode method_4_code 63 = .ok (.iconst 2, 1) := by decide +kernel
theorem eL_duty_64 : decode method_4_code 64 = .ok (.iaload, 1) := by decide +kernel
theorem eL_duty_65 : decode method_4_code 65 = .ok (.if_icmp .lt 15, 3) := by decide +kernel
theorem eL_duty_68 : decode method_4_code 68 = .ok (.iload_n 3, 1) := by decide +kernel
theorem eL_duty_69 : decode method_4_code 69 = .ok (.iconst 1, 1) := by decide +kernel
theorem eL_duty_70 : decode method_4_code 70 = .ok (.if_icmp .ne 12, 3) := by decide +kernel
theorem eL_duty_73 : decode method_4_code 73 = .ok (.aload_n 0, 1) := by decide +kernel
theorem eL_duty_74 : decode method_4_code 74 = .ok (.iconst 3, 1) := by decide +kernel
theorem eL_duty_75 : decode method_4_code 75 = .ok (.iaload, 1) := by decide +kernel
theorem eL_duty_76 : decode method_4_code 76 = .ok (.iconst 3, 1) := by decide +kernel
theorem eL_duty_77 : decode method_4_code 77 = .ok (.if_icmp .ne 5, 3) := by decide +kernel
theorem eL_duty_80 : decode method_4_code 80 = .ok (.iconst 0, 1) := by decide +kernel
theorem eL_duty_81 : decode method_4_code 81 = .ok (.ireturn, 1) := by decide +kernel
theorem eL_duty_82 : decode method_4_code 82 = .ok (.iload 6, 2) := by decide +kernel
theorem eL_duty_84 : decode method_4_code 84 = .ok (.iload 4, 2) := by decide +kernel
theorem eL_duty_86 : decode method_4_code 86 = .ok (.if_icmp .eq 19, 3) := by decide +kernel
theorem eL_duty_89 : decode method_4_code 89 = .ok (.iload_n 3, 1) := by decide +kernel
theorem eL_duty_90 : decode method_4_code 90 = .ok (.iconst 5, 1) := by decide +kernel
theorem eL_duty_91 : decode method_4_code 91 = .ok (.if_icmp .ne 18, 3) := by decide +kernel
theorem eL_duty_94 : decode method_4_code 94 = .ok (.iload 6, 2) := by decide +kernel
theorem eL_duty_96 : decode method_4_code 96 = .ok (.iload 4, 2) := by decide +kernel
theorem eL_duty_98 : decode method_4_code 98 = .ok (.iconst 1, 1) := by decide +kernel
theorem eL_duty_99 : decode method_4_code 99 = .ok (.iadd, 1) := by decide +kernel
theorem eL_duty_100 : decode method_4_code 100 = .ok (.iconst 4, 1) := by decide +kernel
theorem eL_duty_101 : decode method_4_code 101 = .ok (.irem, 1) := by decide +kernel
theorem eL_duty_102 : decode method_4_code 102 = .ok (.if_icmp .ne 7, 3) := by decide +kernel
theorem eL_duty_105 : decode method_4_code 105 = .ok (.iconst 1, 1) := by decide +kernel
theorem eL_duty_106 : decode method_4_code 106 = .ok (.goto 4, 3) := by decide +kernel
theorem eL_duty_109 : decode method_4_code 109 = .ok (.iconst 0, 1) := by decide +kernel
theorem eL_duty_110 : decode method_4_code 110 = .ok (.ireturn, 1) := by decide +kernel
theorem eL_tires_0 : decode method_6_code 0 = .ok (.aload_n 0, 1) := by decide +kernel
theorem eL_tires_1 : decode method_6_code 1 = .ok (.bipush 6, 2) := by decide +kernel
theorem eL_tires_3 : decode method_6_code 3 = .ok (.bipush 6, 2) := by decide +kernel
theorem eL_tires_5 : decode method_6_code 5 = .ok (.iload_n 1, 1) := by decide +kernel
theorem eL_tires_6 : decode method_6_code 6 = .ok (.imul, 1) := by decide +kernel
theorem eL_tires_7 : decode method_6_code 7 = .ok (.iadd, 1) := by decide +kernel
theorem eL_tires_8 : decode method_6_code 8 = .ok (.iaload, 1) := by decide +kernel
theorem eL_tires_9 : decode method_6_code 9 = .ok (.istore_n 2, 1) := by decide +kernel
theorem eL_tires_10 : decode method_6_code 10 = .ok (.iload_n 2, 1) := by decide +kernel
theorem eL_tires_11 : decode method_6_code 11 = .ok (.iconst 4, 1) := by decide +kernel
theorem eL_tires_12 : decode method_6_code 12 = .ok (.if_icmp .ne 7, 3) := by decide +kernel
theorem eL_tires_15 : decode method_6_code 15 = .ok (.iconst 0, 1) := by decide +kernel
theorem eL_tires_16 : decode method_6_code 16 = .ok (.goto 18, 3) := by decide +kernel
theorem eL_tires_19 : decode method_6_code 19 = .ok (.iload_n 2, 1) := by decide +kernel
theorem eL_tires_20 : decode method_6_code 20 = .ok (.iconst 3, 1) := by decide +kernel
theorem eL_tires_21 : decode method_6_code 21 = .ok (.if_icmp .eq 8, 3) := by decide +kernel
theorem eL_tires_24 : decode method_6_code 24 = .ok (.iload_n 2, 1) := by decide +kernel
theorem eL_tires_25 : decode method_6_code 25 = .ok (.iconst 5, 1) := by decide +kernel
theorem eL_tires_26 : decode method_6_code 26 = .ok (.if_icmp .ne 7, 3) := by decide +kernel
theorem eL_tires_29 : decode method_6_code 29 = .ok (.iconst 2, 1) := by decide +kernel
theorem eL_tires_30 : decode method_6_code 30 = .ok (.goto 4, 3) := by decide +kernel
theorem eL_tires_33 : decode method_6_code 33 = .ok (.iconst 1, 1) := by decide +kernel
theorem eL_tires_34 : decode method_6_code 34 = .ok (.ireturn, 1) := by decide +kernel
theorem eL_reach_0 : decode method_7_code 0 = .ok (.iconst 1, 1) := by decide +kernel
theorem eL_reach_1 : decode method_7_code 1 = .ok (.iload_n 1, 1) := by decide +kernel
theorem eL_reach_2 : decode method_7_code 2 = .ok (.ishl, 1) := by decide +kernel
theorem eL_reach_3 : decode method_7_code 3 = .ok (.istore_n 2, 1) := by decide +kernel
theorem eL_reach_4 : decode method_7_code 4 = .ok (.iconst 0, 1) := by decide +kernel
theorem eL_reach_5 : decode method_7_code 5 = .ok (.istore_n 3, 1) := by decide +kernel
theorem eL_reach_6 : decode method_7_code 6 = .ok (.iload_n 3, 1) := by decide +kernel
theorem eL_reach_7 : decode method_7_code 7 = .ok (.bipush 10, 2) := by decide +kernel
theorem eL_reach_9 : decode method_7_code 9 = .ok (.if_icmp .ge 79, 3) := by decide +kernel
theorem eL_reach_12 : decode method_7_code 12 = .ok (.iconst 0, 1) := by decide +kernel
theorem eL_reach_13 : decode method_7_code 13 = .ok (.istore 4, 2) := by decide +kernel
theorem eL_reach_15 : decode method_7_code 15 = .ok (.iload 4, 2) := by decide +kernel
theorem eL_reach_17 : decode method_7_code 17 = .ok (.aload_n 0, 1) := by decide +kernel
theorem eL_reach_18 : decode method_7_code 18 = .ok (.iconst 5, 1) := by decide +kernel
theorem eL_reach_19 : decode method_7_code 19 = .ok (.iaload, 1) := by decide +kernel
theorem eL_reach_20 : decode method_7_code 20 = .ok (.if_icmp .ge 62, 3) := by decide +kernel
theorem eL_reach_23 : decode method_7_code 23 = .ok (.iconst 1, 1) := by decide +kernel
theorem eL_reach_24 : decode method_7_code 24 = .ok (.aload_n 0, 1) := by decide +kernel
theorem eL_reach_25 : decode method_7_code 25 = .ok (.bipush 7, 2) := by decide +kernel
theorem eL_reach_27 : decode method_7_code 27 = .ok (.bipush 6, 2) := by decide +kernel
theorem eL_reach_29 : decode method_7_code 29 = .ok (.iload 4, 2) := by decide +kernel
theorem eL_reach_31 : decode method_7_code 31 = .ok (.imul, 1) := by decide +kernel
theorem eL_reach_32 : decode method_7_code 32 = .ok (.iadd, 1) := by decide +kernel
theorem eL_reach_33 : decode method_7_code 33 = .ok (.iaload, 1) := by decide +kernel
theorem eL_reach_34 : decode method_7_code 34 = .ok (.ishl, 1) := by decide +kernel
theorem eL_reach_35 : decode method_7_code 35 = .ok (.iconst 1, 1) := by decide +kernel
theorem eL_reach_36 : decode method_7_code 36 = .ok (.aload_n 0, 1) := by decide +kernel
theorem eL_reach_37 : decode method_7_code 37 = .ok (.bipush 8, 2) := by decide +kernel
theorem eL_reach_39 : decode method_7_code 39 = .ok (.bipush 6, 2) := by decide +kernel
theorem eL_reach_41 : decode method_7_code 41 = .ok (.iload 4, 2) := by decide +kernel
theorem eL_reach_43 : decode method_7_code 43 = .ok (.imul, 1) := by decide +kernel
theorem eL_reach_44 : decode method_7_code 44 = .ok (.iadd, 1) := by decide +kernel
theorem eL_reach_45 : decode method_7_code 45 = .ok (.iaload, 1) := by decide +kernel
theorem eL_reach_46 : decode method_7_code 46 = .ok (.ishl, 1) := by decide +kernel
theorem eL_reach_47 : decode method_7_code 47 = .ok (.ior, 1) := by decide +kernel
theorem eL_reach_48 : decode method_7_code 48 = .ok (.istore 5, 2) := by decide +kernel
theorem eL_reach_50 : decode method_7_code 50 = .ok (.aload_n 0, 1) := by decide +kernel
theorem eL_reach_51 : decode method_7_code 51 = .ok (.bipush 6, 2) := by decide +kernel
theorem eL_reach_53 : decode method_7_code 53 = .ok (.bipush 6, 2) := by decide +kernel
theorem eL_reach_55 : decode method_7_code 55 = .ok (.iload 4, 2) := by decide +kernel
theorem eL_reach_57 : decode method_7_code 57 = .ok (.imul, 1) := by decide +kernel
theorem eL_reach_58 : decode method_7_code 58 = .ok (.iadd, 1) := by decide +kernel
theorem eL_reach_59 : decode method_7_code 59 = .ok (.iaload, 1) := by decide +kernel
theorem eL_reach_60 : decode method_7_code 60 = .ok (.iconst 3, 1) := by decide +kernel
theorem eL_reach_61 : decode method_7_code 61 = .ok (.if_icmp .ne 15, 3) := by decide +kernel
theorem eL_reach_64 : decode method_7_code 64 = .ok (.iload 5, 2) := by decide +kernel
theorem eL_reach_66 : decode method_7_code 66 = .ok (.iload_n 2, 1) := by decide +kernel
theorem eL_reach_67 : decode method_7_code 67 = .ok (.iand, 1) := by decide +kernel
theorem eL_reach_68 : decode method_7_code 68 = .ok (.ifCond .eq 8, 3) := by decide +kernel
theorem eL_reach_71 : decode method_7_code 71 = .ok (.iload_n 2, 1) := by decide +kernel
theorem eL_reach_72 : decode method_7_code 72 = .ok (.iload 5, 2) := by decide +kernel
theorem eL_reach_74 : decode method_7_code 74 = .ok (.ior, 1) := by decide +kernel
theorem eL_reach_75 : decode method_7_code 75 = .ok (.istore_n 2, 1) := by decide +kernel
theorem eL_reach_76 : decode method_7_code 76 = .ok (.iinc 4 1, 3) := by decide +kernel
theorem eL_reach_79 : decode method_7_code 79 = .ok (.goto (-64), 3) := by decide +kernel
theorem eL_reach_82 : decode method_7_code 82 = .ok (.iinc 3 1, 3) := by decide +kernel
theorem eL_reach_85 : decode method_7_code 85 = .ok (.goto (-79), 3) := by decide +kernel
theorem eL_reach_88 : decode method_7_code 88 = .ok (.iload_n 2, 1) := by decide +kernel
theorem eL_reach_89 : decode method_7_code 89 = .ok (.ireturn, 1) := by decide +kernel
def dL_at (LL : Nat) (xs : Nat → Int32) (f : Nat) (a1 : Int32) (mem : Mem) : Option (Int32 × Mem) := if a1 < (Int32.ofNat LL) then (ck a1 LL (some ((xs a1.toNatClampNeg), mem))) else (some ((((41 : Int32) * a1) + (13 : Int32)), mem))
def dL_mod (f : Nat) (a0 : Int32) (a1 : Int32) (mem : Mem) : Option (Int32 × Mem) := if a1 = 0 then none else (if (a0 % a1) < 0 then (some (((a0 % a1) + a1), mem)) else (some ((a0 % a1), mem)))
def dL_wall (f : Nat) (a2 : Int32) (a3 : Int32) (a4 : Int32) (mem : Mem) : Option (Int32 × Mem) := bd (dW_wall f a2 a3 a4 mem) (fun r1 m1 => if r1 = (gI mem 13 0 5) then (ck ((6 : Int32) + ((6 : Int32) * (gI mem 13 0 5))) 66 (ck ((7 : Int32) + ((6 : Int32) * (gI mem 13 0 5))) 66 (ck ((8 : Int32) + ((6 : Int32) * (gI mem 13 0 5))) 66 (ck ((9 : Int32) + ((6 : Int32) * (gI mem 13 0 5))) 66 (ck ((10 : Int32) + ((6 : Int32) * (gI mem 13 0 5))) 66 (ck ((11 : Int32) + ((6 : Int32) * (gI mem 13 0 5))) 66 (some ((1 : Int32), (sI (sI (sI (sI (sI (sI (sI m1 13 0 ((6 : Int32) + ((6 : Int32) * (gI mem 13 0 5))).toNatClampNeg a2) 13 0 ((7 : Int32) + ((6 : Int32) * (gI mem 13 0 5))).toNatClampNeg a3) 13 0 ((8 : Int32) + ((6 : Int32) * (gI mem 13 0 5))).toNatClampNeg a4) 13 0 ((9 : Int32) + ((6 : Int32) * (gI mem 13 0 5))).toNatClampNeg (0 : Int32)) 13 0 ((10 : Int32) + ((6 : Int32) * (gI mem 13 0 5))).toNatClampNeg (0 : Int32)) 13 0 ((11 : Int32) + ((6 : Int32) * (gI mem 13 0 5))).toNatClampNeg (0 : Int32)) 13 0 5 ((gI (sI (sI (sI (sI (sI (sI m1 13 0 ((6 : Int32) + ((6 : Int32) * (gI mem 13 0 5))).toNatClampNeg a2) 13 0 ((7 : Int32) + ((6 : Int32) * (gI mem 13 0 5))).toNatClampNeg a3) 13 0 ((8 : Int32) + ((6 : Int32) * (gI mem 13 0 5))).toNatClampNeg a4) 13 0 ((9 : Int32) + ((6 : Int32) * (gI mem 13 0 5))).toNatClampNeg (0 : Int32)) 13 0 ((10 : Int32) + ((6 : Int32) * (gI mem 13 0 5))).toNatClampNeg (0 : Int32)) 13 0 ((11 : Int32) + ((6 : Int32) * (gI mem 13 0 5))).toNatClampNeg (0 : Int32)) 13 0 5) + (1 : Int32))))))))))) else (some ((0 : Int32), m1)))
def dL_minute_20 (f : Nat) : Nat → Int32 → Mem → Option (Unit × Mem)
  | 0, _, _ => none
  | n + 1, x1, mem => if x1 < (gI mem 13 0 5) then (ck ((9 : Int32) + ((6 : Int32) * x1)) 66 (if (gI mem 13 0 1) = 0 then none else (if (4 : Int32) = 0 then none else (if (gI mem 13 0 ((9 : Int32) + ((6 : Int32) * x1)).toNatClampNeg) = (((gI mem 13 0 0) / (gI mem 13 0 1)) % (4 : Int32)) then (ck ((11 : Int32) + ((6 : Int32) * x1)) 66 (dL_minute_20 f n (x1 + (1 : Int32)) (sI mem 13 0 ((11 : Int32) + ((6 : Int32) * x1)).toNatClampNeg (0 : Int32)))) else (dL_minute_20 f n (x1 + (1 : Int32)) mem))))) else (some ((), mem))
def dL_minute (f : Nat)  (mem : Mem) : Option (Unit × Mem) := if (gI (sI mem 13 0 0 ((gI mem 13 0 0) + (1 : Int32))) 13 0 1) = 0 then none else (if 0 < ((gI (sI mem 13 0 0 ((gI mem 13 0 0) + (1 : Int32))) 13 0 0) % (gI (sI mem 13 0 0 ((gI mem 13 0 0) + (1 : Int32))) 13 0 1)) then (some ((), (sI mem 13 0 0 ((gI mem 13 0 0) + (1 : Int32))))) else (dL_minute_20 f f (0 : Int32) (sI mem 13 0 0 ((gI mem 13 0 0) + (1 : Int32)))))
def dL_lay_223 (LL : Nat) (xs : Nat → Int32) (f : Nat) (k143 : Int32 → Int32 → Int32 → Mem → Option (Int32 × Mem)) (x3 : Int32) (x4 : Int32) (x5 : Int32) (x6 : Int32) (s2 : Int32) (s3 : Int32) (s4 : Int32) (s5 : Int32) (mem : Mem) : Option (Int32 × Mem) := bd (dL_mod f s4 s5 mem) (fun r1 m1 => bd (dL_wall f s2 s3 r1 m1) (fun r2 m2 => if r2 = 0 then (some ((0 : Int32), m2)) else (bd (dW_set f x5 (3 : Int32) ((x6 >>> ((10 : Int32) &&& 31)) &&& (3 : Int32)) m2) (fun r3 m3 => if r3 = 0 then (ck ((9 : Int32) + ((6 : Int32) * x5)) 66 (if 0 < ((x6 >>> ((12 : Int32) &&& 31)) &&& (3 : Int32)) then (k143 x3 x4 (x5 + (1 : Int32)) (sI m3 13 0 ((9 : Int32) + ((6 : Int32) * x5)).toNatClampNeg ((x6 >>> ((10 : Int32) &&& 31)) &&& (3 : Int32)))) else (bd (dL_mod f (x6 * (31 : Int32)) (65536 : Int32) (sI m3 13 0 ((9 : Int32) + ((6 : Int32) * x5)).toNatClampNeg ((x6 >>> ((10 : Int32) &&& 31)) &&& (3 : Int32)))) (fun r4 m4 => bd (dL_mod f (x6 >>> ((8 : Int32) &&& 31)) (9 : Int32) m4) (fun r5 m5 => bd (dW_set f x5 (4 : Int32) r4 m5) (fun r6 m6 => if r6 = 0 then (bd (dW_set f x5 (5 : Int32) r5 m6) (fun r7 m7 => if r7 = 0 then (ck ((10 : Int32) + ((6 : Int32) * x5)) 66 (ck ((11 : Int32) + ((6 : Int32) * x5)) 66 (k143 x3 x4 (x5 + (1 : Int32)) (sI (sI m7 13 0 ((10 : Int32) + ((6 : Int32) * x5)).toNatClampNeg r4) 13 0 ((11 : Int32) + ((6 : Int32) * x5)).toNatClampNeg r5)))) else (some ((0 : Int32), m7)))) else (some ((0 : Int32), m6)))))))) else (some ((0 : Int32), m3))))))
def dL_lay_199 (LL : Nat) (xs : Nat → Int32) (f : Nat) (k143 : Int32 → Int32 → Int32 → Mem → Option (Int32 × Mem)) (x3 : Int32) (x4 : Int32) (x5 : Int32) (x6 : Int32) (s2 : Int32) (s3 : Int32) (s4 : Int32) (mem : Mem) : Option (Int32 × Mem) := bd (dL_mod f s3 s4 mem) (fun r1 m1 => if ((x6 >>> ((14 : Int32) &&& 31)) &&& (1 : Int32)) = 0 then (dL_lay_223 LL xs f k143 x3 x4 x5 x6 s2 r1 (x6 >>> ((6 : Int32) &&& 31)) (3 : Int32) m1) else (dL_lay_223 LL xs f k143 x3 x4 x5 x6 s2 r1 (x6 >>> ((6 : Int32) &&& 31)) (10 : Int32) m1))
def dL_lay_376 (LL : Nat) (xs : Nat → Int32) (f : Nat) : Nat → Int32 → Int32 → Mem → Option (Int32 × Mem)
  | 0, _, _, _ => none
  | n + 1, x5, x6, mem => if x6 < x5 then (bd (dL_minute f  mem) (fun r1 m1 => dL_lay_376 LL xs f n x5 (x6 + (1 : Int32)) m1)) else (if x5 = 0 then (some ((1 : Int32), mem)) else (bd (dW_pass f x5 mem) (fun r2 m2 => if r2 = x5 then (some ((1 : Int32), m2)) else (some ((0 : Int32), m2)))))
def dL_lay_143 (LL : Nat) (xs : Nat → Int32) (f : Nat) : Nat → Int32 → Int32 → Int32 → Mem → Option (Int32 × Mem)
  | 0, _, _, _, _ => none
  | n + 1, x3, x4, x5, mem => if x5 < x4 then (if (5 : Int32) = 0 then none else (bd (dL_at LL xs f ((1 : Int32) + (x5 % (5 : Int32))) mem) (fun r1 m1 => if (5 : Int32) = 0 then none else (bd (dL_mod f (r1 >>> (((15 : Int32) * (x5 / (5 : Int32))) &&& 31)) (6 : Int32) m1) (fun r2 m2 => if (((r1 >>> (((15 : Int32) * (x5 / (5 : Int32))) &&& 31)) >>> ((14 : Int32) &&& 31)) &&& (1 : Int32)) = 0 then (dL_lay_199 LL xs f (fun x3_ x4_ x5_ mem_ => dL_lay_143 LL xs f n x3_ x4_ x5_ mem_) x3 x4 x5 (r1 >>> (((15 : Int32) * (x5 / (5 : Int32))) &&& 31)) r2 ((r1 >>> (((15 : Int32) * (x5 / (5 : Int32))) &&& 31)) >>> ((3 : Int32) &&& 31)) (3 : Int32) m2) else (dL_lay_199 LL xs f (fun x3_ x4_ x5_ mem_ => dL_lay_143 LL xs f n x3_ x4_ x5_ mem_) x3 x4 x5 (r1 >>> (((15 : Int32) * (x5 / (5 : Int32))) &&& 31)) r2 ((r1 >>> (((15 : Int32) * (x5 / (5 : Int32))) &&& 31)) >>> ((3 : Int32) &&& 31)) (10 : Int32) m2)))))) else (bd (dL_mod f (x3 >>> ((20 : Int32) &&& 31)) (40 : Int32) mem) (fun r3 m3 => dL_lay_376 LL xs f f r3 (0 : Int32) m3))
def dL_lay_50 (LL : Nat) (xs : Nat → Int32) (f : Nat) (x3 : Int32) (s1 : Int32) (s2 : Int32) (s3 : Int32) (mem : Mem) : Option (Int32 × Mem) := bd (dL_mod f s2 s3 mem) (fun r1 m1 => ck s1 66 (bd (dL_mod f (x3 >>> ((11 : Int32) &&& 31)) (20 : Int32) (sI (sI m1 13 0 s1.toNatClampNeg r1) 13 0 3 ((x3 >>> ((9 : Int32) &&& 31)) &&& (3 : Int32)))) (fun r2 m2 => bd (dW_rota f (0 : Int32) (gI (sI m2 13 0 4 ((1 : Int32) + r2)) 13 0 1) (sI m2 13 0 4 ((1 : Int32) + r2))) (fun r3 m3 => if r3 = (15 : Int32) then (bd (dW_rota f (1 : Int32) (gI m3 13 0 2) m3) (fun r4 m4 => if r4 = (2 : Int32) then (bd (dW_rota f (2 : Int32) (gI m4 13 0 3) m4) (fun r5 m5 => if r5 = 0 then (bd (dW_rota f (3 : Int32) (gI m5 13 0 4) m5) (fun r6 m6 => if r6 = (5 : Int32) then (bd (dL_mod f (x3 >>> ((16 : Int32) &&& 31)) (10 : Int32) m6) (fun r7 m7 => dL_lay_143 LL xs f f x3 ((1 : Int32) + r7) (0 : Int32) m7)) else (some ((0 : Int32), m6)))) else (some ((0 : Int32), m5)))) else (some ((0 : Int32), m4)))) else (some ((0 : Int32), m3))))))
def dL_lay_25 (LL : Nat) (xs : Nat → Int32) (f : Nat) (x3 : Int32) (s1 : Int32) (s2 : Int32) (s3 : Int32) (s4 : Int32) (mem : Mem) : Option (Int32 × Mem) := bd (dL_mod f s3 s4 mem) (fun r1 m1 => ck s1 66 (if ((x3 >>> ((7 : Int32) &&& 31)) &&& (3 : Int32)) = 0 then (dL_lay_50 LL xs f x3 (2 : Int32) (x3 >>> ((5 : Int32) &&& 31)) (12 : Int32) (sI m1 13 0 s1.toNatClampNeg (s2 + r1))) else (dL_lay_50 LL xs f x3 (2 : Int32) (x3 >>> ((5 : Int32) &&& 31)) (3 : Int32) (sI m1 13 0 s1.toNatClampNeg (s2 + r1)))))
def dL_lay (LL : Nat) (xs : Nat → Int32) (f : Nat)  (mem : Mem) : Option (Int32 × Mem) := bd (dL_at LL xs f (0 : Int32) mem) (fun r1 m1 => if ((r1 >>> ((3 : Int32) &&& 31)) &&& (3 : Int32)) = 0 then (dL_lay_25 LL xs f r1 (1 : Int32) (1 : Int32) r1 (60 : Int32) m1) else (dL_lay_25 LL xs f r1 (1 : Int32) (1 : Int32) r1 (9 : Int32) m1))
def dL_isUnheard_9 (f : Nat) : Nat → Int32 → Int32 → Int32 → Mem → Option (Int32 × Mem)
  | 0, _, _, _, _ => none
  | n + 1, x2, x3, x4, mem => bd (dW_count f (0 : Int32) mem) (fun r1 m1 => if x4 < r1 then (if ((x2 >>> (x4 &&& 31)) &&& (1 : Int32)) = (1 : Int32) then (bd (dW_of f x4 (6 : Int32) m1) (fun r2 m2 => if r2 = (1 : Int32) then (bd (dW_of f x4 (1 : Int32) m2) (fun r3 m3 => bd (dW_of f x4 (2 : Int32) m3) (fun r4 m4 => if ((((1 : Int32) <<< (r3 &&& 31)) ||| ((1 : Int32) <<< (r4 &&& 31))) &&& x3) = 0 then (dL_isUnheard_9 f n x2 x3 (x4 + (1 : Int32)) m4) else (some ((0 : Int32), m4))))) else (dL_isUnheard_9 f n x2 x3 (x4 + (1 : Int32)) m2))) else (dL_isUnheard_9 f n x2 x3 (x4 + (1 : Int32)) m1)) else (some ((1 : Int32), m1)))
def dL_isUnheard (f : Nat) (a1 : Int32) (a2 : Int32) (mem : Mem) : Option (Int32 × Mem) := bd (dW_reach f a1 mem) (fun r1 m1 => dL_isUnheard_9 f f a2 r1 (0 : Int32) m1)
def dL_ones_4 (f : Nat) : Nat → Int32 → Int32 → Int32 → Mem → Option (Int32 × Mem)
  | 0, _, _, _, _ => none
  | n + 1, x0, x1, x2, mem => if x2 < (16 : Int32) then (dL_ones_4 f n x0 (x1 + ((x0 >>> (x2 &&& 31)) &&& (1 : Int32))) (x2 + (1 : Int32)) mem) else (some (x1, mem))
def dL_ones (f : Nat) (a0 : Int32) (mem : Mem) : Option (Int32 × Mem) := dL_ones_4 f f a0 (0 : Int32) (0 : Int32) mem
def dL_duty_82 (f : Nat) (x3 : Int32) (x4 : Int32) (x6 : Int32) (mem : Mem) : Option (Int32 × Mem) := if x6 = x4 then (some ((1 : Int32), mem)) else (if x3 = (5 : Int32) then (if (4 : Int32) = 0 then none else (if x6 = ((x4 + (1 : Int32)) % (4 : Int32)) then (some ((1 : Int32), mem)) else (some ((0 : Int32), mem)))) else (some ((0 : Int32), mem)))
def dL_duty_60 (f : Nat) (x3 : Int32) (x4 : Int32) (x5 : Int32) (x6 : Int32) (mem : Mem) : Option (Int32 × Mem) := if x5 < (gI mem 13 0 2) then (some ((0 : Int32), mem)) else (if x3 = (1 : Int32) then (if (gI mem 13 0 3) = (3 : Int32) then (some ((0 : Int32), mem)) else (dL_duty_82 f x3 x4 x6 mem)) else (dL_duty_82 f x3 x4 x6 mem))
def dL_duty (f : Nat) (a1 : Int32) (a2 : Int32) (mem : Mem) : Option (Int32 × Mem) := ck ((6 : Int32) + ((6 : Int32) * a1)) 66 (ck ((9 : Int32) + ((6 : Int32) * a1)) 66 (if (gI mem 13 0 1) = 0 then none else (if (gI mem 13 0 1) = 0 then none else (if (4 : Int32) = 0 then none else (if (gI mem 13 0 ((6 : Int32) + ((6 : Int32) * a1)).toNatClampNeg) = (4 : Int32) then (if (gI mem 13 0 3) = (3 : Int32) then (if (a2 % (gI mem 13 0 1)) = 0 then (some ((1 : Int32), mem)) else (some ((0 : Int32), mem))) else (dL_duty_60 f (gI mem 13 0 ((6 : Int32) + ((6 : Int32) * a1)).toNatClampNeg) (gI mem 13 0 ((9 : Int32) + ((6 : Int32) * a1)).toNatClampNeg) (a2 % (gI mem 13 0 1)) ((a2 / (gI mem 13 0 1)) % (4 : Int32)) mem)) else (dL_duty_60 f (gI mem 13 0 ((6 : Int32) + ((6 : Int32) * a1)).toNatClampNeg) (gI mem 13 0 ((9 : Int32) + ((6 : Int32) * a1)).toNatClampNeg) (a2 % (gI mem 13 0 1)) ((a2 / (gI mem 13 0 1)) % (4 : Int32)) mem))))))
def dL_tires (f : Nat) (a1 : Int32) (mem : Mem) : Option (Int32 × Mem) := ck ((6 : Int32) + ((6 : Int32) * a1)) 66 (if (gI mem 13 0 ((6 : Int32) + ((6 : Int32) * a1)).toNatClampNeg) = (4 : Int32) then (some ((0 : Int32), mem)) else (if (gI mem 13 0 ((6 : Int32) + ((6 : Int32) * a1)).toNatClampNeg) = (3 : Int32) then (some ((2 : Int32), mem)) else (if (gI mem 13 0 ((6 : Int32) + ((6 : Int32) * a1)).toNatClampNeg) = (5 : Int32) then (some ((2 : Int32), mem)) else (some ((1 : Int32), mem)))))
def dL_reach_15 (f : Nat) (k6 : Int32 → Int32 → Mem → Option (Int32 × Mem)) : Nat → Int32 → Int32 → Int32 → Mem → Option (Int32 × Mem)
  | 0, _, _, _, _ => none
  | n + 1, x2, x3, x4, mem => if x4 < (gI mem 13 0 5) then (ck ((7 : Int32) + ((6 : Int32) * x4)) 66 (ck ((8 : Int32) + ((6 : Int32) * x4)) 66 (ck ((6 : Int32) + ((6 : Int32) * x4)) 66 (if (gI mem 13 0 ((6 : Int32) + ((6 : Int32) * x4)).toNatClampNeg) = (3 : Int32) then (if ((((1 : Int32) <<< ((gI mem 13 0 ((7 : Int32) + ((6 : Int32) * x4)).toNatClampNeg) &&& 31)) ||| ((1 : Int32) <<< ((gI mem 13 0 ((8 : Int32) + ((6 : Int32) * x4)).toNatClampNeg) &&& 31))) &&& x2) = 0 then (dL_reach_15 f k6 n x2 x3 (x4 + (1 : Int32)) mem) else (dL_reach_15 f k6 n (x2 ||| (((1 : Int32) <<< ((gI mem 13 0 ((7 : Int32) + ((6 : Int32) * x4)).toNatClampNeg) &&& 31)) ||| ((1 : Int32) <<< ((gI mem 13 0 ((8 : Int32) + ((6 : Int32) * x4)).toNatClampNeg) &&& 31)))) x3 (x4 + (1 : Int32)) mem)) else (dL_reach_15 f k6 n x2 x3 (x4 + (1 : Int32)) mem))))) else (k6 x2 (x3 + (1 : Int32)) mem)
def dL_reach_6 (f : Nat) : Nat → Int32 → Int32 → Mem → Option (Int32 × Mem)
  | 0, _, _, _ => none
  | n + 1, x2, x3, mem => if x3 < (10 : Int32) then (dL_reach_15 f (fun x2_ x3_ mem_ => dL_reach_6 f n x2_ x3_ mem_) f x2 x3 (0 : Int32) mem) else (some (x2, mem))
def dL_reach (f : Nat) (a1 : Int32) (mem : Mem) : Option (Int32 × Mem) := dL_reach_6 f f ((1 : Int32) <<< (a1 &&& 31)) (0 : Int32) mem
def dL_isSo_213 (f : Nat) (k16 : Int32 → Int32 → Int32 → Int32 → Int32 → Int32 → Mem → Option (Int32 × Mem)) (x2 : Int32) (x3 : Int32) (x4 : Int32) (x5 : Int32) (x6 : Int32) (x7 : Int32) (x8 : Int32) (mem : Mem) : Option (Int32 × Mem) := if x8 = 0 then (k16 x2 x3 x4 x5 x6 (x7 + (1 : Int32)) mem) else (k16 x2 x3 x4 x5 (x6 ||| ((1 : Int32) <<< (x7 &&& 31))) (x7 + (1 : Int32)) mem)
def dL_isSo_139 (f : Nat) (k16 : Int32 → Int32 → Int32 → Int32 → Int32 → Int32 → Mem → Option (Int32 × Mem)) (x2 : Int32) (x3 : Int32) (x4 : Int32) (x5 : Int32) (x6 : Int32) (x7 : Int32) (x8 : Int32) (x9 : Int32) (s0 : Int32) (s1 : Int32) (mem : Mem) : Option (Int32 × Mem) := if s0 = s1 then (bd (dW_of f x7 (8 : Int32) mem) (fun r1 m1 => bd (dL_tires f x7 m1) (fun r2 m2 => if r1 = r2 then (ck ((10 : Int32) + ((6 : Int32) * x7)) 66 (ck ((11 : Int32) + ((6 : Int32) * x7)) 66 (ck ((10 : Int32) + ((6 : Int32) * x7)) 66 (bd (dL_ones f (gI m2 13 0 ((10 : Int32) + ((6 : Int32) * x7)).toNatClampNeg) m2) (fun r3 m3 => if x9 = 0 then (dL_isSo_213 f k16 (x2 ||| (gI m2 13 0 ((10 : Int32) + ((6 : Int32) * x7)).toNatClampNeg)) (x3 + (gI m2 13 0 ((11 : Int32) + ((6 : Int32) * x7)).toNatClampNeg)) (x4 + r3) x5 x6 x7 x8 m3) else (dL_isSo_213 f k16 (x2 ||| (gI m2 13 0 ((10 : Int32) + ((6 : Int32) * x7)).toNatClampNeg)) (x3 + (gI m2 13 0 ((11 : Int32) + ((6 : Int32) * x7)).toNatClampNeg)) (x4 + r3) (x5 + (1 : Int32)) x6 x7 x8 m3)))))) else (some ((0 : Int32), m2))))) else (some ((0 : Int32), mem))
def dL_isSo_118 (f : Nat) (k16 : Int32 → Int32 → Int32 → Int32 → Int32 → Int32 → Mem → Option (Int32 × Mem)) (x2 : Int32) (x3 : Int32) (x4 : Int32) (x5 : Int32) (x6 : Int32) (x7 : Int32) (x8 : Int32) (x9 : Int32) (s0 : Int32) (s1 : Int32) (mem : Mem) : Option (Int32 × Mem) := if s0 = s1 then (bd (dW_of f x7 (7 : Int32) mem) (fun r1 m1 => if x9 = 0 then (dL_isSo_139 f k16 x2 x3 x4 x5 x6 x7 x8 x9 r1 (0 : Int32) m1) else (dL_isSo_139 f k16 x2 x3 x4 x5 x6 x7 x8 x9 r1 (1 : Int32) m1))) else (some ((0 : Int32), mem))
def dL_isSo_98 (f : Nat) (k16 : Int32 → Int32 → Int32 → Int32 → Int32 → Int32 → Mem → Option (Int32 × Mem)) (x2 : Int32) (x3 : Int32) (x4 : Int32) (x5 : Int32) (x6 : Int32) (x7 : Int32) (x8 : Int32) (s0 : Int32) (mem : Mem) : Option (Int32 × Mem) := bd (dW_of f x7 (6 : Int32) mem) (fun r1 m1 => if x8 = 0 then (dL_isSo_118 f k16 x2 x3 x4 x5 x6 x7 x8 s0 r1 (0 : Int32) m1) else (dL_isSo_118 f k16 x2 x3 x4 x5 x6 x7 x8 s0 r1 (1 : Int32) m1))
def dL_isSo_27 (f : Nat) (k16 : Int32 → Int32 → Int32 → Int32 → Int32 → Int32 → Mem → Option (Int32 × Mem)) : Nat → Int32 → Int32 → Int32 → Int32 → Int32 → Int32 → Int32 → Mem → Option (Int32 × Mem)
  | 0, _, _, _, _, _, _, _, _ => none
  | n + 1, x2, x3, x4, x5, x6, x7, x8, mem => if x8 < (6 : Int32) then (bd (dW_of f x7 x8 mem) (fun r1 m1 => ck (((6 : Int32) + ((6 : Int32) * x7)) + x8) 66 (if r1 = (gI m1 13 0 (((6 : Int32) + ((6 : Int32) * x7)) + x8).toNatClampNeg) then (dL_isSo_27 f k16 n x2 x3 x4 x5 x6 x7 (x8 + (1 : Int32)) m1) else (some ((0 : Int32), m1))))) else (bd (dL_duty f x7 (gI mem 13 0 0) mem) (fun r2 m2 => ck ((11 : Int32) + ((6 : Int32) * x7)) 66 (if (gI m2 13 0 ((11 : Int32) + ((6 : Int32) * x7)).toNatClampNeg) < (gI m2 13 0 4) then (dL_isSo_98 f k16 x2 x3 x4 x5 x6 x7 r2 (1 : Int32) m2) else (dL_isSo_98 f k16 x2 x3 x4 x5 x6 x7 r2 (0 : Int32) m2))))
def dL_isSo_269 (f : Nat) : Nat → Int32 → Int32 → Int32 → Int32 → Int32 → Int32 → Mem → Option (Int32 × Mem)
  | 0, _, _, _, _, _, _, _ => none
  | n + 1, x2, x3, x4, x5, x6, x7, mem => if x7 < (5 : Int32) then (bd (dW_now f x7 mem) (fun r1 m1 => ck x7 66 (if r1 = (gI m1 13 0 x7.toNatClampNeg) then (dL_isSo_269 f n x2 x3 x4 x5 x6 (x7 + (1 : Int32)) m1) else (some ((0 : Int32), m1))))) else (bd (dW_now f (5 : Int32) mem) (fun r2 m2 => if r2 = x2 then (bd (dW_now f (6 : Int32) m2) (fun r3 m3 => if r3 = x3 then (bd (dW_duty f (gI m3 13 0 0) m3) (fun r4 m4 => if r4 = x6 then (bd (dW_count f (0 : Int32) m4) (fun r5 m5 => if r5 = (gI m5 13 0 5) then (bd (dW_count f (2 : Int32) m5) (fun r6 m6 => if r6 = x4 then (bd (dW_count f (3 : Int32) m6) (fun r7 m7 => if r7 = x5 then (some ((1 : Int32), m7)) else (some ((0 : Int32), m7)))) else (some ((0 : Int32), m6)))) else (some ((0 : Int32), m5)))) else (some ((0 : Int32), m4)))) else (some ((0 : Int32), m3)))) else (some ((0 : Int32), m2))))
def dL_isSo_236 (f : Nat) : Nat → Int32 → Int32 → Int32 → Int32 → Int32 → Int32 → Mem → Option (Int32 × Mem)
  | 0, _, _, _, _, _, _, _ => none
  | n + 1, x2, x3, x4, x5, x6, x7, mem => if x7 < (10 : Int32) then (bd (dW_reach f x7 mem) (fun r1 m1 => bd (dL_reach f x7 m1) (fun r2 m2 => if r1 = r2 then (dL_isSo_236 f n x2 x3 x4 x5 x6 (x7 + (1 : Int32)) m2) else (some ((0 : Int32), m2))))) else (dL_isSo_269 f f x2 x3 x4 x5 x6 (0 : Int32) mem)
def dL_isSo_16 (f : Nat) : Nat → Int32 → Int32 → Int32 → Int32 → Int32 → Int32 → Mem → Option (Int32 × Mem)
  | 0, _, _, _, _, _, _, _ => none
  | n + 1, x2, x3, x4, x5, x6, x7, mem => if x7 < (gI mem 13 0 5) then (dL_isSo_27 f (fun x2_ x3_ x4_ x5_ x6_ x7_ mem_ => dL_isSo_16 f n x2_ x3_ x4_ x5_ x6_ x7_ mem_) f x2 x3 x4 x5 x6 x7 (0 : Int32) mem) else (dL_isSo_236 f f x2 x3 x4 x5 x6 (0 : Int32) mem)
def dL_isSo (f : Nat)  (mem : Mem) : Option (Int32 × Mem) := dL_isSo_16 f f (0 : Int32) (0 : Int32) (0 : Int32) (0 : Int32) (0 : Int32) (0 : Int32) mem
set_option maxHeartbeats 4000000 in
set_option maxRecDepth 100000 in
theorem cL_at {LL : Nat} {xs : Nat → Int32} {f : Nat} {a1 : Int32} {mem : Mem} {o : Int32} {mem' : Mem}  (h : dL_at LL xs f a1 mem = some (o, mem')) : RTx LL xs yL_at method_3_code 2 (Option.some Jvm.ClassFile.FieldType.int) (rmM 0 0) [aR 24 0, aI a1] mem (some (aI o)) mem' := by
  refine RTx.of (by decide +kernel) (Nat.le_of_ble_eq_true rfl) (fun p l e s m args below meth c k hL hx X hr => ?_)
  subst hL
  subst hx
  replace X : CX p s m args meth c k method_3_code 2 "WallShiftsLaw" := X
  unfold dL_at at h
  refine v_sub (lv' := [(0, _), (1, _)]) [0, 1] rfl ?_
  refine v_aload_n X (pc := 0) 0 rfl eL_at_0 rfl ?_
  refine v_slen X (pc := 1) eL_at_1 ?_
  refine v_iload_n X (pc := 2) 1 rfl eL_at_2 rfl ?_
  refine v_icmp_le X (pc := 3) (tgt := 12) h eL_at_3 (by decide) (fun h => ?_) (fun h => ?_)
  · refine v_aload_n X (pc := 6) 0 rfl eL_at_6 rfl ?_
    refine v_iload_n X (pc := 7) 1 rfl eL_at_7 rfl ?_
    refine v_sld X (pc := 8) h eL_at_8 (fun h => ?_)
    refine v_goto X (pc := 9) (tgt := 19) eL_at_9 (by decide) ?_
    exact v_iret X (pc := 19) h hr eL_at_19
  · refine v_bipush X (pc := 12) (v := (41 : Int32)) eL_at_12 (by decide) ?_
    refine v_iload_n X (pc := 14) 1 rfl eL_at_14 rfl ?_
    refine v_imul X (pc := 15) eL_at_15 ?_
    refine v_bipush X (pc := 16) (v := (13 : Int32)) eL_at_16 (by decide) ?_
    refine v_iadd X (pc := 18) eL_at_18 ?_
    exact v_iret X (pc := 19) h hr eL_at_19
set_option maxHeartbeats 4000000 in
set_option maxRecDepth 100000 in
theorem cL_mod {f : Nat} {a0 : Int32} {a1 : Int32} {mem : Mem} {o : Int32} {mem' : Mem}  (h : dL_mod f a0 a1 mem = some (o, mem')) : RT yL_mod method_2_code 3 (Option.some Jvm.ClassFile.FieldType.int) (rmM 0 0) [aI a0, aI a1] mem (some (aI o)) mem' := by
  refine RT.of (by decide +kernel) (Nat.le_of_ble_eq_true rfl) (fun p l e s m args below meth c k X hr => ?_)
  replace X : CX p s m args meth c k method_2_code 3 "WallShiftsLaw" := X
  unfold dL_mod at h
  refine v_sub (lv' := [(0, _), (1, _)]) [0, 1] rfl ?_
  refine v_iload_n X (pc := 0) 0 rfl eL_mod_0 rfl ?_
  refine v_iload_n X (pc := 1) 1 rfl eL_mod_1 rfl ?_
  refine v_irem X (pc := 2) h eL_mod_2 (fun h => ?_)
  refine v_istore_n X (pc := 3) (lv' := [(2, _), (0, _), (1, _)]) eL_mod_3 rfl (Nat.le_of_ble_eq_true rfl) rfl ?_
  refine v_iload_n X (pc := 4) 0 rfl eL_mod_4 rfl ?_
  refine v_if_ge X (pc := 5) (tgt := 14) h eL_mod_5 (by decide) (fun h => ?_) (fun h => ?_)
  · refine v_iload_n X (pc := 8) 0 rfl eL_mod_8 rfl ?_
    refine v_iload_n X (pc := 9) 2 rfl eL_mod_9 rfl ?_
    refine v_iadd X (pc := 10) eL_mod_10 ?_
    refine v_goto X (pc := 11) (tgt := 15) eL_mod_11 (by decide) ?_
    exact v_iret X (pc := 15) h hr eL_mod_15
  · refine v_iload_n X (pc := 14) 0 rfl eL_mod_14 rfl ?_
    exact v_iret X (pc := 15) h hr eL_mod_15
set_option maxHeartbeats 4000000 in
set_option maxRecDepth 100000 in
theorem cL_wall {f : Nat} {a2 : Int32} {a3 : Int32} {a4 : Int32} {mem : Mem} {o : Int32} {mem' : Mem}  (h : dL_wall f a2 a3 a4 mem = some (o, mem')) : RT yL_wall method_17_code 6 (Option.some Jvm.ClassFile.FieldType.boolean) (rmM 3 67) [aR 0 0, aR 13 0, aI a2, aI a3, aI a4] mem (some (aI o)) mem' := by
  refine RT.of (by decide +kernel) (Nat.le_of_ble_eq_true rfl) (fun p l e s m args below meth c k X hr => ?_)
  replace X : CX p s m args meth c k method_17_code 6 "WallShiftsLaw" := X
  unfold dL_wall at h
  refine v_sub (lv' := [(0, _), (1, _), (2, _), (3, _), (4, _)]) [0, 1, 2, 3, 4] rfl ?_
  refine v_aload_n X (pc := 0) 1 rfl eL_wall_0 rfl ?_
  refine v_iconst X (pc := 1) (v := (5 : Int32)) eL_wall_1 (by decide) ?_
  refine v_ialdK X (pc := 2) (n := 66) 5 (by decide) (by decide) (by decide) (by decide) rfl eL_wall_2 ?_
  refine v_istore X (pc := 3) (lv' := [(5, _), (0, _), (1, _), (2, _), (3, _), (4, _)]) eL_wall_3 (Nat.le_of_ble_eq_true rfl) rfl ?_
  refine v_aload_n X (pc := 5) 1 rfl eL_wall_5 rfl ?_
  refine v_iload_n X (pc := 6) 3 rfl eL_wall_6 rfl ?_
  refine v_iload_n X (pc := 7) 4 rfl eL_wall_7 rfl ?_
  refine v_iload X (pc := 8) 5 rfl eL_wall_8 ?_
  obtain ⟨r1, m1, hc1, h⟩ := bd_some h
  refine v_callV X (pc := 10) [_, _, _] [] ok_V_L_44 (cW_wall  hc1) rfl (Nat.le_of_ble_eq_true rfl) ⟨Nat.le_of_ble_eq_true rfl, Nat.le_of_ble_eq_true rfl⟩ ⟨Nat.zero_le _, Nat.zero_le _⟩ (by decide) (by decide) rfl rfl eL_wall_10 ?_
  refine v_iload X (pc := 13) 0 rfl eL_wall_13 ?_
  refine v_icmp_eq X (pc := 15) (tgt := 20) h eL_wall_15 (by decide) (fun h => ?_) (fun h => ?_)
  · refine v_aload_n X (pc := 20) 2 rfl eL_wall_20 rfl ?_
    refine v_bipush X (pc := 21) (v := (6 : Int32)) eL_wall_21 (by decide) ?_
    refine v_bipush X (pc := 23) (v := (6 : Int32)) eL_wall_23 (by decide) ?_
    refine v_iload X (pc := 25) 0 rfl eL_wall_25 ?_
    refine v_imul X (pc := 27) eL_wall_27 ?_
    refine v_iadd X (pc := 28) eL_wall_28 ?_
    refine v_iload_n X (pc := 29) 3 rfl eL_wall_29 rfl ?_
    refine v_iast X (pc := 30) h (by decide) (by decide) (fun _ => rfl) eL_wall_30 (fun h => ?_)
    refine v_aload_n X (pc := 31) 2 rfl eL_wall_31 rfl ?_
    refine v_bipush X (pc := 32) (v := (7 : Int32)) eL_wall_32 (by decide) ?_
    refine v_bipush X (pc := 34) (v := (6 : Int32)) eL_wall_34 (by decide) ?_
    refine v_iload X (pc := 36) 0 rfl eL_wall_36 ?_
    refine v_imul X (pc := 38) eL_wall_38 ?_
    refine v_iadd X (pc := 39) eL_wall_39 ?_
    refine v_iload_n X (pc := 40) 4 rfl eL_wall_40 rfl ?_
    refine v_iast X (pc := 41) h (by decide) (by decide) (fun _ => rfl) eL_wall_41 (fun h => ?_)
    refine v_aload_n X (pc := 42) 2 rfl eL_wall_42 rfl ?_
    refine v_bipush X (pc := 43) (v := (8 : Int32)) eL_wall_43 (by decide) ?_
    refine v_bipush X (pc := 45) (v := (6 : Int32)) eL_wall_45 (by decide) ?_
    refine v_iload X (pc := 47) 0 rfl eL_wall_47 ?_
    refine v_imul X (pc := 49) eL_wall_49 ?_
    refine v_iadd X (pc := 50) eL_wall_50 ?_
    refine v_iload X (pc := 51) 5 rfl eL_wall_51 ?_
    refine v_iast X (pc := 53) h (by decide) (by decide) (fun _ => rfl) eL_wall_53 (fun h => ?_)
    refine v_aload_n X (pc := 54) 2 rfl eL_wall_54 rfl ?_
    refine v_bipush X (pc := 55) (v := (9 : Int32)) eL_wall_55 (by decide) ?_
    refine v_bipush X (pc := 57) (v := (6 : Int32)) eL_wall_57 (by decide) ?_
    refine v_iload X (pc := 59) 0 rfl eL_wall_59 ?_
    refine v_imul X (pc := 61) eL_wall_61 ?_
    refine v_iadd X (pc := 62) eL_wall_62 ?_
    refine v_iconst X (pc := 63) (v := (0 : Int32)) eL_wall_63 (by decide) ?_
    refine v_iast X (pc := 64) h (by decide) (by decide) (fun _ => rfl) eL_wall_64 (fun h => ?_)
    refine v_aload_n X (pc := 65) 2 rfl eL_wall_65 rfl ?_
    refine v_bipush X (pc := 66) (v := (10 : Int32)) eL_wall_66 (by decide) ?_
    refine v_bipush X (pc := 68) (v := (6 : Int32)) eL_wall_68 (by decide) ?_
    refine v_iload X (pc := 70) 0 rfl eL_wall_70 ?_
    refine v_imul X (pc := 72) eL_wall_72 ?_
    refine v_iadd X (pc := 73) eL_wall_73 ?_
    refine v_iconst X (pc := 74) (v := (0 : Int32)) eL_wall_74 (by decide) ?_
    refine v_iast X (pc := 75) h (by decide) (by decide) (fun _ => rfl) eL_wall_75 (fun h => ?_)
    refine v_aload_n X (pc := 76) 2 rfl eL_wall_76 rfl ?_
    refine v_bipush X (pc := 77) (v := (11 : Int32)) eL_wall_77 (by decide) ?_
    refine v_bipush X (pc := 79) (v := (6 : Int32)) eL_wall_79 (by decide) ?_
    refine v_iload X (pc := 81) 0 rfl eL_wall_81 ?_
    refine v_imul X (pc := 83) eL_wall_83 ?_
    refine v_iadd X (pc := 84) eL_wall_84 ?_
    refine v_iconst X (pc := 85) (v := (0 : Int32)) eL_wall_85 (by decide) ?_
    refine v_iast X (pc := 86) h (by decide) (by decide) (fun _ => rfl) eL_wall_86 (fun h => ?_)
    refine v_aload_n X (pc := 87) 2 rfl eL_wall_87 rfl ?_
    refine v_iconst X (pc := 88) (v := (5 : Int32)) eL_wall_88 (by decide) ?_
    refine v_dup2 X (pc := 89) rfl rfl eL_wall_89 ?_
    refine v_ialdK X (pc := 90) (n := 66) 5 (by decide) (by decide) (by decide) (by decide) rfl eL_wall_90 ?_
    refine v_iconst X (pc := 91) (v := (1 : Int32)) eL_wall_91 (by decide) ?_
    refine v_iadd X (pc := 92) eL_wall_92 ?_
    refine v_iastK X (pc := 93) (n := 66) 5 (by decide) (by decide) (by decide) (by decide) (fun _ => rfl) eL_wall_93 ?_
    refine v_iconst X (pc := 94) (v := (1 : Int32)) eL_wall_94 (by decide) ?_
    exact v_zret X (pc := 95) h hr rfl eL_wall_95
  · refine v_iconst X (pc := 18) (v := (0 : Int32)) eL_wall_18 (by decide) ?_
    exact v_zret X (pc := 19) h hr rfl eL_wall_19
set_option maxHeartbeats 4000000 in
set_option maxRecDepth 100000 in
theorem cL_minute_20 {p : Program} {l : Launch} {e : Env} {s : State} {m : MethodId} {args : Array Value} {below : List Frame} {meth : Method} {c : Code} {k : KK} {f : Nat} {o : Unit} {mem' : Mem} (X : CX p s m args meth c k method_10_code 2 "WallShiftsLaw") (hr : meth.sig.returnType = (Option.none : Option Jvm.ClassFile.FieldType)) : ∀ (n : Nat) (x1 : Int32) (mem : Mem), dL_minute_20 f n x1 mem = some (o, mem') → V p l e (rmM 0 0) s m args below meth c 0 0 (MQ below (RQc k none mem') args s 0 0 (kA k)) k 2 mem 20 [(0, aR 13 0), (1, aI x1)] [] := by
  intro n
  induction n with
  | zero =>
    intro x1 mem  h
    exact nomatch (show (none : Option (Unit × Mem)) = some _ from h)
  | succ n ih =>
    intro x1 mem  h
    rw [dL_minute_20] at h
    refine v_iload_n X (pc := 20) 1 rfl eL_minute_20 rfl ?_
    refine v_aload_n X (pc := 21) 0 rfl eL_minute_21 rfl ?_
    refine v_iconst X (pc := 22) (v := (5 : Int32)) eL_minute_22 (by decide) ?_
    refine v_ialdK X (pc := 23) (n := 66) 5 (by decide) (by decide) (by decide) (by decide) rfl eL_minute_23 ?_
    refine v_icmp_ge X (pc := 24) (tgt := 64) h eL_minute_24 (by decide) (fun h => ?_) (fun h => ?_)
    · refine v_aload_n X (pc := 27) 0 rfl eL_minute_27 rfl ?_
      refine v_bipush X (pc := 28) (v := (9 : Int32)) eL_minute_28 (by decide) ?_
      refine v_bipush X (pc := 30) (v := (6 : Int32)) eL_minute_30 (by decide) ?_
      refine v_iload_n X (pc := 32) 1 rfl eL_minute_32 rfl ?_
      refine v_imul X (pc := 33) eL_minute_33 ?_
      refine v_iadd X (pc := 34) eL_minute_34 ?_
      refine v_iald X (pc := 35) h (by decide) (by decide) rfl eL_minute_35 (fun h => ?_)
      refine v_aload_n X (pc := 36) 0 rfl eL_minute_36 rfl ?_
      refine v_iconst X (pc := 37) (v := (0 : Int32)) eL_minute_37 (by decide) ?_
      refine v_ialdK X (pc := 38) (n := 66) 0 (by decide) (by decide) (by decide) (by decide) rfl eL_minute_38 ?_
      refine v_aload_n X (pc := 39) 0 rfl eL_minute_39 rfl ?_
      refine v_iconst X (pc := 40) (v := (1 : Int32)) eL_minute_40 (by decide) ?_
      refine v_ialdK X (pc := 41) (n := 66) 1 (by decide) (by decide) (by decide) (by decide) rfl eL_minute_41 ?_
      refine v_idiv X (pc := 42) h eL_minute_42 (fun h => ?_)
      refine v_iconst X (pc := 43) (v := (4 : Int32)) eL_minute_43 (by decide) ?_
      refine v_irem X (pc := 44) h eL_minute_44 (fun h => ?_)
      refine v_icmp_ne X (pc := 45) (tgt := 58) h eL_minute_45 (by decide) (fun h => ?_) (fun h => ?_)
      · refine v_aload_n X (pc := 48) 0 rfl eL_minute_48 rfl ?_
        refine v_bipush X (pc := 49) (v := (11 : Int32)) eL_minute_49 (by decide) ?_
        refine v_bipush X (pc := 51) (v := (6 : Int32)) eL_minute_51 (by decide) ?_
        refine v_iload_n X (pc := 53) 1 rfl eL_minute_53 rfl ?_
        refine v_imul X (pc := 54) eL_minute_54 ?_
        refine v_iadd X (pc := 55) eL_minute_55 ?_
        refine v_iconst X (pc := 56) (v := (0 : Int32)) eL_minute_56 (by decide) ?_
        refine v_iast X (pc := 57) h (by decide) (by decide) (fun _ => rfl) eL_minute_57 (fun h => ?_)
        refine v_iinc X (pc := 58) (v := (x1 + (1 : Int32))) (lv' := [(1, _), (0, _)]) 1 rfl (by rfl) eL_minute_58 (Nat.le_of_ble_eq_true rfl) rfl ?_
        refine v_goto X (pc := 61) (tgt := 20) eL_minute_61 (by decide) ?_
        exact v_sub [1, 0] rfl (ih _ _  h)
      · refine v_iinc X (pc := 58) (v := (x1 + (1 : Int32))) (lv' := [(1, _), (0, _)]) 1 rfl (by rfl) eL_minute_58 (Nat.le_of_ble_eq_true rfl) rfl ?_
        refine v_goto X (pc := 61) (tgt := 20) eL_minute_61 (by decide) ?_
        exact v_sub [1, 0] rfl (ih _ _  h)
    · exact v_vret X (pc := 64) h hr eL_minute_64
set_option maxHeartbeats 4000000 in
set_option maxRecDepth 100000 in
theorem cL_minute {f : Nat}  {mem : Mem} {o : Unit} {mem' : Mem}  (h : dL_minute f  mem = some (o, mem')) : RT yL_minute method_10_code 2 (Option.none : Option Jvm.ClassFile.FieldType) (rmM 0 0) [aR 13 0] mem none mem' := by
  refine RT.of (by decide +kernel) (Nat.le_of_ble_eq_true rfl) (fun p l e s m args below meth c k X hr => ?_)
  replace X : CX p s m args meth c k method_10_code 2 "WallShiftsLaw" := X
  unfold dL_minute at h
  refine v_sub (lv' := [(0, _)]) [0] rfl ?_
  refine v_aload_n X (pc := 0) 0 rfl eL_minute_0 rfl ?_
  refine v_iconst X (pc := 1) (v := (0 : Int32)) eL_minute_1 (by decide) ?_
  refine v_dup2 X (pc := 2) rfl rfl eL_minute_2 ?_
  refine v_ialdK X (pc := 3) (n := 66) 0 (by decide) (by decide) (by decide) (by decide) rfl eL_minute_3 ?_
  refine v_iconst X (pc := 4) (v := (1 : Int32)) eL_minute_4 (by decide) ?_
  refine v_iadd X (pc := 5) eL_minute_5 ?_
  refine v_iastK X (pc := 6) (n := 66) 0 (by decide) (by decide) (by decide) (by decide) (fun _ => rfl) eL_minute_6 ?_
  refine v_aload_n X (pc := 7) 0 rfl eL_minute_7 rfl ?_
  refine v_iconst X (pc := 8) (v := (0 : Int32)) eL_minute_8 (by decide) ?_
  refine v_ialdK X (pc := 9) (n := 66) 0 (by decide) (by decide) (by decide) (by decide) rfl eL_minute_9 ?_
  refine v_aload_n X (pc := 10) 0 rfl eL_minute_10 rfl ?_
  refine v_iconst X (pc := 11) (v := (1 : Int32)) eL_minute_11 (by decide) ?_
  refine v_ialdK X (pc := 12) (n := 66) 1 (by decide) (by decide) (by decide) (by decide) rfl eL_minute_12 ?_
  refine v_irem X (pc := 13) h eL_minute_13 (fun h => ?_)
  refine v_if_le X (pc := 14) (tgt := 18) h eL_minute_14 (by decide) (fun h => ?_) (fun h => ?_)
  · exact v_vret X (pc := 17) h hr eL_minute_17
  · refine v_iconst X (pc := 18) (v := (0 : Int32)) eL_minute_18 (by decide) ?_
    refine v_istore_n X (pc := 19) (lv' := [(1, _), (0, _)]) eL_minute_19 rfl (Nat.le_of_ble_eq_true rfl) rfl ?_
    exact v_sub [1, 0] rfl (cL_minute_20 X hr _ _ _  h)
set_option maxHeartbeats 4000000 in
set_option maxRecDepth 100000 in
theorem cL_lay_223 {p : Program} {l : Launch} {e : Env} {s : State} {m : MethodId} {args : Array Value} {below : List Frame} {meth : Method} {c : Code} {k : KK} {f : Nat} {o : Int32} {mem' : Mem} (X : CX p s m args meth c k method_18_code 10 "WallShiftsLaw") (hr : meth.sig.returnType = (Option.some Jvm.ClassFile.FieldType.boolean)) {k143 : Int32 → Int32 → Int32 → Mem → Option (Int32 × Mem)} (hk143 : ∀ (x3 : Int32) (x4 : Int32) (x5 : Int32) (mem : Mem), k143 x3 x4 x5 mem = some (o, mem') → V p l e (rmM 4 92) s m args below meth c 0 0 (MQ below (RQc k (some (aI o)) mem') args s 0 0 (kA k)) k 10 mem 143 [(0, aR 0 0), (1, aR 24 0), (2, aR 13 0), (3, aI x3), (4, aI x4), (5, aI x5)] []) : ∀ (x3 : Int32) (x4 : Int32) (x5 : Int32) (x6 : Int32) (s2 : Int32) (s3 : Int32) (s4 : Int32) (s5 : Int32) (mem : Mem), dL_lay_223 (kL k) (kx k) f k143 x3 x4 x5 x6 s2 s3 s4 s5 mem = some (o, mem') → V p l e (rmM 4 92) s m args below meth c 0 0 (MQ below (RQc k (some (aI o)) mem') args s 0 0 (kA k)) k 10 mem 223 [(0, aR 0 0), (1, aR 24 0), (2, aR 13 0), (3, aI x3), (4, aI x4), (5, aI x5), (6, aI x6)] [aI s5, aI s4, aI s3, aI s2, aR 13 0, aR 0 0] := by
  intro x3 x4 x5 x6 s2 s3 s4 s5 mem  h
  unfold dL_lay_223 at h
  obtain ⟨r1, m1, hc1, h⟩ := bd_some h
  refine v_callS X (pc := 223) [_, _] [_, _, _, _] ok_S_L_52 (cL_mod  hc1) rfl (Nat.le_of_ble_eq_true rfl) ⟨Nat.le_of_ble_eq_true rfl, Nat.le_of_ble_eq_true rfl⟩ ⟨Nat.zero_le _, Nat.zero_le _⟩ eL_lay_223 ?_
  obtain ⟨r2, m2, hc2, h⟩ := bd_some h
  refine v_callS X (pc := 226) [_, _, _, _, _] [] ok_S_L_59 (cL_wall  hc2) rfl (Nat.le_of_ble_eq_true rfl) ⟨Nat.le_of_ble_eq_true rfl, Nat.le_of_ble_eq_true rfl⟩ ⟨Nat.zero_le _, Nat.zero_le _⟩ eL_lay_226 ?_
  refine v_if_ne X (pc := 229) (tgt := 234) h eL_lay_229 (by decide) (fun h => ?_) (fun h => ?_)
  · refine v_iconst X (pc := 232) (v := (0 : Int32)) eL_lay_232 (by decide) ?_
    exact v_zret X (pc := 233) h hr rfl eL_lay_233
  · refine v_iload X (pc := 234) 6 rfl eL_lay_234 ?_
    refine v_bipush X (pc := 236) (v := (10 : Int32)) eL_lay_236 (by decide) ?_
    refine v_ishr X (pc := 238) eL_lay_238 ?_
    refine v_iconst X (pc := 239) (v := (3 : Int32)) eL_lay_239 (by decide) ?_
    refine v_iand X (pc := 240) eL_lay_240 ?_
    refine v_istore X (pc := 241) (lv' := [(7, _), (0, _), (1, _), (2, _), (3, _), (4, _), (5, _), (6, _)]) eL_lay_241 (Nat.le_of_ble_eq_true rfl) rfl ?_
    refine v_aload_n X (pc := 243) 1 rfl eL_lay_243 rfl ?_
    refine v_iload X (pc := 244) 6 rfl eL_lay_244 ?_
    refine v_iconst X (pc := 246) (v := (3 : Int32)) eL_lay_246 (by decide) ?_
    refine v_iload X (pc := 247) 0 rfl eL_lay_247 ?_
    obtain ⟨r3, m3, hc3, h⟩ := bd_some h
    refine v_callV X (pc := 249) [_, _, _] [] ok_V_L_62 (cW_set  hc3) rfl (Nat.le_of_ble_eq_true rfl) ⟨Nat.le_of_ble_eq_true rfl, Nat.le_of_ble_eq_true rfl⟩ ⟨Nat.zero_le _, Nat.zero_le _⟩ (by decide) (by decide) rfl rfl eL_lay_249 ?_
    refine v_if_eq X (pc := 252) (tgt := 257) h eL_lay_252 (by decide) (fun h => ?_) (fun h => ?_)
    · refine v_aload_n X (pc := 257) 3 rfl eL_lay_257 rfl ?_
      refine v_bipush X (pc := 258) (v := (9 : Int32)) eL_lay_258 (by decide) ?_
      refine v_bipush X (pc := 260) (v := (6 : Int32)) eL_lay_260 (by decide) ?_
      refine v_iload X (pc := 262) 6 rfl eL_lay_262 ?_
      refine v_imul X (pc := 264) eL_lay_264 ?_
      refine v_iadd X (pc := 265) eL_lay_265 ?_
      refine v_iload X (pc := 266) 0 rfl eL_lay_266 ?_
      refine v_iast X (pc := 268) h (by decide) (by decide) (fun _ => rfl) eL_lay_268 (fun h => ?_)
      refine v_iload X (pc := 269) 7 rfl eL_lay_269 ?_
      refine v_bipush X (pc := 271) (v := (12 : Int32)) eL_lay_271 (by decide) ?_
      refine v_ishr X (pc := 273) eL_lay_273 ?_
      refine v_iconst X (pc := 274) (v := (3 : Int32)) eL_lay_274 (by decide) ?_
      refine v_iand X (pc := 275) eL_lay_275 ?_
      refine v_if_le X (pc := 276) (tgt := 282) h eL_lay_276 (by decide) (fun h => ?_) (fun h => ?_)
      · refine v_goto X (pc := 279) (tgt := 356) eL_lay_279 (by decide) ?_
        refine v_iinc X (pc := 356) (v := (x5 + (1 : Int32))) (lv' := [(5, _), (7, _), (0, _), (1, _), (2, _), (3, _), (4, _), (6, _)]) 6 rfl (by rfl) eL_lay_356 (Nat.le_of_ble_eq_true rfl) rfl ?_
        refine v_goto X (pc := 359) (tgt := 143) eL_lay_359 (by decide) ?_
        exact v_sub [2, 3, 4, 5, 6, 0] rfl (hk143 _ _ _ _  h)
      · refine v_iload X (pc := 282) 7 rfl eL_lay_282 ?_
        refine v_bipush X (pc := 284) (v := (31 : Int32)) eL_lay_284 (by decide) ?_
        refine v_imul X (pc := 286) eL_lay_286 ?_
        refine v_ldc X (pc := 287) qw_359 eL_lay_287 ?_
        obtain ⟨r4, m4, hc4, h⟩ := bd_some h
        refine v_callS X (pc := 289) [_, _] [] ok_S_L_52 (cL_mod  hc4) rfl (Nat.le_of_ble_eq_true rfl) ⟨Nat.le_of_ble_eq_true rfl, Nat.le_of_ble_eq_true rfl⟩ ⟨Nat.zero_le _, Nat.zero_le _⟩ eL_lay_289 ?_
        refine v_istore X (pc := 292) (lv' := [(8, _), (7, _), (0, _), (1, _), (2, _), (3, _), (4, _), (5, _), (6, _)]) eL_lay_292 (Nat.le_of_ble_eq_true rfl) rfl ?_
        refine v_iload X (pc := 294) 8 rfl eL_lay_294 ?_
        refine v_bipush X (pc := 296) (v := (8 : Int32)) eL_lay_296 (by decide) ?_
        refine v_ishr X (pc := 298) eL_lay_298 ?_
        refine v_bipush X (pc := 299) (v := (9 : Int32)) eL_lay_299 (by decide) ?_
        obtain ⟨r5, m5, hc5, h⟩ := bd_some h
        refine v_callS X (pc := 301) [_, _] [] ok_S_L_52 (cL_mod  hc5) rfl (Nat.le_of_ble_eq_true rfl) ⟨Nat.le_of_ble_eq_true rfl, Nat.le_of_ble_eq_true rfl⟩ ⟨Nat.zero_le _, Nat.zero_le _⟩ eL_lay_301 ?_
        refine v_istore X (pc := 304) (lv' := [(9, _), (8, _), (7, _), (0, _), (1, _), (2, _), (3, _), (4, _), (5, _), (6, _)]) eL_lay_304 (Nat.le_of_ble_eq_true rfl) rfl ?_
        refine v_aload_n X (pc := 306) 3 rfl eL_lay_306 rfl ?_
        refine v_iload X (pc := 307) 8 rfl eL_lay_307 ?_
        refine v_iconst X (pc := 309) (v := (4 : Int32)) eL_lay_309 (by decide) ?_
        refine v_iload X (pc := 310) 1 rfl eL_lay_310 ?_
        obtain ⟨r6, m6, hc6, h⟩ := bd_some h
        refine v_callV X (pc := 312) [_, _, _] [] ok_V_L_62 (cW_set  hc6) rfl (Nat.le_of_ble_eq_true rfl) ⟨Nat.le_of_ble_eq_true rfl, Nat.le_of_ble_eq_true rfl⟩ ⟨Nat.zero_le _, Nat.zero_le _⟩ (by decide) (by decide) rfl rfl eL_lay_312 ?_
        refine v_if_ne X (pc := 315) (tgt := 330) h eL_lay_315 (by decide) (fun h => ?_) (fun h => ?_)
        · refine v_aload_n X (pc := 318) 3 rfl eL_lay_318 rfl ?_
          refine v_iload X (pc := 319) 8 rfl eL_lay_319 ?_
          refine v_iconst X (pc := 321) (v := (5 : Int32)) eL_lay_321 (by decide) ?_
          refine v_iload X (pc := 322) 0 rfl eL_lay_322 ?_
          obtain ⟨r7, m7, hc7, h⟩ := bd_some h
          refine v_callV X (pc := 324) [_, _, _] [] ok_V_L_62 (cW_set  hc7) rfl (Nat.le_of_ble_eq_true rfl) ⟨Nat.le_of_ble_eq_true rfl, Nat.le_of_ble_eq_true rfl⟩ ⟨Nat.zero_le _, Nat.zero_le _⟩ (by decide) (by decide) rfl rfl eL_lay_324 ?_
          refine v_if_eq X (pc := 327) (tgt := 332) h eL_lay_327 (by decide) (fun h => ?_) (fun h => ?_)
          · refine v_aload_n X (pc := 332) 5 rfl eL_lay_332 rfl ?_
            refine v_bipush X (pc := 333) (v := (10 : Int32)) eL_lay_333 (by decide) ?_
            refine v_bipush X (pc := 335) (v := (6 : Int32)) eL_lay_335 (by decide) ?_
            refine v_iload X (pc := 337) 8 rfl eL_lay_337 ?_
            refine v_imul X (pc := 339) eL_lay_339 ?_
            refine v_iadd X (pc := 340) eL_lay_340 ?_
            refine v_iload X (pc := 341) 1 rfl eL_lay_341 ?_
            refine v_iast X (pc := 343) h (by decide) (by decide) (fun _ => rfl) eL_lay_343 (fun h => ?_)
            refine v_aload_n X (pc := 344) 5 rfl eL_lay_344 rfl ?_
            refine v_bipush X (pc := 345) (v := (11 : Int32)) eL_lay_345 (by decide) ?_
            refine v_bipush X (pc := 347) (v := (6 : Int32)) eL_lay_347 (by decide) ?_
            refine v_iload X (pc := 349) 8 rfl eL_lay_349 ?_
            refine v_imul X (pc := 351) eL_lay_351 ?_
            refine v_iadd X (pc := 352) eL_lay_352 ?_
            refine v_iload X (pc := 353) 0 rfl eL_lay_353 ?_
            refine v_iast X (pc := 355) h (by decide) (by decide) (fun _ => rfl) eL_lay_355 (fun h => ?_)
            refine v_iinc X (pc := 356) (v := (x5 + (1 : Int32))) (lv' := [(5, _), (9, _), (8, _), (7, _), (0, _), (1, _), (2, _), (3, _), (4, _), (6, _)]) 8 rfl (by rfl) eL_lay_356 (Nat.le_of_ble_eq_true rfl) rfl ?_
            refine v_goto X (pc := 359) (tgt := 143) eL_lay_359 (by decide) ?_
            exact v_sub [4, 5, 6, 7, 8, 0] rfl (hk143 _ _ _ _  h)
          · refine v_iconst X (pc := 330) (v := (0 : Int32)) eL_lay_330 (by decide) ?_
            exact v_zret X (pc := 331) h hr rfl eL_lay_331
        · refine v_iconst X (pc := 330) (v := (0 : Int32)) eL_lay_330 (by decide) ?_
          exact v_zret X (pc := 331) h hr rfl eL_lay_331
    · refine v_iconst X (pc := 255) (v := (0 : Int32)) eL_lay_255 (by decide) ?_
      exact v_zret X (pc := 256) h hr rfl eL_lay_256
set_option maxHeartbeats 4000000 in
set_option maxRecDepth 100000 in
theorem cL_lay_199 {p : Program} {l : Launch} {e : Env} {s : State} {m : MethodId} {args : Array Value} {below : List Frame} {meth : Method} {c : Code} {k : KK} {f : Nat} {o : Int32} {mem' : Mem} (X : CX p s m args meth c k method_18_code 10 "WallShiftsLaw") (hr : meth.sig.returnType = (Option.some Jvm.ClassFile.FieldType.boolean)) {k143 : Int32 → Int32 → Int32 → Mem → Option (Int32 × Mem)} (hk143 : ∀ (x3 : Int32) (x4 : Int32) (x5 : Int32) (mem : Mem), k143 x3 x4 x5 mem = some (o, mem') → V p l e (rmM 4 92) s m args below meth c 0 0 (MQ below (RQc k (some (aI o)) mem') args s 0 0 (kA k)) k 10 mem 143 [(0, aR 0 0), (1, aR 24 0), (2, aR 13 0), (3, aI x3), (4, aI x4), (5, aI x5)] []) : ∀ (x3 : Int32) (x4 : Int32) (x5 : Int32) (x6 : Int32) (s2 : Int32) (s3 : Int32) (s4 : Int32) (mem : Mem), dL_lay_199 (kL k) (kx k) f k143 x3 x4 x5 x6 s2 s3 s4 mem = some (o, mem') → V p l e (rmM 4 92) s m args below meth c 0 0 (MQ below (RQc k (some (aI o)) mem') args s 0 0 (kA k)) k 10 mem 199 [(0, aR 0 0), (1, aR 24 0), (2, aR 13 0), (3, aI x3), (4, aI x4), (5, aI x5), (6, aI x6)] [aI s4, aI s3, aI s2, aR 13 0, aR 0 0] := by
  intro x3 x4 x5 x6 s2 s3 s4 mem  h
  unfold dL_lay_199 at h
  obtain ⟨r1, m1, hc1, h⟩ := bd_some h
  refine v_callS X (pc := 199) [_, _] [_, _, _] ok_S_L_52 (cL_mod  hc1) rfl (Nat.le_of_ble_eq_true rfl) ⟨Nat.le_of_ble_eq_true rfl, Nat.le_of_ble_eq_true rfl⟩ ⟨Nat.zero_le _, Nat.zero_le _⟩ eL_lay_199 ?_
  refine v_iload X (pc := 202) 6 rfl eL_lay_202 ?_
  refine v_bipush X (pc := 204) (v := (6 : Int32)) eL_lay_204 (by decide) ?_
  refine v_ishr X (pc := 206) eL_lay_206 ?_
  refine v_iload X (pc := 207) 6 rfl eL_lay_207 ?_
  refine v_bipush X (pc := 209) (v := (14 : Int32)) eL_lay_209 (by decide) ?_
  refine v_ishr X (pc := 211) eL_lay_211 ?_
  refine v_iconst X (pc := 212) (v := (1 : Int32)) eL_lay_212 (by decide) ?_
  refine v_iand X (pc := 213) eL_lay_213 ?_
  refine v_if_ne X (pc := 214) (tgt := 221) h eL_lay_214 (by decide) (fun h => ?_) (fun h => ?_)
  · refine v_iconst X (pc := 217) (v := (3 : Int32)) eL_lay_217 (by decide) ?_
    refine v_goto X (pc := 218) (tgt := 223) eL_lay_218 (by decide) ?_
    exact v_sub [0, 1, 2, 3, 4, 5, 6] rfl (cL_lay_223 X hr hk143 _ _ _ _ _ _ _ _ _  h)
  · refine v_bipush X (pc := 221) (v := (10 : Int32)) eL_lay_221 (by decide) ?_
    exact v_sub [0, 1, 2, 3, 4, 5, 6] rfl (cL_lay_223 X hr hk143 _ _ _ _ _ _ _ _ _  h)
set_option maxHeartbeats 4000000 in
set_option maxRecDepth 100000 in
theorem cL_lay_376 {p : Program} {l : Launch} {e : Env} {s : State} {m : MethodId} {args : Array Value} {below : List Frame} {meth : Method} {c : Code} {k : KK} {f : Nat} {o : Int32} {mem' : Mem} (X : CX p s m args meth c k method_18_code 10 "WallShiftsLaw") (hr : meth.sig.returnType = (Option.some Jvm.ClassFile.FieldType.boolean)) : ∀ (n : Nat) (x5 : Int32) (x6 : Int32) (mem : Mem), dL_lay_376 (kL k) (kx k) f n x5 x6 mem = some (o, mem') → V p l e (rmM 4 92) s m args below meth c 0 0 (MQ below (RQc k (some (aI o)) mem') args s 0 0 (kA k)) k 10 mem 376 [(0, aR 0 0), (2, aR 13 0), (5, aI x5), (6, aI x6)] [] := by
  intro n
  induction n with
  | zero =>
    intro x5 x6 mem  h
    exact nomatch (show (none : Option (Int32 × Mem)) = some _ from h)
  | succ n ih =>
    intro x5 x6 mem  h
    rw [dL_lay_376] at h
    refine v_iload X (pc := 376) 3 rfl eL_lay_376 ?_
    refine v_iload X (pc := 378) 2 rfl eL_lay_378 ?_
    refine v_icmp_ge X (pc := 380) (tgt := 393) h eL_lay_380 (by decide) (fun h => ?_) (fun h => ?_)
    · refine v_aload_n X (pc := 383) 1 rfl eL_lay_383 rfl ?_
      obtain ⟨r1, m1, hc1, h⟩ := bd_some h
      refine v_callS X (pc := 384) [_] [] ok_S_L_34 (cL_minute  hc1) rfl (Nat.le_of_ble_eq_true rfl) ⟨Nat.le_of_ble_eq_true rfl, Nat.le_of_ble_eq_true rfl⟩ ⟨Nat.zero_le _, Nat.zero_le _⟩ eL_lay_384 ?_
      refine v_iinc X (pc := 387) (v := (x6 + (1 : Int32))) (lv' := [(6, _), (0, _), (2, _), (5, _)]) 3 rfl (by rfl) eL_lay_387 (Nat.le_of_ble_eq_true rfl) rfl ?_
      refine v_goto X (pc := 390) (tgt := 376) eL_lay_390 (by decide) ?_
      exact v_sub [1, 2, 3, 0] rfl (ih _ _ _  h)
    · refine v_iload X (pc := 393) 2 rfl eL_lay_393 ?_
      refine v_if_eq X (pc := 395) (tgt := 409) h eL_lay_395 (by decide) (fun h => ?_) (fun h => ?_)
      · refine v_iconst X (pc := 409) (v := (1 : Int32)) eL_lay_409 (by decide) ?_
        refine v_goto X (pc := 410) (tgt := 414) eL_lay_410 (by decide) ?_
        exact v_zret X (pc := 414) h hr rfl eL_lay_414
      · refine v_aload_n X (pc := 398) 0 rfl eL_lay_398 rfl ?_
        refine v_iload X (pc := 399) 2 rfl eL_lay_399 ?_
        obtain ⟨r2, m2, hc2, h⟩ := bd_some h
        refine v_callV X (pc := 401) [_] [] ok_V_L_66 (cW_pass  hc2) rfl (Nat.le_of_ble_eq_true rfl) ⟨Nat.le_of_ble_eq_true rfl, Nat.le_of_ble_eq_true rfl⟩ ⟨Nat.zero_le _, Nat.zero_le _⟩ (by decide) (by decide) rfl rfl eL_lay_401 ?_
        refine v_iload X (pc := 404) 2 rfl eL_lay_404 ?_
        refine v_icmp_ne X (pc := 406) (tgt := 413) h eL_lay_406 (by decide) (fun h => ?_) (fun h => ?_)
        · refine v_iconst X (pc := 409) (v := (1 : Int32)) eL_lay_409 (by decide) ?_
          refine v_goto X (pc := 410) (tgt := 414) eL_lay_410 (by decide) ?_
          exact v_zret X (pc := 414) h hr rfl eL_lay_414
        · refine v_iconst X (pc := 413) (v := (0 : Int32)) eL_lay_413 (by decide) ?_
          exact v_zret X (pc := 414) h hr rfl eL_lay_414
set_option maxHeartbeats 4000000 in
set_option maxRecDepth 100000 in
theorem cL_lay_143 {p : Program} {l : Launch} {e : Env} {s : State} {m : MethodId} {args : Array Value} {below : List Frame} {meth : Method} {c : Code} {k : KK} {f : Nat} {o : Int32} {mem' : Mem} (X : CX p s m args meth c k method_18_code 10 "WallShiftsLaw") (hr : meth.sig.returnType = (Option.some Jvm.ClassFile.FieldType.boolean)) : ∀ (n : Nat) (x3 : Int32) (x4 : Int32) (x5 : Int32) (mem : Mem), dL_lay_143 (kL k) (kx k) f n x3 x4 x5 mem = some (o, mem') → V p l e (rmM 4 92) s m args below meth c 0 0 (MQ below (RQc k (some (aI o)) mem') args s 0 0 (kA k)) k 10 mem 143 [(0, aR 0 0), (1, aR 24 0), (2, aR 13 0), (3, aI x3), (4, aI x4), (5, aI x5)] [] := by
  intro n
  induction n with
  | zero =>
    intro x3 x4 x5 mem  h
    exact nomatch (show (none : Option (Int32 × Mem)) = some _ from h)
  | succ n ih =>
    intro x3 x4 x5 mem  h
    rw [dL_lay_143] at h
    refine v_iload X (pc := 143) 5 rfl eL_lay_143 ?_
    refine v_iload X (pc := 145) 4 rfl eL_lay_145 ?_
    refine v_icmp_ge X (pc := 147) (tgt := 362) h eL_lay_147 (by decide) (fun h => ?_) (fun h => ?_)
    · refine v_aload_n X (pc := 150) 1 rfl eL_lay_150 rfl ?_
      refine v_iconst X (pc := 151) (v := (1 : Int32)) eL_lay_151 (by decide) ?_
      refine v_iload X (pc := 152) 5 rfl eL_lay_152 ?_
      refine v_iconst X (pc := 154) (v := (5 : Int32)) eL_lay_154 (by decide) ?_
      refine v_irem X (pc := 155) h eL_lay_155 (fun h => ?_)
      refine v_iadd X (pc := 156) eL_lay_156 ?_
      obtain ⟨r1, m1, hc1, h⟩ := bd_some h
      refine v_callSx X (pc := 157) [_, _] [] ok_S_L_50 (cL_at  hc1) rfl (Nat.le_of_ble_eq_true rfl) ⟨Nat.le_of_ble_eq_true rfl, Nat.le_of_ble_eq_true rfl⟩ ⟨Nat.zero_le _, Nat.zero_le _⟩ eL_lay_157 ?_
      refine v_bipush X (pc := 160) (v := (15 : Int32)) eL_lay_160 (by decide) ?_
      refine v_iload X (pc := 162) 5 rfl eL_lay_162 ?_
      refine v_iconst X (pc := 164) (v := (5 : Int32)) eL_lay_164 (by decide) ?_
      refine v_idiv X (pc := 165) h eL_lay_165 (fun h => ?_)
      refine v_imul X (pc := 166) eL_lay_166 ?_
      refine v_ishr X (pc := 167) eL_lay_167 ?_
      refine v_istore X (pc := 168) (lv' := [(6, _), (0, _), (1, _), (2, _), (3, _), (4, _), (5, _)]) eL_lay_168 (Nat.le_of_ble_eq_true rfl) rfl ?_
      refine v_aload_n X (pc := 170) 1 rfl eL_lay_170 rfl ?_
      refine v_aload_n X (pc := 171) 3 rfl eL_lay_171 rfl ?_
      refine v_iload X (pc := 172) 0 rfl eL_lay_172 ?_
      refine v_bipush X (pc := 174) (v := (6 : Int32)) eL_lay_174 (by decide) ?_
      obtain ⟨r2, m2, hc2, h⟩ := bd_some h
      refine v_callS X (pc := 176) [_, _] [_, _] ok_S_L_52 (cL_mod  hc2) rfl (Nat.le_of_ble_eq_true rfl) ⟨Nat.le_of_ble_eq_true rfl, Nat.le_of_ble_eq_true rfl⟩ ⟨Nat.zero_le _, Nat.zero_le _⟩ eL_lay_176 ?_
      refine v_iload X (pc := 179) 0 rfl eL_lay_179 ?_
      refine v_iconst X (pc := 181) (v := (3 : Int32)) eL_lay_181 (by decide) ?_
      refine v_ishr X (pc := 182) eL_lay_182 ?_
      refine v_iload X (pc := 183) 0 rfl eL_lay_183 ?_
      refine v_bipush X (pc := 185) (v := (14 : Int32)) eL_lay_185 (by decide) ?_
      refine v_ishr X (pc := 187) eL_lay_187 ?_
      refine v_iconst X (pc := 188) (v := (1 : Int32)) eL_lay_188 (by decide) ?_
      refine v_iand X (pc := 189) eL_lay_189 ?_
      refine v_if_ne X (pc := 190) (tgt := 197) h eL_lay_190 (by decide) (fun h => ?_) (fun h => ?_)
      · refine v_iconst X (pc := 193) (v := (3 : Int32)) eL_lay_193 (by decide) ?_
        refine v_goto X (pc := 194) (tgt := 199) eL_lay_194 (by decide) ?_
        exact v_sub [1, 2, 3, 4, 5, 6, 0] rfl (cL_lay_199 X hr ih _ _ _ _ _ _ _ _  h)
      · refine v_bipush X (pc := 197) (v := (10 : Int32)) eL_lay_197 (by decide) ?_
        exact v_sub [1, 2, 3, 4, 5, 6, 0] rfl (cL_lay_199 X hr ih _ _ _ _ _ _ _ _  h)
    · refine v_iload_n X (pc := 362) 3 rfl eL_lay_362 rfl ?_
      refine v_bipush X (pc := 363) (v := (20 : Int32)) eL_lay_363 (by decide) ?_
      refine v_ishr X (pc := 365) eL_lay_365 ?_
      refine v_bipush X (pc := 366) (v := (40 : Int32)) eL_lay_366 (by decide) ?_
      obtain ⟨r3, m3, hc3, h⟩ := bd_some h
      refine v_callS X (pc := 368) [_, _] [] ok_S_L_52 (cL_mod  hc3) rfl (Nat.le_of_ble_eq_true rfl) ⟨Nat.le_of_ble_eq_true rfl, Nat.le_of_ble_eq_true rfl⟩ ⟨Nat.zero_le _, Nat.zero_le _⟩ eL_lay_368 ?_
      refine v_istore X (pc := 371) (lv' := [(5, _), (0, _), (1, _), (2, _), (3, _), (4, _)]) eL_lay_371 (Nat.le_of_ble_eq_true rfl) rfl ?_
      refine v_iconst X (pc := 373) (v := (0 : Int32)) eL_lay_373 (by decide) ?_
      refine v_istore X (pc := 374) (lv' := [(6, _), (5, _), (0, _), (1, _), (2, _), (3, _), (4, _)]) eL_lay_374 (Nat.le_of_ble_eq_true rfl) rfl ?_
      exact v_sub [2, 4, 1, 0] rfl (cL_lay_376 X hr _ _ _ _  h)
set_option maxHeartbeats 4000000 in
set_option maxRecDepth 100000 in
theorem cL_lay_50 {p : Program} {l : Launch} {e : Env} {s : State} {m : MethodId} {args : Array Value} {below : List Frame} {meth : Method} {c : Code} {k : KK} {f : Nat} {o : Int32} {mem' : Mem} (X : CX p s m args meth c k method_18_code 10 "WallShiftsLaw") (hr : meth.sig.returnType = (Option.some Jvm.ClassFile.FieldType.boolean)) : ∀ (x3 : Int32) (s1 : Int32) (s2 : Int32) (s3 : Int32) (mem : Mem), dL_lay_50 (kL k) (kx k) f x3 s1 s2 s3 mem = some (o, mem') → V p l e (rmM 4 92) s m args below meth c 0 0 (MQ below (RQc k (some (aI o)) mem') args s 0 0 (kA k)) k 10 mem 50 [(0, aR 0 0), (1, aR 24 0), (2, aR 13 0), (3, aI x3)] [aI s3, aI s2, aI s1, aR 13 0] := by
  intro x3 s1 s2 s3 mem  h
  unfold dL_lay_50 at h
  obtain ⟨r1, m1, hc1, h⟩ := bd_some h
  refine v_callS X (pc := 50) [_, _] [_, _] ok_S_L_52 (cL_mod  hc1) rfl (Nat.le_of_ble_eq_true rfl) ⟨Nat.le_of_ble_eq_true rfl, Nat.le_of_ble_eq_true rfl⟩ ⟨Nat.zero_le _, Nat.zero_le _⟩ eL_lay_50 ?_
  refine v_iast X (pc := 53) h (by decide) (by decide) (fun _ => rfl) eL_lay_53 (fun h => ?_)
  refine v_aload_n X (pc := 54) 2 rfl eL_lay_54 rfl ?_
  refine v_iconst X (pc := 55) (v := (3 : Int32)) eL_lay_55 (by decide) ?_
  refine v_iload_n X (pc := 56) 3 rfl eL_lay_56 rfl ?_
  refine v_bipush X (pc := 57) (v := (9 : Int32)) eL_lay_57 (by decide) ?_
  refine v_ishr X (pc := 59) eL_lay_59 ?_
  refine v_iconst X (pc := 60) (v := (3 : Int32)) eL_lay_60 (by decide) ?_
  refine v_iand X (pc := 61) eL_lay_61 ?_
  refine v_iastK X (pc := 62) (n := 66) 3 (by decide) (by decide) (by decide) (by decide) (fun _ => rfl) eL_lay_62 ?_
  refine v_aload_n X (pc := 63) 2 rfl eL_lay_63 rfl ?_
  refine v_iconst X (pc := 64) (v := (4 : Int32)) eL_lay_64 (by decide) ?_
  refine v_iconst X (pc := 65) (v := (1 : Int32)) eL_lay_65 (by decide) ?_
  refine v_iload_n X (pc := 66) 3 rfl eL_lay_66 rfl ?_
  refine v_bipush X (pc := 67) (v := (11 : Int32)) eL_lay_67 (by decide) ?_
  refine v_ishr X (pc := 69) eL_lay_69 ?_
  refine v_bipush X (pc := 70) (v := (20 : Int32)) eL_lay_70 (by decide) ?_
  obtain ⟨r2, m2, hc2, h⟩ := bd_some h
  refine v_callS X (pc := 72) [_, _] [_, _, _] ok_S_L_52 (cL_mod  hc2) rfl (Nat.le_of_ble_eq_true rfl) ⟨Nat.le_of_ble_eq_true rfl, Nat.le_of_ble_eq_true rfl⟩ ⟨Nat.zero_le _, Nat.zero_le _⟩ eL_lay_72 ?_
  refine v_iadd X (pc := 75) eL_lay_75 ?_
  refine v_iastK X (pc := 76) (n := 66) 4 (by decide) (by decide) (by decide) (by decide) (fun _ => rfl) eL_lay_76 ?_
  refine v_aload_n X (pc := 77) 0 rfl eL_lay_77 rfl ?_
  refine v_iconst X (pc := 78) (v := (0 : Int32)) eL_lay_78 (by decide) ?_
  refine v_aload_n X (pc := 79) 2 rfl eL_lay_79 rfl ?_
  refine v_iconst X (pc := 80) (v := (1 : Int32)) eL_lay_80 (by decide) ?_
  refine v_ialdK X (pc := 81) (n := 66) 1 (by decide) (by decide) (by decide) (by decide) rfl eL_lay_81 ?_
  obtain ⟨r3, m3, hc3, h⟩ := bd_some h
  refine v_callV X (pc := 82) [_, _] [] ok_V_L_56 (cW_rota  hc3) rfl (Nat.le_of_ble_eq_true rfl) ⟨Nat.le_of_ble_eq_true rfl, Nat.le_of_ble_eq_true rfl⟩ ⟨Nat.zero_le _, Nat.zero_le _⟩ (by decide) (by decide) rfl rfl eL_lay_82 ?_
  refine v_bipush X (pc := 85) (v := (15 : Int32)) eL_lay_85 (by decide) ?_
  refine v_icmp_ne X (pc := 87) (tgt := 125) h eL_lay_87 (by decide) (fun h => ?_) (fun h => ?_)
  · refine v_aload_n X (pc := 90) 0 rfl eL_lay_90 rfl ?_
    refine v_iconst X (pc := 91) (v := (1 : Int32)) eL_lay_91 (by decide) ?_
    refine v_aload_n X (pc := 92) 2 rfl eL_lay_92 rfl ?_
    refine v_iconst X (pc := 93) (v := (2 : Int32)) eL_lay_93 (by decide) ?_
    refine v_ialdK X (pc := 94) (n := 66) 2 (by decide) (by decide) (by decide) (by decide) rfl eL_lay_94 ?_
    obtain ⟨r4, m4, hc4, h⟩ := bd_some h
    refine v_callV X (pc := 95) [_, _] [] ok_V_L_56 (cW_rota  hc4) rfl (Nat.le_of_ble_eq_true rfl) ⟨Nat.le_of_ble_eq_true rfl, Nat.le_of_ble_eq_true rfl⟩ ⟨Nat.zero_le _, Nat.zero_le _⟩ (by decide) (by decide) rfl rfl eL_lay_95 ?_
    refine v_iconst X (pc := 98) (v := (2 : Int32)) eL_lay_98 (by decide) ?_
    refine v_icmp_ne X (pc := 99) (tgt := 125) h eL_lay_99 (by decide) (fun h => ?_) (fun h => ?_)
    · refine v_aload_n X (pc := 102) 0 rfl eL_lay_102 rfl ?_
      refine v_iconst X (pc := 103) (v := (2 : Int32)) eL_lay_103 (by decide) ?_
      refine v_aload_n X (pc := 104) 2 rfl eL_lay_104 rfl ?_
      refine v_iconst X (pc := 105) (v := (3 : Int32)) eL_lay_105 (by decide) ?_
      refine v_ialdK X (pc := 106) (n := 66) 3 (by decide) (by decide) (by decide) (by decide) rfl eL_lay_106 ?_
      obtain ⟨r5, m5, hc5, h⟩ := bd_some h
      refine v_callV X (pc := 107) [_, _] [] ok_V_L_56 (cW_rota  hc5) rfl (Nat.le_of_ble_eq_true rfl) ⟨Nat.le_of_ble_eq_true rfl, Nat.le_of_ble_eq_true rfl⟩ ⟨Nat.zero_le _, Nat.zero_le _⟩ (by decide) (by decide) rfl rfl eL_lay_107 ?_
      refine v_if_ne X (pc := 110) (tgt := 125) h eL_lay_110 (by decide) (fun h => ?_) (fun h => ?_)
      · refine v_aload_n X (pc := 113) 0 rfl eL_lay_113 rfl ?_
        refine v_iconst X (pc := 114) (v := (3 : Int32)) eL_lay_114 (by decide) ?_
        refine v_aload_n X (pc := 115) 2 rfl eL_lay_115 rfl ?_
        refine v_iconst X (pc := 116) (v := (4 : Int32)) eL_lay_116 (by decide) ?_
        refine v_ialdK X (pc := 117) (n := 66) 4 (by decide) (by decide) (by decide) (by decide) rfl eL_lay_117 ?_
        obtain ⟨r6, m6, hc6, h⟩ := bd_some h
        refine v_callV X (pc := 118) [_, _] [] ok_V_L_56 (cW_rota  hc6) rfl (Nat.le_of_ble_eq_true rfl) ⟨Nat.le_of_ble_eq_true rfl, Nat.le_of_ble_eq_true rfl⟩ ⟨Nat.zero_le _, Nat.zero_le _⟩ (by decide) (by decide) rfl rfl eL_lay_118 ?_
        refine v_iconst X (pc := 121) (v := (5 : Int32)) eL_lay_121 (by decide) ?_
        refine v_icmp_eq X (pc := 122) (tgt := 127) h eL_lay_122 (by decide) (fun h => ?_) (fun h => ?_)
        · refine v_iconst X (pc := 127) (v := (1 : Int32)) eL_lay_127 (by decide) ?_
          refine v_iload_n X (pc := 128) 3 rfl eL_lay_128 rfl ?_
          refine v_bipush X (pc := 129) (v := (16 : Int32)) eL_lay_129 (by decide) ?_
          refine v_ishr X (pc := 131) eL_lay_131 ?_
          refine v_bipush X (pc := 132) (v := (10 : Int32)) eL_lay_132 (by decide) ?_
          obtain ⟨r7, m7, hc7, h⟩ := bd_some h
          refine v_callS X (pc := 134) [_, _] [_] ok_S_L_52 (cL_mod  hc7) rfl (Nat.le_of_ble_eq_true rfl) ⟨Nat.le_of_ble_eq_true rfl, Nat.le_of_ble_eq_true rfl⟩ ⟨Nat.zero_le _, Nat.zero_le _⟩ eL_lay_134 ?_
          refine v_iadd X (pc := 137) eL_lay_137 ?_
          refine v_istore X (pc := 138) (lv' := [(4, _), (0, _), (1, _), (2, _), (3, _)]) eL_lay_138 (Nat.le_of_ble_eq_true rfl) rfl ?_
          refine v_iconst X (pc := 140) (v := (0 : Int32)) eL_lay_140 (by decide) ?_
          refine v_istore X (pc := 141) (lv' := [(5, _), (4, _), (0, _), (1, _), (2, _), (3, _)]) eL_lay_141 (Nat.le_of_ble_eq_true rfl) rfl ?_
          exact v_sub [2, 3, 4, 5, 1, 0] rfl (cL_lay_143 X hr _ _ _ _ _  h)
        · refine v_iconst X (pc := 125) (v := (0 : Int32)) eL_lay_125 (by decide) ?_
          exact v_zret X (pc := 126) h hr rfl eL_lay_126
      · refine v_iconst X (pc := 125) (v := (0 : Int32)) eL_lay_125 (by decide) ?_
        exact v_zret X (pc := 126) h hr rfl eL_lay_126
    · refine v_iconst X (pc := 125) (v := (0 : Int32)) eL_lay_125 (by decide) ?_
      exact v_zret X (pc := 126) h hr rfl eL_lay_126
  · refine v_iconst X (pc := 125) (v := (0 : Int32)) eL_lay_125 (by decide) ?_
    exact v_zret X (pc := 126) h hr rfl eL_lay_126
set_option maxHeartbeats 4000000 in
set_option maxRecDepth 100000 in
theorem cL_lay_25 {p : Program} {l : Launch} {e : Env} {s : State} {m : MethodId} {args : Array Value} {below : List Frame} {meth : Method} {c : Code} {k : KK} {f : Nat} {o : Int32} {mem' : Mem} (X : CX p s m args meth c k method_18_code 10 "WallShiftsLaw") (hr : meth.sig.returnType = (Option.some Jvm.ClassFile.FieldType.boolean)) : ∀ (x3 : Int32) (s1 : Int32) (s2 : Int32) (s3 : Int32) (s4 : Int32) (mem : Mem), dL_lay_25 (kL k) (kx k) f x3 s1 s2 s3 s4 mem = some (o, mem') → V p l e (rmM 4 92) s m args below meth c 0 0 (MQ below (RQc k (some (aI o)) mem') args s 0 0 (kA k)) k 10 mem 25 [(0, aR 0 0), (1, aR 24 0), (2, aR 13 0), (3, aI x3)] [aI s4, aI s3, aI s2, aI s1, aR 13 0] := by
  intro x3 s1 s2 s3 s4 mem  h
  unfold dL_lay_25 at h
  obtain ⟨r1, m1, hc1, h⟩ := bd_some h
  refine v_callS X (pc := 25) [_, _] [_, _, _] ok_S_L_52 (cL_mod  hc1) rfl (Nat.le_of_ble_eq_true rfl) ⟨Nat.le_of_ble_eq_true rfl, Nat.le_of_ble_eq_true rfl⟩ ⟨Nat.zero_le _, Nat.zero_le _⟩ eL_lay_25 ?_
  refine v_iadd X (pc := 28) eL_lay_28 ?_
  refine v_iast X (pc := 29) h (by decide) (by decide) (fun _ => rfl) eL_lay_29 (fun h => ?_)
  refine v_aload_n X (pc := 30) 2 rfl eL_lay_30 rfl ?_
  refine v_iconst X (pc := 31) (v := (2 : Int32)) eL_lay_31 (by decide) ?_
  refine v_iload_n X (pc := 32) 3 rfl eL_lay_32 rfl ?_
  refine v_iconst X (pc := 33) (v := (5 : Int32)) eL_lay_33 (by decide) ?_
  refine v_ishr X (pc := 34) eL_lay_34 ?_
  refine v_iload_n X (pc := 35) 3 rfl eL_lay_35 rfl ?_
  refine v_bipush X (pc := 36) (v := (7 : Int32)) eL_lay_36 (by decide) ?_
  refine v_ishr X (pc := 38) eL_lay_38 ?_
  refine v_iconst X (pc := 39) (v := (3 : Int32)) eL_lay_39 (by decide) ?_
  refine v_iand X (pc := 40) eL_lay_40 ?_
  refine v_if_ne X (pc := 41) (tgt := 49) h eL_lay_41 (by decide) (fun h => ?_) (fun h => ?_)
  · refine v_bipush X (pc := 44) (v := (12 : Int32)) eL_lay_44 (by decide) ?_
    refine v_goto X (pc := 46) (tgt := 50) eL_lay_46 (by decide) ?_
    exact v_sub [0, 1, 2, 3] rfl (cL_lay_50 X hr _ _ _ _ _  h)
  · refine v_iconst X (pc := 49) (v := (3 : Int32)) eL_lay_49 (by decide) ?_
    exact v_sub [0, 1, 2, 3] rfl (cL_lay_50 X hr _ _ _ _ _  h)
set_option maxHeartbeats 4000000 in
set_option maxRecDepth 100000 in
theorem cL_lay {LL : Nat} {xs : Nat → Int32} {f : Nat}  {mem : Mem} {o : Int32} {mem' : Mem}  (h : dL_lay LL xs f  mem = some (o, mem')) : RTx LL xs yL_lay method_18_code 10 (Option.some Jvm.ClassFile.FieldType.boolean) (rmM 4 92) [aR 0 0, aR 24 0, aR 13 0] mem (some (aI o)) mem' := by
  refine RTx.of (by decide +kernel) (Nat.le_of_ble_eq_true rfl) (fun p l e s m args below meth c k hL hx X hr => ?_)
  subst hL
  subst hx
  replace X : CX p s m args meth c k method_18_code 10 "WallShiftsLaw" := X
  unfold dL_lay at h
  refine v_sub (lv' := [(0, _), (1, _), (2, _)]) [0, 1, 2] rfl ?_
  refine v_aload_n X (pc := 0) 1 rfl eL_lay_0 rfl ?_
  refine v_iconst X (pc := 1) (v := (0 : Int32)) eL_lay_1 (by decide) ?_
  obtain ⟨r1, m1, hc1, h⟩ := bd_some h
  refine v_callSx X (pc := 2) [_, _] [] ok_S_L_50 (cL_at  hc1) rfl (Nat.le_of_ble_eq_true rfl) ⟨Nat.le_of_ble_eq_true rfl, Nat.le_of_ble_eq_true rfl⟩ ⟨Nat.zero_le _, Nat.zero_le _⟩ eL_lay_2 ?_
  refine v_istore_n X (pc := 5) (lv' := [(3, _), (0, _), (1, _), (2, _)]) eL_lay_5 rfl (Nat.le_of_ble_eq_true rfl) rfl ?_
  refine v_aload_n X (pc := 6) 3 rfl eL_lay_6 rfl ?_
  refine v_iconst X (pc := 7) (v := (1 : Int32)) eL_lay_7 (by decide) ?_
  refine v_iconst X (pc := 8) (v := (1 : Int32)) eL_lay_8 (by decide) ?_
  refine v_iload_n X (pc := 9) 0 rfl eL_lay_9 rfl ?_
  refine v_iload_n X (pc := 10) 0 rfl eL_lay_10 rfl ?_
  refine v_iconst X (pc := 11) (v := (3 : Int32)) eL_lay_11 (by decide) ?_
  refine v_ishr X (pc := 12) eL_lay_12 ?_
  refine v_iconst X (pc := 13) (v := (3 : Int32)) eL_lay_13 (by decide) ?_
  refine v_iand X (pc := 14) eL_lay_14 ?_
  refine v_if_ne X (pc := 15) (tgt := 23) h eL_lay_15 (by decide) (fun h => ?_) (fun h => ?_)
  · refine v_bipush X (pc := 18) (v := (60 : Int32)) eL_lay_18 (by decide) ?_
    refine v_goto X (pc := 20) (tgt := 25) eL_lay_20 (by decide) ?_
    exact v_sub [1, 2, 3, 0] rfl (cL_lay_25 X hr _ _ _ _ _ _  h)
  · refine v_bipush X (pc := 23) (v := (9 : Int32)) eL_lay_23 (by decide) ?_
    exact v_sub [1, 2, 3, 0] rfl (cL_lay_25 X hr _ _ _ _ _ _  h)
set_option maxHeartbeats 4000000 in
set_option maxRecDepth 100000 in
theorem cL_isUnheard_9 {p : Program} {l : Launch} {e : Env} {s : State} {m : MethodId} {args : Array Value} {below : List Frame} {meth : Method} {c : Code} {k : KK} {f : Nat} {o : Int32} {mem' : Mem} (X : CX p s m args meth c k method_20_code 5 "WallShiftsLaw") (hr : meth.sig.returnType = (Option.some Jvm.ClassFile.FieldType.boolean)) : ∀ (n : Nat) (x2 : Int32) (x3 : Int32) (x4 : Int32) (mem : Mem), dL_isUnheard_9 f n x2 x3 x4 mem = some (o, mem') → V p l e (rmM 4 98) s m args below meth c 0 0 (MQ below (RQc k (some (aI o)) mem') args s 0 0 (kA k)) k 5 mem 9 [(0, aR 0 0), (2, aI x2), (3, aI x3), (4, aI x4)] [] := by
  intro n
  induction n with
  | zero =>
    intro x2 x3 x4 mem  h
    exact nomatch (show (none : Option (Int32 × Mem)) = some _ from h)
  | succ n ih =>
    intro x2 x3 x4 mem  h
    rw [dL_isUnheard_9] at h
    refine v_iload X (pc := 9) 3 rfl eL_isUnheard_9 ?_
    refine v_aload_n X (pc := 11) 0 rfl eL_isUnheard_11 rfl ?_
    refine v_iconst X (pc := 12) (v := (0 : Int32)) eL_isUnheard_12 (by decide) ?_
    obtain ⟨r1, m1, hc1, h⟩ := bd_some h
    refine v_callV X (pc := 13) [_] [_] ok_V_L_79 (cW_count  hc1) rfl (Nat.le_of_ble_eq_true rfl) ⟨Nat.le_of_ble_eq_true rfl, Nat.le_of_ble_eq_true rfl⟩ ⟨Nat.zero_le _, Nat.zero_le _⟩ (by decide) (by decide) rfl rfl eL_isUnheard_13 ?_
    refine v_icmp_ge X (pc := 16) (tgt := 73) h eL_isUnheard_16 (by decide) (fun h => ?_) (fun h => ?_)
    · refine v_iload_n X (pc := 19) 1 rfl eL_isUnheard_19 rfl ?_
      refine v_iload X (pc := 20) 3 rfl eL_isUnheard_20 ?_
      refine v_ishr X (pc := 22) eL_isUnheard_22 ?_
      refine v_iconst X (pc := 23) (v := (1 : Int32)) eL_isUnheard_23 (by decide) ?_
      refine v_iand X (pc := 24) eL_isUnheard_24 ?_
      refine v_iconst X (pc := 25) (v := (1 : Int32)) eL_isUnheard_25 (by decide) ?_
      refine v_icmp_ne X (pc := 26) (tgt := 67) h eL_isUnheard_26 (by decide) (fun h => ?_) (fun h => ?_)
      · refine v_aload_n X (pc := 29) 0 rfl eL_isUnheard_29 rfl ?_
        refine v_iload X (pc := 30) 3 rfl eL_isUnheard_30 ?_
        refine v_bipush X (pc := 32) (v := (6 : Int32)) eL_isUnheard_32 (by decide) ?_
        obtain ⟨r2, m2, hc2, h⟩ := bd_some h
        refine v_callV X (pc := 34) [_, _] [] ok_V_L_69 (cW_of  hc2) rfl (Nat.le_of_ble_eq_true rfl) ⟨Nat.le_of_ble_eq_true rfl, Nat.le_of_ble_eq_true rfl⟩ ⟨Nat.zero_le _, Nat.zero_le _⟩ (by decide) (by decide) rfl rfl eL_isUnheard_34 ?_
        refine v_iconst X (pc := 37) (v := (1 : Int32)) eL_isUnheard_37 (by decide) ?_
        refine v_icmp_ne X (pc := 38) (tgt := 67) h eL_isUnheard_38 (by decide) (fun h => ?_) (fun h => ?_)
        · refine v_iconst X (pc := 41) (v := (1 : Int32)) eL_isUnheard_41 (by decide) ?_
          refine v_aload_n X (pc := 42) 0 rfl eL_isUnheard_42 rfl ?_
          refine v_iload X (pc := 43) 3 rfl eL_isUnheard_43 ?_
          refine v_iconst X (pc := 45) (v := (1 : Int32)) eL_isUnheard_45 (by decide) ?_
          obtain ⟨r3, m3, hc3, h⟩ := bd_some h
          refine v_callV X (pc := 46) [_, _] [_] ok_V_L_69 (cW_of  hc3) rfl (Nat.le_of_ble_eq_true rfl) ⟨Nat.le_of_ble_eq_true rfl, Nat.le_of_ble_eq_true rfl⟩ ⟨Nat.zero_le _, Nat.zero_le _⟩ (by decide) (by decide) rfl rfl eL_isUnheard_46 ?_
          refine v_ishl X (pc := 49) eL_isUnheard_49 ?_
          refine v_iconst X (pc := 50) (v := (1 : Int32)) eL_isUnheard_50 (by decide) ?_
          refine v_aload_n X (pc := 51) 0 rfl eL_isUnheard_51 rfl ?_
          refine v_iload X (pc := 52) 3 rfl eL_isUnheard_52 ?_
          refine v_iconst X (pc := 54) (v := (2 : Int32)) eL_isUnheard_54 (by decide) ?_
          obtain ⟨r4, m4, hc4, h⟩ := bd_some h
          refine v_callV X (pc := 55) [_, _] [_, _] ok_V_L_69 (cW_of  hc4) rfl (Nat.le_of_ble_eq_true rfl) ⟨Nat.le_of_ble_eq_true rfl, Nat.le_of_ble_eq_true rfl⟩ ⟨Nat.zero_le _, Nat.zero_le _⟩ (by decide) (by decide) rfl rfl eL_isUnheard_55 ?_
          refine v_ishl X (pc := 58) eL_isUnheard_58 ?_
          refine v_ior X (pc := 59) eL_isUnheard_59 ?_
          refine v_iload_n X (pc := 60) 2 rfl eL_isUnheard_60 rfl ?_
          refine v_iand X (pc := 61) eL_isUnheard_61 ?_
          refine v_if_eq X (pc := 62) (tgt := 67) h eL_isUnheard_62 (by decide) (fun h => ?_) (fun h => ?_)
          · refine v_iinc X (pc := 67) (v := (x4 + (1 : Int32))) (lv' := [(4, _), (0, _), (2, _), (3, _)]) 3 rfl (by rfl) eL_isUnheard_67 (Nat.le_of_ble_eq_true rfl) rfl ?_
            refine v_goto X (pc := 70) (tgt := 9) eL_isUnheard_70 (by decide) ?_
            exact v_sub [1, 2, 3, 0] rfl (ih _ _ _ _  h)
          · refine v_iconst X (pc := 65) (v := (0 : Int32)) eL_isUnheard_65 (by decide) ?_
            exact v_zret X (pc := 66) h hr rfl eL_isUnheard_66
        · refine v_iinc X (pc := 67) (v := (x4 + (1 : Int32))) (lv' := [(4, _), (0, _), (2, _), (3, _)]) 3 rfl (by rfl) eL_isUnheard_67 (Nat.le_of_ble_eq_true rfl) rfl ?_
          refine v_goto X (pc := 70) (tgt := 9) eL_isUnheard_70 (by decide) ?_
          exact v_sub [1, 2, 3, 0] rfl (ih _ _ _ _  h)
      · refine v_iinc X (pc := 67) (v := (x4 + (1 : Int32))) (lv' := [(4, _), (0, _), (2, _), (3, _)]) 3 rfl (by rfl) eL_isUnheard_67 (Nat.le_of_ble_eq_true rfl) rfl ?_
        refine v_goto X (pc := 70) (tgt := 9) eL_isUnheard_70 (by decide) ?_
        exact v_sub [1, 2, 3, 0] rfl (ih _ _ _ _  h)
    · refine v_iconst X (pc := 73) (v := (1 : Int32)) eL_isUnheard_73 (by decide) ?_
      exact v_zret X (pc := 74) h hr rfl eL_isUnheard_74
set_option maxHeartbeats 4000000 in
set_option maxRecDepth 100000 in
theorem cL_isUnheard {f : Nat} {a1 : Int32} {a2 : Int32} {mem : Mem} {o : Int32} {mem' : Mem}  (h : dL_isUnheard f a1 a2 mem = some (o, mem')) : RT yL_isUnheard method_20_code 5 (Option.some Jvm.ClassFile.FieldType.boolean) (rmM 4 98) [aR 0 0, aI a1, aI a2] mem (some (aI o)) mem' := by
  refine RT.of (by decide +kernel) (Nat.le_of_ble_eq_true rfl) (fun p l e s m args below meth c k X hr => ?_)
  replace X : CX p s m args meth c k method_20_code 5 "WallShiftsLaw" := X
  unfold dL_isUnheard at h
  refine v_sub (lv' := [(0, _), (1, _), (2, _)]) [0, 1, 2] rfl ?_
  refine v_aload_n X (pc := 0) 0 rfl eL_isUnheard_0 rfl ?_
  refine v_iload_n X (pc := 1) 1 rfl eL_isUnheard_1 rfl ?_
  obtain ⟨r1, m1, hc1, h⟩ := bd_some h
  refine v_callV X (pc := 2) [_] [] ok_V_L_72 (cW_reach  hc1) rfl (Nat.le_of_ble_eq_true rfl) ⟨Nat.le_of_ble_eq_true rfl, Nat.le_of_ble_eq_true rfl⟩ ⟨Nat.zero_le _, Nat.zero_le _⟩ (by decide) (by decide) rfl rfl eL_isUnheard_2 ?_
  refine v_istore_n X (pc := 5) (lv' := [(3, _), (0, _), (1, _), (2, _)]) eL_isUnheard_5 rfl (Nat.le_of_ble_eq_true rfl) rfl ?_
  refine v_iconst X (pc := 6) (v := (0 : Int32)) eL_isUnheard_6 (by decide) ?_
  refine v_istore X (pc := 7) (lv' := [(4, _), (3, _), (0, _), (1, _), (2, _)]) eL_isUnheard_7 (Nat.le_of_ble_eq_true rfl) rfl ?_
  exact v_sub [2, 4, 1, 0] rfl (cL_isUnheard_9 X hr _ _ _ _ _  h)
set_option maxHeartbeats 4000000 in
set_option maxRecDepth 100000 in
theorem cL_ones_4 {p : Program} {l : Launch} {e : Env} {s : State} {m : MethodId} {args : Array Value} {below : List Frame} {meth : Method} {c : Code} {k : KK} {f : Nat} {o : Int32} {mem' : Mem} (X : CX p s m args meth c k method_11_code 3 "WallShiftsLaw") (hr : meth.sig.returnType = (Option.some Jvm.ClassFile.FieldType.int)) : ∀ (n : Nat) (x0 : Int32) (x1 : Int32) (x2 : Int32) (mem : Mem), dL_ones_4 f n x0 x1 x2 mem = some (o, mem') → V p l e (rmM 0 0) s m args below meth c 0 0 (MQ below (RQc k (some (aI o)) mem') args s 0 0 (kA k)) k 3 mem 4 [(0, aI x0), (1, aI x1), (2, aI x2)] [] := by
  intro n
  induction n with
  | zero =>
    intro x0 x1 x2 mem  h
    exact nomatch (show (none : Option (Int32 × Mem)) = some _ from h)
  | succ n ih =>
    intro x0 x1 x2 mem  h
    rw [dL_ones_4] at h
    refine v_iload_n X (pc := 4) 2 rfl eL_ones_4 rfl ?_
    refine v_bipush X (pc := 5) (v := (16 : Int32)) eL_ones_5 (by decide) ?_
    refine v_icmp_ge X (pc := 7) (tgt := 24) h eL_ones_7 (by decide) (fun h => ?_) (fun h => ?_)
    · refine v_iload_n X (pc := 10) 1 rfl eL_ones_10 rfl ?_
      refine v_iload_n X (pc := 11) 0 rfl eL_ones_11 rfl ?_
      refine v_iload_n X (pc := 12) 2 rfl eL_ones_12 rfl ?_
      refine v_ishr X (pc := 13) eL_ones_13 ?_
      refine v_iconst X (pc := 14) (v := (1 : Int32)) eL_ones_14 (by decide) ?_
      refine v_iand X (pc := 15) eL_ones_15 ?_
      refine v_iadd X (pc := 16) eL_ones_16 ?_
      refine v_istore_n X (pc := 17) (lv' := [(1, _), (0, _), (2, _)]) eL_ones_17 rfl (Nat.le_of_ble_eq_true rfl) rfl ?_
      refine v_iinc X (pc := 18) (v := (x2 + (1 : Int32))) (lv' := [(2, _), (1, _), (0, _)]) 2 rfl (by rfl) eL_ones_18 (Nat.le_of_ble_eq_true rfl) rfl ?_
      refine v_goto X (pc := 21) (tgt := 4) eL_ones_21 (by decide) ?_
      exact v_sub [2, 1, 0] rfl (ih _ _ _ _  h)
    · refine v_iload_n X (pc := 24) 1 rfl eL_ones_24 rfl ?_
      exact v_iret X (pc := 25) h hr eL_ones_25
set_option maxHeartbeats 4000000 in
set_option maxRecDepth 100000 in
theorem cL_ones {f : Nat} {a0 : Int32} {mem : Mem} {o : Int32} {mem' : Mem}  (h : dL_ones f a0 mem = some (o, mem')) : RT yL_ones method_11_code 3 (Option.some Jvm.ClassFile.FieldType.int) (rmM 0 0) [aI a0] mem (some (aI o)) mem' := by
  refine RT.of (by decide +kernel) (Nat.le_of_ble_eq_true rfl) (fun p l e s m args below meth c k X hr => ?_)
  replace X : CX p s m args meth c k method_11_code 3 "WallShiftsLaw" := X
  unfold dL_ones at h
  refine v_sub (lv' := [(0, _)]) [0] rfl ?_
  refine v_iconst X (pc := 0) (v := (0 : Int32)) eL_ones_0 (by decide) ?_
  refine v_istore_n X (pc := 1) (lv' := [(1, _), (0, _)]) eL_ones_1 rfl (Nat.le_of_ble_eq_true rfl) rfl ?_
  refine v_iconst X (pc := 2) (v := (0 : Int32)) eL_ones_2 (by decide) ?_
  refine v_istore_n X (pc := 3) (lv' := [(2, _), (1, _), (0, _)]) eL_ones_3 rfl (Nat.le_of_ble_eq_true rfl) rfl ?_
  exact v_sub [2, 1, 0] rfl (cL_ones_4 X hr _ _ _ _ _  h)
set_option maxHeartbeats 4000000 in
set_option maxRecDepth 100000 in
theorem cL_duty_82 {p : Program} {l : Launch} {e : Env} {s : State} {m : MethodId} {args : Array Value} {below : List Frame} {meth : Method} {c : Code} {k : KK} {f : Nat} {o : Int32} {mem' : Mem} (X : CX p s m args meth c k method_4_code 7 "WallShiftsLaw") (hr : meth.sig.returnType = (Option.some Jvm.ClassFile.FieldType.boolean)) : ∀ (x3 : Int32) (x4 : Int32) (x6 : Int32) (mem : Mem), dL_duty_82 f x3 x4 x6 mem = some (o, mem') → V p l e (rmM 0 0) s m args below meth c 0 0 (MQ below (RQc k (some (aI o)) mem') args s 0 0 (kA k)) k 7 mem 82 [(3, aI x3), (4, aI x4), (6, aI x6)] [] := by
  intro x3 x4 x6 mem  h
  unfold dL_duty_82 at h
  refine v_iload X (pc := 82) 2 rfl eL_duty_82 ?_
  refine v_iload X (pc := 84) 1 rfl eL_duty_84 ?_
  refine v_icmp_eq X (pc := 86) (tgt := 105) h eL_duty_86 (by decide) (fun h => ?_) (fun h => ?_)
  · refine v_iconst X (pc := 105) (v := (1 : Int32)) eL_duty_105 (by decide) ?_
    refine v_goto X (pc := 106) (tgt := 110) eL_duty_106 (by decide) ?_
    exact v_zret X (pc := 110) h hr rfl eL_duty_110
  · refine v_iload_n X (pc := 89) 0 rfl eL_duty_89 rfl ?_
    refine v_iconst X (pc := 90) (v := (5 : Int32)) eL_duty_90 (by decide) ?_
    refine v_icmp_ne X (pc := 91) (tgt := 109) h eL_duty_91 (by decide) (fun h => ?_) (fun h => ?_)
    · refine v_iload X (pc := 94) 2 rfl eL_duty_94 ?_
      refine v_iload X (pc := 96) 1 rfl eL_duty_96 ?_
      refine v_iconst X (pc := 98) (v := (1 : Int32)) eL_duty_98 (by decide) ?_
      refine v_iadd X (pc := 99) eL_duty_99 ?_
      refine v_iconst X (pc := 100) (v := (4 : Int32)) eL_duty_100 (by decide) ?_
      refine v_irem X (pc := 101) h eL_duty_101 (fun h => ?_)
      refine v_icmp_ne X (pc := 102) (tgt := 109) h eL_duty_102 (by decide) (fun h => ?_) (fun h => ?_)
      · refine v_iconst X (pc := 105) (v := (1 : Int32)) eL_duty_105 (by decide) ?_
        refine v_goto X (pc := 106) (tgt := 110) eL_duty_106 (by decide) ?_
        exact v_zret X (pc := 110) h hr rfl eL_duty_110
      · refine v_iconst X (pc := 109) (v := (0 : Int32)) eL_duty_109 (by decide) ?_
        exact v_zret X (pc := 110) h hr rfl eL_duty_110
    · refine v_iconst X (pc := 109) (v := (0 : Int32)) eL_duty_109 (by decide) ?_
      exact v_zret X (pc := 110) h hr rfl eL_duty_110
set_option maxHeartbeats 4000000 in
set_option maxRecDepth 100000 in
theorem cL_duty_60 {p : Program} {l : Launch} {e : Env} {s : State} {m : MethodId} {args : Array Value} {below : List Frame} {meth : Method} {c : Code} {k : KK} {f : Nat} {o : Int32} {mem' : Mem} (X : CX p s m args meth c k method_4_code 7 "WallShiftsLaw") (hr : meth.sig.returnType = (Option.some Jvm.ClassFile.FieldType.boolean)) : ∀ (x3 : Int32) (x4 : Int32) (x5 : Int32) (x6 : Int32) (mem : Mem), dL_duty_60 f x3 x4 x5 x6 mem = some (o, mem') → V p l e (rmM 0 0) s m args below meth c 0 0 (MQ below (RQc k (some (aI o)) mem') args s 0 0 (kA k)) k 7 mem 60 [(0, aR 13 0), (3, aI x3), (4, aI x4), (5, aI x5), (6, aI x6)] [] := by
  intro x3 x4 x5 x6 mem  h
  unfold dL_duty_60 at h
  refine v_iload X (pc := 60) 3 rfl eL_duty_60 ?_
  refine v_aload_n X (pc := 62) 0 rfl eL_duty_62 rfl ?_
  refine v_iconst X (pc := 63) (v := (2 : Int32)) eL_duty_63 (by decide) ?_
  refine v_ialdK X (pc := 64) (n := 66) 2 (by decide) (by decide) (by decide) (by decide) rfl eL_duty_64 ?_
  refine v_icmp_lt X (pc := 65) (tgt := 80) h eL_duty_65 (by decide) (fun h => ?_) (fun h => ?_)
  · refine v_iconst X (pc := 80) (v := (0 : Int32)) eL_duty_80 (by decide) ?_
    exact v_zret X (pc := 81) h hr rfl eL_duty_81
  · refine v_iload_n X (pc := 68) 1 rfl eL_duty_68 rfl ?_
    refine v_iconst X (pc := 69) (v := (1 : Int32)) eL_duty_69 (by decide) ?_
    refine v_icmp_ne X (pc := 70) (tgt := 82) h eL_duty_70 (by decide) (fun h => ?_) (fun h => ?_)
    · refine v_aload_n X (pc := 73) 0 rfl eL_duty_73 rfl ?_
      refine v_iconst X (pc := 74) (v := (3 : Int32)) eL_duty_74 (by decide) ?_
      refine v_ialdK X (pc := 75) (n := 66) 3 (by decide) (by decide) (by decide) (by decide) rfl eL_duty_75 ?_
      refine v_iconst X (pc := 76) (v := (3 : Int32)) eL_duty_76 (by decide) ?_
      refine v_icmp_ne X (pc := 77) (tgt := 82) h eL_duty_77 (by decide) (fun h => ?_) (fun h => ?_)
      · refine v_iconst X (pc := 80) (v := (0 : Int32)) eL_duty_80 (by decide) ?_
        exact v_zret X (pc := 81) h hr rfl eL_duty_81
      · exact v_sub [1, 2, 4] rfl (cL_duty_82 X hr _ _ _ _  h)
    · exact v_sub [1, 2, 4] rfl (cL_duty_82 X hr _ _ _ _  h)
set_option maxHeartbeats 4000000 in
set_option maxRecDepth 100000 in
theorem cL_duty {f : Nat} {a1 : Int32} {a2 : Int32} {mem : Mem} {o : Int32} {mem' : Mem}  (h : dL_duty f a1 a2 mem = some (o, mem')) : RT yL_duty method_4_code 7 (Option.some Jvm.ClassFile.FieldType.boolean) (rmM 0 0) [aR 13 0, aI a1, aI a2] mem (some (aI o)) mem' := by
  refine RT.of (by decide +kernel) (Nat.le_of_ble_eq_true rfl) (fun p l e s m args below meth c k X hr => ?_)
  replace X : CX p s m args meth c k method_4_code 7 "WallShiftsLaw" := X
  unfold dL_duty at h
  refine v_sub (lv' := [(0, _), (1, _), (2, _)]) [0, 1, 2] rfl ?_
  refine v_aload_n X (pc := 0) 0 rfl eL_duty_0 rfl ?_
  refine v_bipush X (pc := 1) (v := (6 : Int32)) eL_duty_1 (by decide) ?_
  refine v_bipush X (pc := 3) (v := (6 : Int32)) eL_duty_3 (by decide) ?_
  refine v_iload_n X (pc := 5) 1 rfl eL_duty_5 rfl ?_
  refine v_imul X (pc := 6) eL_duty_6 ?_
  refine v_iadd X (pc := 7) eL_duty_7 ?_
  refine v_iald X (pc := 8) h (by decide) (by decide) rfl eL_duty_8 (fun h => ?_)
  refine v_istore_n X (pc := 9) (lv' := [(3, _), (0, _), (1, _), (2, _)]) eL_duty_9 rfl (Nat.le_of_ble_eq_true rfl) rfl ?_
  refine v_aload_n X (pc := 10) 1 rfl eL_duty_10 rfl ?_
  refine v_bipush X (pc := 11) (v := (9 : Int32)) eL_duty_11 (by decide) ?_
  refine v_bipush X (pc := 13) (v := (6 : Int32)) eL_duty_13 (by decide) ?_
  refine v_iload_n X (pc := 15) 2 rfl eL_duty_15 rfl ?_
  refine v_imul X (pc := 16) eL_duty_16 ?_
  refine v_iadd X (pc := 17) eL_duty_17 ?_
  refine v_iald X (pc := 18) h (by decide) (by decide) rfl eL_duty_18 (fun h => ?_)
  refine v_istore X (pc := 19) (lv' := [(4, _), (3, _), (0, _), (1, _), (2, _)]) eL_duty_19 (Nat.le_of_ble_eq_true rfl) rfl ?_
  refine v_iload_n X (pc := 21) 4 rfl eL_duty_21 rfl ?_
  refine v_aload_n X (pc := 22) 2 rfl eL_duty_22 rfl ?_
  refine v_iconst X (pc := 23) (v := (1 : Int32)) eL_duty_23 (by decide) ?_
  refine v_ialdK X (pc := 24) (n := 66) 1 (by decide) (by decide) (by decide) (by decide) rfl eL_duty_24 ?_
  refine v_irem X (pc := 25) h eL_duty_25 (fun h => ?_)
  refine v_istore X (pc := 26) (lv' := [(5, _), (4, _), (3, _), (0, _), (1, _), (2, _)]) eL_duty_26 (Nat.le_of_ble_eq_true rfl) rfl ?_
  refine v_iload_n X (pc := 28) 5 rfl eL_duty_28 rfl ?_
  refine v_aload_n X (pc := 29) 3 rfl eL_duty_29 rfl ?_
  refine v_iconst X (pc := 30) (v := (1 : Int32)) eL_duty_30 (by decide) ?_
  refine v_ialdK X (pc := 31) (n := 66) 1 (by decide) (by decide) (by decide) (by decide) rfl eL_duty_31 ?_
  refine v_idiv X (pc := 32) h eL_duty_32 (fun h => ?_)
  refine v_iconst X (pc := 33) (v := (4 : Int32)) eL_duty_33 (by decide) ?_
  refine v_irem X (pc := 34) h eL_duty_34 (fun h => ?_)
  refine v_istore X (pc := 35) (lv' := [(6, _), (5, _), (4, _), (3, _), (0, _), (1, _), (2, _)]) eL_duty_35 (Nat.le_of_ble_eq_true rfl) rfl ?_
  refine v_iload_n X (pc := 37) 3 rfl eL_duty_37 rfl ?_
  refine v_iconst X (pc := 38) (v := (4 : Int32)) eL_duty_38 (by decide) ?_
  refine v_icmp_ne X (pc := 39) (tgt := 60) h eL_duty_39 (by decide) (fun h => ?_) (fun h => ?_)
  · refine v_aload_n X (pc := 42) 4 rfl eL_duty_42 rfl ?_
    refine v_iconst X (pc := 43) (v := (3 : Int32)) eL_duty_43 (by decide) ?_
    refine v_ialdK X (pc := 44) (n := 66) 3 (by decide) (by decide) (by decide) (by decide) rfl eL_duty_44 ?_
    refine v_iconst X (pc := 45) (v := (3 : Int32)) eL_duty_45 (by decide) ?_
    refine v_icmp_ne X (pc := 46) (tgt := 60) h eL_duty_46 (by decide) (fun h => ?_) (fun h => ?_)
    · refine v_iload X (pc := 49) 1 rfl eL_duty_49 ?_
      refine v_if_ne X (pc := 51) (tgt := 58) h eL_duty_51 (by decide) (fun h => ?_) (fun h => ?_)
      · refine v_iconst X (pc := 54) (v := (1 : Int32)) eL_duty_54 (by decide) ?_
        refine v_goto X (pc := 55) (tgt := 59) eL_duty_55 (by decide) ?_
        exact v_zret X (pc := 59) h hr rfl eL_duty_59
      · refine v_iconst X (pc := 58) (v := (0 : Int32)) eL_duty_58 (by decide) ?_
        exact v_zret X (pc := 59) h hr rfl eL_duty_59
    · exact v_sub [4, 3, 2, 1, 0] rfl (cL_duty_60 X hr _ _ _ _ _  h)
  · exact v_sub [4, 3, 2, 1, 0] rfl (cL_duty_60 X hr _ _ _ _ _  h)
set_option maxHeartbeats 4000000 in
set_option maxRecDepth 100000 in
theorem cL_tires {f : Nat} {a1 : Int32} {mem : Mem} {o : Int32} {mem' : Mem}  (h : dL_tires f a1 mem = some (o, mem')) : RT yL_tires method_6_code 3 (Option.some Jvm.ClassFile.FieldType.int) (rmM 0 0) [aR 13 0, aI a1] mem (some (aI o)) mem' := by
  refine RT.of (by decide +kernel) (Nat.le_of_ble_eq_true rfl) (fun p l e s m args below meth c k X hr => ?_)
  replace X : CX p s m args meth c k method_6_code 3 "WallShiftsLaw" := X
  unfold dL_tires at h
  refine v_sub (lv' := [(0, _), (1, _)]) [0, 1] rfl ?_
  refine v_aload_n X (pc := 0) 0 rfl eL_tires_0 rfl ?_
  refine v_bipush X (pc := 1) (v := (6 : Int32)) eL_tires_1 (by decide) ?_
  refine v_bipush X (pc := 3) (v := (6 : Int32)) eL_tires_3 (by decide) ?_
  refine v_iload_n X (pc := 5) 1 rfl eL_tires_5 rfl ?_
  refine v_imul X (pc := 6) eL_tires_6 ?_
  refine v_iadd X (pc := 7) eL_tires_7 ?_
  refine v_iald X (pc := 8) h (by decide) (by decide) rfl eL_tires_8 (fun h => ?_)
  refine v_istore_n X (pc := 9) (lv' := [(2, _), (0, _), (1, _)]) eL_tires_9 rfl (Nat.le_of_ble_eq_true rfl) rfl ?_
  refine v_iload_n X (pc := 10) 0 rfl eL_tires_10 rfl ?_
  refine v_iconst X (pc := 11) (v := (4 : Int32)) eL_tires_11 (by decide) ?_
  refine v_icmp_ne X (pc := 12) (tgt := 19) h eL_tires_12 (by decide) (fun h => ?_) (fun h => ?_)
  · refine v_iconst X (pc := 15) (v := (0 : Int32)) eL_tires_15 (by decide) ?_
    refine v_goto X (pc := 16) (tgt := 34) eL_tires_16 (by decide) ?_
    exact v_iret X (pc := 34) h hr eL_tires_34
  · refine v_iload_n X (pc := 19) 0 rfl eL_tires_19 rfl ?_
    refine v_iconst X (pc := 20) (v := (3 : Int32)) eL_tires_20 (by decide) ?_
    refine v_icmp_eq X (pc := 21) (tgt := 29) h eL_tires_21 (by decide) (fun h => ?_) (fun h => ?_)
    · refine v_iconst X (pc := 29) (v := (2 : Int32)) eL_tires_29 (by decide) ?_
      refine v_goto X (pc := 30) (tgt := 34) eL_tires_30 (by decide) ?_
      exact v_iret X (pc := 34) h hr eL_tires_34
    · refine v_iload_n X (pc := 24) 0 rfl eL_tires_24 rfl ?_
      refine v_iconst X (pc := 25) (v := (5 : Int32)) eL_tires_25 (by decide) ?_
      refine v_icmp_ne X (pc := 26) (tgt := 33) h eL_tires_26 (by decide) (fun h => ?_) (fun h => ?_)
      · refine v_iconst X (pc := 29) (v := (2 : Int32)) eL_tires_29 (by decide) ?_
        refine v_goto X (pc := 30) (tgt := 34) eL_tires_30 (by decide) ?_
        exact v_iret X (pc := 34) h hr eL_tires_34
      · refine v_iconst X (pc := 33) (v := (1 : Int32)) eL_tires_33 (by decide) ?_
        exact v_iret X (pc := 34) h hr eL_tires_34
set_option maxHeartbeats 4000000 in
set_option maxRecDepth 100000 in
theorem cL_reach_15 {p : Program} {l : Launch} {e : Env} {s : State} {m : MethodId} {args : Array Value} {below : List Frame} {meth : Method} {c : Code} {k : KK} {f : Nat} {o : Int32} {mem' : Mem} (X : CX p s m args meth c k method_7_code 6 "WallShiftsLaw") (hr : meth.sig.returnType = (Option.some Jvm.ClassFile.FieldType.int)) {k6 : Int32 → Int32 → Mem → Option (Int32 × Mem)} (hk6 : ∀ (x2 : Int32) (x3 : Int32) (mem : Mem), k6 x2 x3 mem = some (o, mem') → V p l e (rmM 0 0) s m args below meth c 0 0 (MQ below (RQc k (some (aI o)) mem') args s 0 0 (kA k)) k 6 mem 6 [(0, aR 13 0), (2, aI x2), (3, aI x3)] []) : ∀ (n : Nat) (x2 : Int32) (x3 : Int32) (x4 : Int32) (mem : Mem), dL_reach_15 f k6 n x2 x3 x4 mem = some (o, mem') → V p l e (rmM 0 0) s m args below meth c 0 0 (MQ below (RQc k (some (aI o)) mem') args s 0 0 (kA k)) k 6 mem 15 [(0, aR 13 0), (2, aI x2), (3, aI x3), (4, aI x4)] [] := by
  intro n
  induction n with
  | zero =>
    intro x2 x3 x4 mem  h
    exact nomatch (show (none : Option (Int32 × Mem)) = some _ from h)
  | succ n ih =>
    intro x2 x3 x4 mem  h
    rw [dL_reach_15] at h
    refine v_iload X (pc := 15) 3 rfl eL_reach_15 ?_
    refine v_aload_n X (pc := 17) 0 rfl eL_reach_17 rfl ?_
    refine v_iconst X (pc := 18) (v := (5 : Int32)) eL_reach_18 (by decide) ?_
    refine v_ialdK X (pc := 19) (n := 66) 5 (by decide) (by decide) (by decide) (by decide) rfl eL_reach_19 ?_
    refine v_icmp_ge X (pc := 20) (tgt := 82) h eL_reach_20 (by decide) (fun h => ?_) (fun h => ?_)
    · refine v_iconst X (pc := 23) (v := (1 : Int32)) eL_reach_23 (by decide) ?_
      refine v_aload_n X (pc := 24) 0 rfl eL_reach_24 rfl ?_
      refine v_bipush X (pc := 25) (v := (7 : Int32)) eL_reach_25 (by decide) ?_
      refine v_bipush X (pc := 27) (v := (6 : Int32)) eL_reach_27 (by decide) ?_
      refine v_iload X (pc := 29) 3 rfl eL_reach_29 ?_
      refine v_imul X (pc := 31) eL_reach_31 ?_
      refine v_iadd X (pc := 32) eL_reach_32 ?_
      refine v_iald X (pc := 33) h (by decide) (by decide) rfl eL_reach_33 (fun h => ?_)
      refine v_ishl X (pc := 34) eL_reach_34 ?_
      refine v_iconst X (pc := 35) (v := (1 : Int32)) eL_reach_35 (by decide) ?_
      refine v_aload_n X (pc := 36) 0 rfl eL_reach_36 rfl ?_
      refine v_bipush X (pc := 37) (v := (8 : Int32)) eL_reach_37 (by decide) ?_
      refine v_bipush X (pc := 39) (v := (6 : Int32)) eL_reach_39 (by decide) ?_
      refine v_iload X (pc := 41) 3 rfl eL_reach_41 ?_
      refine v_imul X (pc := 43) eL_reach_43 ?_
      refine v_iadd X (pc := 44) eL_reach_44 ?_
      refine v_iald X (pc := 45) h (by decide) (by decide) rfl eL_reach_45 (fun h => ?_)
      refine v_ishl X (pc := 46) eL_reach_46 ?_
      refine v_ior X (pc := 47) eL_reach_47 ?_
      refine v_istore X (pc := 48) (lv' := [(5, _), (0, _), (2, _), (3, _), (4, _)]) eL_reach_48 (Nat.le_of_ble_eq_true rfl) rfl ?_
      refine v_aload_n X (pc := 50) 1 rfl eL_reach_50 rfl ?_
      refine v_bipush X (pc := 51) (v := (6 : Int32)) eL_reach_51 (by decide) ?_
      refine v_bipush X (pc := 53) (v := (6 : Int32)) eL_reach_53 (by decide) ?_
      refine v_iload X (pc := 55) 4 rfl eL_reach_55 ?_
      refine v_imul X (pc := 57) eL_reach_57 ?_
      refine v_iadd X (pc := 58) eL_reach_58 ?_
      refine v_iald X (pc := 59) h (by decide) (by decide) rfl eL_reach_59 (fun h => ?_)
      refine v_iconst X (pc := 60) (v := (3 : Int32)) eL_reach_60 (by decide) ?_
      refine v_icmp_ne X (pc := 61) (tgt := 76) h eL_reach_61 (by decide) (fun h => ?_) (fun h => ?_)
      · refine v_iload X (pc := 64) 0 rfl eL_reach_64 ?_
        refine v_iload_n X (pc := 66) 2 rfl eL_reach_66 rfl ?_
        refine v_iand X (pc := 67) eL_reach_67 ?_
        refine v_if_eq X (pc := 68) (tgt := 76) h eL_reach_68 (by decide) (fun h => ?_) (fun h => ?_)
        · refine v_iinc X (pc := 76) (v := (x4 + (1 : Int32))) (lv' := [(4, _), (5, _), (0, _), (2, _), (3, _)]) 4 rfl (by rfl) eL_reach_76 (Nat.le_of_ble_eq_true rfl) rfl ?_
          refine v_goto X (pc := 79) (tgt := 15) eL_reach_79 (by decide) ?_
          exact v_sub [2, 3, 4, 0] rfl (ih _ _ _ _  h)
        · refine v_iload_n X (pc := 71) 2 rfl eL_reach_71 rfl ?_
          refine v_iload X (pc := 72) 0 rfl eL_reach_72 ?_
          refine v_ior X (pc := 74) eL_reach_74 ?_
          refine v_istore_n X (pc := 75) (lv' := [(2, _), (5, _), (0, _), (3, _), (4, _)]) eL_reach_75 rfl (Nat.le_of_ble_eq_true rfl) rfl ?_
          refine v_iinc X (pc := 76) (v := (x4 + (1 : Int32))) (lv' := [(4, _), (2, _), (5, _), (0, _), (3, _)]) 4 rfl (by rfl) eL_reach_76 (Nat.le_of_ble_eq_true rfl) rfl ?_
          refine v_goto X (pc := 79) (tgt := 15) eL_reach_79 (by decide) ?_
          exact v_sub [3, 1, 4, 0] rfl (ih _ _ _ _  h)
      · refine v_iinc X (pc := 76) (v := (x4 + (1 : Int32))) (lv' := [(4, _), (5, _), (0, _), (2, _), (3, _)]) 4 rfl (by rfl) eL_reach_76 (Nat.le_of_ble_eq_true rfl) rfl ?_
        refine v_goto X (pc := 79) (tgt := 15) eL_reach_79 (by decide) ?_
        exact v_sub [2, 3, 4, 0] rfl (ih _ _ _ _  h)
    · refine v_iinc X (pc := 82) (v := (x3 + (1 : Int32))) (lv' := [(3, _), (0, _), (2, _), (4, _)]) 2 rfl (by rfl) eL_reach_82 (Nat.le_of_ble_eq_true rfl) rfl ?_
      refine v_goto X (pc := 85) (tgt := 6) eL_reach_85 (by decide) ?_
      exact v_sub [1, 2, 0] rfl (hk6 _ _ _  h)
set_option maxHeartbeats 4000000 in
set_option maxRecDepth 100000 in
theorem cL_reach_6 {p : Program} {l : Launch} {e : Env} {s : State} {m : MethodId} {args : Array Value} {below : List Frame} {meth : Method} {c : Code} {k : KK} {f : Nat} {o : Int32} {mem' : Mem} (X : CX p s m args meth c k method_7_code 6 "WallShiftsLaw") (hr : meth.sig.returnType = (Option.some Jvm.ClassFile.FieldType.int)) : ∀ (n : Nat) (x2 : Int32) (x3 : Int32) (mem : Mem), dL_reach_6 f n x2 x3 mem = some (o, mem') → V p l e (rmM 0 0) s m args below meth c 0 0 (MQ below (RQc k (some (aI o)) mem') args s 0 0 (kA k)) k 6 mem 6 [(0, aR 13 0), (2, aI x2), (3, aI x3)] [] := by
  intro n
  induction n with
  | zero =>
    intro x2 x3 mem  h
    exact nomatch (show (none : Option (Int32 × Mem)) = some _ from h)
  | succ n ih =>
    intro x2 x3 mem  h
    rw [dL_reach_6] at h
    refine v_iload_n X (pc := 6) 2 rfl eL_reach_6 rfl ?_
    refine v_bipush X (pc := 7) (v := (10 : Int32)) eL_reach_7 (by decide) ?_
    refine v_icmp_ge X (pc := 9) (tgt := 88) h eL_reach_9 (by decide) (fun h => ?_) (fun h => ?_)
    · refine v_iconst X (pc := 12) (v := (0 : Int32)) eL_reach_12 (by decide) ?_
      refine v_istore X (pc := 13) (lv' := [(4, _), (0, _), (2, _), (3, _)]) eL_reach_13 (Nat.le_of_ble_eq_true rfl) rfl ?_
      exact v_sub [1, 2, 3, 0] rfl (cL_reach_15 X hr ih _ _ _ _ _  h)
    · refine v_iload_n X (pc := 88) 1 rfl eL_reach_88 rfl ?_
      exact v_iret X (pc := 89) h hr eL_reach_89
set_option maxHeartbeats 4000000 in
set_option maxRecDepth 100000 in
theorem cL_reach {f : Nat} {a1 : Int32} {mem : Mem} {o : Int32} {mem' : Mem}  (h : dL_reach f a1 mem = some (o, mem')) : RT yL_reach method_7_code 6 (Option.some Jvm.ClassFile.FieldType.int) (rmM 0 0) [aR 13 0, aI a1] mem (some (aI o)) mem' := by
  refine RT.of (by decide +kernel) (Nat.le_of_ble_eq_true rfl) (fun p l e s m args below meth c k X hr => ?_)
  replace X : CX p s m args meth c k method_7_code 6 "WallShiftsLaw" := X
  unfold dL_reach at h
  refine v_sub (lv' := [(0, _), (1, _)]) [0, 1] rfl ?_
  refine v_iconst X (pc := 0) (v := (1 : Int32)) eL_reach_0 (by decide) ?_
  refine v_iload_n X (pc := 1) 1 rfl eL_reach_1 rfl ?_
  refine v_ishl X (pc := 2) eL_reach_2 ?_
  refine v_istore_n X (pc := 3) (lv' := [(2, _), (0, _), (1, _)]) eL_reach_3 rfl (Nat.le_of_ble_eq_true rfl) rfl ?_
  refine v_iconst X (pc := 4) (v := (0 : Int32)) eL_reach_4 (by decide) ?_
  refine v_istore_n X (pc := 5) (lv' := [(3, _), (2, _), (0, _), (1, _)]) eL_reach_5 rfl (Nat.le_of_ble_eq_true rfl) rfl ?_
  exact v_sub [2, 1, 0] rfl (cL_reach_6 X hr _ _ _ _  h)
set_option maxHeartbeats 4000000 in
set_option maxRecDepth 100000 in
theorem cL_isSo_213 {p : Program} {l : Launch} {e : Env} {s : State} {m : MethodId} {args : Array Value} {below : List Frame} {meth : Method} {c : Code} {k : KK} {f : Nat} {o : Int32} {mem' : Mem} (X : CX p s m args meth c k method_19_code 10 "WallShiftsLaw") (hr : meth.sig.returnType = (Option.some Jvm.ClassFile.FieldType.boolean)) {k16 : Int32 → Int32 → Int32 → Int32 → Int32 → Int32 → Mem → Option (Int32 × Mem)} (hk16 : ∀ (x2 : Int32) (x3 : Int32) (x4 : Int32) (x5 : Int32) (x6 : Int32) (x7 : Int32) (mem : Mem), k16 x2 x3 x4 x5 x6 x7 mem = some (o, mem') → V p l e (rmM 4 98) s m args below meth c 0 0 (MQ below (RQc k (some (aI o)) mem') args s 0 0 (kA k)) k 10 mem 16 [(0, aR 0 0), (1, aR 13 0), (2, aI x2), (3, aI x3), (4, aI x4), (5, aI x5), (6, aI x6), (7, aI x7)] []) : ∀ (x2 : Int32) (x3 : Int32) (x4 : Int32) (x5 : Int32) (x6 : Int32) (x7 : Int32) (x8 : Int32) (mem : Mem), dL_isSo_213 f k16 x2 x3 x4 x5 x6 x7 x8 mem = some (o, mem') → V p l e (rmM 4 98) s m args below meth c 0 0 (MQ below (RQc k (some (aI o)) mem') args s 0 0 (kA k)) k 10 mem 213 [(0, aR 0 0), (1, aR 13 0), (2, aI x2), (3, aI x3), (4, aI x4), (5, aI x5), (6, aI x6), (7, aI x7), (8, aI x8)] [] := by
  intro x2 x3 x4 x5 x6 x7 x8 mem  h
  unfold dL_isSo_213 at h
  refine v_iload X (pc := 213) 8 rfl eL_isSo_213 ?_
  refine v_if_eq X (pc := 215) (tgt := 227) h eL_isSo_215 (by decide) (fun h => ?_) (fun h => ?_)
  · refine v_iinc X (pc := 227) (v := (x7 + (1 : Int32))) (lv' := [(7, _), (0, _), (1, _), (2, _), (3, _), (4, _), (5, _), (6, _), (8, _)]) 7 rfl (by rfl) eL_isSo_227 (Nat.le_of_ble_eq_true rfl) rfl ?_
    refine v_goto X (pc := 230) (tgt := 16) eL_isSo_230 (by decide) ?_
    exact v_sub [1, 2, 3, 4, 5, 6, 7, 0] rfl (hk16 _ _ _ _ _ _ _  h)
  · refine v_iload X (pc := 218) 6 rfl eL_isSo_218 ?_
    refine v_iconst X (pc := 220) (v := (1 : Int32)) eL_isSo_220 (by decide) ?_
    refine v_iload X (pc := 221) 7 rfl eL_isSo_221 ?_
    refine v_ishl X (pc := 223) eL_isSo_223 ?_
    refine v_ior X (pc := 224) eL_isSo_224 ?_
    refine v_istore X (pc := 225) (lv' := [(6, _), (0, _), (1, _), (2, _), (3, _), (4, _), (5, _), (7, _), (8, _)]) eL_isSo_225 (Nat.le_of_ble_eq_true rfl) rfl ?_
    refine v_iinc X (pc := 227) (v := (x7 + (1 : Int32))) (lv' := [(7, _), (6, _), (0, _), (1, _), (2, _), (3, _), (4, _), (5, _), (8, _)]) 7 rfl (by rfl) eL_isSo_227 (Nat.le_of_ble_eq_true rfl) rfl ?_
    refine v_goto X (pc := 230) (tgt := 16) eL_isSo_230 (by decide) ?_
    exact v_sub [2, 3, 4, 5, 6, 7, 1, 0] rfl (hk16 _ _ _ _ _ _ _  h)
set_option maxHeartbeats 4000000 in
set_option maxRecDepth 100000 in
theorem cL_isSo_139 {p : Program} {l : Launch} {e : Env} {s : State} {m : MethodId} {args : Array Value} {below : List Frame} {meth : Method} {c : Code} {k : KK} {f : Nat} {o : Int32} {mem' : Mem} (X : CX p s m args meth c k method_19_code 10 "WallShiftsLaw") (hr : meth.sig.returnType = (Option.some Jvm.ClassFile.FieldType.boolean)) {k16 : Int32 → Int32 → Int32 → Int32 → Int32 → Int32 → Mem → Option (Int32 × Mem)} (hk16 : ∀ (x2 : Int32) (x3 : Int32) (x4 : Int32) (x5 : Int32) (x6 : Int32) (x7 : Int32) (mem : Mem), k16 x2 x3 x4 x5 x6 x7 mem = some (o, mem') → V p l e (rmM 4 98) s m args below meth c 0 0 (MQ below (RQc k (some (aI o)) mem') args s 0 0 (kA k)) k 10 mem 16 [(0, aR 0 0), (1, aR 13 0), (2, aI x2), (3, aI x3), (4, aI x4), (5, aI x5), (6, aI x6), (7, aI x7)] []) : ∀ (x2 : Int32) (x3 : Int32) (x4 : Int32) (x5 : Int32) (x6 : Int32) (x7 : Int32) (x8 : Int32) (x9 : Int32) (s0 : Int32) (s1 : Int32) (mem : Mem), dL_isSo_139 f k16 x2 x3 x4 x5 x6 x7 x8 x9 s0 s1 mem = some (o, mem') → V p l e (rmM 4 98) s m args below meth c 0 0 (MQ below (RQc k (some (aI o)) mem') args s 0 0 (kA k)) k 10 mem 139 [(0, aR 0 0), (1, aR 13 0), (2, aI x2), (3, aI x3), (4, aI x4), (5, aI x5), (6, aI x6), (7, aI x7), (8, aI x8), (9, aI x9)] [aI s1, aI s0] := by
  intro x2 x3 x4 x5 x6 x7 x8 x9 s0 s1 mem  h
  unfold dL_isSo_139 at h
  refine v_icmp_ne X (pc := 139) (tgt := 159) h eL_isSo_139 (by decide) (fun h => ?_) (fun h => ?_)
  · refine v_aload_n X (pc := 142) 0 rfl eL_isSo_142 rfl ?_
    refine v_iload X (pc := 143) 7 rfl eL_isSo_143 ?_
    refine v_bipush X (pc := 145) (v := (8 : Int32)) eL_isSo_145 (by decide) ?_
    obtain ⟨r1, m1, hc1, h⟩ := bd_some h
    refine v_callV X (pc := 147) [_, _] [] ok_V_L_69 (cW_of  hc1) rfl (Nat.le_of_ble_eq_true rfl) ⟨Nat.le_of_ble_eq_true rfl, Nat.le_of_ble_eq_true rfl⟩ ⟨Nat.zero_le _, Nat.zero_le _⟩ (by decide) (by decide) rfl rfl eL_isSo_147 ?_
    refine v_aload_n X (pc := 150) 1 rfl eL_isSo_150 rfl ?_
    refine v_iload X (pc := 151) 7 rfl eL_isSo_151 ?_
    obtain ⟨r2, m2, hc2, h⟩ := bd_some h
    refine v_callS X (pc := 153) [_, _] [_] ok_S_L_24 (cL_tires  hc2) rfl (Nat.le_of_ble_eq_true rfl) ⟨Nat.le_of_ble_eq_true rfl, Nat.le_of_ble_eq_true rfl⟩ ⟨Nat.zero_le _, Nat.zero_le _⟩ eL_isSo_153 ?_
    refine v_icmp_eq X (pc := 156) (tgt := 161) h eL_isSo_156 (by decide) (fun h => ?_) (fun h => ?_)
    · refine v_iload_n X (pc := 161) 2 rfl eL_isSo_161 rfl ?_
      refine v_aload_n X (pc := 162) 1 rfl eL_isSo_162 rfl ?_
      refine v_bipush X (pc := 163) (v := (10 : Int32)) eL_isSo_163 (by decide) ?_
      refine v_bipush X (pc := 165) (v := (6 : Int32)) eL_isSo_165 (by decide) ?_
      refine v_iload X (pc := 167) 7 rfl eL_isSo_167 ?_
      refine v_imul X (pc := 169) eL_isSo_169 ?_
      refine v_iadd X (pc := 170) eL_isSo_170 ?_
      refine v_iald X (pc := 171) h (by decide) (by decide) rfl eL_isSo_171 (fun h => ?_)
      refine v_ior X (pc := 172) eL_isSo_172 ?_
      refine v_istore_n X (pc := 173) (lv' := [(2, _), (0, _), (1, _), (3, _), (4, _), (5, _), (6, _), (7, _), (8, _), (9, _)]) eL_isSo_173 rfl (Nat.le_of_ble_eq_true rfl) rfl ?_
      refine v_iload_n X (pc := 174) 3 rfl eL_isSo_174 rfl ?_
      refine v_aload_n X (pc := 175) 2 rfl eL_isSo_175 rfl ?_
      refine v_bipush X (pc := 176) (v := (11 : Int32)) eL_isSo_176 (by decide) ?_
      refine v_bipush X (pc := 178) (v := (6 : Int32)) eL_isSo_178 (by decide) ?_
      refine v_iload X (pc := 180) 7 rfl eL_isSo_180 ?_
      refine v_imul X (pc := 182) eL_isSo_182 ?_
      refine v_iadd X (pc := 183) eL_isSo_183 ?_
      refine v_iald X (pc := 184) h (by decide) (by decide) rfl eL_isSo_184 (fun h => ?_)
      refine v_iadd X (pc := 185) eL_isSo_185 ?_
      refine v_istore_n X (pc := 186) (lv' := [(3, _), (2, _), (0, _), (1, _), (4, _), (5, _), (6, _), (7, _), (8, _), (9, _)]) eL_isSo_186 rfl (Nat.le_of_ble_eq_true rfl) rfl ?_
      refine v_iload X (pc := 187) 4 rfl eL_isSo_187 ?_
      refine v_aload_n X (pc := 189) 3 rfl eL_isSo_189 rfl ?_
      refine v_bipush X (pc := 190) (v := (10 : Int32)) eL_isSo_190 (by decide) ?_
      refine v_bipush X (pc := 192) (v := (6 : Int32)) eL_isSo_192 (by decide) ?_
      refine v_iload X (pc := 194) 7 rfl eL_isSo_194 ?_
      refine v_imul X (pc := 196) eL_isSo_196 ?_
      refine v_iadd X (pc := 197) eL_isSo_197 ?_
      refine v_iald X (pc := 198) h (by decide) (by decide) rfl eL_isSo_198 (fun h => ?_)
      obtain ⟨r3, m3, hc3, h⟩ := bd_some h
      refine v_callS X (pc := 199) [_] [_] ok_S_L_30 (cL_ones  hc3) rfl (Nat.le_of_ble_eq_true rfl) ⟨Nat.le_of_ble_eq_true rfl, Nat.le_of_ble_eq_true rfl⟩ ⟨Nat.zero_le _, Nat.zero_le _⟩ eL_isSo_199 ?_
      refine v_iadd X (pc := 202) eL_isSo_202 ?_
      refine v_istore X (pc := 203) (lv' := [(4, _), (3, _), (2, _), (0, _), (1, _), (5, _), (6, _), (7, _), (8, _), (9, _)]) eL_isSo_203 (Nat.le_of_ble_eq_true rfl) rfl ?_
      refine v_iload X (pc := 205) 9 rfl eL_isSo_205 ?_
      refine v_if_eq X (pc := 207) (tgt := 213) h eL_isSo_207 (by decide) (fun h => ?_) (fun h => ?_)
      · exact v_sub [3, 4, 2, 1, 0, 5, 6, 7, 8] rfl (cL_isSo_213 X hr hk16 _ _ _ _ _ _ _ _  h)
      · refine v_iinc X (pc := 210) (v := (x5 + (1 : Int32))) (lv' := [(5, _), (4, _), (3, _), (2, _), (0, _), (1, _), (6, _), (7, _), (8, _), (9, _)]) 5 rfl (by rfl) eL_isSo_210 (Nat.le_of_ble_eq_true rfl) rfl ?_
        exact v_sub [4, 5, 3, 2, 1, 0, 6, 7, 8] rfl (cL_isSo_213 X hr hk16 _ _ _ _ _ _ _ _  h)
    · refine v_iconst X (pc := 159) (v := (0 : Int32)) eL_isSo_159 (by decide) ?_
      exact v_zret X (pc := 160) h hr rfl eL_isSo_160
  · refine v_iconst X (pc := 159) (v := (0 : Int32)) eL_isSo_159 (by decide) ?_
    exact v_zret X (pc := 160) h hr rfl eL_isSo_160
set_option maxHeartbeats 4000000 in
set_option maxRecDepth 100000 in
theorem cL_isSo_118 {p : Program} {l : Launch} {e : Env} {s : State} {m : MethodId} {args : Array Value} {below : List Frame} {meth : Method} {c : Code} {k : KK} {f : Nat} {o : Int32} {mem' : Mem} (X : CX p s m args meth c k method_19_code 10 "WallShiftsLaw") (hr : meth.sig.returnType = (Option.some Jvm.ClassFile.FieldType.boolean)) {k16 : Int32 → Int32 → Int32 → Int32 → Int32 → Int32 → Mem → Option (Int32 × Mem)} (hk16 : ∀ (x2 : Int32) (x3 : Int32) (x4 : Int32) (x5 : Int32) (x6 : Int32) (x7 : Int32) (mem : Mem), k16 x2 x3 x4 x5 x6 x7 mem = some (o, mem') → V p l e (rmM 4 98) s m args below meth c 0 0 (MQ below (RQc k (some (aI o)) mem') args s 0 0 (kA k)) k 10 mem 16 [(0, aR 0 0), (1, aR 13 0), (2, aI x2), (3, aI x3), (4, aI x4), (5, aI x5), (6, aI x6), (7, aI x7)] []) : ∀ (x2 : Int32) (x3 : Int32) (x4 : Int32) (x5 : Int32) (x6 : Int32) (x7 : Int32) (x8 : Int32) (x9 : Int32) (s0 : Int32) (s1 : Int32) (mem : Mem), dL_isSo_118 f k16 x2 x3 x4 x5 x6 x7 x8 x9 s0 s1 mem = some (o, mem') → V p l e (rmM 4 98) s m args below meth c 0 0 (MQ below (RQc k (some (aI o)) mem') args s 0 0 (kA k)) k 10 mem 118 [(0, aR 0 0), (1, aR 13 0), (2, aI x2), (3, aI x3), (4, aI x4), (5, aI x5), (6, aI x6), (7, aI x7), (8, aI x8), (9, aI x9)] [aI s1, aI s0] := by
  intro x2 x3 x4 x5 x6 x7 x8 x9 s0 s1 mem  h
  unfold dL_isSo_118 at h
  refine v_icmp_ne X (pc := 118) (tgt := 159) h eL_isSo_118 (by decide) (fun h => ?_) (fun h => ?_)
  · refine v_aload_n X (pc := 121) 0 rfl eL_isSo_121 rfl ?_
    refine v_iload X (pc := 122) 7 rfl eL_isSo_122 ?_
    refine v_bipush X (pc := 124) (v := (7 : Int32)) eL_isSo_124 (by decide) ?_
    obtain ⟨r1, m1, hc1, h⟩ := bd_some h
    refine v_callV X (pc := 126) [_, _] [] ok_V_L_69 (cW_of  hc1) rfl (Nat.le_of_ble_eq_true rfl) ⟨Nat.le_of_ble_eq_true rfl, Nat.le_of_ble_eq_true rfl⟩ ⟨Nat.zero_le _, Nat.zero_le _⟩ (by decide) (by decide) rfl rfl eL_isSo_126 ?_
    refine v_iload X (pc := 129) 9 rfl eL_isSo_129 ?_
    refine v_if_eq X (pc := 131) (tgt := 138) h eL_isSo_131 (by decide) (fun h => ?_) (fun h => ?_)
    · refine v_iconst X (pc := 138) (v := (0 : Int32)) eL_isSo_138 (by decide) ?_
      exact v_sub [0, 1, 2, 3, 4, 5, 6, 7, 8, 9] rfl (cL_isSo_139 X hr hk16 _ _ _ _ _ _ _ _ _ _ _  h)
    · refine v_iconst X (pc := 134) (v := (1 : Int32)) eL_isSo_134 (by decide) ?_
      refine v_goto X (pc := 135) (tgt := 139) eL_isSo_135 (by decide) ?_
      exact v_sub [0, 1, 2, 3, 4, 5, 6, 7, 8, 9] rfl (cL_isSo_139 X hr hk16 _ _ _ _ _ _ _ _ _ _ _  h)
  · refine v_iconst X (pc := 159) (v := (0 : Int32)) eL_isSo_159 (by decide) ?_
    exact v_zret X (pc := 160) h hr rfl eL_isSo_160
set_option maxHeartbeats 4000000 in
set_option maxRecDepth 100000 in
theorem cL_isSo_98 {p : Program} {l : Launch} {e : Env} {s : State} {m : MethodId} {args : Array Value} {below : List Frame} {meth : Method} {c : Code} {k : KK} {f : Nat} {o : Int32} {mem' : Mem} (X : CX p s m args meth c k method_19_code 10 "WallShiftsLaw") (hr : meth.sig.returnType = (Option.some Jvm.ClassFile.FieldType.boolean)) {k16 : Int32 → Int32 → Int32 → Int32 → Int32 → Int32 → Mem → Option (Int32 × Mem)} (hk16 : ∀ (x2 : Int32) (x3 : Int32) (x4 : Int32) (x5 : Int32) (x6 : Int32) (x7 : Int32) (mem : Mem), k16 x2 x3 x4 x5 x6 x7 mem = some (o, mem') → V p l e (rmM 4 98) s m args below meth c 0 0 (MQ below (RQc k (some (aI o)) mem') args s 0 0 (kA k)) k 10 mem 16 [(0, aR 0 0), (1, aR 13 0), (2, aI x2), (3, aI x3), (4, aI x4), (5, aI x5), (6, aI x6), (7, aI x7)] []) : ∀ (x2 : Int32) (x3 : Int32) (x4 : Int32) (x5 : Int32) (x6 : Int32) (x7 : Int32) (x8 : Int32) (s0 : Int32) (mem : Mem), dL_isSo_98 f k16 x2 x3 x4 x5 x6 x7 x8 s0 mem = some (o, mem') → V p l e (rmM 4 98) s m args below meth c 0 0 (MQ below (RQc k (some (aI o)) mem') args s 0 0 (kA k)) k 10 mem 98 [(0, aR 0 0), (1, aR 13 0), (2, aI x2), (3, aI x3), (4, aI x4), (5, aI x5), (6, aI x6), (7, aI x7), (8, aI x8)] [aI s0] := by
  intro x2 x3 x4 x5 x6 x7 x8 s0 mem  h
  unfold dL_isSo_98 at h
  refine v_istore X (pc := 98) (lv' := [(9, _), (0, _), (1, _), (2, _), (3, _), (4, _), (5, _), (6, _), (7, _), (8, _)]) eL_isSo_98 (Nat.le_of_ble_eq_true rfl) rfl ?_
  refine v_aload_n X (pc := 100) 1 rfl eL_isSo_100 rfl ?_
  refine v_iload X (pc := 101) 8 rfl eL_isSo_101 ?_
  refine v_bipush X (pc := 103) (v := (6 : Int32)) eL_isSo_103 (by decide) ?_
  obtain ⟨r1, m1, hc1, h⟩ := bd_some h
  refine v_callV X (pc := 105) [_, _] [] ok_V_L_69 (cW_of  hc1) rfl (Nat.le_of_ble_eq_true rfl) ⟨Nat.le_of_ble_eq_true rfl, Nat.le_of_ble_eq_true rfl⟩ ⟨Nat.zero_le _, Nat.zero_le _⟩ (by decide) (by decide) rfl rfl eL_isSo_105 ?_
  refine v_iload X (pc := 108) 9 rfl eL_isSo_108 ?_
  refine v_if_eq X (pc := 110) (tgt := 117) h eL_isSo_110 (by decide) (fun h => ?_) (fun h => ?_)
  · refine v_iconst X (pc := 117) (v := (0 : Int32)) eL_isSo_117 (by decide) ?_
    exact v_sub [1, 2, 3, 4, 5, 6, 7, 8, 9, 0] rfl (cL_isSo_118 X hr hk16 _ _ _ _ _ _ _ _ _ _ _  h)
  · refine v_iconst X (pc := 113) (v := (1 : Int32)) eL_isSo_113 (by decide) ?_
    refine v_goto X (pc := 114) (tgt := 118) eL_isSo_114 (by decide) ?_
    exact v_sub [1, 2, 3, 4, 5, 6, 7, 8, 9, 0] rfl (cL_isSo_118 X hr hk16 _ _ _ _ _ _ _ _ _ _ _  h)
set_option maxHeartbeats 4000000 in
set_option maxRecDepth 100000 in
theorem cL_isSo_27 {p : Program} {l : Launch} {e : Env} {s : State} {m : MethodId} {args : Array Value} {below : List Frame} {meth : Method} {c : Code} {k : KK} {f : Nat} {o : Int32} {mem' : Mem} (X : CX p s m args meth c k method_19_code 10 "WallShiftsLaw") (hr : meth.sig.returnType = (Option.some Jvm.ClassFile.FieldType.boolean)) {k16 : Int32 → Int32 → Int32 → Int32 → Int32 → Int32 → Mem → Option (Int32 × Mem)} (hk16 : ∀ (x2 : Int32) (x3 : Int32) (x4 : Int32) (x5 : Int32) (x6 : Int32) (x7 : Int32) (mem : Mem), k16 x2 x3 x4 x5 x6 x7 mem = some (o, mem') → V p l e (rmM 4 98) s m args below meth c 0 0 (MQ below (RQc k (some (aI o)) mem') args s 0 0 (kA k)) k 10 mem 16 [(0, aR 0 0), (1, aR 13 0), (2, aI x2), (3, aI x3), (4, aI x4), (5, aI x5), (6, aI x6), (7, aI x7)] []) : ∀ (n : Nat) (x2 : Int32) (x3 : Int32) (x4 : Int32) (x5 : Int32) (x6 : Int32) (x7 : Int32) (x8 : Int32) (mem : Mem), dL_isSo_27 f k16 n x2 x3 x4 x5 x6 x7 x8 mem = some (o, mem') → V p l e (rmM 4 98) s m args below meth c 0 0 (MQ below (RQc k (some (aI o)) mem') args s 0 0 (kA k)) k 10 mem 27 [(0, aR 0 0), (1, aR 13 0), (2, aI x2), (3, aI x3), (4, aI x4), (5, aI x5), (6, aI x6), (7, aI x7), (8, aI x8)] [] := by
  intro n
  induction n with
  | zero =>
    intro x2 x3 x4 x5 x6 x7 x8 mem  h
    exact nomatch (show (none : Option (Int32 × Mem)) = some _ from h)
  | succ n ih =>
    intro x2 x3 x4 x5 x6 x7 x8 mem  h
    rw [dL_isSo_27] at h
    refine v_iload X (pc := 27) 8 rfl eL_isSo_27 ?_
    refine v_bipush X (pc := 29) (v := (6 : Int32)) eL_isSo_29 (by decide) ?_
    refine v_icmp_ge X (pc := 31) (tgt := 66) h eL_isSo_31 (by decide) (fun h => ?_) (fun h => ?_)
    · refine v_aload_n X (pc := 34) 0 rfl eL_isSo_34 rfl ?_
      refine v_iload X (pc := 35) 7 rfl eL_isSo_35 ?_
      refine v_iload X (pc := 37) 8 rfl eL_isSo_37 ?_
      obtain ⟨r1, m1, hc1, h⟩ := bd_some h
      refine v_callV X (pc := 39) [_, _] [] ok_V_L_69 (cW_of  hc1) rfl (Nat.le_of_ble_eq_true rfl) ⟨Nat.le_of_ble_eq_true rfl, Nat.le_of_ble_eq_true rfl⟩ ⟨Nat.zero_le _, Nat.zero_le _⟩ (by decide) (by decide) rfl rfl eL_isSo_39 ?_
      refine v_aload_n X (pc := 42) 1 rfl eL_isSo_42 rfl ?_
      refine v_bipush X (pc := 43) (v := (6 : Int32)) eL_isSo_43 (by decide) ?_
      refine v_bipush X (pc := 45) (v := (6 : Int32)) eL_isSo_45 (by decide) ?_
      refine v_iload X (pc := 47) 7 rfl eL_isSo_47 ?_
      refine v_imul X (pc := 49) eL_isSo_49 ?_
      refine v_iadd X (pc := 50) eL_isSo_50 ?_
      refine v_iload X (pc := 51) 8 rfl eL_isSo_51 ?_
      refine v_iadd X (pc := 53) eL_isSo_53 ?_
      refine v_iald X (pc := 54) h (by decide) (by decide) rfl eL_isSo_54 (fun h => ?_)
      refine v_icmp_eq X (pc := 55) (tgt := 60) h eL_isSo_55 (by decide) (fun h => ?_) (fun h => ?_)
      · refine v_iinc X (pc := 60) (v := (x8 + (1 : Int32))) (lv' := [(8, _), (0, _), (1, _), (2, _), (3, _), (4, _), (5, _), (6, _), (7, _)]) 8 rfl (by rfl) eL_isSo_60 (Nat.le_of_ble_eq_true rfl) rfl ?_
        refine v_goto X (pc := 63) (tgt := 27) eL_isSo_63 (by decide) ?_
        exact v_sub [1, 2, 3, 4, 5, 6, 7, 8, 0] rfl (ih _ _ _ _ _ _ _ _  h)
      · refine v_iconst X (pc := 58) (v := (0 : Int32)) eL_isSo_58 (by decide) ?_
        exact v_zret X (pc := 59) h hr rfl eL_isSo_59
    · refine v_aload_n X (pc := 66) 1 rfl eL_isSo_66 rfl ?_
      refine v_iload X (pc := 67) 7 rfl eL_isSo_67 ?_
      refine v_aload_n X (pc := 69) 1 rfl eL_isSo_69 rfl ?_
      refine v_iconst X (pc := 70) (v := (0 : Int32)) eL_isSo_70 (by decide) ?_
      refine v_ialdK X (pc := 71) (n := 66) 0 (by decide) (by decide) (by decide) (by decide) rfl eL_isSo_71 ?_
      obtain ⟨r2, m2, hc2, h⟩ := bd_some h
      refine v_callS X (pc := 72) [_, _, _] [] ok_S_L_17 (cL_duty  hc2) rfl (Nat.le_of_ble_eq_true rfl) ⟨Nat.le_of_ble_eq_true rfl, Nat.le_of_ble_eq_true rfl⟩ ⟨Nat.zero_le _, Nat.zero_le _⟩ eL_isSo_72 ?_
      refine v_istore X (pc := 75) (lv' := [(8, _), (0, _), (1, _), (2, _), (3, _), (4, _), (5, _), (6, _), (7, _)]) eL_isSo_75 (Nat.le_of_ble_eq_true rfl) rfl ?_
      refine v_aload_n X (pc := 77) 2 rfl eL_isSo_77 rfl ?_
      refine v_bipush X (pc := 78) (v := (11 : Int32)) eL_isSo_78 (by decide) ?_
      refine v_bipush X (pc := 80) (v := (6 : Int32)) eL_isSo_80 (by decide) ?_
      refine v_iload X (pc := 82) 8 rfl eL_isSo_82 ?_
      refine v_imul X (pc := 84) eL_isSo_84 ?_
      refine v_iadd X (pc := 85) eL_isSo_85 ?_
      refine v_iald X (pc := 86) h (by decide) (by decide) rfl eL_isSo_86 (fun h => ?_)
      refine v_aload_n X (pc := 87) 2 rfl eL_isSo_87 rfl ?_
      refine v_iconst X (pc := 88) (v := (4 : Int32)) eL_isSo_88 (by decide) ?_
      refine v_ialdK X (pc := 89) (n := 66) 4 (by decide) (by decide) (by decide) (by decide) rfl eL_isSo_89 ?_
      refine v_icmp_ge X (pc := 90) (tgt := 97) h eL_isSo_90 (by decide) (fun h => ?_) (fun h => ?_)
      · refine v_iconst X (pc := 93) (v := (1 : Int32)) eL_isSo_93 (by decide) ?_
        refine v_goto X (pc := 94) (tgt := 98) eL_isSo_94 (by decide) ?_
        exact v_sub [1, 2, 3, 4, 5, 6, 7, 8, 0] rfl (cL_isSo_98 X hr hk16 _ _ _ _ _ _ _ _ _  h)
      · refine v_iconst X (pc := 97) (v := (0 : Int32)) eL_isSo_97 (by decide) ?_
        exact v_sub [1, 2, 3, 4, 5, 6, 7, 8, 0] rfl (cL_isSo_98 X hr hk16 _ _ _ _ _ _ _ _ _  h)
set_option maxHeartbeats 4000000 in
set_option maxRecDepth 100000 in
theorem cL_isSo_269 {p : Program} {l : Launch} {e : Env} {s : State} {m : MethodId} {args : Array Value} {below : List Frame} {meth : Method} {c : Code} {k : KK} {f : Nat} {o : Int32} {mem' : Mem} (X : CX p s m args meth c k method_19_code 10 "WallShiftsLaw") (hr : meth.sig.returnType = (Option.some Jvm.ClassFile.FieldType.boolean)) : ∀ (n : Nat) (x2 : Int32) (x3 : Int32) (x4 : Int32) (x5 : Int32) (x6 : Int32) (x7 : Int32) (mem : Mem), dL_isSo_269 f n x2 x3 x4 x5 x6 x7 mem = some (o, mem') → V p l e (rmM 4 98) s m args below meth c 0 0 (MQ below (RQc k (some (aI o)) mem') args s 0 0 (kA k)) k 10 mem 269 [(0, aR 0 0), (1, aR 13 0), (2, aI x2), (3, aI x3), (4, aI x4), (5, aI x5), (6, aI x6), (7, aI x7)] [] := by
  intro n
  induction n with
  | zero =>
    intro x2 x3 x4 x5 x6 x7 mem  h
    exact nomatch (show (none : Option (Int32 × Mem)) = some _ from h)
  | succ n ih =>
    intro x2 x3 x4 x5 x6 x7 mem  h
    rw [dL_isSo_269] at h
    refine v_iload X (pc := 269) 7 rfl eL_isSo_269 ?_
    refine v_iconst X (pc := 271) (v := (5 : Int32)) eL_isSo_271 (by decide) ?_
    refine v_icmp_ge X (pc := 272) (tgt := 296) h eL_isSo_272 (by decide) (fun h => ?_) (fun h => ?_)
    · refine v_aload_n X (pc := 275) 0 rfl eL_isSo_275 rfl ?_
      refine v_iload X (pc := 276) 7 rfl eL_isSo_276 ?_
      obtain ⟨r1, m1, hc1, h⟩ := bd_some h
      refine v_callV X (pc := 278) [_] [] ok_V_L_74 (cW_now  hc1) rfl (Nat.le_of_ble_eq_true rfl) ⟨Nat.le_of_ble_eq_true rfl, Nat.le_of_ble_eq_true rfl⟩ ⟨Nat.zero_le _, Nat.zero_le _⟩ (by decide) (by decide) rfl rfl eL_isSo_278 ?_
      refine v_aload_n X (pc := 281) 1 rfl eL_isSo_281 rfl ?_
      refine v_iload X (pc := 282) 7 rfl eL_isSo_282 ?_
      refine v_iald X (pc := 284) h (by decide) (by decide) rfl eL_isSo_284 (fun h => ?_)
      refine v_icmp_eq X (pc := 285) (tgt := 290) h eL_isSo_285 (by decide) (fun h => ?_) (fun h => ?_)
      · refine v_iinc X (pc := 290) (v := (x7 + (1 : Int32))) (lv' := [(7, _), (0, _), (1, _), (2, _), (3, _), (4, _), (5, _), (6, _)]) 7 rfl (by rfl) eL_isSo_290 (Nat.le_of_ble_eq_true rfl) rfl ?_
        refine v_goto X (pc := 293) (tgt := 269) eL_isSo_293 (by decide) ?_
        exact v_sub [1, 2, 3, 4, 5, 6, 7, 0] rfl (ih _ _ _ _ _ _ _  h)
      · refine v_iconst X (pc := 288) (v := (0 : Int32)) eL_isSo_288 (by decide) ?_
        exact v_zret X (pc := 289) h hr rfl eL_isSo_289
    · refine v_aload_n X (pc := 296) 0 rfl eL_isSo_296 rfl ?_
      refine v_iconst X (pc := 297) (v := (5 : Int32)) eL_isSo_297 (by decide) ?_
      obtain ⟨r2, m2, hc2, h⟩ := bd_some h
      refine v_callV X (pc := 298) [_] [] ok_V_L_74 (cW_now  hc2) rfl (Nat.le_of_ble_eq_true rfl) ⟨Nat.le_of_ble_eq_true rfl, Nat.le_of_ble_eq_true rfl⟩ ⟨Nat.zero_le _, Nat.zero_le _⟩ (by decide) (by decide) rfl rfl eL_isSo_298 ?_
      refine v_iload_n X (pc := 301) 2 rfl eL_isSo_301 rfl ?_
      refine v_icmp_ne X (pc := 302) (tgt := 362) h eL_isSo_302 (by decide) (fun h => ?_) (fun h => ?_)
      · refine v_aload_n X (pc := 305) 0 rfl eL_isSo_305 rfl ?_
        refine v_bipush X (pc := 306) (v := (6 : Int32)) eL_isSo_306 (by decide) ?_
        obtain ⟨r3, m3, hc3, h⟩ := bd_some h
        refine v_callV X (pc := 308) [_] [] ok_V_L_74 (cW_now  hc3) rfl (Nat.le_of_ble_eq_true rfl) ⟨Nat.le_of_ble_eq_true rfl, Nat.le_of_ble_eq_true rfl⟩ ⟨Nat.zero_le _, Nat.zero_le _⟩ (by decide) (by decide) rfl rfl eL_isSo_308 ?_
        refine v_iload_n X (pc := 311) 3 rfl eL_isSo_311 rfl ?_
        refine v_icmp_ne X (pc := 312) (tgt := 362) h eL_isSo_312 (by decide) (fun h => ?_) (fun h => ?_)
        · refine v_aload_n X (pc := 315) 0 rfl eL_isSo_315 rfl ?_
          refine v_aload_n X (pc := 316) 1 rfl eL_isSo_316 rfl ?_
          refine v_iconst X (pc := 317) (v := (0 : Int32)) eL_isSo_317 (by decide) ?_
          refine v_ialdK X (pc := 318) (n := 66) 0 (by decide) (by decide) (by decide) (by decide) rfl eL_isSo_318 ?_
          obtain ⟨r4, m4, hc4, h⟩ := bd_some h
          refine v_callV X (pc := 319) [_] [] ok_V_L_77 (cW_duty  hc4) rfl (Nat.le_of_ble_eq_true rfl) ⟨Nat.le_of_ble_eq_true rfl, Nat.le_of_ble_eq_true rfl⟩ ⟨Nat.zero_le _, Nat.zero_le _⟩ (by decide) (by decide) rfl rfl eL_isSo_319 ?_
          refine v_iload X (pc := 322) 6 rfl eL_isSo_322 ?_
          refine v_icmp_ne X (pc := 324) (tgt := 362) h eL_isSo_324 (by decide) (fun h => ?_) (fun h => ?_)
          · refine v_aload_n X (pc := 327) 0 rfl eL_isSo_327 rfl ?_
            refine v_iconst X (pc := 328) (v := (0 : Int32)) eL_isSo_328 (by decide) ?_
            obtain ⟨r5, m5, hc5, h⟩ := bd_some h
            refine v_callV X (pc := 329) [_] [] ok_V_L_79 (cW_count  hc5) rfl (Nat.le_of_ble_eq_true rfl) ⟨Nat.le_of_ble_eq_true rfl, Nat.le_of_ble_eq_true rfl⟩ ⟨Nat.zero_le _, Nat.zero_le _⟩ (by decide) (by decide) rfl rfl eL_isSo_329 ?_
            refine v_aload_n X (pc := 332) 1 rfl eL_isSo_332 rfl ?_
            refine v_iconst X (pc := 333) (v := (5 : Int32)) eL_isSo_333 (by decide) ?_
            refine v_ialdK X (pc := 334) (n := 66) 5 (by decide) (by decide) (by decide) (by decide) rfl eL_isSo_334 ?_
            refine v_icmp_ne X (pc := 335) (tgt := 362) h eL_isSo_335 (by decide) (fun h => ?_) (fun h => ?_)
            · refine v_aload_n X (pc := 338) 0 rfl eL_isSo_338 rfl ?_
              refine v_iconst X (pc := 339) (v := (2 : Int32)) eL_isSo_339 (by decide) ?_
              obtain ⟨r6, m6, hc6, h⟩ := bd_some h
              refine v_callV X (pc := 340) [_] [] ok_V_L_79 (cW_count  hc6) rfl (Nat.le_of_ble_eq_true rfl) ⟨Nat.le_of_ble_eq_true rfl, Nat.le_of_ble_eq_true rfl⟩ ⟨Nat.zero_le _, Nat.zero_le _⟩ (by decide) (by decide) rfl rfl eL_isSo_340 ?_
              refine v_iload X (pc := 343) 4 rfl eL_isSo_343 ?_
              refine v_icmp_ne X (pc := 345) (tgt := 362) h eL_isSo_345 (by decide) (fun h => ?_) (fun h => ?_)
              · refine v_aload_n X (pc := 348) 0 rfl eL_isSo_348 rfl ?_
                refine v_iconst X (pc := 349) (v := (3 : Int32)) eL_isSo_349 (by decide) ?_
                obtain ⟨r7, m7, hc7, h⟩ := bd_some h
                refine v_callV X (pc := 350) [_] [] ok_V_L_79 (cW_count  hc7) rfl (Nat.le_of_ble_eq_true rfl) ⟨Nat.le_of_ble_eq_true rfl, Nat.le_of_ble_eq_true rfl⟩ ⟨Nat.zero_le _, Nat.zero_le _⟩ (by decide) (by decide) rfl rfl eL_isSo_350 ?_
                refine v_iload X (pc := 353) 5 rfl eL_isSo_353 ?_
                refine v_icmp_ne X (pc := 355) (tgt := 362) h eL_isSo_355 (by decide) (fun h => ?_) (fun h => ?_)
                · refine v_iconst X (pc := 358) (v := (1 : Int32)) eL_isSo_358 (by decide) ?_
                  refine v_goto X (pc := 359) (tgt := 363) eL_isSo_359 (by decide) ?_
                  exact v_zret X (pc := 363) h hr rfl eL_isSo_363
                · refine v_iconst X (pc := 362) (v := (0 : Int32)) eL_isSo_362 (by decide) ?_
                  exact v_zret X (pc := 363) h hr rfl eL_isSo_363
              · refine v_iconst X (pc := 362) (v := (0 : Int32)) eL_isSo_362 (by decide) ?_
                exact v_zret X (pc := 363) h hr rfl eL_isSo_363
            · refine v_iconst X (pc := 362) (v := (0 : Int32)) eL_isSo_362 (by decide) ?_
              exact v_zret X (pc := 363) h hr rfl eL_isSo_363
          · refine v_iconst X (pc := 362) (v := (0 : Int32)) eL_isSo_362 (by decide) ?_
            exact v_zret X (pc := 363) h hr rfl eL_isSo_363
        · refine v_iconst X (pc := 362) (v := (0 : Int32)) eL_isSo_362 (by decide) ?_
          exact v_zret X (pc := 363) h hr rfl eL_isSo_363
      · refine v_iconst X (pc := 362) (v := (0 : Int32)) eL_isSo_362 (by decide) ?_
        exact v_zret X (pc := 363) h hr rfl eL_isSo_363
set_option maxHeartbeats 4000000 in
set_option maxRecDepth 100000 in
theorem cL_isSo_236 {p : Program} {l : Launch} {e : Env} {s : State} {m : MethodId} {args : Array Value} {below : List Frame} {meth : Method} {c : Code} {k : KK} {f : Nat} {o : Int32} {mem' : Mem} (X : CX p s m args meth c k method_19_code 10 "WallShiftsLaw") (hr : meth.sig.returnType = (Option.some Jvm.ClassFile.FieldType.boolean)) : ∀ (n : Nat) (x2 : Int32) (x3 : Int32) (x4 : Int32) (x5 : Int32) (x6 : Int32) (x7 : Int32) (mem : Mem), dL_isSo_236 f n x2 x3 x4 x5 x6 x7 mem = some (o, mem') → V p l e (rmM 4 98) s m args below meth c 0 0 (MQ below (RQc k (some (aI o)) mem') args s 0 0 (kA k)) k 10 mem 236 [(0, aR 0 0), (1, aR 13 0), (2, aI x2), (3, aI x3), (4, aI x4), (5, aI x5), (6, aI x6), (7, aI x7)] [] := by
  intro n
  induction n with
  | zero =>
    intro x2 x3 x4 x5 x6 x7 mem  h
    exact nomatch (show (none : Option (Int32 × Mem)) = some _ from h)
  | succ n ih =>
    intro x2 x3 x4 x5 x6 x7 mem  h
    rw [dL_isSo_236] at h
    refine v_iload X (pc := 236) 7 rfl eL_isSo_236 ?_
    refine v_bipush X (pc := 238) (v := (10 : Int32)) eL_isSo_238 (by decide) ?_
    refine v_icmp_ge X (pc := 240) (tgt := 266) h eL_isSo_240 (by decide) (fun h => ?_) (fun h => ?_)
    · refine v_aload_n X (pc := 243) 0 rfl eL_isSo_243 rfl ?_
      refine v_iload X (pc := 244) 7 rfl eL_isSo_244 ?_
      obtain ⟨r1, m1, hc1, h⟩ := bd_some h
      refine v_callV X (pc := 246) [_] [] ok_V_L_72 (cW_reach  hc1) rfl (Nat.le_of_ble_eq_true rfl) ⟨Nat.le_of_ble_eq_true rfl, Nat.le_of_ble_eq_true rfl⟩ ⟨Nat.zero_le _, Nat.zero_le _⟩ (by decide) (by decide) rfl rfl eL_isSo_246 ?_
      refine v_aload_n X (pc := 249) 1 rfl eL_isSo_249 rfl ?_
      refine v_iload X (pc := 250) 7 rfl eL_isSo_250 ?_
      obtain ⟨r2, m2, hc2, h⟩ := bd_some h
      refine v_callS X (pc := 252) [_, _] [_] ok_S_L_7 (cL_reach  hc2) rfl (Nat.le_of_ble_eq_true rfl) ⟨Nat.le_of_ble_eq_true rfl, Nat.le_of_ble_eq_true rfl⟩ ⟨Nat.zero_le _, Nat.zero_le _⟩ eL_isSo_252 ?_
      refine v_icmp_eq X (pc := 255) (tgt := 260) h eL_isSo_255 (by decide) (fun h => ?_) (fun h => ?_)
      · refine v_iinc X (pc := 260) (v := (x7 + (1 : Int32))) (lv' := [(7, _), (0, _), (1, _), (2, _), (3, _), (4, _), (5, _), (6, _)]) 7 rfl (by rfl) eL_isSo_260 (Nat.le_of_ble_eq_true rfl) rfl ?_
        refine v_goto X (pc := 263) (tgt := 236) eL_isSo_263 (by decide) ?_
        exact v_sub [1, 2, 3, 4, 5, 6, 7, 0] rfl (ih _ _ _ _ _ _ _  h)
      · refine v_iconst X (pc := 258) (v := (0 : Int32)) eL_isSo_258 (by decide) ?_
        exact v_zret X (pc := 259) h hr rfl eL_isSo_259
    · refine v_iconst X (pc := 266) (v := (0 : Int32)) eL_isSo_266 (by decide) ?_
      refine v_istore X (pc := 267) (lv' := [(7, _), (0, _), (1, _), (2, _), (3, _), (4, _), (5, _), (6, _)]) eL_isSo_267 (Nat.le_of_ble_eq_true rfl) rfl ?_
      exact v_sub [1, 2, 3, 4, 5, 6, 7, 0] rfl (cL_isSo_269 X hr _ _ _ _ _ _ _ _  h)
set_option maxHeartbeats 4000000 in
set_option maxRecDepth 100000 in
theorem cL_isSo_16 {p : Program} {l : Launch} {e : Env} {s : State} {m : MethodId} {args : Array Value} {below : List Frame} {meth : Method} {c : Code} {k : KK} {f : Nat} {o : Int32} {mem' : Mem} (X : CX p s m args meth c k method_19_code 10 "WallShiftsLaw") (hr : meth.sig.returnType = (Option.some Jvm.ClassFile.FieldType.boolean)) : ∀ (n : Nat) (x2 : Int32) (x3 : Int32) (x4 : Int32) (x5 : Int32) (x6 : Int32) (x7 : Int32) (mem : Mem), dL_isSo_16 f n x2 x3 x4 x5 x6 x7 mem = some (o, mem') → V p l e (rmM 4 98) s m args below meth c 0 0 (MQ below (RQc k (some (aI o)) mem') args s 0 0 (kA k)) k 10 mem 16 [(0, aR 0 0), (1, aR 13 0), (2, aI x2), (3, aI x3), (4, aI x4), (5, aI x5), (6, aI x6), (7, aI x7)] [] := by
  intro n
  induction n with
  | zero =>
    intro x2 x3 x4 x5 x6 x7 mem  h
    exact nomatch (show (none : Option (Int32 × Mem)) = some _ from h)
  | succ n ih =>
    intro x2 x3 x4 x5 x6 x7 mem  h
    rw [dL_isSo_16] at h
    refine v_iload X (pc := 16) 7 rfl eL_isSo_16 ?_
    refine v_aload_n X (pc := 18) 1 rfl eL_isSo_18 rfl ?_
    refine v_iconst X (pc := 19) (v := (5 : Int32)) eL_isSo_19 (by decide) ?_
    refine v_ialdK X (pc := 20) (n := 66) 5 (by decide) (by decide) (by decide) (by decide) rfl eL_isSo_20 ?_
    refine v_icmp_ge X (pc := 21) (tgt := 233) h eL_isSo_21 (by decide) (fun h => ?_) (fun h => ?_)
    · refine v_iconst X (pc := 24) (v := (0 : Int32)) eL_isSo_24 (by decide) ?_
      refine v_istore X (pc := 25) (lv' := [(8, _), (0, _), (1, _), (2, _), (3, _), (4, _), (5, _), (6, _), (7, _)]) eL_isSo_25 (Nat.le_of_ble_eq_true rfl) rfl ?_
      exact v_sub [1, 2, 3, 4, 5, 6, 7, 8, 0] rfl (cL_isSo_27 X hr ih _ _ _ _ _ _ _ _ _  h)
    · refine v_iconst X (pc := 233) (v := (0 : Int32)) eL_isSo_233 (by decide) ?_
      refine v_istore X (pc := 234) (lv' := [(7, _), (0, _), (1, _), (2, _), (3, _), (4, _), (5, _), (6, _)]) eL_isSo_234 (Nat.le_of_ble_eq_true rfl) rfl ?_
      exact v_sub [1, 2, 3, 4, 5, 6, 7, 0] rfl (cL_isSo_236 X hr _ _ _ _ _ _ _ _  h)
set_option maxHeartbeats 4000000 in
set_option maxRecDepth 100000 in
theorem cL_isSo {f : Nat}  {mem : Mem} {o : Int32} {mem' : Mem}  (h : dL_isSo f  mem = some (o, mem')) : RT yL_isSo method_19_code 10 (Option.some Jvm.ClassFile.FieldType.boolean) (rmM 4 98) [aR 0 0, aR 13 0] mem (some (aI o)) mem' := by
  refine RT.of (by decide +kernel) (Nat.le_of_ble_eq_true rfl) (fun p l e s m args below meth c k X hr => ?_)
  replace X : CX p s m args meth c k method_19_code 10 "WallShiftsLaw" := X
  unfold dL_isSo at h
  refine v_sub (lv' := [(0, _), (1, _)]) [0, 1] rfl ?_
  refine v_iconst X (pc := 0) (v := (0 : Int32)) eL_isSo_0 (by decide) ?_
  refine v_istore_n X (pc := 1) (lv' := [(2, _), (0, _), (1, _)]) eL_isSo_1 rfl (Nat.le_of_ble_eq_true rfl) rfl ?_
  refine v_iconst X (pc := 2) (v := (0 : Int32)) eL_isSo_2 (by decide) ?_
  refine v_istore_n X (pc := 3) (lv' := [(3, _), (2, _), (0, _), (1, _)]) eL_isSo_3 rfl (Nat.le_of_ble_eq_true rfl) rfl ?_
  refine v_iconst X (pc := 4) (v := (0 : Int32)) eL_isSo_4 (by decide) ?_
  refine v_istore X (pc := 5) (lv' := [(4, _), (3, _), (2, _), (0, _), (1, _)]) eL_isSo_5 (Nat.le_of_ble_eq_true rfl) rfl ?_
  refine v_iconst X (pc := 7) (v := (0 : Int32)) eL_isSo_7 (by decide) ?_
  refine v_istore X (pc := 8) (lv' := [(5, _), (4, _), (3, _), (2, _), (0, _), (1, _)]) eL_isSo_8 (Nat.le_of_ble_eq_true rfl) rfl ?_
  refine v_iconst X (pc := 10) (v := (0 : Int32)) eL_isSo_10 (by decide) ?_
  refine v_istore X (pc := 11) (lv' := [(6, _), (5, _), (4, _), (3, _), (2, _), (0, _), (1, _)]) eL_isSo_11 (Nat.le_of_ble_eq_true rfl) rfl ?_
  refine v_iconst X (pc := 13) (v := (0 : Int32)) eL_isSo_13 (by decide) ?_
  refine v_istore X (pc := 14) (lv' := [(7, _), (6, _), (5, _), (4, _), (3, _), (2, _), (0, _), (1, _)]) eL_isSo_14 (Nat.le_of_ble_eq_true rfl) rfl ?_
  exact v_sub [6, 7, 5, 4, 3, 2, 1, 0] rfl (cL_isSo_16 X hr _ _ _ _ _ _ _ _  h)
end
section
/-! GENERATED: the law: its decode rows, its program text, its walk. -/
theorem eL_law_13 : decode code 13 = .ok (.aload_n 1, 1) := by decide +kernel
theorem eL_law_14 : decode code 14 = .ok (.aload_n 0, 1) := by decide +kernel
theorem eL_law_15 : decode code 15 = .ok (.aload_n 2, 1) := by decide +kernel
theorem eL_law_16 : decode code 16 = .ok (.invokestatic 83, 3) := by decide +kernel
theorem eL_law_19 : decode code 19 = .ok (.ifCond .eq 11, 3) := by decide +kernel
theorem eL_law_22 : decode code 22 = .ok (.aload_n 1, 1) := by decide +kernel
theorem eL_law_23 : decode code 23 = .ok (.invokevirtual 87, 3) := by decide +kernel
theorem eL_law_26 : decode code 26 = .ok (.iconst 1, 1) := by decide +kernel
theorem eL_law_27 : decode code 27 = .ok (.if_icmp .eq 5, 3) := by decide +kernel
theorem eL_law_30 : decode code 30 = .ok (.iconst 0, 1) := by decide +kernel
theorem eL_law_32 : decode code 32 = .ok (.aload_n 2, 1) := by decide +kernel
theorem eL_law_33 : decode code 33 = .ok (.iconst 5, 1) := by decide +kernel
theorem eL_law_34 : decode code 34 = .ok (.iaload, 1) := by decide +kernel
theorem eL_law_35 : decode code 35 = .ok (.istore_n 3, 1) := by decide +kernel
theorem eL_law_36 : decode code 36 = .ok (.aload_n 2, 1) := by decide +kernel
theorem eL_law_37 : decode code 37 = .ok (.iconst 0, 1) := by decide +kernel
theorem eL_law_38 : decode code 38 = .ok (.iaload, 1) := by decide +kernel
theorem eL_law_39 : decode code 39 = .ok (.istore 4, 2) := by decide +kernel
theorem eL_law_41 : decode code 41 = .ok (.iconst 0, 1) := by decide +kernel
theorem eL_law_42 : decode code 42 = .ok (.istore 5, 2) := by decide +kernel
theorem eL_law_44 : decode code 44 = .ok (.iload 5, 2) := by decide +kernel
theorem eL_law_46 : decode code 46 = .ok (.iconst 4, 1) := by decide +kernel
theorem eL_law_47 : decode code 47 = .ok (.if_icmp .ge 1081, 3) := by decide +kernel
theorem eL_law_50 : decode code 50 = .ok (.aload_n 0, 1) := by decide +kernel
theorem eL_law_51 : decode code 51 = .ok (.bipush 6, 2) := by decide +kernel
theorem eL_law_53 : decode code 53 = .ok (.iload 5, 2) := by decide +kernel
theorem eL_law_55 : decode code 55 = .ok (.iadd, 1) := by decide +kernel
theorem eL_law_56 : decode code 56 = .ok (.invokestatic 50, 3) := by decide +kernel
theorem eL_law_59 : decode code 59 = .ok (.istore 6, 2) := by decide +kernel
theorem eL_law_61 : decode code 61 = .ok (.iload 6, 2) := by decide +kernel
theorem eL_law_63 : decode code 63 = .ok (.iload 6, 2) := by decide +kernel
theorem eL_law_65 : decode code 65 = .ok (.iconst 4, 1) := by decide +kernel
theorem eL_law_66 : decode code 66 = .ok (.ishr, 1) := by decide +kernel
theorem eL_law_67 : decode code 67 = .ok (.iconst 1, 1) := by decide +kernel
theorem eL_law_68 : decode code 68 = .ok (.iand, 1) := by decide +kernel
theorem eL_law_69 : decode code 69 = .ok (.ifCond .ne 7, 3) := by decide +kernel
theorem eL_law_72 : decode code 72 = .ok (.iconst 3, 1) := by decide +kernel
theorem eL_law_73 : decode code 73 = .ok (.goto 5, 3) := by decide +kernel
theorem eL_law_76 : decode code 76 = .ok (.bipush 10, 2) := by decide +kernel
theorem eL_law_78 : decode code 78 = .ok (.invokestatic 52, 3) := by decide +kernel
theorem eL_law_81 : decode code 81 = .ok (.istore 7, 2) := by decide +kernel
theorem eL_law_83 : decode code 83 = .ok (.iconst 1, 1) := by decide +kernel
theorem eL_law_84 : decode code 84 = .ok (.iload 6, 2) := by decide +kernel
theorem eL_law_86 : decode code 86 = .ok (.iconst 5, 1) := by decide +kernel
theorem eL_law_87 : decode code 87 = .ok (.ishr, 1) := by decide +kernel
theorem eL_law_88 : decode code 88 = .ok (.bipush 12, 2) := by decide +kernel
theorem eL_law_90 : decode code 90 = .ok (.invokestatic 52, 3) := by decide +kernel
theorem eL_law_93 : decode code 93 = .ok (.iadd, 1) := by decide +kernel
theorem eL_law_94 : decode code 94 = .ok (.istore 8, 2) := by decide +kernel
theorem eL_law_96 : decode code 96 = .ok (.aload_n 1, 1) := by decide +kernel
theorem eL_law_97 : decode code 97 = .ok (.iload 7, 2) := by decide +kernel
theorem eL_law_99 : decode code 99 = .ok (.iload 8, 2) := by decide +kernel
theorem eL_law_101 : decode code 101 = .ok (.invokevirtual 91, 3) := by decide +kernel
theorem eL_law_104 : decode code 104 = .ok (.istore 9, 2) := by decide +kernel
theorem eL_law_106 : decode code 106 = .ok (.aload_n 1, 1) := by decide +kernel
theorem eL_law_107 : decode code 107 = .ok (.iload 8, 2) := by decide +kernel
theorem eL_law_109 : decode code 109 = .ok (.invokevirtual 94, 3) := by decide +kernel
theorem eL_law_112 : decode code 112 = .ok (.istore 10, 2) := by decide +kernel
theorem eL_law_114 : decode code 114 = .ok (.iload 10, 2) := by decide +kernel
theorem eL_law_116 : decode code 116 = .ok (.ldc 97, 2) := by decide +kernel
theorem eL_law_118 : decode code 118 = .ok (.if_icmp .ne 8, 3) := by decide +kernel
theorem eL_law_121 : decode code 121 = .ok (.ldc 97, 2) := by decide +kernel
theorem eL_law_123 : decode code 123 = .ok (.goto 11, 3) := by decide +kernel
theorem eL_law_126 : decode code 126 = .ok (.aload_n 1, 1) := by decide +kernel
theorem eL_law_127 : decode code 127 = .ok (.iload 10, 2) := by decide +kernel
theorem eL_law_129 : decode code 129 = .ok (.iload 8, 2) := by decide +kernel
theorem eL_law_131 : decode code 131 = .ok (.invokevirtual 91, 3) := by decide +kernel
theorem eL_law_134 : decode code 134 = .ok (.istore 11, 2) := by decide +kernel
theorem eL_law_136 : decode code 136 = .ok (.iload 9, 2) := by decide +kernel
theorem eL_law_138 : decode code 138 = .ok (.ldc 97, 2) := by decide +kernel
theorem eL_law_140 : decode code 140 = .ok (.if_icmp .eq 16, 3) := by decide +kernel
theorem eL_law_143 : decode code 143 = .ok (.iload 9, 2) := by decide +kernel
theorem eL_law_145 : decode code 145 = .ok (.ifCond .lt 73, 3) := by decide +kernel
theorem eL_law_148 : decode code 148 = .ok (.iload 9, 2) := by decide +kernel
theorem eL_law_150 : decode code 150 = .ok (.sipush 240, 3) := by decide +kernel
theorem eL_law_153 : decode code 153 = .ok (.if_icmp .gt 65, 3) := by decide +kernel
theorem eL_law_156 : decode code 156 = .ok (.iload 10, 2) := by decide +kernel
theorem eL_law_158 : decode code 158 = .ok (.ldc 97, 2) := by decide +kernel
theorem eL_law_160 : decode code 160 = .ok (.if_icmp .ne 13, 3) := by decide +kernel
theorem eL_law_163 : decode code 163 = .ok (.iload 9, 2) := by decide +kernel
theorem eL_law_165 : decode code 165 = .ok (.ldc 97, 2) := by decide +kernel
theorem eL_law_167 : decode code 167 = .ok (.if_icmp .eq 53, 3) := by decide +kernel
theorem eL_law_170 : decode code 170 = .ok (.goto 48, 3) := by decide +kernel
theorem eL_law_173 : decode code 173 = .ok (.iload 10, 2) := by decide +kernel
theorem eL_law_175 : decode code 175 = .ok (.ifCond .lt 43, 3) := by decide +kernel
theorem eL_law_178 : decode code 178 = .ok (.iload 10, 2) := by decide +kernel
theorem eL_law_180 : decode code 180 = .ok (.bipush 9, 2) := by decide +kernel
theorem eL_law_182 : decode code 182 = .ok (.if_icmp .gt 36, 3) := by decide +kernel
theorem eL_law_185 : decode code 185 = .ok (.iload 11, 2) := by decide +kernel
theorem eL_law_187 : decode code 187 = .ok (.ifCond .lt 31, 3) := by decide +kernel
theorem eL_law_190 : decode code 190 = .ok (.iload 9, 2) := by decide +kernel
theorem eL_law_192 : decode code 192 = .ok (.ldc 97, 2) := by decide +kernel
theorem eL_law_194 : decode code 194 = .ok (.if_icmp .eq 26, 3) := by decide +kernel
theorem eL_law_197 : decode code 197 = .ok (.iload 11, 2) := by decide +kernel
theorem eL_law_199 : decode code 199 = .ok (.iload 9, 2) := by decide +kernel
theorem eL_law_201 : decode code 201 = .ok (.if_icmp .gt 17, 3) := by decide +kernel
theorem eL_law_204 : decode code 204 = .ok (.iload 11, 2) := by decide +kernel
theorem eL_law_206 : decode code 206 = .ok (.iload 9, 2) := by decide +kernel
theorem eL_law_208 : decode code 208 = .ok (.if_icmp .ne 12, 3) := by decide +kernel
theorem eL_law_211 : decode code 211 = .ok (.iload 10, 2) := by decide +kernel
theorem eL_law_213 : decode code 213 = .ok (.iload 7, 2) := by decide +kernel
theorem eL_law_215 : decode code 215 = .ok (.if_icmp .le 5, 3) := by decide +kernel
theorem eL_law_218 : decode code 218 = .ok (.iconst 0, 1) := by decide +kernel
theorem eL_law_220 : decode code 220 = .ok (.iconst 1, 1) := by decide +kernel
theorem eL_law_221 : decode code 221 = .ok (.iload 6, 2) := by decide +kernel
theorem eL_law_223 : decode code 223 = .ok (.bipush 9, 2) := by decide +kernel
theorem eL_law_225 : decode code 225 = .ok (.ishr, 1) := by decide +kernel
theorem eL_law_226 : decode code 226 = .ok (.bipush 40, 2) := by decide +kernel
theorem eL_law_228 : decode code 228 = .ok (.invokestatic 52, 3) := by decide +kernel
theorem eL_law_231 : decode code 231 = .ok (.iadd, 1) := by decide +kernel
theorem eL_law_232 : decode code 232 = .ok (.istore 12, 2) := by decide +kernel
theorem eL_law_234 : decode code 234 = .ok (.aload_n 1, 1) := by decide +kernel
theorem eL_law_235 : decode code 235 = .ok (.iload 7, 2) := by decide +kernel
theorem eL_law_237 : decode code 237 = .ok (.iload 12, 2) := by decide +kernel
theorem eL_law_239 : decode code 239 = .ok (.invokevirtual 98, 3) := by decide +kernel
theorem eL_law_242 : decode code 242 = .ok (.istore 13, 2) := by decide +kernel
theorem eL_law_244 : decode code 244 = .ok (.aload_n 1, 1) := by decide +kernel
theorem eL_law_245 : decode code 245 = .ok (.iload 7, 2) := by decide +kernel
theorem eL_law_247 : decode code 247 = .ok (.iload 12, 2) := by decide +kernel
theorem eL_law_249 : decode code 249 = .ok (.invokevirtual 101, 3) := by decide +kernel
theorem eL_law_252 : decode code 252 = .ok (.istore 14, 2) := by decide +kernel
theorem eL_law_254 : decode code 254 = .ok (.aload_n 1, 1) := by decide +kernel
theorem eL_law_255 : decode code 255 = .ok (.iload 7, 2) := by decide +kernel
theorem eL_law_257 : decode code 257 = .ok (.iload 12, 2) := by decide +kernel
theorem eL_law_259 : decode code 259 = .ok (.invokevirtual 104, 3) := by decide +kernel
theorem eL_law_262 : decode code 262 = .ok (.istore 15, 2) := by decide +kernel
theorem eL_law_264 : decode code 264 = .ok (.aload_n 1, 1) := by decide +kernel
theorem eL_law_265 : decode code 265 = .ok (.iload 7, 2) := by decide +kernel
theorem eL_law_267 : decode code 267 = .ok (.iload 12, 2) := by decide +kernel
theorem eL_law_269 : decode code 269 = .ok (.invokevirtual 107, 3) := by decide +kernel
theorem eL_law_272 : decode code 272 = .ok (.istore 16, 2) := by decide +kernel
theorem eL_law_274 : decode code 274 = .ok (.aload_n 1, 1) := by decide +kernel
theorem eL_law_275 : decode code 275 = .ok (.iload 6, 2) := by decide +kernel
theorem eL_law_277 : decode code 277 = .ok (.bipush 14, 2) := by decide +kernel
theorem eL_law_279 : decode code 279 = .ok (.ishr, 1) := by decide +kernel
theorem eL_law_280 : decode code 280 = .ok (.iload_n 3, 1) := by decide +kernel
theorem eL_law_281 : decode code 281 = .ok (.invokestatic 52, 3) := by decide +kernel
theorem eL_law_284 : decode code 284 = .ok (.iload 7, 2) := by decide +kernel
theorem eL_law_286 : decode code 286 = .ok (.iload 12, 2) := by decide +kernel
theorem eL_law_288 : decode code 288 = .ok (.invokevirtual 110, 3) := by decide +kernel
theorem eL_law_291 : decode code 291 = .ok (.istore 17, 2) := by decide +kernel
theorem eL_law_293 : decode code 293 = .ok (.iconst 0, 1) := by decide +kernel
theorem eL_law_294 : decode code 294 = .ok (.istore 18, 2) := by decide +kernel
theorem eL_law_296 : decode code 296 = .ok (.iconst 0, 1) := by decide +kernel
theorem eL_law_297 : decode code 297 = .ok (.istore 19, 2) := by decide +kernel
theorem eL_law_299 : decode code 299 = .ok (.iconst 0, 1) := by decide +kernel
theorem eL_law_300 : decode code 300 = .ok (.istore 20, 2) := by decide +kernel
theorem eL_law_302 : decode code 302 = .ok (.iconst 0, 1) := by decide +kernel
theorem eL_law_303 : decode code 303 = .ok (.istore 21, 2) := by decide +kernel
theorem eL_law_305 : decode code 305 = .ok (.ldc 97, 2) := by decide +kernel
theorem eL_law_307 : decode code 307 = .ok (.istore 22, 2) := by decide +kernel
theorem eL_law_309 : decode code 309 = .ok (.iconst 0, 1) := by decide +kernel
theorem eL_law_310 : decode code 310 = .ok (.istore 23, 2) := by decide +kernel
theorem eL_law_312 : decode code 312 = .ok (.iload 23, 2) := by decide +kernel
theorem eL_law_314 : decode code 314 = .ok (.bipush 60, 2) := by decide +kernel
theorem eL_law_316 : decode code 316 = .ok (.if_icmp .ge 134, 3) := by decide +kernel
theorem eL_law_319 : decode code 319 = .ok (.aload_n 1, 1) := by decide +kernel
theorem eL_law_320 : decode code 320 = .ok (.iload 7, 2) := by decide +kernel
theorem eL_law_322 : decode code 322 = .ok (.sipush 1023, 3) := by decide +kernel
theorem eL_law_325 : decode code 325 = .ok (.invokestatic 113, 3) := by decide +kernel
theorem eL_law_328 : decode code 328 = .ok (.istore 24, 2) := by decide +kernel
theorem eL_law_330 : decode code 330 = .ok (.iload 24, 2) := by decide +kernel
theorem eL_law_332 : decode code 332 = .ok (.ifCond .eq 10, 3) := by decide +kernel
theorem eL_law_335 : decode code 335 = .ok (.iload 21, 2) := by decide +kernel
theorem eL_law_337 : decode code 337 = .ok (.iconst 1, 1) := by decide +kernel
theorem eL_law_338 : decode code 338 = .ok (.iadd, 1) := by decide +kernel
theorem eL_law_339 : decode code 339 = .ok (.goto 4, 3) := by decide +kernel
theorem eL_law_342 : decode code 342 = .ok (.iconst 0, 1) := by decide +kernel
theorem eL_law_343 : decode code 343 = .ok (.istore 21, 2) := by decide +kernel
theorem eL_law_345 : decode code 345 = .ok (.iload 21, 2) := by decide +kernel
theorem eL_law_347 : decode code 347 = .ok (.iload 8, 2) := by decide +kernel
theorem eL_law_349 : decode code 349 = .ok (.if_icmp .ne 17, 3) := by decide +kernel
theorem eL_law_352 : decode code 352 = .ok (.iload 22, 2) := by decide +kernel
theorem eL_law_354 : decode code 354 = .ok (.ifCond .ge 12, 3) := by decide +kernel
theorem eL_law_357 : decode code 357 = .ok (.iload 23, 2) := by decide +kernel
theorem eL_law_359 : decode code 359 = .ok (.iconst 1, 1) := by decide +kernel
theorem eL_law_360 : decode code 360 = .ok (.iadd, 1) := by decide +kernel
theorem eL_law_361 : decode code 361 = .ok (.iload 8, 2) := by decide +kernel
theorem eL_law_363 : decode code 363 = .ok (.isub, 1) := by decide +kernel
theorem eL_law_364 : decode code 364 = .ok (.istore 22, 2) := by decide +kernel
theorem eL_law_366 : decode code 366 = .ok (.iload 23, 2) := by decide +kernel
theorem eL_law_368 : decode code 368 = .ok (.iload 12, 2) := by decide +kernel
theorem eL_law_370 : decode code 370 = .ok (.if_icmp .ge 57, 3) := by decide +kernel
theorem eL_law_373 : decode code 373 = .ok (.iload 24, 2) := by decide +kernel
theorem eL_law_375 : decode code 375 = .ok (.ifCond .eq 6, 3) := by decide +kernel
theorem eL_law_378 : decode code 378 = .ok (.iinc 18 1, 3) := by decide +kernel
theorem eL_law_381 : decode code 381 = .ok (.iload 14, 2) := by decide +kernel
theorem eL_law_383 : decode code 383 = .ok (.ifCond .lt 25, 3) := by decide +kernel
theorem eL_law_386 : decode code 386 = .ok (.aload_n 1, 1) := by decide +kernel
theorem eL_law_387 : decode code 387 = .ok (.iload 7, 2) := by decide +kernel
theorem eL_law_389 : decode code 389 = .ok (.sipush 1023, 3) := by decide +kernel
theorem eL_law_392 : decode code 392 = .ok (.iconst 1, 1) := by decide +kernel
theorem eL_law_393 : decode code 393 = .ok (.iload 14, 2) := by decide +kernel
theorem eL_law_395 : decode code 395 = .ok (.ishl, 1) := by decide +kernel
theorem eL_law_396 : decode code 396 = .ok (.iconst (-1), 1) := by decide +kernel
theorem eL_law_397 : decode code 397 = .ok (.ixor, 1) := by decide +kernel
theorem eL_law_398 : decode code 398 = .ok (.iand, 1) := by decide +kernel
theorem eL_law_399 : decode code 399 = .ok (.invokestatic 113, 3) := by decide +kernel
theorem eL_law_402 : decode code 402 = .ok (.ifCond .eq 6, 3) := by decide +kernel
theorem eL_law_405 : decode code 405 = .ok (.iinc 19 1, 3) := by decide +kernel
theorem eL_law_408 : decode code 408 = .ok (.iload 15, 2) := by decide +kernel
theorem eL_law_410 : decode code 410 = .ok (.ifCond .lt 17, 3) := by decide +kernel
theorem eL_law_413 : decode code 413 = .ok (.aload_n 1, 1) := by decide +kernel
theorem eL_law_414 : decode code 414 = .ok (.iload 7, 2) := by decide +kernel
theorem eL_law_416 : decode code 416 = .ok (.iload 15, 2) := by decide +kernel
theorem eL_law_418 : decode code 418 = .ok (.invokestatic 113, 3) := by decide +kernel
theorem eL_law_421 : decode code 421 = .ok (.ifCond .eq 6, 3) := by decide +kernel
theorem eL_law_424 : decode code 424 = .ok (.iinc 20 1, 3) := by decide +kernel
theorem eL_law_427 : decode code 427 = .ok (.aload_n 1, 1) := by decide +kernel
theorem eL_law_428 : decode code 428 = .ok (.iconst 1, 1) := by decide +kernel
theorem eL_law_429 : decode code 429 = .ok (.invokevirtual 66, 3) := by decide +kernel
theorem eL_law_432 : decode code 432 = .ok (.iload 4, 2) := by decide +kernel
theorem eL_law_434 : decode code 434 = .ok (.iload 23, 2) := by decide +kernel
theorem eL_law_436 : decode code 436 = .ok (.iadd, 1) := by decide +kernel
theorem eL_law_437 : decode code 437 = .ok (.iconst 1, 1) := by decide +kernel
theorem eL_law_438 : decode code 438 = .ok (.iadd, 1) := by decide +kernel
theorem eL_law_439 : decode code 439 = .ok (.if_icmp .eq 5, 3) := by decide +kernel
theorem eL_law_442 : decode code 442 = .ok (.iconst 0, 1) := by decide +kernel
theorem eL_law_444 : decode code 444 = .ok (.iinc 23 1, 3) := by decide +kernel
theorem eL_law_447 : decode code 447 = .ok (.goto (-135), 3) := by decide +kernel
theorem eL_law_450 : decode code 450 = .ok (.iload 18, 2) := by decide +kernel
theorem eL_law_452 : decode code 452 = .ok (.iload 13, 2) := by decide +kernel
theorem eL_law_454 : decode code 454 = .ok (.if_icmp .ne 97, 3) := by decide +kernel
theorem eL_law_457 : decode code 457 = .ok (.iload 14, 2) := by decide +kernel
theorem eL_law_459 : decode code 459 = .ok (.ifCond .lt 10, 3) := by decide +kernel
theorem eL_law_462 : decode code 462 = .ok (.iload 19, 2) := by decide +kernel
theorem eL_law_464 : decode code 464 = .ok (.iload 18, 2) := by decide +kernel
theorem eL_law_466 : decode code 466 = .ok (.if_icmp .le 85, 3) := by decide +kernel
theorem eL_law_469 : decode code 469 = .ok (.iload 20, 2) := by decide +kernel
theorem eL_law_471 : decode code 471 = .ok (.ifCond .ne 80, 3) := by decide +kernel
theorem eL_law_474 : decode code 474 = .ok (.iload 15, 2) := by decide +kernel
theorem eL_law_476 : decode code 476 = .ok (.ldc 97, 2) := by decide +kernel
theorem eL_law_478 : decode code 478 = .ok (.if_icmp .ne 7, 3) := by decide +kernel
theorem eL_law_481 : decode code 481 = .ok (.iconst 1, 1) := by decide +kernel
theorem eL_law_482 : decode code 482 = .ok (.goto 4, 3) := by decide +kernel
theorem eL_law_485 : decode code 485 = .ok (.iconst 0, 1) := by decide +kernel
theorem eL_law_486 : decode code 486 = .ok (.iload 18, 2) := by decide +kernel
theorem eL_law_488 : decode code 488 = .ok (.ifCond .le 7, 3) := by decide +kernel
theorem eL_law_491 : decode code 491 = .ok (.iconst 1, 1) := by decide +kernel
theorem eL_law_492 : decode code 492 = .ok (.goto 4, 3) := by decide +kernel
theorem eL_law_495 : decode code 495 = .ok (.iconst 0, 1) := by decide +kernel
theorem eL_law_496 : decode code 496 = .ok (.if_icmp .ne 55, 3) := by decide +kernel
theorem eL_law_499 : decode code 499 = .ok (.iload 9, 2) := by decide +kernel
theorem eL_law_501 : decode code 501 = .ok (.ldc 97, 2) := by decide +kernel
theorem eL_law_503 : decode code 503 = .ok (.if_icmp .eq 23, 3) := by decide +kernel
theorem eL_law_506 : decode code 506 = .ok (.iload 9, 2) := by decide +kernel
theorem eL_law_508 : decode code 508 = .ok (.iload 8, 2) := by decide +kernel
theorem eL_law_510 : decode code 510 = .ok (.iadd, 1) := by decide +kernel
theorem eL_law_511 : decode code 511 = .ok (.bipush 60, 2) := by decide +kernel
theorem eL_law_513 : decode code 513 = .ok (.if_icmp .gt 13, 3) := by decide +kernel
theorem eL_law_516 : decode code 516 = .ok (.iload 22, 2) := by decide +kernel
theorem eL_law_518 : decode code 518 = .ok (.iload 9, 2) := by decide +kernel
theorem eL_law_520 : decode code 520 = .ok (.if_icmp .eq 13, 3) := by decide +kernel
theorem eL_law_523 : decode code 523 = .ok (.goto 28, 3) := by decide +kernel
theorem eL_law_526 : decode code 526 = .ok (.iload 22, 2) := by decide +kernel
theorem eL_law_528 : decode code 528 = .ok (.ldc 97, 2) := by decide +kernel
theorem eL_law_530 : decode code 530 = .ok (.if_icmp .ne 21, 3) := by decide +kernel
theorem eL_law_533 : decode code 533 = .ok (.aload_n 1, 1) := by decide +kernel
theorem eL_law_534 : decode code 534 = .ok (.invokevirtual 117, 3) := by decide +kernel
theorem eL_law_537 : decode code 537 = .ok (.iload_n 3, 1) := by decide +kernel
theorem eL_law_538 : decode code 538 = .ok (.if_icmp .ne 13, 3) := by decide +kernel
theorem eL_law_541 : decode code 541 = .ok (.aload_n 1, 1) := by decide +kernel
theorem eL_law_542 : decode code 542 = .ok (.iconst 0, 1) := by decide +kernel
theorem eL_law_543 : decode code 543 = .ok (.invokevirtual 74, 3) := by decide +kernel
theorem eL_law_546 : decode code 546 = .ok (.iload 4, 2) := by decide +kernel
theorem eL_law_548 : decode code 548 = .ok (.if_icmp .eq 5, 3) := by decide +kernel
theorem eL_law_551 : decode code 551 = .ok (.iconst 0, 1) := by decide +kernel
theorem eL_law_553 : decode code 553 = .ok (.iconst 0, 1) := by decide +kernel
theorem eL_law_554 : decode code 554 = .ok (.istore 23, 2) := by decide +kernel
theorem eL_law_556 : decode code 556 = .ok (.iload 23, 2) := by decide +kernel
theorem eL_law_558 : decode code 558 = .ok (.iload_n 3, 1) := by decide +kernel
theorem eL_law_559 : decode code 559 = .ok (.if_icmp .ge 92, 3) := by decide +kernel
theorem eL_law_562 : decode code 562 = .ok (.iload 15, 2) := by decide +kernel
theorem eL_law_564 : decode code 564 = .ok (.ifCond .lt 87, 3) := by decide +kernel
theorem eL_law_567 : decode code 567 = .ok (.iload 15, 2) := by decide +kernel
theorem eL_law_569 : decode code 569 = .ok (.iload 23, 2) := by decide +kernel
theorem eL_law_571 : decode code 571 = .ok (.ishr, 1) := by decide +kernel
theorem eL_law_572 : decode code 572 = .ok (.iconst 1, 1) := by decide +kernel
theorem eL_law_573 : decode code 573 = .ok (.iand, 1) := by decide +kernel
theorem eL_law_574 : decode code 574 = .ok (.ifCond .ne 6, 3) := by decide +kernel
theorem eL_law_577 : decode code 577 = .ok (.goto 68, 3) := by decide +kernel
theorem eL_law_580 : decode code 580 = .ok (.iconst 0, 1) := by decide +kernel
theorem eL_law_581 : decode code 581 = .ok (.istore 24, 2) := by decide +kernel
theorem eL_law_583 : decode code 583 = .ok (.iconst 0, 1) := by decide +kernel
theorem eL_law_584 : decode code 584 = .ok (.istore 25, 2) := by decide +kernel
theorem eL_law_586 : decode code 586 = .ok (.iload 25, 2) := by decide +kernel
theorem eL_law_588 : decode code 588 = .ok (.iload 12, 2) := by decide +kernel
theorem eL_law_590 : decode code 590 = .ok (.if_icmp .ge 40, 3) := by decide +kernel
theorem eL_law_593 : decode code 593 = .ok (.aload_n 1, 1) := by decide +kernel
theorem eL_law_594 : decode code 594 = .ok (.iload 7, 2) := by decide +kernel
theorem eL_law_596 : decode code 596 = .ok (.iload 15, 2) := by decide +kernel
theorem eL_law_598 : decode code 598 = .ok (.iconst 1, 1) := by decide +kernel
theorem eL_law_599 : decode code 599 = .ok (.iload 23, 2) := by decide +kernel
theorem eL_law_601 : decode code 601 = .ok (.ishl, 1) := by decide +kernel
theorem eL_law_602 : decode code 602 = .ok (.iconst (-1), 1) := by decide +kernel
theorem eL_law_603 : decode code 603 = .ok (.ixor, 1) := by decide +kernel
theorem eL_law_604 : decode code 604 = .ok (.iand, 1) := by decide +kernel
theorem eL_law_605 : decode code 605 = .ok (.invokestatic 113, 3) := by decide +kernel
theorem eL_law_608 : decode code 608 = .ok (.ifCond .eq 6, 3) := by decide +kernel
theorem eL_law_611 : decode code 611 = .ok (.iinc 24 1, 3) := by decide +kernel
theorem eL_law_614 : decode code 614 = .ok (.aload_n 1, 1) := by decide +kernel
theorem eL_law_615 : decode code 615 = .ok (.iconst 1, 1) := by decide +kernel
theorem eL_law_616 : decode code 616 = .ok (.invokevirtual 66, 3) := by decide +kernel
theorem eL_law_619 : decode code 619 = .ok (.ifCond .ge 5, 3) := by decide +kernel
theorem eL_law_622 : decode code 622 = .ok (.iconst 0, 1) := by decide +kernel
theorem eL_law_624 : decode code 624 = .ok (.iinc 25 1, 3) := by decide +kernel
theorem eL_law_627 : decode code 627 = .ok (.goto (-41), 3) := by decide +kernel
theorem eL_law_630 : decode code 630 = .ok (.iload 24, 2) := by decide +kernel
theorem eL_law_632 : decode code 632 = .ok (.ifCond .eq 11, 3) := by decide +kernel
theorem eL_law_635 : decode code 635 = .ok (.aload_n 1, 1) := by decide +kernel
theorem eL_law_636 : decode code 636 = .ok (.invokevirtual 117, 3) := by decide +kernel
theorem eL_law_639 : decode code 639 = .ok (.iload_n 3, 1) := by decide +kernel
theorem eL_law_640 : decode code 640 = .ok (.if_icmp .eq 5, 3) := by decide +kernel
theorem eL_law_643 : decode code 643 = .ok (.iconst 0, 1) := by decide +kernel
theorem eL_law_645 : decode code 645 = .ok (.iinc 23 1, 3) := by decide +kernel
theorem eL_law_648 : decode code 648 = .ok (.goto (-92), 3) := by decide +kernel
theorem eL_law_651 : decode code 651 = .ok (.iload 16, 2) := by decide +kernel
theorem eL_law_653 : decode code 653 = .ok (.iconst 1, 1) := by decide +kernel
theorem eL_law_654 : decode code 654 = .ok (.if_icmp .lt 23, 3) := by decide +kernel
theorem eL_law_657 : decode code 657 = .ok (.iload 16, 2) := by decide +kernel
theorem eL_law_659 : decode code 659 = .ok (.bipush 60, 2) := by decide +kernel
theorem eL_law_661 : decode code 661 = .ok (.if_icmp .gt 16, 3) := by decide +kernel
theorem eL_law_664 : decode code 664 = .ok (.aload_n 1, 1) := by decide +kernel
theorem eL_law_665 : decode code 665 = .ok (.iconst 0, 1) := by decide +kernel
theorem eL_law_666 : decode code 666 = .ok (.iload 16, 2) := by decide +kernel
theorem eL_law_668 : decode code 668 = .ok (.invokevirtual 56, 3) := by decide +kernel
theorem eL_law_671 : decode code 671 = .ok (.aload_n 2, 1) := by decide +kernel
theorem eL_law_672 : decode code 672 = .ok (.iconst 1, 1) := by decide +kernel
theorem eL_law_673 : decode code 673 = .ok (.iaload, 1) := by decide +kernel
theorem eL_law_674 : decode code 674 = .ok (.if_icmp .eq 5, 3) := by decide +kernel
theorem eL_law_677 : decode code 677 = .ok (.iconst 0, 1) := by decide +kernel
theorem eL_law_679 : decode code 679 = .ok (.aload_n 1, 1) := by decide +kernel
theorem eL_law_680 : decode code 680 = .ok (.iload 7, 2) := by decide +kernel
theorem eL_law_682 : decode code 682 = .ok (.iload 12, 2) := by decide +kernel
theorem eL_law_684 : decode code 684 = .ok (.invokevirtual 98, 3) := by decide +kernel
theorem eL_law_687 : decode code 687 = .ok (.istore 23, 2) := by decide +kernel
theorem eL_law_689 : decode code 689 = .ok (.iconst 0, 1) := by decide +kernel
theorem eL_law_690 : decode code 690 = .ok (.istore 24, 2) := by decide +kernel
theorem eL_law_692 : decode code 692 = .ok (.iload 24, 2) := by decide +kernel
theorem eL_law_694 : decode code 694 = .ok (.bipush 6, 2) := by decide +kernel
theorem eL_law_696 : decode code 696 = .ok (.if_icmp .ge 71, 3) := by decide +kernel
theorem eL_law_699 : decode code 699 = .ok (.iconst 1, 1) := by decide +kernel
theorem eL_law_700 : decode code 700 = .ok (.iload 6, 2) := by decide +kernel
theorem eL_law_702 : decode code 702 = .ok (.iconst 3, 1) := by decide +kernel
theorem eL_law_703 : decode code 703 = .ok (.iload 24, 2) := by decide +kernel
theorem eL_law_705 : decode code 705 = .ok (.imul, 1) := by decide +kernel
theorem eL_law_706 : decode code 706 = .ok (.ishr, 1) := by decide +kernel
theorem eL_law_707 : decode code 707 = .ok (.bipush 60, 2) := by decide +kernel
theorem eL_law_709 : decode code 709 = .ok (.invokestatic 52, 3) := by decide +kernel
theorem eL_law_712 : decode code 712 = .ok (.iadd, 1) := by decide +kernel
theorem eL_law_713 : decode code 713 = .ok (.istore 25, 2) := by decide +kernel
theorem eL_law_715 : decode code 715 = .ok (.aload_n 1, 1) := by decide +kernel
theorem eL_law_716 : decode code 716 = .ok (.iconst 0, 1) := by decide +kernel
theorem eL_law_717 : decode code 717 = .ok (.iload 25, 2) := by decide +kernel
theorem eL_law_719 : decode code 719 = .ok (.invokevirtual 56, 3) := by decide +kernel
theorem eL_law_722 : decode code 722 = .ok (.iconst 1, 1) := by decide +kernel
theorem eL_law_723 : decode code 723 = .ok (.if_icmp .ge 5, 3) := by decide +kernel
theorem eL_law_726 : decode code 726 = .ok (.iconst 0, 1) := by decide +kernel
theorem eL_law_728 : decode code 728 = .ok (.aload_n 1, 1) := by decide +kernel
theorem eL_law_729 : decode code 729 = .ok (.iload 7, 2) := by decide +kernel
theorem eL_law_731 : decode code 731 = .ok (.iload 12, 2) := by decide +kernel
theorem eL_law_733 : decode code 733 = .ok (.invokevirtual 98, 3) := by decide +kernel
theorem eL_law_736 : decode code 736 = .ok (.istore 26, 2) := by decide +kernel
theorem eL_law_738 : decode code 738 = .ok (.iload 26, 2) := by decide +kernel
theorem eL_law_740 : decode code 740 = .ok (.iload 23, 2) := by decide +kernel
theorem eL_law_742 : decode code 742 = .ok (.if_icmp .lt 17, 3) := by decide +kernel
theorem eL_law_745 : decode code 745 = .ok (.iload 25, 2) := by decide +kernel
theorem eL_law_747 : decode code 747 = .ok (.iload 16, 2) := by decide +kernel
theorem eL_law_749 : decode code 749 = .ok (.if_icmp .ge 12, 3) := by decide +kernel
theorem eL_law_752 : decode code 752 = .ok (.iload 26, 2) := by decide +kernel
theorem eL_law_754 : decode code 754 = .ok (.iload 23, 2) := by decide +kernel
theorem eL_law_756 : decode code 756 = .ok (.if_icmp .ne 5, 3) := by decide +kernel
theorem eL_law_759 : decode code 759 = .ok (.iconst 0, 1) := by decide +kernel
theorem eL_law_761 : decode code 761 = .ok (.iinc 24 1, 3) := by decide +kernel
theorem eL_law_764 : decode code 764 = .ok (.goto (-72), 3) := by decide +kernel
theorem eL_law_767 : decode code 767 = .ok (.iload 6, 2) := by decide +kernel
theorem eL_law_769 : decode code 769 = .ok (.bipush 14, 2) := by decide +kernel
theorem eL_law_771 : decode code 771 = .ok (.ishr, 1) := by decide +kernel
theorem eL_law_772 : decode code 772 = .ok (.iload_n 3, 1) := by decide +kernel
theorem eL_law_773 : decode code 773 = .ok (.invokestatic 52, 3) := by decide +kernel
theorem eL_law_776 : decode code 776 = .ok (.istore 24, 2) := by decide +kernel
theorem eL_law_778 : decode code 778 = .ok (.aload_n 1, 1) := by decide +kernel
theorem eL_law_779 : decode code 779 = .ok (.invokevirtual 117, 3) := by decide +kernel
theorem eL_law_782 : decode code 782 = .ok (.iload_n 3, 1) := by decide +kernel
theorem eL_law_783 : decode code 783 = .ok (.if_icmp .ne 36, 3) := by decide +kernel
theorem eL_law_786 : decode code 786 = .ok (.iload 17, 2) := by decide +kernel
theorem eL_law_788 : decode code 788 = .ok (.ifCond .lt 31, 3) := by decide +kernel
theorem eL_law_791 : decode code 791 = .ok (.iload 17, 2) := by decide +kernel
theorem eL_law_793 : decode code 793 = .ok (.iconst 3, 1) := by decide +kernel
theorem eL_law_794 : decode code 794 = .ok (.if_icmp .gt 25, 3) := by decide +kernel
theorem eL_law_797 : decode code 797 = .ok (.aload_n 1, 1) := by decide +kernel
theorem eL_law_798 : decode code 798 = .ok (.iload 24, 2) := by decide +kernel
theorem eL_law_800 : decode code 800 = .ok (.iconst 3, 1) := by decide +kernel
theorem eL_law_801 : decode code 801 = .ok (.iload 17, 2) := by decide +kernel
theorem eL_law_803 : decode code 803 = .ok (.invokevirtual 62, 3) := by decide +kernel
theorem eL_law_806 : decode code 806 = .ok (.aload_n 2, 1) := by decide +kernel
theorem eL_law_807 : decode code 807 = .ok (.bipush 9, 2) := by decide +kernel
theorem eL_law_809 : decode code 809 = .ok (.bipush 6, 2) := by decide +kernel
theorem eL_law_811 : decode code 811 = .ok (.iload 24, 2) := by decide +kernel
theorem eL_law_813 : decode code 813 = .ok (.imul, 1) := by decide +kernel
theorem eL_law_814 : decode code 814 = .ok (.iadd, 1) := by decide +kernel
theorem eL_law_815 : decode code 815 = .ok (.iaload, 1) := by decide +kernel
theorem eL_law_816 : decode code 816 = .ok (.if_icmp .eq 5, 3) := by decide +kernel
theorem eL_law_819 : decode code 819 = .ok (.iconst 0, 1) := by decide +kernel
theorem eL_law_821 : decode code 821 = .ok (.aload_n 1, 1) := by decide +kernel
theorem eL_law_822 : decode code 822 = .ok (.iload 7, 2) := by decide +kernel
theorem eL_law_824 : decode code 824 = .ok (.iload 12, 2) := by decide +kernel
theorem eL_law_826 : decode code 826 = .ok (.invokevirtual 98, 3) := by decide +kernel
theorem eL_law_829 : decode code 829 = .ok (.istore 23, 2) := by decide +kernel
theorem eL_law_831 : decode code 831 = .ok (.iconst 0, 1) := by decide +kernel
theorem eL_law_832 : decode code 832 = .ok (.istore 25, 2) := by decide +kernel
theorem eL_law_834 : decode code 834 = .ok (.iload 25, 2) := by decide +kernel
theorem eL_law_836 : decode code 836 = .ok (.iconst 4, 1) := by decide +kernel
theorem eL_law_837 : decode code 837 = .ok (.if_icmp .ge 56, 3) := by decide +kernel
theorem eL_law_840 : decode code 840 = .ok (.aload_n 1, 1) := by decide +kernel
theorem eL_law_841 : decode code 841 = .ok (.iload 24, 2) := by decide +kernel
theorem eL_law_843 : decode code 843 = .ok (.iconst 3, 1) := by decide +kernel
theorem eL_law_844 : decode code 844 = .ok (.iload 25, 2) := by decide +kernel
theorem eL_law_846 : decode code 846 = .ok (.invokevirtual 62, 3) := by decide +kernel
theorem eL_law_849 : decode code 849 = .ok (.ifCond .ge 5, 3) := by decide +kernel
theorem eL_law_852 : decode code 852 = .ok (.iconst 0, 1) := by decide +kernel
theorem eL_law_854 : decode code 854 = .ok (.aload_n 1, 1) := by decide +kernel
theorem eL_law_855 : decode code 855 = .ok (.iload 7, 2) := by decide +kernel
theorem eL_law_857 : decode code 857 = .ok (.iload 12, 2) := by decide +kernel
theorem eL_law_859 : decode code 859 = .ok (.invokevirtual 98, 3) := by decide +kernel
theorem eL_law_862 : decode code 862 = .ok (.istore 26, 2) := by decide +kernel
theorem eL_law_864 : decode code 864 = .ok (.iload 26, 2) := by decide +kernel
theorem eL_law_866 : decode code 866 = .ok (.iload 23, 2) := by decide +kernel
theorem eL_law_868 : decode code 868 = .ok (.if_icmp .lt 17, 3) := by decide +kernel
theorem eL_law_871 : decode code 871 = .ok (.iload 25, 2) := by decide +kernel
theorem eL_law_873 : decode code 873 = .ok (.iload 17, 2) := by decide +kernel
theorem eL_law_875 : decode code 875 = .ok (.if_icmp .ge 12, 3) := by decide +kernel
theorem eL_law_878 : decode code 878 = .ok (.iload 26, 2) := by decide +kernel
theorem eL_law_880 : decode code 880 = .ok (.iload 23, 2) := by decide +kernel
theorem eL_law_882 : decode code 882 = .ok (.if_icmp .ne 5, 3) := by decide +kernel
theorem eL_law_885 : decode code 885 = .ok (.iconst 0, 1) := by decide +kernel
theorem eL_law_887 : decode code 887 = .ok (.iinc 25 1, 3) := by decide +kernel
theorem eL_law_890 : decode code 890 = .ok (.goto (-56), 3) := by decide +kernel
theorem eL_law_893 : decode code 893 = .ok (.aload_n 1, 1) := by decide +kernel
theorem eL_law_894 : decode code 894 = .ok (.invokevirtual 117, 3) := by decide +kernel
theorem eL_law_897 : decode code 897 = .ok (.iload_n 3, 1) := by decide +kernel
theorem eL_law_898 : decode code 898 = .ok (.if_icmp .eq 5, 3) := by decide +kernel
theorem eL_law_901 : decode code 901 = .ok (.iconst 0, 1) := by decide +kernel
theorem eL_law_903 : decode code 903 = .ok (.iload 6, 2) := by decide +kernel
theorem eL_law_905 : decode code 905 = .ok (.bipush 29, 2) := by decide +kernel
theorem eL_law_907 : decode code 907 = .ok (.imul, 1) := by decide +kernel
theorem eL_law_908 : decode code 908 = .ok (.ldc 65, 2) := by decide +kernel
theorem eL_law_910 : decode code 910 = .ok (.invokestatic 52, 3) := by decide +kernel
theorem eL_law_913 : decode code 913 = .ok (.istore 25, 2) := by decide +kernel
theorem eL_law_915 : decode code 915 = .ok (.aload_n 1, 1) := by decide +kernel
theorem eL_law_916 : decode code 916 = .ok (.iload 7, 2) := by decide +kernel
theorem eL_law_918 : decode code 918 = .ok (.iload 25, 2) := by decide +kernel
theorem eL_law_920 : decode code 920 = .ok (.invokevirtual 120, 3) := by decide +kernel
theorem eL_law_923 : decode code 923 = .ok (.istore 26, 2) := by decide +kernel
theorem eL_law_925 : decode code 925 = .ok (.aload_n 1, 1) := by decide +kernel
theorem eL_law_926 : decode code 926 = .ok (.iload 25, 2) := by decide +kernel
theorem eL_law_928 : decode code 928 = .ok (.invokevirtual 123, 3) := by decide +kernel
theorem eL_law_931 : decode code 931 = .ok (.istore 27, 2) := by decide +kernel
theorem eL_law_933 : decode code 933 = .ok (.iconst 0, 1) := by decide +kernel
theorem eL_law_934 : decode code 934 = .ok (.istore 28, 2) := by decide +kernel
theorem eL_law_936 : decode code 936 = .ok (.iconst 0, 1) := by decide +kernel
theorem eL_law_937 : decode code 937 = .ok (.istore 29, 2) := by decide +kernel
theorem eL_law_939 : decode code 939 = .ok (.iconst 0, 1) := by decide +kernel
theorem eL_law_940 : decode code 940 = .ok (.istore 30, 2) := by decide +kernel
theorem eL_law_942 : decode code 942 = .ok (.iload 30, 2) := by decide +kernel
theorem eL_law_944 : decode code 944 = .ok (.bipush 16, 2) := by decide +kernel
theorem eL_law_946 : decode code 946 = .ok (.if_icmp .ge 89, 3) := by decide +kernel
theorem eL_law_949 : decode code 949 = .ok (.iload 25, 2) := by decide +kernel
theorem eL_law_951 : decode code 951 = .ok (.iload 30, 2) := by decide +kernel
theorem eL_law_953 : decode code 953 = .ok (.ishr, 1) := by decide +kernel
theorem eL_law_954 : decode code 954 = .ok (.iconst 1, 1) := by decide +kernel
theorem eL_law_955 : decode code 955 = .ok (.iand, 1) := by decide +kernel
theorem eL_law_956 : decode code 956 = .ok (.ifCond .ne 6, 3) := by decide +kernel
theorem eL_law_959 : decode code 959 = .ok (.goto 70, 3) := by decide +kernel
theorem eL_law_962 : decode code 962 = .ok (.aload_n 1, 1) := by decide +kernel
theorem eL_law_963 : decode code 963 = .ok (.aload_n 1, 1) := by decide +kernel
theorem eL_law_964 : decode code 964 = .ok (.iconst 0, 1) := by decide +kernel
theorem eL_law_965 : decode code 965 = .ok (.invokevirtual 74, 3) := by decide +kernel
theorem eL_law_968 : decode code 968 = .ok (.invokevirtual 77, 3) := by decide +kernel
theorem eL_law_971 : decode code 971 = .ok (.istore 31, 2) := by decide +kernel
theorem eL_law_973 : decode code 973 = .ok (.aload_n 1, 1) := by decide +kernel
theorem eL_law_974 : decode code 974 = .ok (.iload 7, 2) := by decide +kernel
theorem eL_law_976 : decode code 976 = .ok (.iload 30, 2) := by decide +kernel
theorem eL_law_978 : decode code 978 = .ok (.invokevirtual 126, 3) := by decide +kernel
theorem eL_law_981 : decode code 981 = .ok (.istore 32, 2) := by decide +kernel
theorem eL_law_983 : decode code 983 = .ok (.iload 32, 2) := by decide +kernel
theorem eL_law_985 : decode code 985 = .ok (.iload 31, 2) := by decide +kernel
theorem eL_law_987 : decode code 987 = .ok (.iconst (-1), 1) := by decide +kernel
theorem eL_law_988 : decode code 988 = .ok (.ixor, 1) := by decide +kernel
theorem eL_law_989 : decode code 989 = .ok (.iand, 1) := by decide +kernel
theorem eL_law_990 : decode code 990 = .ok (.ifCond .eq 5, 3) := by decide +kernel
theorem eL_law_993 : decode code 993 = .ok (.iconst 0, 1) := by decide +kernel
theorem eL_law_995 : decode code 995 = .ok (.iload 28, 2) := by decide +kernel
theorem eL_law_997 : decode code 997 = .ok (.iload 32, 2) := by decide +kernel
theorem eL_law_999 : decode code 999 = .ok (.invokestatic 30, 3) := by decide +kernel
theorem eL_law_1002 : decode code 1002 = .ok (.iadd, 1) := by decide +kernel
theorem eL_law_1003 : decode code 1003 = .ok (.istore 28, 2) := by decide +kernel
theorem eL_law_1005 : decode code 1005 = .ok (.iload 32, 2) := by decide +kernel
theorem eL_law_1007 : decode code 1007 = .ok (.ifCond .ne 12, 3) := by decide +kernel
theorem eL_law_1010 : decode code 1010 = .ok (.iload 29, 2) := by decide +kernel
theorem eL_law_1012 : decode code 1012 = .ok (.iconst 1, 1) := by decide +kernel
theorem eL_law_1013 : decode code 1013 = .ok (.iload 30, 2) := by decide +kernel
theorem eL_law_1015 : decode code 1015 = .ok (.ishl, 1) := by decide +kernel
theorem eL_law_1016 : decode code 1016 = .ok (.ior, 1) := by decide +kernel
theorem eL_law_1017 : decode code 1017 = .ok (.istore 29, 2) := by decide +kernel
theorem eL_law_1019 : decode code 1019 = .ok (.aload_n 1, 1) := by decide +kernel
theorem eL_law_1020 : decode code 1020 = .ok (.iconst 1, 1) := by decide +kernel
theorem eL_law_1021 : decode code 1021 = .ok (.invokevirtual 66, 3) := by decide +kernel
theorem eL_law_1024 : decode code 1024 = .ok (.ifCond .ge 5, 3) := by decide +kernel
theorem eL_law_1027 : decode code 1027 = .ok (.iconst 0, 1) := by decide +kernel
theorem eL_law_1029 : decode code 1029 = .ok (.iinc 30 1, 3) := by decide +kernel
theorem eL_law_1032 : decode code 1032 = .ok (.goto (-90), 3) := by decide +kernel
theorem eL_law_1035 : decode code 1035 = .ok (.iload 29, 2) := by decide +kernel
theorem eL_law_1037 : decode code 1037 = .ok (.iload 26, 2) := by decide +kernel
theorem eL_law_1039 : decode code 1039 = .ok (.if_icmp .ne 32, 3) := by decide +kernel
theorem eL_law_1042 : decode code 1042 = .ok (.aload_n 1, 1) := by decide +kernel
theorem eL_law_1043 : decode code 1043 = .ok (.invokevirtual 117, 3) := by decide +kernel
theorem eL_law_1046 : decode code 1046 = .ok (.iload_n 3, 1) := by decide +kernel
theorem eL_law_1047 : decode code 1047 = .ok (.if_icmp .ne 24, 3) := by decide +kernel
theorem eL_law_1050 : decode code 1050 = .ok (.aload_n 1, 1) := by decide +kernel
theorem eL_law_1051 : decode code 1051 = .ok (.iload 7, 2) := by decide +kernel
theorem eL_law_1053 : decode code 1053 = .ok (.iload 25, 2) := by decide +kernel
theorem eL_law_1055 : decode code 1055 = .ok (.invokevirtual 128, 3) := by decide +kernel
theorem eL_law_1058 : decode code 1058 = .ok (.iload 28, 2) := by decide +kernel
theorem eL_law_1060 : decode code 1060 = .ok (.if_icmp .ne 11, 3) := by decide +kernel
theorem eL_law_1063 : decode code 1063 = .ok (.aload_n 1, 1) := by decide +kernel
theorem eL_law_1064 : decode code 1064 = .ok (.invokevirtual 117, 3) := by decide +kernel
theorem eL_law_1067 : decode code 1067 = .ok (.iload_n 3, 1) := by decide +kernel
theorem eL_law_1068 : decode code 1068 = .ok (.if_icmp .eq 5, 3) := by decide +kernel
theorem eL_law_1071 : decode code 1071 = .ok (.iconst 0, 1) := by decide +kernel
theorem eL_law_1073 : decode code 1073 = .ok (.aload_n 1, 1) := by decide +kernel
theorem eL_law_1074 : decode code 1074 = .ok (.iload 27, 2) := by decide +kernel
theorem eL_law_1076 : decode code 1076 = .ok (.iload 25, 2) := by decide +kernel
theorem eL_law_1078 : decode code 1078 = .ok (.invokevirtual 128, 3) := by decide +kernel
theorem eL_law_1081 : decode code 1081 = .ok (.istore 30, 2) := by decide +kernel
theorem eL_law_1083 : decode code 1083 = .ok (.iload 30, 2) := by decide +kernel
theorem eL_law_1085 : decode code 1085 = .ok (.iload 28, 2) := by decide +kernel
theorem eL_law_1087 : decode code 1087 = .ok (.if_icmp .gt 33, 3) := by decide +kernel
theorem eL_law_1090 : decode code 1090 = .ok (.iload 30, 2) := by decide +kernel
theorem eL_law_1092 : decode code 1092 = .ok (.iload 28, 2) := by decide +kernel
theorem eL_law_1094 : decode code 1094 = .ok (.if_icmp .ne 10, 3) := by decide +kernel
theorem eL_law_1097 : decode code 1097 = .ok (.iload 27, 2) := by decide +kernel
theorem eL_law_1099 : decode code 1099 = .ok (.iload 7, 2) := by decide +kernel
theorem eL_law_1101 : decode code 1101 = .ok (.if_icmp .gt 19, 3) := by decide +kernel
theorem eL_law_1104 : decode code 1104 = .ok (.aload_n 1, 1) := by decide +kernel
theorem eL_law_1105 : decode code 1105 = .ok (.invokevirtual 117, 3) := by decide +kernel
theorem eL_law_1108 : decode code 1108 = .ok (.iload_n 3, 1) := by decide +kernel
theorem eL_law_1109 : decode code 1109 = .ok (.if_icmp .ne 11, 3) := by decide +kernel
theorem eL_law_1112 : decode code 1112 = .ok (.aload_n 1, 1) := by decide +kernel
theorem eL_law_1113 : decode code 1113 = .ok (.aload_n 2, 1) := by decide +kernel
theorem eL_law_1114 : decode code 1114 = .ok (.invokestatic 131, 3) := by decide +kernel
theorem eL_law_1117 : decode code 1117 = .ok (.ifCond .ne 5, 3) := by decide +kernel
theorem eL_law_1120 : decode code 1120 = .ok (.iconst 0, 1) := by decide +kernel
theorem eL_law_1122 : decode code 1122 = .ok (.iinc 5 1, 3) := by decide +kernel
theorem eL_law_1125 : decode code 1125 = .ok (.goto (-1081), 3) := by decide +kernel
theorem eL_law_1128 : decode code 1128 = .ok (.iconst 1, 1) := by decide +kernel
theorem eL_law_1129 : decode code 1129 = .ok (.ireturn, 1) := by decide +kernel
def dL_law_427 (LL : Nat) (xs : Nat → Int32) (f : Nat) (k44 : Int32 → Int32 → Int32 → Mem → Option (Int32 × Mem)) (k312 : Int32 → Int32 → Int32 → Int32 → Int32 → Int32 → Int32 → Int32 → Int32 → Int32 → Int32 → Int32 → Int32 → Int32 → Int32 → Int32 → Int32 → Int32 → Int32 → Mem → Option (Int32 × Mem)) (x3 : Int32) (x4 : Int32) (x5 : Int32) (x6 : Int32) (x7 : Int32) (x8 : Int32) (x9 : Int32) (x12 : Int32) (x13 : Int32) (x14 : Int32) (x15 : Int32) (x16 : Int32) (x17 : Int32) (x18 : Int32) (x19 : Int32) (x20 : Int32) (x21 : Int32) (x22 : Int32) (x23 : Int32) (mem : Mem) : Option (Int32 × Mem) := bd (dW_pass f (1 : Int32) mem) (fun r1 m1 => if r1 = ((x4 + x23) + (1 : Int32)) then (k312 x3 x4 x5 x6 x7 x8 x9 x12 x13 x14 x15 x16 x17 x18 x19 x20 x21 x22 (x23 + (1 : Int32)) m1) else (some ((0 : Int32), m1)))
def dL_law_408 (LL : Nat) (xs : Nat → Int32) (f : Nat) (k44 : Int32 → Int32 → Int32 → Mem → Option (Int32 × Mem)) (k312 : Int32 → Int32 → Int32 → Int32 → Int32 → Int32 → Int32 → Int32 → Int32 → Int32 → Int32 → Int32 → Int32 → Int32 → Int32 → Int32 → Int32 → Int32 → Int32 → Mem → Option (Int32 × Mem)) (x3 : Int32) (x4 : Int32) (x5 : Int32) (x6 : Int32) (x7 : Int32) (x8 : Int32) (x9 : Int32) (x12 : Int32) (x13 : Int32) (x14 : Int32) (x15 : Int32) (x16 : Int32) (x17 : Int32) (x18 : Int32) (x19 : Int32) (x20 : Int32) (x21 : Int32) (x22 : Int32) (x23 : Int32) (mem : Mem) : Option (Int32 × Mem) := if x15 < 0 then (dL_law_427 LL xs f k44 k312 x3 x4 x5 x6 x7 x8 x9 x12 x13 x14 x15 x16 x17 x18 x19 x20 x21 x22 x23 mem) else (bd (dL_isUnheard f x7 x15 mem) (fun r1 m1 => if r1 = 0 then (dL_law_427 LL xs f k44 k312 x3 x4 x5 x6 x7 x8 x9 x12 x13 x14 x15 x16 x17 x18 x19 x20 x21 x22 x23 m1) else (dL_law_427 LL xs f k44 k312 x3 x4 x5 x6 x7 x8 x9 x12 x13 x14 x15 x16 x17 x18 x19 (x20 + (1 : Int32)) x21 x22 x23 m1)))
def dL_law_381 (LL : Nat) (xs : Nat → Int32) (f : Nat) (k44 : Int32 → Int32 → Int32 → Mem → Option (Int32 × Mem)) (k312 : Int32 → Int32 → Int32 → Int32 → Int32 → Int32 → Int32 → Int32 → Int32 → Int32 → Int32 → Int32 → Int32 → Int32 → Int32 → Int32 → Int32 → Int32 → Int32 → Mem → Option (Int32 × Mem)) (x3 : Int32) (x4 : Int32) (x5 : Int32) (x6 : Int32) (x7 : Int32) (x8 : Int32) (x9 : Int32) (x12 : Int32) (x13 : Int32) (x14 : Int32) (x15 : Int32) (x16 : Int32) (x17 : Int32) (x18 : Int32) (x19 : Int32) (x20 : Int32) (x21 : Int32) (x22 : Int32) (x23 : Int32) (mem : Mem) : Option (Int32 × Mem) := if x14 < 0 then (dL_law_408 LL xs f k44 k312 x3 x4 x5 x6 x7 x8 x9 x12 x13 x14 x15 x16 x17 x18 x19 x20 x21 x22 x23 mem) else (bd (dL_isUnheard f x7 ((1023 : Int32) &&& (((1 : Int32) <<< (x14 &&& 31)) ^^^ (-1 : Int32))) mem) (fun r1 m1 => if r1 = 0 then (dL_law_408 LL xs f k44 k312 x3 x4 x5 x6 x7 x8 x9 x12 x13 x14 x15 x16 x17 x18 x19 x20 x21 x22 x23 m1) else (dL_law_408 LL xs f k44 k312 x3 x4 x5 x6 x7 x8 x9 x12 x13 x14 x15 x16 x17 x18 (x19 + (1 : Int32)) x20 x21 x22 x23 m1)))
def dL_law_366 (LL : Nat) (xs : Nat → Int32) (f : Nat) (k44 : Int32 → Int32 → Int32 → Mem → Option (Int32 × Mem)) (k312 : Int32 → Int32 → Int32 → Int32 → Int32 → Int32 → Int32 → Int32 → Int32 → Int32 → Int32 → Int32 → Int32 → Int32 → Int32 → Int32 → Int32 → Int32 → Int32 → Mem → Option (Int32 × Mem)) (x3 : Int32) (x4 : Int32) (x5 : Int32) (x6 : Int32) (x7 : Int32) (x8 : Int32) (x9 : Int32) (x12 : Int32) (x13 : Int32) (x14 : Int32) (x15 : Int32) (x16 : Int32) (x17 : Int32) (x18 : Int32) (x19 : Int32) (x20 : Int32) (x21 : Int32) (x22 : Int32) (x23 : Int32) (x24 : Int32) (mem : Mem) : Option (Int32 × Mem) := if x23 < x12 then (if x24 = 0 then (dL_law_381 LL xs f k44 k312 x3 x4 x5 x6 x7 x8 x9 x12 x13 x14 x15 x16 x17 x18 x19 x20 x21 x22 x23 mem) else (dL_law_381 LL xs f k44 k312 x3 x4 x5 x6 x7 x8 x9 x12 x13 x14 x15 x16 x17 (x18 + (1 : Int32)) x19 x20 x21 x22 x23 mem)) else (dL_law_427 LL xs f k44 k312 x3 x4 x5 x6 x7 x8 x9 x12 x13 x14 x15 x16 x17 x18 x19 x20 x21 x22 x23 mem)
def dL_law_343 (LL : Nat) (xs : Nat → Int32) (f : Nat) (k44 : Int32 → Int32 → Int32 → Mem → Option (Int32 × Mem)) (k312 : Int32 → Int32 → Int32 → Int32 → Int32 → Int32 → Int32 → Int32 → Int32 → Int32 → Int32 → Int32 → Int32 → Int32 → Int32 → Int32 → Int32 → Int32 → Int32 → Mem → Option (Int32 × Mem)) (x3 : Int32) (x4 : Int32) (x5 : Int32) (x6 : Int32) (x7 : Int32) (x8 : Int32) (x9 : Int32) (x12 : Int32) (x13 : Int32) (x14 : Int32) (x15 : Int32) (x16 : Int32) (x17 : Int32) (x18 : Int32) (x19 : Int32) (x20 : Int32) (x22 : Int32) (x23 : Int32) (x24 : Int32) (s0 : Int32) (mem : Mem) : Option (Int32 × Mem) := if s0 = x8 then (if x22 < 0 then (dL_law_366 LL xs f k44 k312 x3 x4 x5 x6 x7 x8 x9 x12 x13 x14 x15 x16 x17 x18 x19 x20 s0 ((x23 + (1 : Int32)) - x8) x23 x24 mem) else (dL_law_366 LL xs f k44 k312 x3 x4 x5 x6 x7 x8 x9 x12 x13 x14 x15 x16 x17 x18 x19 x20 s0 x22 x23 x24 mem)) else (dL_law_366 LL xs f k44 k312 x3 x4 x5 x6 x7 x8 x9 x12 x13 x14 x15 x16 x17 x18 x19 x20 s0 x22 x23 x24 mem)
def dL_law_1019 (LL : Nat) (xs : Nat → Int32) (f : Nat) (k44 : Int32 → Int32 → Int32 → Mem → Option (Int32 × Mem)) (k942 : Int32 → Int32 → Int32 → Int32 → Int32 → Int32 → Int32 → Int32 → Int32 → Int32 → Mem → Option (Int32 × Mem)) (x3 : Int32) (x4 : Int32) (x5 : Int32) (x7 : Int32) (x25 : Int32) (x26 : Int32) (x27 : Int32) (x28 : Int32) (x29 : Int32) (x30 : Int32) (mem : Mem) : Option (Int32 × Mem) := bd (dW_pass f (1 : Int32) mem) (fun r1 m1 => if r1 < 0 then (some ((0 : Int32), m1)) else (k942 x3 x4 x5 x7 x25 x26 x27 x28 x29 (x30 + (1 : Int32)) m1))
def dL_law_1104 (LL : Nat) (xs : Nat → Int32) (f : Nat) (k44 : Int32 → Int32 → Int32 → Mem → Option (Int32 × Mem)) (x3 : Int32) (x4 : Int32) (x5 : Int32) (mem : Mem) : Option (Int32 × Mem) := bd (dW_undo f  mem) (fun r1 m1 => if r1 = x3 then (bd (dL_isSo f  m1) (fun r2 m2 => if r2 = 0 then (some ((0 : Int32), m2)) else (k44 x3 x4 (x5 + (1 : Int32)) m2))) else (some ((0 : Int32), m1)))
def dL_law_942 (LL : Nat) (xs : Nat → Int32) (f : Nat) (k44 : Int32 → Int32 → Int32 → Mem → Option (Int32 × Mem)) : Nat → Int32 → Int32 → Int32 → Int32 → Int32 → Int32 → Int32 → Int32 → Int32 → Int32 → Mem → Option (Int32 × Mem)
  | 0, _, _, _, _, _, _, _, _, _, _, _ => none
  | n + 1, x3, x4, x5, x7, x25, x26, x27, x28, x29, x30, mem => if x30 < (16 : Int32) then (if ((x25 >>> (x30 &&& 31)) &&& (1 : Int32)) = 0 then (dL_law_942 LL xs f k44 n x3 x4 x5 x7 x25 x26 x27 x28 x29 (x30 + (1 : Int32)) mem) else (bd (dW_now f (0 : Int32) mem) (fun r1 m1 => bd (dW_duty f r1 m1) (fun r2 m2 => bd (dW_say f x7 x30 m2) (fun r3 m3 => if (r3 &&& (r2 ^^^ (-1 : Int32))) = 0 then (bd (dL_ones f r3 m3) (fun r4 m4 => if r3 = 0 then (dL_law_1019 LL xs f k44 (fun x3_ x4_ x5_ x7_ x25_ x26_ x27_ x28_ x29_ x30_ mem_ => dL_law_942 LL xs f k44 n x3_ x4_ x5_ x7_ x25_ x26_ x27_ x28_ x29_ x30_ mem_) x3 x4 x5 x7 x25 x26 x27 (x28 + r4) (x29 ||| ((1 : Int32) <<< (x30 &&& 31))) x30 m4) else (dL_law_1019 LL xs f k44 (fun x3_ x4_ x5_ x7_ x25_ x26_ x27_ x28_ x29_ x30_ mem_ => dL_law_942 LL xs f k44 n x3_ x4_ x5_ x7_ x25_ x26_ x27_ x28_ x29_ x30_ mem_) x3 x4 x5 x7 x25 x26 x27 (x28 + r4) x29 x30 m4))) else (some ((0 : Int32), m3))))))) else (if x29 = x26 then (bd (dW_undo f  mem) (fun r5 m5 => if r5 = x3 then (bd (dW_speak f x7 x25 m5) (fun r6 m6 => if r6 = x28 then (bd (dW_undo f  m6) (fun r7 m7 => if r7 = x3 then (bd (dW_speak f x27 x25 m7) (fun r8 m8 => if x28 < r8 then (some ((0 : Int32), m8)) else (if r8 = x28 then (if x7 < x27 then (some ((0 : Int32), m8)) else (dL_law_1104 LL xs f k44 x3 x4 x5 m8)) else (dL_law_1104 LL xs f k44 x3 x4 x5 m8)))) else (some ((0 : Int32), m7)))) else (some ((0 : Int32), m6)))) else (some ((0 : Int32), m5)))) else (some ((0 : Int32), mem)))
def dL_law_834 (LL : Nat) (xs : Nat → Int32) (f : Nat) (k44 : Int32 → Int32 → Int32 → Mem → Option (Int32 × Mem)) : Nat → Int32 → Int32 → Int32 → Int32 → Int32 → Int32 → Int32 → Int32 → Int32 → Int32 → Mem → Option (Int32 × Mem)
  | 0, _, _, _, _, _, _, _, _, _, _, _ => none
  | n + 1, x3, x4, x5, x6, x7, x12, x17, x23, x24, x25, mem => if x25 < (4 : Int32) then (bd (dW_set f x24 (3 : Int32) x25 mem) (fun r1 m1 => if r1 < 0 then (some ((0 : Int32), m1)) else (bd (dW_quiet f x7 x12 m1) (fun r2 m2 => if r2 < x23 then (some ((0 : Int32), m2)) else (if x25 < x17 then (if r2 = x23 then (some ((0 : Int32), m2)) else (dL_law_834 LL xs f k44 n x3 x4 x5 x6 x7 x12 x17 x23 x24 (x25 + (1 : Int32)) m2)) else (dL_law_834 LL xs f k44 n x3 x4 x5 x6 x7 x12 x17 x23 x24 (x25 + (1 : Int32)) m2)))))) else (bd (dW_undo f  mem) (fun r3 m3 => if r3 = x3 then (bd (dL_mod f (x6 * (29 : Int32)) (65536 : Int32) m3) (fun r4 m4 => bd (dW_lost f x7 r4 m4) (fun r5 m5 => bd (dW_best f r4 m5) (fun r6 m6 => dL_law_942 LL xs f k44 f x3 x4 x5 x7 r4 r5 r6 (0 : Int32) (0 : Int32) (0 : Int32) m6)))) else (some ((0 : Int32), m3))))
def dL_law_692 (LL : Nat) (xs : Nat → Int32) (f : Nat) (k44 : Int32 → Int32 → Int32 → Mem → Option (Int32 × Mem)) : Nat → Int32 → Int32 → Int32 → Int32 → Int32 → Int32 → Int32 → Int32 → Int32 → Int32 → Mem → Option (Int32 × Mem)
  | 0, _, _, _, _, _, _, _, _, _, _, _ => none
  | n + 1, x3, x4, x5, x6, x7, x12, x16, x17, x23, x24, mem => if x24 < (6 : Int32) then (bd (dL_mod f (x6 >>> (((3 : Int32) * x24) &&& 31)) (60 : Int32) mem) (fun r1 m1 => bd (dW_rota f (0 : Int32) ((1 : Int32) + r1) m1) (fun r2 m2 => if r2 < (1 : Int32) then (some ((0 : Int32), m2)) else (bd (dW_quiet f x7 x12 m2) (fun r3 m3 => if r3 < x23 then (some ((0 : Int32), m3)) else (if ((1 : Int32) + r1) < x16 then (if r3 = x23 then (some ((0 : Int32), m3)) else (dL_law_692 LL xs f k44 n x3 x4 x5 x6 x7 x12 x16 x17 x23 (x24 + (1 : Int32)) m3)) else (dL_law_692 LL xs f k44 n x3 x4 x5 x6 x7 x12 x16 x17 x23 (x24 + (1 : Int32)) m3))))))) else (bd (dL_mod f (x6 >>> ((14 : Int32) &&& 31)) x3 mem) (fun r4 m4 => bd (dW_undo f  m4) (fun r5 m5 => if r5 = x3 then (if x17 < 0 then (some ((0 : Int32), m5)) else (if (3 : Int32) < x17 then (some ((0 : Int32), m5)) else (bd (dW_set f r4 (3 : Int32) x17 m5) (fun r6 m6 => ck ((9 : Int32) + ((6 : Int32) * r4)) 66 (if r6 = (gI m6 13 0 ((9 : Int32) + ((6 : Int32) * r4)).toNatClampNeg) then (bd (dW_quiet f x7 x12 m6) (fun r7 m7 => dL_law_834 LL xs f k44 f x3 x4 x5 x6 x7 x12 x17 r7 r4 (0 : Int32) m7)) else (some ((0 : Int32), m6))))))) else (some ((0 : Int32), m5)))))
def dL_law_651 (LL : Nat) (xs : Nat → Int32) (f : Nat) (k44 : Int32 → Int32 → Int32 → Mem → Option (Int32 × Mem)) (x3 : Int32) (x4 : Int32) (x5 : Int32) (x6 : Int32) (x7 : Int32) (x12 : Int32) (x16 : Int32) (x17 : Int32) (mem : Mem) : Option (Int32 × Mem) := if x16 < (1 : Int32) then (some ((0 : Int32), mem)) else (if (60 : Int32) < x16 then (some ((0 : Int32), mem)) else (bd (dW_rota f (0 : Int32) x16 mem) (fun r1 m1 => if r1 = (gI m1 13 0 1) then (bd (dW_quiet f x7 x12 m1) (fun r2 m2 => dL_law_692 LL xs f k44 f x3 x4 x5 x6 x7 x12 x16 x17 r2 (0 : Int32) m2)) else (some ((0 : Int32), m1)))))
def dL_law_614 (LL : Nat) (xs : Nat → Int32) (f : Nat) (k44 : Int32 → Int32 → Int32 → Mem → Option (Int32 × Mem)) (k556 : Int32 → Int32 → Int32 → Int32 → Int32 → Int32 → Int32 → Int32 → Int32 → Int32 → Mem → Option (Int32 × Mem)) (k586 : Int32 → Int32 → Int32 → Int32 → Int32 → Int32 → Int32 → Int32 → Int32 → Int32 → Int32 → Int32 → Mem → Option (Int32 × Mem)) (x3 : Int32) (x4 : Int32) (x5 : Int32) (x6 : Int32) (x7 : Int32) (x12 : Int32) (x15 : Int32) (x16 : Int32) (x17 : Int32) (x23 : Int32) (x24 : Int32) (x25 : Int32) (mem : Mem) : Option (Int32 × Mem) := bd (dW_pass f (1 : Int32) mem) (fun r1 m1 => if r1 < 0 then (some ((0 : Int32), m1)) else (k586 x3 x4 x5 x6 x7 x12 x15 x16 x17 x23 x24 (x25 + (1 : Int32)) m1))
def dL_law_586 (LL : Nat) (xs : Nat → Int32) (f : Nat) (k44 : Int32 → Int32 → Int32 → Mem → Option (Int32 × Mem)) (k556 : Int32 → Int32 → Int32 → Int32 → Int32 → Int32 → Int32 → Int32 → Int32 → Int32 → Mem → Option (Int32 × Mem)) : Nat → Int32 → Int32 → Int32 → Int32 → Int32 → Int32 → Int32 → Int32 → Int32 → Int32 → Int32 → Int32 → Mem → Option (Int32 × Mem)
  | 0, _, _, _, _, _, _, _, _, _, _, _, _, _ => none
  | n + 1, x3, x4, x5, x6, x7, x12, x15, x16, x17, x23, x24, x25, mem => if x25 < x12 then (bd (dL_isUnheard f x7 (x15 &&& (((1 : Int32) <<< (x23 &&& 31)) ^^^ (-1 : Int32))) mem) (fun r1 m1 => if r1 = 0 then (dL_law_614 LL xs f k44 k556 (fun x3_ x4_ x5_ x6_ x7_ x12_ x15_ x16_ x17_ x23_ x24_ x25_ mem_ => dL_law_586 LL xs f k44 k556 n x3_ x4_ x5_ x6_ x7_ x12_ x15_ x16_ x17_ x23_ x24_ x25_ mem_) x3 x4 x5 x6 x7 x12 x15 x16 x17 x23 x24 x25 m1) else (dL_law_614 LL xs f k44 k556 (fun x3_ x4_ x5_ x6_ x7_ x12_ x15_ x16_ x17_ x23_ x24_ x25_ mem_ => dL_law_586 LL xs f k44 k556 n x3_ x4_ x5_ x6_ x7_ x12_ x15_ x16_ x17_ x23_ x24_ x25_ mem_) x3 x4 x5 x6 x7 x12 x15 x16 x17 x23 (x24 + (1 : Int32)) x25 m1))) else (if x24 = 0 then (some ((0 : Int32), mem)) else (bd (dW_undo f  mem) (fun r2 m2 => if r2 = x3 then (k556 x3 x4 x5 x6 x7 x12 x15 x16 x17 (x23 + (1 : Int32)) m2) else (some ((0 : Int32), m2)))))
def dL_law_556 (LL : Nat) (xs : Nat → Int32) (f : Nat) (k44 : Int32 → Int32 → Int32 → Mem → Option (Int32 × Mem)) : Nat → Int32 → Int32 → Int32 → Int32 → Int32 → Int32 → Int32 → Int32 → Int32 → Int32 → Mem → Option (Int32 × Mem)
  | 0, _, _, _, _, _, _, _, _, _, _, _ => none
  | n + 1, x3, x4, x5, x6, x7, x12, x15, x16, x17, x23, mem => if x23 < x3 then (if x15 < 0 then (dL_law_651 LL xs f k44 x3 x4 x5 x6 x7 x12 x16 x17 mem) else (if ((x15 >>> (x23 &&& 31)) &&& (1 : Int32)) = 0 then (dL_law_556 LL xs f k44 n x3 x4 x5 x6 x7 x12 x15 x16 x17 (x23 + (1 : Int32)) mem) else (dL_law_586 LL xs f k44 (fun x3_ x4_ x5_ x6_ x7_ x12_ x15_ x16_ x17_ x23_ mem_ => dL_law_556 LL xs f k44 n x3_ x4_ x5_ x6_ x7_ x12_ x15_ x16_ x17_ x23_ mem_) f x3 x4 x5 x6 x7 x12 x15 x16 x17 x23 (0 : Int32) (0 : Int32) mem))) else (dL_law_651 LL xs f k44 x3 x4 x5 x6 x7 x12 x16 x17 mem)
def dL_law_533 (LL : Nat) (xs : Nat → Int32) (f : Nat) (k44 : Int32 → Int32 → Int32 → Mem → Option (Int32 × Mem)) (x3 : Int32) (x4 : Int32) (x5 : Int32) (x6 : Int32) (x7 : Int32) (x12 : Int32) (x15 : Int32) (x16 : Int32) (x17 : Int32) (mem : Mem) : Option (Int32 × Mem) := bd (dW_undo f  mem) (fun r1 m1 => if r1 = x3 then (bd (dW_now f (0 : Int32) m1) (fun r2 m2 => if r2 = x4 then (dL_law_556 LL xs f k44 f x3 x4 x5 x6 x7 x12 x15 x16 x17 (0 : Int32) m2) else (some ((0 : Int32), m2)))) else (some ((0 : Int32), m1)))
def dL_law_526 (LL : Nat) (xs : Nat → Int32) (f : Nat) (k44 : Int32 → Int32 → Int32 → Mem → Option (Int32 × Mem)) (x3 : Int32) (x4 : Int32) (x5 : Int32) (x6 : Int32) (x7 : Int32) (x12 : Int32) (x15 : Int32) (x16 : Int32) (x17 : Int32) (x22 : Int32) (mem : Mem) : Option (Int32 × Mem) := if x22 = (-1000000004 : Int32) then (dL_law_533 LL xs f k44 x3 x4 x5 x6 x7 x12 x15 x16 x17 mem) else (some ((0 : Int32), mem))
def dL_law_496 (LL : Nat) (xs : Nat → Int32) (f : Nat) (k44 : Int32 → Int32 → Int32 → Mem → Option (Int32 × Mem)) (x3 : Int32) (x4 : Int32) (x5 : Int32) (x6 : Int32) (x7 : Int32) (x8 : Int32) (x9 : Int32) (x12 : Int32) (x15 : Int32) (x16 : Int32) (x17 : Int32) (x22 : Int32) (s0 : Int32) (s1 : Int32) (mem : Mem) : Option (Int32 × Mem) := if s0 = s1 then (if x9 = (-1000000004 : Int32) then (dL_law_526 LL xs f k44 x3 x4 x5 x6 x7 x12 x15 x16 x17 x22 mem) else (if (60 : Int32) < (x9 + x8) then (dL_law_526 LL xs f k44 x3 x4 x5 x6 x7 x12 x15 x16 x17 x22 mem) else (if x22 = x9 then (dL_law_533 LL xs f k44 x3 x4 x5 x6 x7 x12 x15 x16 x17 mem) else (some ((0 : Int32), mem))))) else (some ((0 : Int32), mem))
def dL_law_486 (LL : Nat) (xs : Nat → Int32) (f : Nat) (k44 : Int32 → Int32 → Int32 → Mem → Option (Int32 × Mem)) (x3 : Int32) (x4 : Int32) (x5 : Int32) (x6 : Int32) (x7 : Int32) (x8 : Int32) (x9 : Int32) (x12 : Int32) (x15 : Int32) (x16 : Int32) (x17 : Int32) (x18 : Int32) (x22 : Int32) (s0 : Int32) (mem : Mem) : Option (Int32 × Mem) := if 0 < x18 then (dL_law_496 LL xs f k44 x3 x4 x5 x6 x7 x8 x9 x12 x15 x16 x17 x22 s0 (1 : Int32) mem) else (dL_law_496 LL xs f k44 x3 x4 x5 x6 x7 x8 x9 x12 x15 x16 x17 x22 s0 (0 : Int32) mem)
def dL_law_469 (LL : Nat) (xs : Nat → Int32) (f : Nat) (k44 : Int32 → Int32 → Int32 → Mem → Option (Int32 × Mem)) (x3 : Int32) (x4 : Int32) (x5 : Int32) (x6 : Int32) (x7 : Int32) (x8 : Int32) (x9 : Int32) (x12 : Int32) (x15 : Int32) (x16 : Int32) (x17 : Int32) (x18 : Int32) (x20 : Int32) (x22 : Int32) (mem : Mem) : Option (Int32 × Mem) := if x20 = 0 then (if x15 = (-1000000004 : Int32) then (dL_law_486 LL xs f k44 x3 x4 x5 x6 x7 x8 x9 x12 x15 x16 x17 x18 x22 (1 : Int32) mem) else (dL_law_486 LL xs f k44 x3 x4 x5 x6 x7 x8 x9 x12 x15 x16 x17 x18 x22 (0 : Int32) mem)) else (some ((0 : Int32), mem))
def dL_law_312 (LL : Nat) (xs : Nat → Int32) (f : Nat) (k44 : Int32 → Int32 → Int32 → Mem → Option (Int32 × Mem)) : Nat → Int32 → Int32 → Int32 → Int32 → Int32 → Int32 → Int32 → Int32 → Int32 → Int32 → Int32 → Int32 → Int32 → Int32 → Int32 → Int32 → Int32 → Int32 → Int32 → Mem → Option (Int32 × Mem)
  | 0, _, _, _, _, _, _, _, _, _, _, _, _, _, _, _, _, _, _, _, _ => none
  | n + 1, x3, x4, x5, x6, x7, x8, x9, x12, x13, x14, x15, x16, x17, x18, x19, x20, x21, x22, x23, mem => if x23 < (60 : Int32) then (bd (dL_isUnheard f x7 (1023 : Int32) mem) (fun r1 m1 => if r1 = 0 then (dL_law_343 LL xs f k44 (fun x3_ x4_ x5_ x6_ x7_ x8_ x9_ x12_ x13_ x14_ x15_ x16_ x17_ x18_ x19_ x20_ x21_ x22_ x23_ mem_ => dL_law_312 LL xs f k44 n x3_ x4_ x5_ x6_ x7_ x8_ x9_ x12_ x13_ x14_ x15_ x16_ x17_ x18_ x19_ x20_ x21_ x22_ x23_ mem_) x3 x4 x5 x6 x7 x8 x9 x12 x13 x14 x15 x16 x17 x18 x19 x20 x22 x23 r1 (0 : Int32) m1) else (dL_law_343 LL xs f k44 (fun x3_ x4_ x5_ x6_ x7_ x8_ x9_ x12_ x13_ x14_ x15_ x16_ x17_ x18_ x19_ x20_ x21_ x22_ x23_ mem_ => dL_law_312 LL xs f k44 n x3_ x4_ x5_ x6_ x7_ x8_ x9_ x12_ x13_ x14_ x15_ x16_ x17_ x18_ x19_ x20_ x21_ x22_ x23_ mem_) x3 x4 x5 x6 x7 x8 x9 x12 x13 x14 x15 x16 x17 x18 x19 x20 x22 x23 r1 (x21 + (1 : Int32)) m1))) else (if x18 = x13 then (if x14 < 0 then (dL_law_469 LL xs f k44 x3 x4 x5 x6 x7 x8 x9 x12 x15 x16 x17 x18 x20 x22 mem) else (if x18 < x19 then (dL_law_469 LL xs f k44 x3 x4 x5 x6 x7 x8 x9 x12 x15 x16 x17 x18 x20 x22 mem) else (some ((0 : Int32), mem)))) else (some ((0 : Int32), mem)))
def dL_law_220 (LL : Nat) (xs : Nat → Int32) (f : Nat) (k44 : Int32 → Int32 → Int32 → Mem → Option (Int32 × Mem)) (x3 : Int32) (x4 : Int32) (x5 : Int32) (x6 : Int32) (x7 : Int32) (x8 : Int32) (x9 : Int32) (mem : Mem) : Option (Int32 × Mem) := bd (dL_mod f (x6 >>> ((9 : Int32) &&& 31)) (40 : Int32) mem) (fun r1 m1 => bd (dW_quiet f x7 ((1 : Int32) + r1) m1) (fun r2 m2 => bd (dW_worst f x7 ((1 : Int32) + r1) m2) (fun r3 m3 => bd (dW_cover f x7 ((1 : Int32) + r1) m3) (fun r4 m4 => bd (dW_shift f x7 ((1 : Int32) + r1) m4) (fun r5 m5 => bd (dL_mod f (x6 >>> ((14 : Int32) &&& 31)) x3 m5) (fun r6 m6 => bd (dW_side f r6 x7 ((1 : Int32) + r1) m6) (fun r7 m7 => dL_law_312 LL xs f k44 f x3 x4 x5 x6 x7 x8 x9 ((1 : Int32) + r1) r2 r3 r4 r5 r7 (0 : Int32) (0 : Int32) (0 : Int32) (0 : Int32) (-1000000004 : Int32) (0 : Int32) m7)))))))
def dL_law_156 (LL : Nat) (xs : Nat → Int32) (f : Nat) (k44 : Int32 → Int32 → Int32 → Mem → Option (Int32 × Mem)) (x3 : Int32) (x4 : Int32) (x5 : Int32) (x6 : Int32) (x7 : Int32) (x8 : Int32) (x9 : Int32) (x10 : Int32) (x11 : Int32) (mem : Mem) : Option (Int32 × Mem) := if x10 = (-1000000004 : Int32) then (if x9 = (-1000000004 : Int32) then (dL_law_220 LL xs f k44 x3 x4 x5 x6 x7 x8 x9 mem) else (some ((0 : Int32), mem))) else (if x10 < 0 then (some ((0 : Int32), mem)) else (if (9 : Int32) < x10 then (some ((0 : Int32), mem)) else (if x11 < 0 then (some ((0 : Int32), mem)) else (if x9 = (-1000000004 : Int32) then (dL_law_220 LL xs f k44 x3 x4 x5 x6 x7 x8 x9 mem) else (if x9 < x11 then (some ((0 : Int32), mem)) else (if x11 = x9 then (if x7 < x10 then (some ((0 : Int32), mem)) else (dL_law_220 LL xs f k44 x3 x4 x5 x6 x7 x8 x9 mem)) else (dL_law_220 LL xs f k44 x3 x4 x5 x6 x7 x8 x9 mem)))))))
def dL_law_134 (LL : Nat) (xs : Nat → Int32) (f : Nat) (k44 : Int32 → Int32 → Int32 → Mem → Option (Int32 × Mem)) (x3 : Int32) (x4 : Int32) (x5 : Int32) (x6 : Int32) (x7 : Int32) (x8 : Int32) (x9 : Int32) (x10 : Int32) (s0 : Int32) (mem : Mem) : Option (Int32 × Mem) := if x9 = (-1000000004 : Int32) then (dL_law_156 LL xs f k44 x3 x4 x5 x6 x7 x8 x9 x10 s0 mem) else (if x9 < 0 then (some ((0 : Int32), mem)) else (if (240 : Int32) < x9 then (some ((0 : Int32), mem)) else (dL_law_156 LL xs f k44 x3 x4 x5 x6 x7 x8 x9 x10 s0 mem)))
def dL_law_78 (LL : Nat) (xs : Nat → Int32) (f : Nat) (k44 : Int32 → Int32 → Int32 → Mem → Option (Int32 × Mem)) (x3 : Int32) (x4 : Int32) (x5 : Int32) (x6 : Int32) (s0 : Int32) (s1 : Int32) (mem : Mem) : Option (Int32 × Mem) := bd (dL_mod f s0 s1 mem) (fun r1 m1 => bd (dL_mod f (x6 >>> ((5 : Int32) &&& 31)) (12 : Int32) m1) (fun r2 m2 => bd (dW_safe f r1 ((1 : Int32) + r2) m2) (fun r3 m3 => bd (dW_where f ((1 : Int32) + r2) m3) (fun r4 m4 => if r4 = (-1000000004 : Int32) then (dL_law_134 LL xs f k44 x3 x4 x5 x6 r1 ((1 : Int32) + r2) r3 r4 (-1000000004 : Int32) m4) else (bd (dW_safe f r4 ((1 : Int32) + r2) m4) (fun r5 m5 => dL_law_134 LL xs f k44 x3 x4 x5 x6 r1 ((1 : Int32) + r2) r3 r4 r5 m5))))))
def dL_law_44 (LL : Nat) (xs : Nat → Int32) (f : Nat) : Nat → Int32 → Int32 → Int32 → Mem → Option (Int32 × Mem)
  | 0, _, _, _, _ => none
  | n + 1, x3, x4, x5, mem => if x5 < (4 : Int32) then (bd (dL_at LL xs f ((6 : Int32) + x5) mem) (fun r1 m1 => if ((r1 >>> ((4 : Int32) &&& 31)) &&& (1 : Int32)) = 0 then (dL_law_78 LL xs f (fun x3_ x4_ x5_ mem_ => dL_law_44 LL xs f n x3_ x4_ x5_ mem_) x3 x4 x5 r1 r1 (3 : Int32) m1) else (dL_law_78 LL xs f (fun x3_ x4_ x5_ mem_ => dL_law_44 LL xs f n x3_ x4_ x5_ mem_) x3 x4 x5 r1 r1 (10 : Int32) m1))) else (some ((1 : Int32), mem))
def dL_law_13 (LL : Nat) (xs : Nat → Int32) (f : Nat)  (mem : Mem) : Option (Int32 × Mem) := bd (dL_lay LL xs f  mem) (fun r1 m1 => if r1 = 0 then (some ((0 : Int32), m1)) else (bd (dW_image f  m1) (fun r2 m2 => if r2 = (1 : Int32) then (dL_law_44 LL xs f f (gI m2 13 0 5) (gI m2 13 0 0) (0 : Int32) m2) else (some ((0 : Int32), m2)))))
set_option maxHeartbeats 4000000 in
set_option maxRecDepth 100000 in
theorem cL_law_427 {p : Program} {l : Launch} {e : Env} {s : State} {m : MethodId} {b : Nat} {below : List Frame} {meth : Method} {c : Code} {k : KK} {f : Nat} {mem' : Mem} (X : CX p s m #[Value.ref b] meth c k code 33 "WallShiftsLaw") (hr : meth.sig.returnType = ret) (hk : kh k = s.heap.size) {k44 : Int32 → Int32 → Int32 → Mem → Option (Int32 × Mem)} (hk44 : ∀ (x3 : Int32) (x4 : Int32) (x5 : Int32) (mem : Mem), k44 x3 x4 x5 mem = some (o, mem') → V p l e room_1 s m #[Value.ref b] below meth c 600000 7302250 (lw_Z below #[Value.ref b] s) k 33 mem 44 [(0, aR 24 0), (1, aR 0 0), (2, aR 13 0), (3, aI x3), (4, aI x4), (5, aI x5)] []) {k312 : Int32 → Int32 → Int32 → Int32 → Int32 → Int32 → Int32 → Int32 → Int32 → Int32 → Int32 → Int32 → Int32 → Int32 → Int32 → Int32 → Int32 → Int32 → Int32 → Mem → Option (Int32 × Mem)} (hk312 : ∀ (x3 : Int32) (x4 : Int32) (x5 : Int32) (x6 : Int32) (x7 : Int32) (x8 : Int32) (x9 : Int32) (x12 : Int32) (x13 : Int32) (x14 : Int32) (x15 : Int32) (x16 : Int32) (x17 : Int32) (x18 : Int32) (x19 : Int32) (x20 : Int32) (x21 : Int32) (x22 : Int32) (x23 : Int32) (mem : Mem), k312 x3 x4 x5 x6 x7 x8 x9 x12 x13 x14 x15 x16 x17 x18 x19 x20 x21 x22 x23 mem = some (o, mem') → V p l e room_1 s m #[Value.ref b] below meth c 600000 7302250 (lw_Z below #[Value.ref b] s) k 33 mem 312 [(0, aR 24 0), (1, aR 0 0), (2, aR 13 0), (3, aI x3), (4, aI x4), (5, aI x5), (6, aI x6), (7, aI x7), (8, aI x8), (9, aI x9), (12, aI x12), (13, aI x13), (14, aI x14), (15, aI x15), (16, aI x16), (17, aI x17), (18, aI x18), (19, aI x19), (20, aI x20), (21, aI x21), (22, aI x22), (23, aI x23)] []) : ∀ (x3 : Int32) (x4 : Int32) (x5 : Int32) (x6 : Int32) (x7 : Int32) (x8 : Int32) (x9 : Int32) (x12 : Int32) (x13 : Int32) (x14 : Int32) (x15 : Int32) (x16 : Int32) (x17 : Int32) (x18 : Int32) (x19 : Int32) (x20 : Int32) (x21 : Int32) (x22 : Int32) (x23 : Int32) (mem : Mem), dL_law_427 (kL k) (kx k) f k44 k312 x3 x4 x5 x6 x7 x8 x9 x12 x13 x14 x15 x16 x17 x18 x19 x20 x21 x22 x23 mem = some ((1 : Int32), mem') → V p l e room_1 s m #[Value.ref b] below meth c 600000 7302250 (lw_Z below #[Value.ref b] s) k 33 mem 427 [(0, aR 24 0), (1, aR 0 0), (2, aR 13 0), (3, aI x3), (4, aI x4), (5, aI x5), (6, aI x6), (7, aI x7), (8, aI x8), (9, aI x9), (12, aI x12), (13, aI x13), (14, aI x14), (15, aI x15), (16, aI x16), (17, aI x17), (18, aI x18), (19, aI x19), (20, aI x20), (21, aI x21), (22, aI x22), (23, aI x23)] [] := by
  intro x3 x4 x5 x6 x7 x8 x9 x12 x13 x14 x15 x16 x17 x18 x19 x20 x21 x22 x23 mem  h
  unfold dL_law_427 at h
  refine v_aload_n X (pc := 427) 1 rfl eL_law_427 rfl ?_
  refine v_iconst X (pc := 428) (v := (1 : Int32)) eL_law_428 (by decide) ?_
  obtain ⟨r1, m1, hc1, h⟩ := bd_some h
  refine v_callV X (pc := 429) [_] [] ok_V_L_66 (cW_pass  hc1) rfl (Nat.le_of_ble_eq_true rfl) ⟨Nat.le_of_ble_eq_true rfl, Nat.le_of_ble_eq_true rfl⟩ ⟨Nat.le_of_ble_eq_true rfl, Nat.le_of_ble_eq_true rfl⟩ (by decide) (by decide) rfl rfl eL_law_429 ?_
  refine v_iload X (pc := 432) 4 rfl eL_law_432 ?_
  refine v_iload X (pc := 434) 21 rfl eL_law_434 ?_
  refine v_iadd X (pc := 436) eL_law_436 ?_
  refine v_iconst X (pc := 437) (v := (1 : Int32)) eL_law_437 (by decide) ?_
  refine v_iadd X (pc := 438) eL_law_438 ?_
  refine v_icmp_eq X (pc := 439) (tgt := 444) h eL_law_439 (by decide) (fun h => ?_) (fun h => ?_)
  · refine v_iinc X (pc := 444) (v := (x23 + (1 : Int32))) (lv' := [(23, _), (0, _), (1, _), (2, _), (3, _), (4, _), (5, _), (6, _), (7, _), (8, _), (9, _), (12, _), (13, _), (14, _), (15, _), (16, _), (17, _), (18, _), (19, _), (20, _), (21, _), (22, _)]) 21 rfl (by rfl) eL_law_444 (Nat.le_of_ble_eq_true rfl) rfl ?_
    refine v_goto X (pc := 447) (tgt := 312) eL_law_447 (by decide) ?_
    exact v_sub [1, 2, 3, 4, 5, 6, 7, 8, 9, 10, 11, 12, 13, 14, 15, 16, 17, 18, 19, 20, 21, 0] rfl (hk312 _ _ _ _ _ _ _ _ _ _ _ _ _ _ _ _ _ _ _ _  h)
  · refine v_iconst X (pc := 442) (v := (0 : Int32)) eL_law_442 (by decide) ?_
    exact absurd (Prod.mk.inj (Option.some.inj h)).1 (by decide)
set_option maxHeartbeats 4000000 in
set_option maxRecDepth 100000 in
theorem cL_law_408 {p : Program} {l : Launch} {e : Env} {s : State} {m : MethodId} {b : Nat} {below : List Frame} {meth : Method} {c : Code} {k : KK} {f : Nat} {mem' : Mem} (X : CX p s m #[Value.ref b] meth c k code 33 "WallShiftsLaw") (hr : meth.sig.returnType = ret) (hk : kh k = s.heap.size) {k44 : Int32 → Int32 → Int32 → Mem → Option (Int32 × Mem)} (hk44 : ∀ (x3 : Int32) (x4 : Int32) (x5 : Int32) (mem : Mem), k44 x3 x4 x5 mem = some (o, mem') → V p l e room_1 s m #[Value.ref b] below meth c 600000 7302250 (lw_Z below #[Value.ref b] s) k 33 mem 44 [(0, aR 24 0), (1, aR 0 0), (2, aR 13 0), (3, aI x3), (4, aI x4), (5, aI x5)] []) {k312 : Int32 → Int32 → Int32 → Int32 → Int32 → Int32 → Int32 → Int32 → Int32 → Int32 → Int32 → Int32 → Int32 → Int32 → Int32 → Int32 → Int32 → Int32 → Int32 → Mem → Option (Int32 × Mem)} (hk312 : ∀ (x3 : Int32) (x4 : Int32) (x5 : Int32) (x6 : Int32) (x7 : Int32) (x8 : Int32) (x9 : Int32) (x12 : Int32) (x13 : Int32) (x14 : Int32) (x15 : Int32) (x16 : Int32) (x17 : Int32) (x18 : Int32) (x19 : Int32) (x20 : Int32) (x21 : Int32) (x22 : Int32) (x23 : Int32) (mem : Mem), k312 x3 x4 x5 x6 x7 x8 x9 x12 x13 x14 x15 x16 x17 x18 x19 x20 x21 x22 x23 mem = some (o, mem') → V p l e room_1 s m #[Value.ref b] below meth c 600000 7302250 (lw_Z below #[Value.ref b] s) k 33 mem 312 [(0, aR 24 0), (1, aR 0 0), (2, aR 13 0), (3, aI x3), (4, aI x4), (5, aI x5), (6, aI x6), (7, aI x7), (8, aI x8), (9, aI x9), (12, aI x12), (13, aI x13), (14, aI x14), (15, aI x15), (16, aI x16), (17, aI x17), (18, aI x18), (19, aI x19), (20, aI x20), (21, aI x21), (22, aI x22), (23, aI x23)] []) : ∀ (x3 : Int32) (x4 : Int32) (x5 : Int32) (x6 : Int32) (x7 : Int32) (x8 : Int32) (x9 : Int32) (x12 : Int32) (x13 : Int32) (x14 : Int32) (x15 : Int32) (x16 : Int32) (x17 : Int32) (x18 : Int32) (x19 : Int32) (x20 : Int32) (x21 : Int32) (x22 : Int32) (x23 : Int32) (mem : Mem), dL_law_408 (kL k) (kx k) f k44 k312 x3 x4 x5 x6 x7 x8 x9 x12 x13 x14 x15 x16 x17 x18 x19 x20 x21 x22 x23 mem = some ((1 : Int32), mem') → V p l e room_1 s m #[Value.ref b] below meth c 600000 7302250 (lw_Z below #[Value.ref b] s) k 33 mem 408 [(0, aR 24 0), (1, aR 0 0), (2, aR 13 0), (3, aI x3), (4, aI x4), (5, aI x5), (6, aI x6), (7, aI x7), (8, aI x8), (9, aI x9), (12, aI x12), (13, aI x13), (14, aI x14), (15, aI x15), (16, aI x16), (17, aI x17), (18, aI x18), (19, aI x19), (20, aI x20), (21, aI x21), (22, aI x22), (23, aI x23)] [] := by
  intro x3 x4 x5 x6 x7 x8 x9 x12 x13 x14 x15 x16 x17 x18 x19 x20 x21 x22 x23 mem  h
  unfold dL_law_408 at h
  refine v_iload X (pc := 408) 13 rfl eL_law_408 ?_
  refine v_if_lt X (pc := 410) (tgt := 427) h eL_law_410 (by decide) (fun h => ?_) (fun h => ?_)
  · exact v_sub [0, 1, 2, 3, 4, 5, 6, 7, 8, 9, 10, 11, 12, 13, 14, 15, 16, 17, 18, 19, 20, 21] rfl (cL_law_427 X hr hk hk44 hk312 _ _ _ _ _ _ _ _ _ _ _ _ _ _ _ _ _ _ _ _  h)
  · refine v_aload_n X (pc := 413) 1 rfl eL_law_413 rfl ?_
    refine v_iload X (pc := 414) 7 rfl eL_law_414 ?_
    refine v_iload X (pc := 416) 13 rfl eL_law_416 ?_
    obtain ⟨r1, m1, hc1, h⟩ := bd_some h
    refine v_callS X (pc := 418) [_, _, _] [] ok_S_L_113 (cL_isUnheard  hc1) rfl (Nat.le_of_ble_eq_true rfl) ⟨Nat.le_of_ble_eq_true rfl, Nat.le_of_ble_eq_true rfl⟩ ⟨Nat.le_of_ble_eq_true rfl, Nat.le_of_ble_eq_true rfl⟩ eL_law_418 ?_
    refine v_if_eq X (pc := 421) (tgt := 427) h eL_law_421 (by decide) (fun h => ?_) (fun h => ?_)
    · exact v_sub [0, 1, 2, 3, 4, 5, 6, 7, 8, 9, 10, 11, 12, 13, 14, 15, 16, 17, 18, 19, 20, 21] rfl (cL_law_427 X hr hk hk44 hk312 _ _ _ _ _ _ _ _ _ _ _ _ _ _ _ _ _ _ _ _  h)
    · refine v_iinc X (pc := 424) (v := (x20 + (1 : Int32))) (lv' := [(20, _), (0, _), (1, _), (2, _), (3, _), (4, _), (5, _), (6, _), (7, _), (8, _), (9, _), (12, _), (13, _), (14, _), (15, _), (16, _), (17, _), (18, _), (19, _), (21, _), (22, _), (23, _)]) 18 rfl (by rfl) eL_law_424 (Nat.le_of_ble_eq_true rfl) rfl ?_
      exact v_sub [1, 2, 3, 4, 5, 6, 7, 8, 9, 10, 11, 12, 13, 14, 15, 16, 17, 18, 0, 19, 20, 21] rfl (cL_law_427 X hr hk hk44 hk312 _ _ _ _ _ _ _ _ _ _ _ _ _ _ _ _ _ _ _ _  h)
set_option maxHeartbeats 4000000 in
set_option maxRecDepth 100000 in
theorem cL_law_381 {p : Program} {l : Launch} {e : Env} {s : State} {m : MethodId} {b : Nat} {below : List Frame} {meth : Method} {c : Code} {k : KK} {f : Nat} {mem' : Mem} (X : CX p s m #[Value.ref b] meth c k code 33 "WallShiftsLaw") (hr : meth.sig.returnType = ret) (hk : kh k = s.heap.size) {k44 : Int32 → Int32 → Int32 → Mem → Option (Int32 × Mem)} (hk44 : ∀ (x3 : Int32) (x4 : Int32) (x5 : Int32) (mem : Mem), k44 x3 x4 x5 mem = some (o, mem') → V p l e room_1 s m #[Value.ref b] below meth c 600000 7302250 (lw_Z below #[Value.ref b] s) k 33 mem 44 [(0, aR 24 0), (1, aR 0 0), (2, aR 13 0), (3, aI x3), (4, aI x4), (5, aI x5)] []) {k312 : Int32 → Int32 → Int32 → Int32 → Int32 → Int32 → Int32 → Int32 → Int32 → Int32 → Int32 → Int32 → Int32 → Int32 → Int32 → Int32 → Int32 → Int32 → Int32 → Mem → Option (Int32 × Mem)} (hk312 : ∀ (x3 : Int32) (x4 : Int32) (x5 : Int32) (x6 : Int32) (x7 : Int32) (x8 : Int32) (x9 : Int32) (x12 : Int32) (x13 : Int32) (x14 : Int32) (x15 : Int32) (x16 : Int32) (x17 : Int32) (x18 : Int32) (x19 : Int32) (x20 : Int32) (x21 : Int32) (x22 : Int32) (x23 : Int32) (mem : Mem), k312 x3 x4 x5 x6 x7 x8 x9 x12 x13 x14 x15 x16 x17 x18 x19 x20 x21 x22 x23 mem = some (o, mem') → V p l e room_1 s m #[Value.ref b] below meth c 600000 7302250 (lw_Z below #[Value.ref b] s) k 33 mem 312 [(0, aR 24 0), (1, aR 0 0), (2, aR 13 0), (3, aI x3), (4, aI x4), (5, aI x5), (6, aI x6), (7, aI x7), (8, aI x8), (9, aI x9), (12, aI x12), (13, aI x13), (14, aI x14), (15, aI x15), (16, aI x16), (17, aI x17), (18, aI x18), (19, aI x19), (20, aI x20), (21, aI x21), (22, aI x22), (23, aI x23)] []) : ∀ (x3 : Int32) (x4 : Int32) (x5 : Int32) (x6 : Int32) (x7 : Int32) (x8 : Int32) (x9 : Int32) (x12 : Int32) (x13 : Int32) (x14 : Int32) (x15 : Int32) (x16 : Int32) (x17 : Int32) (x18 : Int32) (x19 : Int32) (x20 : Int32) (x21 : Int32) (x22 : Int32) (x23 : Int32) (mem : Mem), dL_law_381 (kL k) (kx k) f k44 k312 x3 x4 x5 x6 x7 x8 x9 x12 x13 x14 x15 x16 x17 x18 x19 x20 x21 x22 x23 mem = some ((1 : Int32), mem') → V p l e room_1 s m #[Value.ref b] below meth c 600000 7302250 (lw_Z below #[Value.ref b] s) k 33 mem 381 [(0, aR 24 0), (1, aR 0 0), (2, aR 13 0), (3, aI x3), (4, aI x4), (5, aI x5), (6, aI x6), (7, aI x7), (8, aI x8), (9, aI x9), (12, aI x12), (13, aI x13), (14, aI x14), (15, aI x15), (16, aI x16), (17, aI x17), (18, aI x18), (19, aI x19), (20, aI x20), (21, aI x21), (22, aI x22), (23, aI x23)] [] := by
  intro x3 x4 x5 x6 x7 x8 x9 x12 x13 x14 x15 x16 x17 x18 x19 x20 x21 x22 x23 mem  h
  unfold dL_law_381 at h
  refine v_iload X (pc := 381) 12 rfl eL_law_381 ?_
  refine v_if_lt X (pc := 383) (tgt := 408) h eL_law_383 (by decide) (fun h => ?_) (fun h => ?_)
  · exact v_sub [0, 1, 2, 3, 4, 5, 6, 7, 8, 9, 10, 11, 12, 13, 14, 15, 16, 17, 18, 19, 20, 21] rfl (cL_law_408 X hr hk hk44 hk312 _ _ _ _ _ _ _ _ _ _ _ _ _ _ _ _ _ _ _ _  h)
  · refine v_aload_n X (pc := 386) 1 rfl eL_law_386 rfl ?_
    refine v_iload X (pc := 387) 7 rfl eL_law_387 ?_
    refine v_sipush X (pc := 389) (v := (1023 : Int32)) eL_law_389 (by decide) ?_
    refine v_iconst X (pc := 392) (v := (1 : Int32)) eL_law_392 (by decide) ?_
    refine v_iload X (pc := 393) 12 rfl eL_law_393 ?_
    refine v_ishl X (pc := 395) eL_law_395 ?_
    refine v_iconst X (pc := 396) (v := (-1 : Int32)) eL_law_396 (by decide) ?_
    refine v_ixor X (pc := 397) eL_law_397 ?_
    refine v_iand X (pc := 398) eL_law_398 ?_
    obtain ⟨r1, m1, hc1, h⟩ := bd_some h
    refine v_callS X (pc := 399) [_, _, _] [] ok_S_L_113 (cL_isUnheard  hc1) rfl (Nat.le_of_ble_eq_true rfl) ⟨Nat.le_of_ble_eq_true rfl, Nat.le_of_ble_eq_true rfl⟩ ⟨Nat.le_of_ble_eq_true rfl, Nat.le_of_ble_eq_true rfl⟩ eL_law_399 ?_
    refine v_if_eq X (pc := 402) (tgt := 408) h eL_law_402 (by decide) (fun h => ?_) (fun h => ?_)
    · exact v_sub [0, 1, 2, 3, 4, 5, 6, 7, 8, 9, 10, 11, 12, 13, 14, 15, 16, 17, 18, 19, 20, 21] rfl (cL_law_408 X hr hk hk44 hk312 _ _ _ _ _ _ _ _ _ _ _ _ _ _ _ _ _ _ _ _  h)
    · refine v_iinc X (pc := 405) (v := (x19 + (1 : Int32))) (lv' := [(19, _), (0, _), (1, _), (2, _), (3, _), (4, _), (5, _), (6, _), (7, _), (8, _), (9, _), (12, _), (13, _), (14, _), (15, _), (16, _), (17, _), (18, _), (20, _), (21, _), (22, _), (23, _)]) 17 rfl (by rfl) eL_law_405 (Nat.le_of_ble_eq_true rfl) rfl ?_
      exact v_sub [1, 2, 3, 4, 5, 6, 7, 8, 9, 10, 11, 12, 13, 14, 15, 16, 17, 0, 18, 19, 20, 21] rfl (cL_law_408 X hr hk hk44 hk312 _ _ _ _ _ _ _ _ _ _ _ _ _ _ _ _ _ _ _ _  h)
set_option maxHeartbeats 4000000 in
set_option maxRecDepth 100000 in
theorem cL_law_366 {p : Program} {l : Launch} {e : Env} {s : State} {m : MethodId} {b : Nat} {below : List Frame} {meth : Method} {c : Code} {k : KK} {f : Nat} {mem' : Mem} (X : CX p s m #[Value.ref b] meth c k code 33 "WallShiftsLaw") (hr : meth.sig.returnType = ret) (hk : kh k = s.heap.size) {k44 : Int32 → Int32 → Int32 → Mem → Option (Int32 × Mem)} (hk44 : ∀ (x3 : Int32) (x4 : Int32) (x5 : Int32) (mem : Mem), k44 x3 x4 x5 mem = some (o, mem') → V p l e room_1 s m #[Value.ref b] below meth c 600000 7302250 (lw_Z below #[Value.ref b] s) k 33 mem 44 [(0, aR 24 0), (1, aR 0 0), (2, aR 13 0), (3, aI x3), (4, aI x4), (5, aI x5)] []) {k312 : Int32 → Int32 → Int32 → Int32 → Int32 → Int32 → Int32 → Int32 → Int32 → Int32 → Int32 → Int32 → Int32 → Int32 → Int32 → Int32 → Int32 → Int32 → Int32 → Mem → Option (Int32 × Mem)} (hk312 : ∀ (x3 : Int32) (x4 : Int32) (x5 : Int32) (x6 : Int32) (x7 : Int32) (x8 : Int32) (x9 : Int32) (x12 : Int32) (x13 : Int32) (x14 : Int32) (x15 : Int32) (x16 : Int32) (x17 : Int32) (x18 : Int32) (x19 : Int32) (x20 : Int32) (x21 : Int32) (x22 : Int32) (x23 : Int32) (mem : Mem), k312 x3 x4 x5 x6 x7 x8 x9 x12 x13 x14 x15 x16 x17 x18 x19 x20 x21 x22 x23 mem = some (o, mem') → V p l e room_1 s m #[Value.ref b] below meth c 600000 7302250 (lw_Z below #[Value.ref b] s) k 33 mem 312 [(0, aR 24 0), (1, aR 0 0), (2, aR 13 0), (3, aI x3), (4, aI x4), (5, aI x5), (6, aI x6), (7, aI x7), (8, aI x8), (9, aI x9), (12, aI x12), (13, aI x13), (14, aI x14), (15, aI x15), (16, aI x16), (17, aI x17), (18, aI x18), (19, aI x19), (20, aI x20), (21, aI x21), (22, aI x22), (23, aI x23)] []) : ∀ (x3 : Int32) (x4 : Int32) (x5 : Int32) (x6 : Int32) (x7 : Int32) (x8 : Int32) (x9 : Int32) (x12 : Int32) (x13 : Int32) (x14 : Int32) (x15 : Int32) (x16 : Int32) (x17 : Int32) (x18 : Int32) (x19 : Int32) (x20 : Int32) (x21 : Int32) (x22 : Int32) (x23 : Int32) (x24 : Int32) (mem : Mem), dL_law_366 (kL k) (kx k) f k44 k312 x3 x4 x5 x6 x7 x8 x9 x12 x13 x14 x15 x16 x17 x18 x19 x20 x21 x22 x23 x24 mem = some ((1 : Int32), mem') → V p l e room_1 s m #[Value.ref b] below meth c 600000 7302250 (lw_Z below #[Value.ref b] s) k 33 mem 366 [(0, aR 24 0), (1, aR 0 0), (2, aR 13 0), (3, aI x3), (4, aI x4), (5, aI x5), (6, aI x6), (7, aI x7), (8, aI x8), (9, aI x9), (12, aI x12), (13, aI x13), (14, aI x14), (15, aI x15), (16, aI x16), (17, aI x17), (18, aI x18), (19, aI x19), (20, aI x20), (21, aI x21), (22, aI x22), (23, aI x23), (24, aI x24)] [] := by
  intro x3 x4 x5 x6 x7 x8 x9 x12 x13 x14 x15 x16 x17 x18 x19 x20 x21 x22 x23 x24 mem  h
  unfold dL_law_366 at h
  refine v_iload X (pc := 366) 21 rfl eL_law_366 ?_
  refine v_iload X (pc := 368) 10 rfl eL_law_368 ?_
  refine v_icmp_ge X (pc := 370) (tgt := 427) h eL_law_370 (by decide) (fun h => ?_) (fun h => ?_)
  · refine v_iload X (pc := 373) 22 rfl eL_law_373 ?_
    refine v_if_eq X (pc := 375) (tgt := 381) h eL_law_375 (by decide) (fun h => ?_) (fun h => ?_)
    · exact v_sub [0, 1, 2, 3, 4, 5, 6, 7, 8, 9, 10, 11, 12, 13, 14, 15, 16, 17, 18, 19, 20, 21] rfl (cL_law_381 X hr hk hk44 hk312 _ _ _ _ _ _ _ _ _ _ _ _ _ _ _ _ _ _ _ _  h)
    · refine v_iinc X (pc := 378) (v := (x18 + (1 : Int32))) (lv' := [(18, _), (0, _), (1, _), (2, _), (3, _), (4, _), (5, _), (6, _), (7, _), (8, _), (9, _), (12, _), (13, _), (14, _), (15, _), (16, _), (17, _), (19, _), (20, _), (21, _), (22, _), (23, _), (24, _)]) 16 rfl (by rfl) eL_law_378 (Nat.le_of_ble_eq_true rfl) rfl ?_
      exact v_sub [1, 2, 3, 4, 5, 6, 7, 8, 9, 10, 11, 12, 13, 14, 15, 16, 0, 17, 18, 19, 20, 21] rfl (cL_law_381 X hr hk hk44 hk312 _ _ _ _ _ _ _ _ _ _ _ _ _ _ _ _ _ _ _ _  h)
  · exact v_sub [0, 1, 2, 3, 4, 5, 6, 7, 8, 9, 10, 11, 12, 13, 14, 15, 16, 17, 18, 19, 20, 21] rfl (cL_law_427 X hr hk hk44 hk312 _ _ _ _ _ _ _ _ _ _ _ _ _ _ _ _ _ _ _ _  h)
set_option maxHeartbeats 4000000 in
set_option maxRecDepth 100000 in
theorem cL_law_343 {p : Program} {l : Launch} {e : Env} {s : State} {m : MethodId} {b : Nat} {below : List Frame} {meth : Method} {c : Code} {k : KK} {f : Nat} {mem' : Mem} (X : CX p s m #[Value.ref b] meth c k code 33 "WallShiftsLaw") (hr : meth.sig.returnType = ret) (hk : kh k = s.heap.size) {k44 : Int32 → Int32 → Int32 → Mem → Option (Int32 × Mem)} (hk44 : ∀ (x3 : Int32) (x4 : Int32) (x5 : Int32) (mem : Mem), k44 x3 x4 x5 mem = some (o, mem') → V p l e room_1 s m #[Value.ref b] below meth c 600000 7302250 (lw_Z below #[Value.ref b] s) k 33 mem 44 [(0, aR 24 0), (1, aR 0 0), (2, aR 13 0), (3, aI x3), (4, aI x4), (5, aI x5)] []) {k312 : Int32 → Int32 → Int32 → Int32 → Int32 → Int32 → Int32 → Int32 → Int32 → Int32 → Int32 → Int32 → Int32 → Int32 → Int32 → Int32 → Int32 → Int32 → Int32 → Mem → Option (Int32 × Mem)} (hk312 : ∀ (x3 : Int32) (x4 : Int32) (x5 : Int32) (x6 : Int32) (x7 : Int32) (x8 : Int32) (x9 : Int32) (x12 : Int32) (x13 : Int32) (x14 : Int32) (x15 : Int32) (x16 : Int32) (x17 : Int32) (x18 : Int32) (x19 : Int32) (x20 : Int32) (x21 : Int32) (x22 : Int32) (x23 : Int32) (mem : Mem), k312 x3 x4 x5 x6 x7 x8 x9 x12 x13 x14 x15 x16 x17 x18 x19 x20 x21 x22 x23 mem = some (o, mem') → V p l e room_1 s m #[Value.ref b] below meth c 600000 7302250 (lw_Z below #[Value.ref b] s) k 33 mem 312 [(0, aR 24 0), (1, aR 0 0), (2, aR 13 0), (3, aI x3), (4, aI x4), (5, aI x5), (6, aI x6), (7, aI x7), (8, aI x8), (9, aI x9), (12, aI x12), (13, aI x13), (14, aI x14), (15, aI x15), (16, aI x16), (17, aI x17), (18, aI x18), (19, aI x19), (20, aI x20), (21, aI x21), (22, aI x22), (23, aI x23)] []) : ∀ (x3 : Int32) (x4 : Int32) (x5 : Int32) (x6 : Int32) (x7 : Int32) (x8 : Int32) (x9 : Int32) (x12 : Int32) (x13 : Int32) (x14 : Int32) (x15 : Int32) (x16 : Int32) (x17 : Int32) (x18 : Int32) (x19 : Int32) (x20 : Int32) (x22 : Int32) (x23 : Int32) (x24 : Int32) (s0 : Int32) (mem : Mem), dL_law_343 (kL k) (kx k) f k44 k312 x3 x4 x5 x6 x7 x8 x9 x12 x13 x14 x15 x16 x17 x18 x19 x20 x22 x23 x24 s0 mem = some ((1 : Int32), mem') → V p l e room_1 s m #[Value.ref b] below meth c 600000 7302250 (lw_Z below #[Value.ref b] s) k 33 mem 343 [(0, aR 24 0), (1, aR 0 0), (2, aR 13 0), (3, aI x3), (4, aI x4), (5, aI x5), (6, aI x6), (7, aI x7), (8, aI x8), (9, aI x9), (12, aI x12), (13, aI x13), (14, aI x14), (15, aI x15), (16, aI x16), (17, aI x17), (18, aI x18), (19, aI x19), (20, aI x20), (22, aI x22), (23, aI x23), (24, aI x24)] [aI s0] := by
  intro x3 x4 x5 x6 x7 x8 x9 x12 x13 x14 x15 x16 x17 x18 x19 x20 x22 x23 x24 s0 mem  h
  unfold dL_law_343 at h
  refine v_istore X (pc := 343) (lv' := [(21, _), (0, _), (1, _), (2, _), (3, _), (4, _), (5, _), (6, _), (7, _), (8, _), (9, _), (12, _), (13, _), (14, _), (15, _), (16, _), (17, _), (18, _), (19, _), (20, _), (22, _), (23, _), (24, _)]) eL_law_343 (Nat.le_of_ble_eq_true rfl) rfl ?_
  refine v_iload X (pc := 345) 0 rfl eL_law_345 ?_
  refine v_iload X (pc := 347) 9 rfl eL_law_347 ?_
  refine v_icmp_ne X (pc := 349) (tgt := 366) h eL_law_349 (by decide) (fun h => ?_) (fun h => ?_)
  · refine v_iload X (pc := 352) 20 rfl eL_law_352 ?_
    refine v_if_ge X (pc := 354) (tgt := 366) h eL_law_354 (by decide) (fun h => ?_) (fun h => ?_)
    · refine v_iload X (pc := 357) 21 rfl eL_law_357 ?_
      refine v_iconst X (pc := 359) (v := (1 : Int32)) eL_law_359 (by decide) ?_
      refine v_iadd X (pc := 360) eL_law_360 ?_
      refine v_iload X (pc := 361) 9 rfl eL_law_361 ?_
      refine v_isub X (pc := 363) eL_law_363 ?_
      refine v_istore X (pc := 364) (lv' := [(22, _), (21, _), (0, _), (1, _), (2, _), (3, _), (4, _), (5, _), (6, _), (7, _), (8, _), (9, _), (12, _), (13, _), (14, _), (15, _), (16, _), (17, _), (18, _), (19, _), (20, _), (23, _), (24, _)]) eL_law_364 (Nat.le_of_ble_eq_true rfl) rfl ?_
      exact v_sub [2, 3, 4, 5, 6, 7, 8, 9, 10, 11, 12, 13, 14, 15, 16, 17, 18, 19, 20, 1, 0, 21, 22] rfl (cL_law_366 X hr hk hk44 hk312 _ _ _ _ _ _ _ _ _ _ _ _ _ _ _ _ _ _ _ _ _  h)
    · exact v_sub [1, 2, 3, 4, 5, 6, 7, 8, 9, 10, 11, 12, 13, 14, 15, 16, 17, 18, 19, 0, 20, 21, 22] rfl (cL_law_366 X hr hk hk44 hk312 _ _ _ _ _ _ _ _ _ _ _ _ _ _ _ _ _ _ _ _ _  h)
  · exact v_sub [1, 2, 3, 4, 5, 6, 7, 8, 9, 10, 11, 12, 13, 14, 15, 16, 17, 18, 19, 0, 20, 21, 22] rfl (cL_law_366 X hr hk hk44 hk312 _ _ _ _ _ _ _ _ _ _ _ _ _ _ _ _ _ _ _ _ _  h)
set_option maxHeartbeats 4000000 in
set_option maxRecDepth 100000 in
theorem cL_law_1019 {p : Program} {l : Launch} {e : Env} {s : State} {m : MethodId} {b : Nat} {below : List Frame} {meth : Method} {c : Code} {k : KK} {f : Nat} {mem' : Mem} (X : CX p s m #[Value.ref b] meth c k code 33 "WallShiftsLaw") (hr : meth.sig.returnType = ret) (hk : kh k = s.heap.size) {k44 : Int32 → Int32 → Int32 → Mem → Option (Int32 × Mem)} (hk44 : ∀ (x3 : Int32) (x4 : Int32) (x5 : Int32) (mem : Mem), k44 x3 x4 x5 mem = some (o, mem') → V p l e room_1 s m #[Value.ref b] below meth c 600000 7302250 (lw_Z below #[Value.ref b] s) k 33 mem 44 [(0, aR 24 0), (1, aR 0 0), (2, aR 13 0), (3, aI x3), (4, aI x4), (5, aI x5)] []) {k942 : Int32 → Int32 → Int32 → Int32 → Int32 → Int32 → Int32 → Int32 → Int32 → Int32 → Mem → Option (Int32 × Mem)} (hk942 : ∀ (x3 : Int32) (x4 : Int32) (x5 : Int32) (x7 : Int32) (x25 : Int32) (x26 : Int32) (x27 : Int32) (x28 : Int32) (x29 : Int32) (x30 : Int32) (mem : Mem), k942 x3 x4 x5 x7 x25 x26 x27 x28 x29 x30 mem = some (o, mem') → V p l e room_1 s m #[Value.ref b] below meth c 600000 7302250 (lw_Z below #[Value.ref b] s) k 33 mem 942 [(0, aR 24 0), (1, aR 0 0), (2, aR 13 0), (3, aI x3), (4, aI x4), (5, aI x5), (7, aI x7), (25, aI x25), (26, aI x26), (27, aI x27), (28, aI x28), (29, aI x29), (30, aI x30)] []) : ∀ (x3 : Int32) (x4 : Int32) (x5 : Int32) (x7 : Int32) (x25 : Int32) (x26 : Int32) (x27 : Int32) (x28 : Int32) (x29 : Int32) (x30 : Int32) (mem : Mem), dL_law_1019 (kL k) (kx k) f k44 k942 x3 x4 x5 x7 x25 x26 x27 x28 x29 x30 mem = some ((1 : Int32), mem') → V p l e room_1 s m #[Value.ref b] below meth c 600000 7302250 (lw_Z below #[Value.ref b] s) k 33 mem 1019 [(0, aR 24 0), (1, aR 0 0), (2, aR 13 0), (3, aI x3), (4, aI x4), (5, aI x5), (7, aI x7), (25, aI x25), (26, aI x26), (27, aI x27), (28, aI x28), (29, aI x29), (30, aI x30)] [] := by
  intro x3 x4 x5 x7 x25 x26 x27 x28 x29 x30 mem  h
  unfold dL_law_1019 at h
  refine v_aload_n X (pc := 1019) 1 rfl eL_law_1019 rfl ?_
  refine v_iconst X (pc := 1020) (v := (1 : Int32)) eL_law_1020 (by decide) ?_
  obtain ⟨r1, m1, hc1, h⟩ := bd_some h
  refine v_callV X (pc := 1021) [_] [] ok_V_L_66 (cW_pass  hc1) rfl (Nat.le_of_ble_eq_true rfl) ⟨Nat.le_of_ble_eq_true rfl, Nat.le_of_ble_eq_true rfl⟩ ⟨Nat.le_of_ble_eq_true rfl, Nat.le_of_ble_eq_true rfl⟩ (by decide) (by decide) rfl rfl eL_law_1021 ?_
  refine v_if_ge X (pc := 1024) (tgt := 1029) h eL_law_1024 (by decide) (fun h => ?_) (fun h => ?_)
  · refine v_iconst X (pc := 1027) (v := (0 : Int32)) eL_law_1027 (by decide) ?_
    exact absurd (Prod.mk.inj (Option.some.inj h)).1 (by decide)
  · refine v_iinc X (pc := 1029) (v := (x30 + (1 : Int32))) (lv' := [(30, _), (0, _), (1, _), (2, _), (3, _), (4, _), (5, _), (7, _), (25, _), (26, _), (27, _), (28, _), (29, _)]) 12 rfl (by rfl) eL_law_1029 (Nat.le_of_ble_eq_true rfl) rfl ?_
    refine v_goto X (pc := 1032) (tgt := 942) eL_law_1032 (by decide) ?_
    exact v_sub [1, 2, 3, 4, 5, 6, 7, 8, 9, 10, 11, 12, 0] rfl (hk942 _ _ _ _ _ _ _ _ _ _ _  h)
set_option maxHeartbeats 4000000 in
set_option maxRecDepth 100000 in
theorem cL_law_1104 {p : Program} {l : Launch} {e : Env} {s : State} {m : MethodId} {b : Nat} {below : List Frame} {meth : Method} {c : Code} {k : KK} {f : Nat} {mem' : Mem} (X : CX p s m #[Value.ref b] meth c k code 33 "WallShiftsLaw") (hr : meth.sig.returnType = ret) (hk : kh k = s.heap.size) {k44 : Int32 → Int32 → Int32 → Mem → Option (Int32 × Mem)} (hk44 : ∀ (x3 : Int32) (x4 : Int32) (x5 : Int32) (mem : Mem), k44 x3 x4 x5 mem = some (o, mem') → V p l e room_1 s m #[Value.ref b] below meth c 600000 7302250 (lw_Z below #[Value.ref b] s) k 33 mem 44 [(0, aR 24 0), (1, aR 0 0), (2, aR 13 0), (3, aI x3), (4, aI x4), (5, aI x5)] []) : ∀ (x3 : Int32) (x4 : Int32) (x5 : Int32) (mem : Mem), dL_law_1104 (kL k) (kx k) f k44 x3 x4 x5 mem = some ((1 : Int32), mem') → V p l e room_1 s m #[Value.ref b] below meth c 600000 7302250 (lw_Z below #[Value.ref b] s) k 33 mem 1104 [(0, aR 24 0), (1, aR 0 0), (2, aR 13 0), (3, aI x3), (4, aI x4), (5, aI x5)] [] := by
  intro x3 x4 x5 mem  h
  unfold dL_law_1104 at h
  refine v_aload_n X (pc := 1104) 1 rfl eL_law_1104 rfl ?_
  obtain ⟨r1, m1, hc1, h⟩ := bd_some h
  refine v_callV X (pc := 1105) [] [] ok_V_L_117 (cW_undo  hc1) rfl (Nat.le_of_ble_eq_true rfl) ⟨Nat.le_of_ble_eq_true rfl, Nat.le_of_ble_eq_true rfl⟩ ⟨Nat.le_of_ble_eq_true rfl, Nat.le_of_ble_eq_true rfl⟩ (by decide) (by decide) rfl rfl eL_law_1105 ?_
  refine v_iload_n X (pc := 1108) 3 rfl eL_law_1108 rfl ?_
  refine v_icmp_ne X (pc := 1109) (tgt := 1120) h eL_law_1109 (by decide) (fun h => ?_) (fun h => ?_)
  · refine v_aload_n X (pc := 1112) 1 rfl eL_law_1112 rfl ?_
    refine v_aload_n X (pc := 1113) 2 rfl eL_law_1113 rfl ?_
    obtain ⟨r2, m2, hc2, h⟩ := bd_some h
    refine v_callS X (pc := 1114) [_, _] [] ok_S_L_131 (cL_isSo  hc2) rfl (Nat.le_of_ble_eq_true rfl) ⟨Nat.le_of_ble_eq_true rfl, Nat.le_of_ble_eq_true rfl⟩ ⟨Nat.le_of_ble_eq_true rfl, Nat.le_of_ble_eq_true rfl⟩ eL_law_1114 ?_
    refine v_if_ne X (pc := 1117) (tgt := 1122) h eL_law_1117 (by decide) (fun h => ?_) (fun h => ?_)
    · refine v_iconst X (pc := 1120) (v := (0 : Int32)) eL_law_1120 (by decide) ?_
      exact absurd (Prod.mk.inj (Option.some.inj h)).1 (by decide)
    · refine v_iinc X (pc := 1122) (v := (x5 + (1 : Int32))) (lv' := [(5, _), (0, _), (1, _), (2, _), (3, _), (4, _)]) 5 rfl (by rfl) eL_law_1122 (Nat.le_of_ble_eq_true rfl) rfl ?_
      refine v_goto X (pc := 1125) (tgt := 44) eL_law_1125 (by decide) ?_
      exact v_sub [1, 2, 3, 4, 5, 0] rfl (hk44 _ _ _ _  h)
  · refine v_iconst X (pc := 1120) (v := (0 : Int32)) eL_law_1120 (by decide) ?_
    exact absurd (Prod.mk.inj (Option.some.inj h)).1 (by decide)
set_option maxHeartbeats 4000000 in
set_option maxRecDepth 100000 in
theorem cL_law_942 {p : Program} {l : Launch} {e : Env} {s : State} {m : MethodId} {b : Nat} {below : List Frame} {meth : Method} {c : Code} {k : KK} {f : Nat} {mem' : Mem} (X : CX p s m #[Value.ref b] meth c k code 33 "WallShiftsLaw") (hr : meth.sig.returnType = ret) (hk : kh k = s.heap.size) {k44 : Int32 → Int32 → Int32 → Mem → Option (Int32 × Mem)} (hk44 : ∀ (x3 : Int32) (x4 : Int32) (x5 : Int32) (mem : Mem), k44 x3 x4 x5 mem = some (o, mem') → V p l e room_1 s m #[Value.ref b] below meth c 600000 7302250 (lw_Z below #[Value.ref b] s) k 33 mem 44 [(0, aR 24 0), (1, aR 0 0), (2, aR 13 0), (3, aI x3), (4, aI x4), (5, aI x5)] []) : ∀ (n : Nat) (x3 : Int32) (x4 : Int32) (x5 : Int32) (x7 : Int32) (x25 : Int32) (x26 : Int32) (x27 : Int32) (x28 : Int32) (x29 : Int32) (x30 : Int32) (mem : Mem), dL_law_942 (kL k) (kx k) f k44 n x3 x4 x5 x7 x25 x26 x27 x28 x29 x30 mem = some ((1 : Int32), mem') → V p l e room_1 s m #[Value.ref b] below meth c 600000 7302250 (lw_Z below #[Value.ref b] s) k 33 mem 942 [(0, aR 24 0), (1, aR 0 0), (2, aR 13 0), (3, aI x3), (4, aI x4), (5, aI x5), (7, aI x7), (25, aI x25), (26, aI x26), (27, aI x27), (28, aI x28), (29, aI x29), (30, aI x30)] [] := by
  intro n
  induction n with
  | zero =>
    intro x3 x4 x5 x7 x25 x26 x27 x28 x29 x30 mem  h
    exact nomatch (show (none : Option (Int32 × Mem)) = some _ from h)
  | succ n ih =>
    intro x3 x4 x5 x7 x25 x26 x27 x28 x29 x30 mem  h
    rw [dL_law_942] at h
    refine v_iload X (pc := 942) 12 rfl eL_law_942 ?_
    refine v_bipush X (pc := 944) (v := (16 : Int32)) eL_law_944 (by decide) ?_
    refine v_icmp_ge X (pc := 946) (tgt := 1035) h eL_law_946 (by decide) (fun h => ?_) (fun h => ?_)
    · refine v_iload X (pc := 949) 7 rfl eL_law_949 ?_
      refine v_iload X (pc := 951) 12 rfl eL_law_951 ?_
      refine v_ishr X (pc := 953) eL_law_953 ?_
      refine v_iconst X (pc := 954) (v := (1 : Int32)) eL_law_954 (by decide) ?_
      refine v_iand X (pc := 955) eL_law_955 ?_
      refine v_if_ne X (pc := 956) (tgt := 962) h eL_law_956 (by decide) (fun h => ?_) (fun h => ?_)
      · refine v_goto X (pc := 959) (tgt := 1029) eL_law_959 (by decide) ?_
        refine v_iinc X (pc := 1029) (v := (x30 + (1 : Int32))) (lv' := [(30, _), (0, _), (1, _), (2, _), (3, _), (4, _), (5, _), (7, _), (25, _), (26, _), (27, _), (28, _), (29, _)]) 12 rfl (by rfl) eL_law_1029 (Nat.le_of_ble_eq_true rfl) rfl ?_
        refine v_goto X (pc := 1032) (tgt := 942) eL_law_1032 (by decide) ?_
        exact v_sub [1, 2, 3, 4, 5, 6, 7, 8, 9, 10, 11, 12, 0] rfl (ih _ _ _ _ _ _ _ _ _ _ _  h)
      · refine v_aload_n X (pc := 962) 1 rfl eL_law_962 rfl ?_
        refine v_aload_n X (pc := 963) 1 rfl eL_law_963 rfl ?_
        refine v_iconst X (pc := 964) (v := (0 : Int32)) eL_law_964 (by decide) ?_
        obtain ⟨r1, m1, hc1, h⟩ := bd_some h
        refine v_callV X (pc := 965) [_] [_] ok_V_L_74 (cW_now  hc1) rfl (Nat.le_of_ble_eq_true rfl) ⟨Nat.le_of_ble_eq_true rfl, Nat.le_of_ble_eq_true rfl⟩ ⟨Nat.le_of_ble_eq_true rfl, Nat.le_of_ble_eq_true rfl⟩ (by decide) (by decide) rfl rfl eL_law_965 ?_
        obtain ⟨r2, m2, hc2, h⟩ := bd_some h
        refine v_callV X (pc := 968) [_] [] ok_V_L_77 (cW_duty  hc2) rfl (Nat.le_of_ble_eq_true rfl) ⟨Nat.le_of_ble_eq_true rfl, Nat.le_of_ble_eq_true rfl⟩ ⟨Nat.le_of_ble_eq_true rfl, Nat.le_of_ble_eq_true rfl⟩ (by decide) (by decide) rfl rfl eL_law_968 ?_
        refine v_istore X (pc := 971) (lv' := [(31, _), (0, _), (1, _), (2, _), (3, _), (4, _), (5, _), (7, _), (25, _), (26, _), (27, _), (28, _), (29, _), (30, _)]) eL_law_971 (Nat.le_of_ble_eq_true rfl) rfl ?_
        refine v_aload_n X (pc := 973) 2 rfl eL_law_973 rfl ?_
        refine v_iload X (pc := 974) 7 rfl eL_law_974 ?_
        refine v_iload X (pc := 976) 13 rfl eL_law_976 ?_
        obtain ⟨r3, m3, hc3, h⟩ := bd_some h
        refine v_callV X (pc := 978) [_, _] [] ok_V_L_126 (cW_say  hc3) rfl (Nat.le_of_ble_eq_true rfl) ⟨Nat.le_of_ble_eq_true rfl, Nat.le_of_ble_eq_true rfl⟩ ⟨Nat.le_of_ble_eq_true rfl, Nat.le_of_ble_eq_true rfl⟩ (by decide) (by decide) rfl rfl eL_law_978 ?_
        refine v_istore X (pc := 981) (lv' := [(32, _), (31, _), (0, _), (1, _), (2, _), (3, _), (4, _), (5, _), (7, _), (25, _), (26, _), (27, _), (28, _), (29, _), (30, _)]) eL_law_981 (Nat.le_of_ble_eq_true rfl) rfl ?_
        refine v_iload X (pc := 983) 0 rfl eL_law_983 ?_
        refine v_iload X (pc := 985) 1 rfl eL_law_985 ?_
        refine v_iconst X (pc := 987) (v := (-1 : Int32)) eL_law_987 (by decide) ?_
        refine v_ixor X (pc := 988) eL_law_988 ?_
        refine v_iand X (pc := 989) eL_law_989 ?_
        refine v_if_eq X (pc := 990) (tgt := 995) h eL_law_990 (by decide) (fun h => ?_) (fun h => ?_)
        · refine v_iload X (pc := 995) 12 rfl eL_law_995 ?_
          refine v_iload X (pc := 997) 0 rfl eL_law_997 ?_
          obtain ⟨r4, m4, hc4, h⟩ := bd_some h
          refine v_callS X (pc := 999) [_] [_] ok_S_L_30 (cL_ones  hc4) rfl (Nat.le_of_ble_eq_true rfl) ⟨Nat.le_of_ble_eq_true rfl, Nat.le_of_ble_eq_true rfl⟩ ⟨Nat.le_of_ble_eq_true rfl, Nat.le_of_ble_eq_true rfl⟩ eL_law_999 ?_
          refine v_iadd X (pc := 1002) eL_law_1002 ?_
          refine v_istore X (pc := 1003) (lv' := [(28, _), (32, _), (31, _), (0, _), (1, _), (2, _), (3, _), (4, _), (5, _), (7, _), (25, _), (26, _), (27, _), (29, _), (30, _)]) eL_law_1003 (Nat.le_of_ble_eq_true rfl) rfl ?_
          refine v_iload X (pc := 1005) 1 rfl eL_law_1005 ?_
          refine v_if_ne X (pc := 1007) (tgt := 1019) h eL_law_1007 (by decide) (fun h => ?_) (fun h => ?_)
          · refine v_iload X (pc := 1010) 13 rfl eL_law_1010 ?_
            refine v_iconst X (pc := 1012) (v := (1 : Int32)) eL_law_1012 (by decide) ?_
            refine v_iload X (pc := 1013) 14 rfl eL_law_1013 ?_
            refine v_ishl X (pc := 1015) eL_law_1015 ?_
            refine v_ior X (pc := 1016) eL_law_1016 ?_
            refine v_istore X (pc := 1017) (lv' := [(29, _), (28, _), (32, _), (31, _), (0, _), (1, _), (2, _), (3, _), (4, _), (5, _), (7, _), (25, _), (26, _), (27, _), (30, _)]) eL_law_1017 (Nat.le_of_ble_eq_true rfl) rfl ?_
            exact v_sub [4, 5, 6, 7, 8, 9, 10, 11, 12, 13, 1, 0, 14] rfl (cL_law_1019 X hr hk hk44 ih _ _ _ _ _ _ _ _ _ _ _  h)
          · exact v_sub [3, 4, 5, 6, 7, 8, 9, 10, 11, 12, 0, 13, 14] rfl (cL_law_1019 X hr hk hk44 ih _ _ _ _ _ _ _ _ _ _ _  h)
        · refine v_iconst X (pc := 993) (v := (0 : Int32)) eL_law_993 (by decide) ?_
          exact absurd (Prod.mk.inj (Option.some.inj h)).1 (by decide)
    · refine v_iload X (pc := 1035) 11 rfl eL_law_1035 ?_
      refine v_iload X (pc := 1037) 8 rfl eL_law_1037 ?_
      refine v_icmp_ne X (pc := 1039) (tgt := 1071) h eL_law_1039 (by decide) (fun h => ?_) (fun h => ?_)
      · refine v_aload_n X (pc := 1042) 1 rfl eL_law_1042 rfl ?_
        obtain ⟨r5, m5, hc5, h⟩ := bd_some h
        refine v_callV X (pc := 1043) [] [] ok_V_L_117 (cW_undo  hc5) rfl (Nat.le_of_ble_eq_true rfl) ⟨Nat.le_of_ble_eq_true rfl, Nat.le_of_ble_eq_true rfl⟩ ⟨Nat.le_of_ble_eq_true rfl, Nat.le_of_ble_eq_true rfl⟩ (by decide) (by decide) rfl rfl eL_law_1043 ?_
        refine v_iload_n X (pc := 1046) 3 rfl eL_law_1046 rfl ?_
        refine v_icmp_ne X (pc := 1047) (tgt := 1071) h eL_law_1047 (by decide) (fun h => ?_) (fun h => ?_)
        · refine v_aload_n X (pc := 1050) 1 rfl eL_law_1050 rfl ?_
          refine v_iload X (pc := 1051) 6 rfl eL_law_1051 ?_
          refine v_iload X (pc := 1053) 7 rfl eL_law_1053 ?_
          obtain ⟨r6, m6, hc6, h⟩ := bd_some h
          refine v_callV X (pc := 1055) [_, _] [] ok_V_L_128 (cW_speak  hc6) rfl (Nat.le_of_ble_eq_true rfl) ⟨Nat.le_of_ble_eq_true rfl, Nat.le_of_ble_eq_true rfl⟩ ⟨Nat.le_of_ble_eq_true rfl, Nat.le_of_ble_eq_true rfl⟩ (by decide) (by decide) rfl rfl eL_law_1055 ?_
          refine v_iload X (pc := 1058) 10 rfl eL_law_1058 ?_
          refine v_icmp_ne X (pc := 1060) (tgt := 1071) h eL_law_1060 (by decide) (fun h => ?_) (fun h => ?_)
          · refine v_aload_n X (pc := 1063) 1 rfl eL_law_1063 rfl ?_
            obtain ⟨r7, m7, hc7, h⟩ := bd_some h
            refine v_callV X (pc := 1064) [] [] ok_V_L_117 (cW_undo  hc7) rfl (Nat.le_of_ble_eq_true rfl) ⟨Nat.le_of_ble_eq_true rfl, Nat.le_of_ble_eq_true rfl⟩ ⟨Nat.le_of_ble_eq_true rfl, Nat.le_of_ble_eq_true rfl⟩ (by decide) (by decide) rfl rfl eL_law_1064 ?_
            refine v_iload_n X (pc := 1067) 3 rfl eL_law_1067 rfl ?_
            refine v_icmp_eq X (pc := 1068) (tgt := 1073) h eL_law_1068 (by decide) (fun h => ?_) (fun h => ?_)
            · refine v_aload_n X (pc := 1073) 1 rfl eL_law_1073 rfl ?_
              refine v_iload X (pc := 1074) 9 rfl eL_law_1074 ?_
              refine v_iload X (pc := 1076) 7 rfl eL_law_1076 ?_
              obtain ⟨r8, m8, hc8, h⟩ := bd_some h
              refine v_callV X (pc := 1078) [_, _] [] ok_V_L_128 (cW_speak  hc8) rfl (Nat.le_of_ble_eq_true rfl) ⟨Nat.le_of_ble_eq_true rfl, Nat.le_of_ble_eq_true rfl⟩ ⟨Nat.le_of_ble_eq_true rfl, Nat.le_of_ble_eq_true rfl⟩ (by decide) (by decide) rfl rfl eL_law_1078 ?_
              refine v_istore X (pc := 1081) (lv' := [(30, _), (0, _), (1, _), (2, _), (3, _), (4, _), (5, _), (7, _), (25, _), (26, _), (27, _), (28, _), (29, _)]) eL_law_1081 (Nat.le_of_ble_eq_true rfl) rfl ?_
              refine v_iload X (pc := 1083) 0 rfl eL_law_1083 ?_
              refine v_iload X (pc := 1085) 11 rfl eL_law_1085 ?_
              refine v_icmp_gt X (pc := 1087) (tgt := 1120) h eL_law_1087 (by decide) (fun h => ?_) (fun h => ?_)
              · refine v_iconst X (pc := 1120) (v := (0 : Int32)) eL_law_1120 (by decide) ?_
                exact absurd (Prod.mk.inj (Option.some.inj h)).1 (by decide)
              · refine v_iload X (pc := 1090) 0 rfl eL_law_1090 ?_
                refine v_iload X (pc := 1092) 11 rfl eL_law_1092 ?_
                refine v_icmp_ne X (pc := 1094) (tgt := 1104) h eL_law_1094 (by decide) (fun h => ?_) (fun h => ?_)
                · refine v_iload X (pc := 1097) 10 rfl eL_law_1097 ?_
                  refine v_iload X (pc := 1099) 7 rfl eL_law_1099 ?_
                  refine v_icmp_gt X (pc := 1101) (tgt := 1120) h eL_law_1101 (by decide) (fun h => ?_) (fun h => ?_)
                  · refine v_iconst X (pc := 1120) (v := (0 : Int32)) eL_law_1120 (by decide) ?_
                    exact absurd (Prod.mk.inj (Option.some.inj h)).1 (by decide)
                  · exact v_sub [1, 2, 3, 4, 5, 6] rfl (cL_law_1104 X hr hk hk44 _ _ _ _  h)
                · exact v_sub [1, 2, 3, 4, 5, 6] rfl (cL_law_1104 X hr hk hk44 _ _ _ _  h)
            · refine v_iconst X (pc := 1071) (v := (0 : Int32)) eL_law_1071 (by decide) ?_
              exact absurd (Prod.mk.inj (Option.some.inj h)).1 (by decide)
          · refine v_iconst X (pc := 1071) (v := (0 : Int32)) eL_law_1071 (by decide) ?_
            exact absurd (Prod.mk.inj (Option.some.inj h)).1 (by decide)
        · refine v_iconst X (pc := 1071) (v := (0 : Int32)) eL_law_1071 (by decide) ?_
          exact absurd (Prod.mk.inj (Option.some.inj h)).1 (by decide)
      · refine v_iconst X (pc := 1071) (v := (0 : Int32)) eL_law_1071 (by decide) ?_
        exact absurd (Prod.mk.inj (Option.some.inj h)).1 (by decide)
set_option maxHeartbeats 4000000 in
set_option maxRecDepth 100000 in
theorem cL_law_834 {p : Program} {l : Launch} {e : Env} {s : State} {m : MethodId} {b : Nat} {below : List Frame} {meth : Method} {c : Code} {k : KK} {f : Nat} {mem' : Mem} (X : CX p s m #[Value.ref b] meth c k code 33 "WallShiftsLaw") (hr : meth.sig.returnType = ret) (hk : kh k = s.heap.size) {k44 : Int32 → Int32 → Int32 → Mem → Option (Int32 × Mem)} (hk44 : ∀ (x3 : Int32) (x4 : Int32) (x5 : Int32) (mem : Mem), k44 x3 x4 x5 mem = some (o, mem') → V p l e room_1 s m #[Value.ref b] below meth c 600000 7302250 (lw_Z below #[Value.ref b] s) k 33 mem 44 [(0, aR 24 0), (1, aR 0 0), (2, aR 13 0), (3, aI x3), (4, aI x4), (5, aI x5)] []) : ∀ (n : Nat) (x3 : Int32) (x4 : Int32) (x5 : Int32) (x6 : Int32) (x7 : Int32) (x12 : Int32) (x17 : Int32) (x23 : Int32) (x24 : Int32) (x25 : Int32) (mem : Mem), dL_law_834 (kL k) (kx k) f k44 n x3 x4 x5 x6 x7 x12 x17 x23 x24 x25 mem = some ((1 : Int32), mem') → V p l e room_1 s m #[Value.ref b] below meth c 600000 7302250 (lw_Z below #[Value.ref b] s) k 33 mem 834 [(0, aR 24 0), (1, aR 0 0), (2, aR 13 0), (3, aI x3), (4, aI x4), (5, aI x5), (6, aI x6), (7, aI x7), (12, aI x12), (17, aI x17), (23, aI x23), (24, aI x24), (25, aI x25)] [] := by
  intro n
  induction n with
  | zero =>
    intro x3 x4 x5 x6 x7 x12 x17 x23 x24 x25 mem  h
    exact nomatch (show (none : Option (Int32 × Mem)) = some _ from h)
  | succ n ih =>
    intro x3 x4 x5 x6 x7 x12 x17 x23 x24 x25 mem  h
    rw [dL_law_834] at h
    refine v_iload X (pc := 834) 12 rfl eL_law_834 ?_
    refine v_iconst X (pc := 836) (v := (4 : Int32)) eL_law_836 (by decide) ?_
    refine v_icmp_ge X (pc := 837) (tgt := 893) h eL_law_837 (by decide) (fun h => ?_) (fun h => ?_)
    · refine v_aload_n X (pc := 840) 1 rfl eL_law_840 rfl ?_
      refine v_iload X (pc := 841) 11 rfl eL_law_841 ?_
      refine v_iconst X (pc := 843) (v := (3 : Int32)) eL_law_843 (by decide) ?_
      refine v_iload X (pc := 844) 12 rfl eL_law_844 ?_
      obtain ⟨r1, m1, hc1, h⟩ := bd_some h
      refine v_callV X (pc := 846) [_, _, _] [] ok_V_L_62 (cW_set  hc1) rfl (Nat.le_of_ble_eq_true rfl) ⟨Nat.le_of_ble_eq_true rfl, Nat.le_of_ble_eq_true rfl⟩ ⟨Nat.le_of_ble_eq_true rfl, Nat.le_of_ble_eq_true rfl⟩ (by decide) (by decide) rfl rfl eL_law_846 ?_
      refine v_if_ge X (pc := 849) (tgt := 854) h eL_law_849 (by decide) (fun h => ?_) (fun h => ?_)
      · refine v_iconst X (pc := 852) (v := (0 : Int32)) eL_law_852 (by decide) ?_
        exact absurd (Prod.mk.inj (Option.some.inj h)).1 (by decide)
      · refine v_aload_n X (pc := 854) 1 rfl eL_law_854 rfl ?_
        refine v_iload X (pc := 855) 7 rfl eL_law_855 ?_
        refine v_iload X (pc := 857) 8 rfl eL_law_857 ?_
        obtain ⟨r2, m2, hc2, h⟩ := bd_some h
        refine v_callV X (pc := 859) [_, _] [] ok_V_L_98 (cW_quiet  hc2) rfl (Nat.le_of_ble_eq_true rfl) ⟨Nat.le_of_ble_eq_true rfl, Nat.le_of_ble_eq_true rfl⟩ ⟨Nat.le_of_ble_eq_true rfl, Nat.le_of_ble_eq_true rfl⟩ (by decide) (by decide) rfl rfl eL_law_859 ?_
        refine v_istore X (pc := 862) (lv' := [(26, _), (0, _), (1, _), (2, _), (3, _), (4, _), (5, _), (6, _), (7, _), (12, _), (17, _), (23, _), (24, _), (25, _)]) eL_law_862 (Nat.le_of_ble_eq_true rfl) rfl ?_
        refine v_iload X (pc := 864) 0 rfl eL_law_864 ?_
        refine v_iload X (pc := 866) 11 rfl eL_law_866 ?_
        refine v_icmp_lt X (pc := 868) (tgt := 885) h eL_law_868 (by decide) (fun h => ?_) (fun h => ?_)
        · refine v_iconst X (pc := 885) (v := (0 : Int32)) eL_law_885 (by decide) ?_
          exact absurd (Prod.mk.inj (Option.some.inj h)).1 (by decide)
        · refine v_iload X (pc := 871) 13 rfl eL_law_871 ?_
          refine v_iload X (pc := 873) 10 rfl eL_law_873 ?_
          refine v_icmp_ge X (pc := 875) (tgt := 887) h eL_law_875 (by decide) (fun h => ?_) (fun h => ?_)
          · refine v_iload X (pc := 878) 0 rfl eL_law_878 ?_
            refine v_iload X (pc := 880) 11 rfl eL_law_880 ?_
            refine v_icmp_ne X (pc := 882) (tgt := 887) h eL_law_882 (by decide) (fun h => ?_) (fun h => ?_)
            · refine v_iconst X (pc := 885) (v := (0 : Int32)) eL_law_885 (by decide) ?_
              exact absurd (Prod.mk.inj (Option.some.inj h)).1 (by decide)
            · refine v_iinc X (pc := 887) (v := (x25 + (1 : Int32))) (lv' := [(25, _), (26, _), (0, _), (1, _), (2, _), (3, _), (4, _), (5, _), (6, _), (7, _), (12, _), (17, _), (23, _), (24, _)]) 13 rfl (by rfl) eL_law_887 (Nat.le_of_ble_eq_true rfl) rfl ?_
              refine v_goto X (pc := 890) (tgt := 834) eL_law_890 (by decide) ?_
              exact v_sub [2, 3, 4, 5, 6, 7, 8, 9, 10, 11, 12, 13, 0] rfl (ih _ _ _ _ _ _ _ _ _ _ _  h)
          · refine v_iinc X (pc := 887) (v := (x25 + (1 : Int32))) (lv' := [(25, _), (26, _), (0, _), (1, _), (2, _), (3, _), (4, _), (5, _), (6, _), (7, _), (12, _), (17, _), (23, _), (24, _)]) 13 rfl (by rfl) eL_law_887 (Nat.le_of_ble_eq_true rfl) rfl ?_
            refine v_goto X (pc := 890) (tgt := 834) eL_law_890 (by decide) ?_
            exact v_sub [2, 3, 4, 5, 6, 7, 8, 9, 10, 11, 12, 13, 0] rfl (ih _ _ _ _ _ _ _ _ _ _ _  h)
    · refine v_aload_n X (pc := 893) 1 rfl eL_law_893 rfl ?_
      obtain ⟨r3, m3, hc3, h⟩ := bd_some h
      refine v_callV X (pc := 894) [] [] ok_V_L_117 (cW_undo  hc3) rfl (Nat.le_of_ble_eq_true rfl) ⟨Nat.le_of_ble_eq_true rfl, Nat.le_of_ble_eq_true rfl⟩ ⟨Nat.le_of_ble_eq_true rfl, Nat.le_of_ble_eq_true rfl⟩ (by decide) (by decide) rfl rfl eL_law_894 ?_
      refine v_iload_n X (pc := 897) 3 rfl eL_law_897 rfl ?_
      refine v_icmp_eq X (pc := 898) (tgt := 903) h eL_law_898 (by decide) (fun h => ?_) (fun h => ?_)
      · refine v_iload X (pc := 903) 6 rfl eL_law_903 ?_
        refine v_bipush X (pc := 905) (v := (29 : Int32)) eL_law_905 (by decide) ?_
        refine v_imul X (pc := 907) eL_law_907 ?_
        refine v_ldc X (pc := 908) qw_359 eL_law_908 ?_
        obtain ⟨r4, m4, hc4, h⟩ := bd_some h
        refine v_callS X (pc := 910) [_, _] [] ok_S_L_52 (cL_mod  hc4) rfl (Nat.le_of_ble_eq_true rfl) ⟨Nat.le_of_ble_eq_true rfl, Nat.le_of_ble_eq_true rfl⟩ ⟨Nat.le_of_ble_eq_true rfl, Nat.le_of_ble_eq_true rfl⟩ eL_law_910 ?_
        refine v_istore X (pc := 913) (lv' := [(25, _), (0, _), (1, _), (2, _), (3, _), (4, _), (5, _), (6, _), (7, _), (12, _), (17, _), (23, _), (24, _)]) eL_law_913 (Nat.le_of_ble_eq_true rfl) rfl ?_
        refine v_aload_n X (pc := 915) 2 rfl eL_law_915 rfl ?_
        refine v_iload X (pc := 916) 8 rfl eL_law_916 ?_
        refine v_iload X (pc := 918) 0 rfl eL_law_918 ?_
        obtain ⟨r5, m5, hc5, h⟩ := bd_some h
        refine v_callV X (pc := 920) [_, _] [] ok_V_L_120 (cW_lost  hc5) rfl (Nat.le_of_ble_eq_true rfl) ⟨Nat.le_of_ble_eq_true rfl, Nat.le_of_ble_eq_true rfl⟩ ⟨Nat.le_of_ble_eq_true rfl, Nat.le_of_ble_eq_true rfl⟩ (by decide) (by decide) rfl rfl eL_law_920 ?_
        refine v_istore X (pc := 923) (lv' := [(26, _), (25, _), (0, _), (1, _), (2, _), (3, _), (4, _), (5, _), (6, _), (7, _), (12, _), (17, _), (23, _), (24, _)]) eL_law_923 (Nat.le_of_ble_eq_true rfl) rfl ?_
        refine v_aload_n X (pc := 925) 3 rfl eL_law_925 rfl ?_
        refine v_iload X (pc := 926) 1 rfl eL_law_926 ?_
        obtain ⟨r6, m6, hc6, h⟩ := bd_some h
        refine v_callV X (pc := 928) [_] [] ok_V_L_123 (cW_best  hc6) rfl (Nat.le_of_ble_eq_true rfl) ⟨Nat.le_of_ble_eq_true rfl, Nat.le_of_ble_eq_true rfl⟩ ⟨Nat.le_of_ble_eq_true rfl, Nat.le_of_ble_eq_true rfl⟩ (by decide) (by decide) rfl rfl eL_law_928 ?_
        refine v_istore X (pc := 931) (lv' := [(27, _), (26, _), (25, _), (0, _), (1, _), (2, _), (3, _), (4, _), (5, _), (6, _), (7, _), (12, _), (17, _), (23, _), (24, _)]) eL_law_931 (Nat.le_of_ble_eq_true rfl) rfl ?_
        refine v_iconst X (pc := 933) (v := (0 : Int32)) eL_law_933 (by decide) ?_
        refine v_istore X (pc := 934) (lv' := [(28, _), (27, _), (26, _), (25, _), (0, _), (1, _), (2, _), (3, _), (4, _), (5, _), (6, _), (7, _), (12, _), (17, _), (23, _), (24, _)]) eL_law_934 (Nat.le_of_ble_eq_true rfl) rfl ?_
        refine v_iconst X (pc := 936) (v := (0 : Int32)) eL_law_936 (by decide) ?_
        refine v_istore X (pc := 937) (lv' := [(29, _), (28, _), (27, _), (26, _), (25, _), (0, _), (1, _), (2, _), (3, _), (4, _), (5, _), (6, _), (7, _), (12, _), (17, _), (23, _), (24, _)]) eL_law_937 (Nat.le_of_ble_eq_true rfl) rfl ?_
        refine v_iconst X (pc := 939) (v := (0 : Int32)) eL_law_939 (by decide) ?_
        refine v_istore X (pc := 940) (lv' := [(30, _), (29, _), (28, _), (27, _), (26, _), (25, _), (0, _), (1, _), (2, _), (3, _), (4, _), (5, _), (6, _), (7, _), (12, _), (17, _), (23, _), (24, _)]) eL_law_940 (Nat.le_of_ble_eq_true rfl) rfl ?_
        exact v_sub [6, 7, 8, 9, 10, 11, 13, 5, 4, 3, 2, 1, 0] rfl (cL_law_942 X hr hk hk44 _ _ _ _ _ _ _ _ _ _ _ _  h)
      · refine v_iconst X (pc := 901) (v := (0 : Int32)) eL_law_901 (by decide) ?_
        exact absurd (Prod.mk.inj (Option.some.inj h)).1 (by decide)
set_option maxHeartbeats 4000000 in
set_option maxRecDepth 100000 in
theorem cL_law_692 {p : Program} {l : Launch} {e : Env} {s : State} {m : MethodId} {b : Nat} {below : List Frame} {meth : Method} {c : Code} {k : KK} {f : Nat} {mem' : Mem} (X : CX p s m #[Value.ref b] meth c k code 33 "WallShiftsLaw") (hr : meth.sig.returnType = ret) (hk : kh k = s.heap.size) {k44 : Int32 → Int32 → Int32 → Mem → Option (Int32 × Mem)} (hk44 : ∀ (x3 : Int32) (x4 : Int32) (x5 : Int32) (mem : Mem), k44 x3 x4 x5 mem = some (o, mem') → V p l e room_1 s m #[Value.ref b] below meth c 600000 7302250 (lw_Z below #[Value.ref b] s) k 33 mem 44 [(0, aR 24 0), (1, aR 0 0), (2, aR 13 0), (3, aI x3), (4, aI x4), (5, aI x5)] []) : ∀ (n : Nat) (x3 : Int32) (x4 : Int32) (x5 : Int32) (x6 : Int32) (x7 : Int32) (x12 : Int32) (x16 : Int32) (x17 : Int32) (x23 : Int32) (x24 : Int32) (mem : Mem), dL_law_692 (kL k) (kx k) f k44 n x3 x4 x5 x6 x7 x12 x16 x17 x23 x24 mem = some ((1 : Int32), mem') → V p l e room_1 s m #[Value.ref b] below meth c 600000 7302250 (lw_Z below #[Value.ref b] s) k 33 mem 692 [(0, aR 24 0), (1, aR 0 0), (2, aR 13 0), (3, aI x3), (4, aI x4), (5, aI x5), (6, aI x6), (7, aI x7), (12, aI x12), (16, aI x16), (17, aI x17), (23, aI x23), (24, aI x24)] [] := by
  intro n
  induction n with
  | zero =>
    intro x3 x4 x5 x6 x7 x12 x16 x17 x23 x24 mem  h
    exact nomatch (show (none : Option (Int32 × Mem)) = some _ from h)
  | succ n ih =>
    intro x3 x4 x5 x6 x7 x12 x16 x17 x23 x24 mem  h
    rw [dL_law_692] at h
    refine v_iload X (pc := 692) 12 rfl eL_law_692 ?_
    refine v_bipush X (pc := 694) (v := (6 : Int32)) eL_law_694 (by decide) ?_
    refine v_icmp_ge X (pc := 696) (tgt := 767) h eL_law_696 (by decide) (fun h => ?_) (fun h => ?_)
    · refine v_iconst X (pc := 699) (v := (1 : Int32)) eL_law_699 (by decide) ?_
      refine v_iload X (pc := 700) 6 rfl eL_law_700 ?_
      refine v_iconst X (pc := 702) (v := (3 : Int32)) eL_law_702 (by decide) ?_
      refine v_iload X (pc := 703) 12 rfl eL_law_703 ?_
      refine v_imul X (pc := 705) eL_law_705 ?_
      refine v_ishr X (pc := 706) eL_law_706 ?_
      refine v_bipush X (pc := 707) (v := (60 : Int32)) eL_law_707 (by decide) ?_
      obtain ⟨r1, m1, hc1, h⟩ := bd_some h
      refine v_callS X (pc := 709) [_, _] [_] ok_S_L_52 (cL_mod  hc1) rfl (Nat.le_of_ble_eq_true rfl) ⟨Nat.le_of_ble_eq_true rfl, Nat.le_of_ble_eq_true rfl⟩ ⟨Nat.le_of_ble_eq_true rfl, Nat.le_of_ble_eq_true rfl⟩ eL_law_709 ?_
      refine v_iadd X (pc := 712) eL_law_712 ?_
      refine v_istore X (pc := 713) (lv' := [(25, _), (0, _), (1, _), (2, _), (3, _), (4, _), (5, _), (6, _), (7, _), (12, _), (16, _), (17, _), (23, _), (24, _)]) eL_law_713 (Nat.le_of_ble_eq_true rfl) rfl ?_
      refine v_aload_n X (pc := 715) 2 rfl eL_law_715 rfl ?_
      refine v_iconst X (pc := 716) (v := (0 : Int32)) eL_law_716 (by decide) ?_
      refine v_iload X (pc := 717) 0 rfl eL_law_717 ?_
      obtain ⟨r2, m2, hc2, h⟩ := bd_some h
      refine v_callV X (pc := 719) [_, _] [] ok_V_L_56 (cW_rota  hc2) rfl (Nat.le_of_ble_eq_true rfl) ⟨Nat.le_of_ble_eq_true rfl, Nat.le_of_ble_eq_true rfl⟩ ⟨Nat.le_of_ble_eq_true rfl, Nat.le_of_ble_eq_true rfl⟩ (by decide) (by decide) rfl rfl eL_law_719 ?_
      refine v_iconst X (pc := 722) (v := (1 : Int32)) eL_law_722 (by decide) ?_
      refine v_icmp_ge X (pc := 723) (tgt := 728) h eL_law_723 (by decide) (fun h => ?_) (fun h => ?_)
      · refine v_iconst X (pc := 726) (v := (0 : Int32)) eL_law_726 (by decide) ?_
        exact absurd (Prod.mk.inj (Option.some.inj h)).1 (by decide)
      · refine v_aload_n X (pc := 728) 2 rfl eL_law_728 rfl ?_
        refine v_iload X (pc := 729) 8 rfl eL_law_729 ?_
        refine v_iload X (pc := 731) 9 rfl eL_law_731 ?_
        obtain ⟨r3, m3, hc3, h⟩ := bd_some h
        refine v_callV X (pc := 733) [_, _] [] ok_V_L_98 (cW_quiet  hc3) rfl (Nat.le_of_ble_eq_true rfl) ⟨Nat.le_of_ble_eq_true rfl, Nat.le_of_ble_eq_true rfl⟩ ⟨Nat.le_of_ble_eq_true rfl, Nat.le_of_ble_eq_true rfl⟩ (by decide) (by decide) rfl rfl eL_law_733 ?_
        refine v_istore X (pc := 736) (lv' := [(26, _), (25, _), (0, _), (1, _), (2, _), (3, _), (4, _), (5, _), (6, _), (7, _), (12, _), (16, _), (17, _), (23, _), (24, _)]) eL_law_736 (Nat.le_of_ble_eq_true rfl) rfl ?_
        refine v_iload X (pc := 738) 0 rfl eL_law_738 ?_
        refine v_iload X (pc := 740) 13 rfl eL_law_740 ?_
        refine v_icmp_lt X (pc := 742) (tgt := 759) h eL_law_742 (by decide) (fun h => ?_) (fun h => ?_)
        · refine v_iconst X (pc := 759) (v := (0 : Int32)) eL_law_759 (by decide) ?_
          exact absurd (Prod.mk.inj (Option.some.inj h)).1 (by decide)
        · refine v_iload X (pc := 745) 1 rfl eL_law_745 ?_
          refine v_iload X (pc := 747) 11 rfl eL_law_747 ?_
          refine v_icmp_ge X (pc := 749) (tgt := 761) h eL_law_749 (by decide) (fun h => ?_) (fun h => ?_)
          · refine v_iload X (pc := 752) 0 rfl eL_law_752 ?_
            refine v_iload X (pc := 754) 13 rfl eL_law_754 ?_
            refine v_icmp_ne X (pc := 756) (tgt := 761) h eL_law_756 (by decide) (fun h => ?_) (fun h => ?_)
            · refine v_iconst X (pc := 759) (v := (0 : Int32)) eL_law_759 (by decide) ?_
              exact absurd (Prod.mk.inj (Option.some.inj h)).1 (by decide)
            · refine v_iinc X (pc := 761) (v := (x24 + (1 : Int32))) (lv' := [(24, _), (26, _), (25, _), (0, _), (1, _), (2, _), (3, _), (4, _), (5, _), (6, _), (7, _), (12, _), (16, _), (17, _), (23, _)]) 14 rfl (by rfl) eL_law_761 (Nat.le_of_ble_eq_true rfl) rfl ?_
              refine v_goto X (pc := 764) (tgt := 692) eL_law_764 (by decide) ?_
              exact v_sub [3, 4, 5, 6, 7, 8, 9, 10, 11, 12, 13, 14, 0] rfl (ih _ _ _ _ _ _ _ _ _ _ _  h)
          · refine v_iinc X (pc := 761) (v := (x24 + (1 : Int32))) (lv' := [(24, _), (26, _), (25, _), (0, _), (1, _), (2, _), (3, _), (4, _), (5, _), (6, _), (7, _), (12, _), (16, _), (17, _), (23, _)]) 14 rfl (by rfl) eL_law_761 (Nat.le_of_ble_eq_true rfl) rfl ?_
            refine v_goto X (pc := 764) (tgt := 692) eL_law_764 (by decide) ?_
            exact v_sub [3, 4, 5, 6, 7, 8, 9, 10, 11, 12, 13, 14, 0] rfl (ih _ _ _ _ _ _ _ _ _ _ _  h)
    · refine v_iload X (pc := 767) 6 rfl eL_law_767 ?_
      refine v_bipush X (pc := 769) (v := (14 : Int32)) eL_law_769 (by decide) ?_
      refine v_ishr X (pc := 771) eL_law_771 ?_
      refine v_iload_n X (pc := 772) 3 rfl eL_law_772 rfl ?_
      obtain ⟨r4, m4, hc4, h⟩ := bd_some h
      refine v_callS X (pc := 773) [_, _] [] ok_S_L_52 (cL_mod  hc4) rfl (Nat.le_of_ble_eq_true rfl) ⟨Nat.le_of_ble_eq_true rfl, Nat.le_of_ble_eq_true rfl⟩ ⟨Nat.le_of_ble_eq_true rfl, Nat.le_of_ble_eq_true rfl⟩ eL_law_773 ?_
      refine v_istore X (pc := 776) (lv' := [(24, _), (0, _), (1, _), (2, _), (3, _), (4, _), (5, _), (6, _), (7, _), (12, _), (16, _), (17, _), (23, _)]) eL_law_776 (Nat.le_of_ble_eq_true rfl) rfl ?_
      refine v_aload_n X (pc := 778) 2 rfl eL_law_778 rfl ?_
      obtain ⟨r5, m5, hc5, h⟩ := bd_some h
      refine v_callV X (pc := 779) [] [] ok_V_L_117 (cW_undo  hc5) rfl (Nat.le_of_ble_eq_true rfl) ⟨Nat.le_of_ble_eq_true rfl, Nat.le_of_ble_eq_true rfl⟩ ⟨Nat.le_of_ble_eq_true rfl, Nat.le_of_ble_eq_true rfl⟩ (by decide) (by decide) rfl rfl eL_law_779 ?_
      refine v_iload_n X (pc := 782) 4 rfl eL_law_782 rfl ?_
      refine v_icmp_ne X (pc := 783) (tgt := 819) h eL_law_783 (by decide) (fun h => ?_) (fun h => ?_)
      · refine v_iload X (pc := 786) 11 rfl eL_law_786 ?_
        refine v_if_lt X (pc := 788) (tgt := 819) h eL_law_788 (by decide) (fun h => ?_) (fun h => ?_)
        · refine v_iconst X (pc := 819) (v := (0 : Int32)) eL_law_819 (by decide) ?_
          exact absurd (Prod.mk.inj (Option.some.inj h)).1 (by decide)
        · refine v_iload X (pc := 791) 11 rfl eL_law_791 ?_
          refine v_iconst X (pc := 793) (v := (3 : Int32)) eL_law_793 (by decide) ?_
          refine v_icmp_gt X (pc := 794) (tgt := 819) h eL_law_794 (by decide) (fun h => ?_) (fun h => ?_)
          · refine v_iconst X (pc := 819) (v := (0 : Int32)) eL_law_819 (by decide) ?_
            exact absurd (Prod.mk.inj (Option.some.inj h)).1 (by decide)
          · refine v_aload_n X (pc := 797) 2 rfl eL_law_797 rfl ?_
            refine v_iload X (pc := 798) 0 rfl eL_law_798 ?_
            refine v_iconst X (pc := 800) (v := (3 : Int32)) eL_law_800 (by decide) ?_
            refine v_iload X (pc := 801) 11 rfl eL_law_801 ?_
            obtain ⟨r6, m6, hc6, h⟩ := bd_some h
            refine v_callV X (pc := 803) [_, _, _] [] ok_V_L_62 (cW_set  hc6) rfl (Nat.le_of_ble_eq_true rfl) ⟨Nat.le_of_ble_eq_true rfl, Nat.le_of_ble_eq_true rfl⟩ ⟨Nat.le_of_ble_eq_true rfl, Nat.le_of_ble_eq_true rfl⟩ (by decide) (by decide) rfl rfl eL_law_803 ?_
            refine v_aload_n X (pc := 806) 3 rfl eL_law_806 rfl ?_
            refine v_bipush X (pc := 807) (v := (9 : Int32)) eL_law_807 (by decide) ?_
            refine v_bipush X (pc := 809) (v := (6 : Int32)) eL_law_809 (by decide) ?_
            refine v_iload X (pc := 811) 0 rfl eL_law_811 ?_
            refine v_imul X (pc := 813) eL_law_813 ?_
            refine v_iadd X (pc := 814) eL_law_814 ?_
            refine v_iald X (pc := 815) h (by decide) (by decide) rfl eL_law_815 (fun h => ?_)
            refine v_icmp_eq X (pc := 816) (tgt := 821) h eL_law_816 (by decide) (fun h => ?_) (fun h => ?_)
            · refine v_aload_n X (pc := 821) 2 rfl eL_law_821 rfl ?_
              refine v_iload X (pc := 822) 8 rfl eL_law_822 ?_
              refine v_iload X (pc := 824) 9 rfl eL_law_824 ?_
              obtain ⟨r7, m7, hc7, h⟩ := bd_some h
              refine v_callV X (pc := 826) [_, _] [] ok_V_L_98 (cW_quiet  hc7) rfl (Nat.le_of_ble_eq_true rfl) ⟨Nat.le_of_ble_eq_true rfl, Nat.le_of_ble_eq_true rfl⟩ ⟨Nat.le_of_ble_eq_true rfl, Nat.le_of_ble_eq_true rfl⟩ (by decide) (by decide) rfl rfl eL_law_826 ?_
              refine v_istore X (pc := 829) (lv' := [(23, _), (24, _), (0, _), (1, _), (2, _), (3, _), (4, _), (5, _), (6, _), (7, _), (12, _), (16, _), (17, _)]) eL_law_829 (Nat.le_of_ble_eq_true rfl) rfl ?_
              refine v_iconst X (pc := 831) (v := (0 : Int32)) eL_law_831 (by decide) ?_
              refine v_istore X (pc := 832) (lv' := [(25, _), (23, _), (24, _), (0, _), (1, _), (2, _), (3, _), (4, _), (5, _), (6, _), (7, _), (12, _), (16, _), (17, _)]) eL_law_832 (Nat.le_of_ble_eq_true rfl) rfl ?_
              exact v_sub [3, 4, 5, 6, 7, 8, 9, 10, 11, 13, 1, 2, 0] rfl (cL_law_834 X hr hk hk44 _ _ _ _ _ _ _ _ _ _ _ _  h)
            · refine v_iconst X (pc := 819) (v := (0 : Int32)) eL_law_819 (by decide) ?_
              exact absurd (Prod.mk.inj (Option.some.inj h)).1 (by decide)
      · refine v_iconst X (pc := 819) (v := (0 : Int32)) eL_law_819 (by decide) ?_
        exact absurd (Prod.mk.inj (Option.some.inj h)).1 (by decide)
set_option maxHeartbeats 4000000 in
set_option maxRecDepth 100000 in
theorem cL_law_651 {p : Program} {l : Launch} {e : Env} {s : State} {m : MethodId} {b : Nat} {below : List Frame} {meth : Method} {c : Code} {k : KK} {f : Nat} {mem' : Mem} (X : CX p s m #[Value.ref b] meth c k code 33 "WallShiftsLaw") (hr : meth.sig.returnType = ret) (hk : kh k = s.heap.size) {k44 : Int32 → Int32 → Int32 → Mem → Option (Int32 × Mem)} (hk44 : ∀ (x3 : Int32) (x4 : Int32) (x5 : Int32) (mem : Mem), k44 x3 x4 x5 mem = some (o, mem') → V p l e room_1 s m #[Value.ref b] below meth c 600000 7302250 (lw_Z below #[Value.ref b] s) k 33 mem 44 [(0, aR 24 0), (1, aR 0 0), (2, aR 13 0), (3, aI x3), (4, aI x4), (5, aI x5)] []) : ∀ (x3 : Int32) (x4 : Int32) (x5 : Int32) (x6 : Int32) (x7 : Int32) (x12 : Int32) (x16 : Int32) (x17 : Int32) (mem : Mem), dL_law_651 (kL k) (kx k) f k44 x3 x4 x5 x6 x7 x12 x16 x17 mem = some ((1 : Int32), mem') → V p l e room_1 s m #[Value.ref b] below meth c 600000 7302250 (lw_Z below #[Value.ref b] s) k 33 mem 651 [(0, aR 24 0), (1, aR 0 0), (2, aR 13 0), (3, aI x3), (4, aI x4), (5, aI x5), (6, aI x6), (7, aI x7), (12, aI x12), (16, aI x16), (17, aI x17)] [] := by
  intro x3 x4 x5 x6 x7 x12 x16 x17 mem  h
  unfold dL_law_651 at h
  refine v_iload X (pc := 651) 9 rfl eL_law_651 ?_
  refine v_iconst X (pc := 653) (v := (1 : Int32)) eL_law_653 (by decide) ?_
  refine v_icmp_lt X (pc := 654) (tgt := 677) h eL_law_654 (by decide) (fun h => ?_) (fun h => ?_)
  · refine v_iconst X (pc := 677) (v := (0 : Int32)) eL_law_677 (by decide) ?_
    exact absurd (Prod.mk.inj (Option.some.inj h)).1 (by decide)
  · refine v_iload X (pc := 657) 9 rfl eL_law_657 ?_
    refine v_bipush X (pc := 659) (v := (60 : Int32)) eL_law_659 (by decide) ?_
    refine v_icmp_gt X (pc := 661) (tgt := 677) h eL_law_661 (by decide) (fun h => ?_) (fun h => ?_)
    · refine v_iconst X (pc := 677) (v := (0 : Int32)) eL_law_677 (by decide) ?_
      exact absurd (Prod.mk.inj (Option.some.inj h)).1 (by decide)
    · refine v_aload_n X (pc := 664) 1 rfl eL_law_664 rfl ?_
      refine v_iconst X (pc := 665) (v := (0 : Int32)) eL_law_665 (by decide) ?_
      refine v_iload X (pc := 666) 9 rfl eL_law_666 ?_
      obtain ⟨r1, m1, hc1, h⟩ := bd_some h
      refine v_callV X (pc := 668) [_, _] [] ok_V_L_56 (cW_rota  hc1) rfl (Nat.le_of_ble_eq_true rfl) ⟨Nat.le_of_ble_eq_true rfl, Nat.le_of_ble_eq_true rfl⟩ ⟨Nat.le_of_ble_eq_true rfl, Nat.le_of_ble_eq_true rfl⟩ (by decide) (by decide) rfl rfl eL_law_668 ?_
      refine v_aload_n X (pc := 671) 2 rfl eL_law_671 rfl ?_
      refine v_iconst X (pc := 672) (v := (1 : Int32)) eL_law_672 (by decide) ?_
      refine v_ialdK X (pc := 673) (n := 66) 1 (by decide) (by decide) (by decide) (by decide) rfl eL_law_673 ?_
      refine v_icmp_eq X (pc := 674) (tgt := 679) h eL_law_674 (by decide) (fun h => ?_) (fun h => ?_)
      · refine v_aload_n X (pc := 679) 1 rfl eL_law_679 rfl ?_
        refine v_iload X (pc := 680) 7 rfl eL_law_680 ?_
        refine v_iload X (pc := 682) 8 rfl eL_law_682 ?_
        obtain ⟨r2, m2, hc2, h⟩ := bd_some h
        refine v_callV X (pc := 684) [_, _] [] ok_V_L_98 (cW_quiet  hc2) rfl (Nat.le_of_ble_eq_true rfl) ⟨Nat.le_of_ble_eq_true rfl, Nat.le_of_ble_eq_true rfl⟩ ⟨Nat.le_of_ble_eq_true rfl, Nat.le_of_ble_eq_true rfl⟩ (by decide) (by decide) rfl rfl eL_law_684 ?_
        refine v_istore X (pc := 687) (lv' := [(23, _), (0, _), (1, _), (2, _), (3, _), (4, _), (5, _), (6, _), (7, _), (12, _), (16, _), (17, _)]) eL_law_687 (Nat.le_of_ble_eq_true rfl) rfl ?_
        refine v_iconst X (pc := 689) (v := (0 : Int32)) eL_law_689 (by decide) ?_
        refine v_istore X (pc := 690) (lv' := [(24, _), (23, _), (0, _), (1, _), (2, _), (3, _), (4, _), (5, _), (6, _), (7, _), (12, _), (16, _), (17, _)]) eL_law_690 (Nat.le_of_ble_eq_true rfl) rfl ?_
        exact v_sub [2, 3, 4, 5, 6, 7, 8, 9, 10, 11, 12, 1, 0] rfl (cL_law_692 X hr hk hk44 _ _ _ _ _ _ _ _ _ _ _ _  h)
      · refine v_iconst X (pc := 677) (v := (0 : Int32)) eL_law_677 (by decide) ?_
        exact absurd (Prod.mk.inj (Option.some.inj h)).1 (by decide)
set_option maxHeartbeats 4000000 in
set_option maxRecDepth 100000 in
theorem cL_law_614 {p : Program} {l : Launch} {e : Env} {s : State} {m : MethodId} {b : Nat} {below : List Frame} {meth : Method} {c : Code} {k : KK} {f : Nat} {mem' : Mem} (X : CX p s m #[Value.ref b] meth c k code 33 "WallShiftsLaw") (hr : meth.sig.returnType = ret) (hk : kh k = s.heap.size) {k44 : Int32 → Int32 → Int32 → Mem → Option (Int32 × Mem)} (hk44 : ∀ (x3 : Int32) (x4 : Int32) (x5 : Int32) (mem : Mem), k44 x3 x4 x5 mem = some (o, mem') → V p l e room_1 s m #[Value.ref b] below meth c 600000 7302250 (lw_Z below #[Value.ref b] s) k 33 mem 44 [(0, aR 24 0), (1, aR 0 0), (2, aR 13 0), (3, aI x3), (4, aI x4), (5, aI x5)] []) {k556 : Int32 → Int32 → Int32 → Int32 → Int32 → Int32 → Int32 → Int32 → Int32 → Int32 → Mem → Option (Int32 × Mem)} (hk556 : ∀ (x3 : Int32) (x4 : Int32) (x5 : Int32) (x6 : Int32) (x7 : Int32) (x12 : Int32) (x15 : Int32) (x16 : Int32) (x17 : Int32) (x23 : Int32) (mem : Mem), k556 x3 x4 x5 x6 x7 x12 x15 x16 x17 x23 mem = some (o, mem') → V p l e room_1 s m #[Value.ref b] below meth c 600000 7302250 (lw_Z below #[Value.ref b] s) k 33 mem 556 [(0, aR 24 0), (1, aR 0 0), (2, aR 13 0), (3, aI x3), (4, aI x4), (5, aI x5), (6, aI x6), (7, aI x7), (12, aI x12), (15, aI x15), (16, aI x16), (17, aI x17), (23, aI x23)] []) {k586 : Int32 → Int32 → Int32 → Int32 → Int32 → Int32 → Int32 → Int32 → Int32 → Int32 → Int32 → Int32 → Mem → Option (Int32 × Mem)} (hk586 : ∀ (x3 : Int32) (x4 : Int32) (x5 : Int32) (x6 : Int32) (x7 : Int32) (x12 : Int32) (x15 : Int32) (x16 : Int32) (x17 : Int32) (x23 : Int32) (x24 : Int32) (x25 : Int32) (mem : Mem), k586 x3 x4 x5 x6 x7 x12 x15 x16 x17 x23 x24 x25 mem = some (o, mem') → V p l e room_1 s m #[Value.ref b] below meth c 600000 7302250 (lw_Z below #[Value.ref b] s) k 33 mem 586 [(0, aR 24 0), (1, aR 0 0), (2, aR 13 0), (3, aI x3), (4, aI x4), (5, aI x5), (6, aI x6), (7, aI x7), (12, aI x12), (15, aI x15), (16, aI x16), (17, aI x17), (23, aI x23), (24, aI x24), (25, aI x25)] []) : ∀ (x3 : Int32) (x4 : Int32) (x5 : Int32) (x6 : Int32) (x7 : Int32) (x12 : Int32) (x15 : Int32) (x16 : Int32) (x17 : Int32) (x23 : Int32) (x24 : Int32) (x25 : Int32) (mem : Mem), dL_law_614 (kL k) (kx k) f k44 k556 k586 x3 x4 x5 x6 x7 x12 x15 x16 x17 x23 x24 x25 mem = some ((1 : Int32), mem') → V p l e room_1 s m #[Value.ref b] below meth c 600000 7302250 (lw_Z below #[Value.ref b] s) k 33 mem 614 [(0, aR 24 0), (1, aR 0 0), (2, aR 13 0), (3, aI x3), (4, aI x4), (5, aI x5), (6, aI x6), (7, aI x7), (12, aI x12), (15, aI x15), (16, aI x16), (17, aI x17), (23, aI x23), (24, aI x24), (25, aI x25)] [] := by
  intro x3 x4 x5 x6 x7 x12 x15 x16 x17 x23 x24 x25 mem  h
  unfold dL_law_614 at h
  refine v_aload_n X (pc := 614) 1 rfl eL_law_614 rfl ?_
  refine v_iconst X (pc := 615) (v := (1 : Int32)) eL_law_615 (by decide) ?_
  obtain ⟨r1, m1, hc1, h⟩ := bd_some h
  refine v_callV X (pc := 616) [_] [] ok_V_L_66 (cW_pass  hc1) rfl (Nat.le_of_ble_eq_true rfl) ⟨Nat.le_of_ble_eq_true rfl, Nat.le_of_ble_eq_true rfl⟩ ⟨Nat.le_of_ble_eq_true rfl, Nat.le_of_ble_eq_true rfl⟩ (by decide) (by decide) rfl rfl eL_law_616 ?_
  refine v_if_ge X (pc := 619) (tgt := 624) h eL_law_619 (by decide) (fun h => ?_) (fun h => ?_)
  · refine v_iconst X (pc := 622) (v := (0 : Int32)) eL_law_622 (by decide) ?_
    exact absurd (Prod.mk.inj (Option.some.inj h)).1 (by decide)
  · refine v_iinc X (pc := 624) (v := (x25 + (1 : Int32))) (lv' := [(25, _), (0, _), (1, _), (2, _), (3, _), (4, _), (5, _), (6, _), (7, _), (12, _), (15, _), (16, _), (17, _), (23, _), (24, _)]) 14 rfl (by rfl) eL_law_624 (Nat.le_of_ble_eq_true rfl) rfl ?_
    refine v_goto X (pc := 627) (tgt := 586) eL_law_627 (by decide) ?_
    exact v_sub [1, 2, 3, 4, 5, 6, 7, 8, 9, 10, 11, 12, 13, 14, 0] rfl (hk586 _ _ _ _ _ _ _ _ _ _ _ _ _  h)
set_option maxHeartbeats 4000000 in
set_option maxRecDepth 100000 in
theorem cL_law_586 {p : Program} {l : Launch} {e : Env} {s : State} {m : MethodId} {b : Nat} {below : List Frame} {meth : Method} {c : Code} {k : KK} {f : Nat} {mem' : Mem} (X : CX p s m #[Value.ref b] meth c k code 33 "WallShiftsLaw") (hr : meth.sig.returnType = ret) (hk : kh k = s.heap.size) {k44 : Int32 → Int32 → Int32 → Mem → Option (Int32 × Mem)} (hk44 : ∀ (x3 : Int32) (x4 : Int32) (x5 : Int32) (mem : Mem), k44 x3 x4 x5 mem = some (o, mem') → V p l e room_1 s m #[Value.ref b] below meth c 600000 7302250 (lw_Z below #[Value.ref b] s) k 33 mem 44 [(0, aR 24 0), (1, aR 0 0), (2, aR 13 0), (3, aI x3), (4, aI x4), (5, aI x5)] []) {k556 : Int32 → Int32 → Int32 → Int32 → Int32 → Int32 → Int32 → Int32 → Int32 → Int32 → Mem → Option (Int32 × Mem)} (hk556 : ∀ (x3 : Int32) (x4 : Int32) (x5 : Int32) (x6 : Int32) (x7 : Int32) (x12 : Int32) (x15 : Int32) (x16 : Int32) (x17 : Int32) (x23 : Int32) (mem : Mem), k556 x3 x4 x5 x6 x7 x12 x15 x16 x17 x23 mem = some (o, mem') → V p l e room_1 s m #[Value.ref b] below meth c 600000 7302250 (lw_Z below #[Value.ref b] s) k 33 mem 556 [(0, aR 24 0), (1, aR 0 0), (2, aR 13 0), (3, aI x3), (4, aI x4), (5, aI x5), (6, aI x6), (7, aI x7), (12, aI x12), (15, aI x15), (16, aI x16), (17, aI x17), (23, aI x23)] []) : ∀ (n : Nat) (x3 : Int32) (x4 : Int32) (x5 : Int32) (x6 : Int32) (x7 : Int32) (x12 : Int32) (x15 : Int32) (x16 : Int32) (x17 : Int32) (x23 : Int32) (x24 : Int32) (x25 : Int32) (mem : Mem), dL_law_586 (kL k) (kx k) f k44 k556 n x3 x4 x5 x6 x7 x12 x15 x16 x17 x23 x24 x25 mem = some ((1 : Int32), mem') → V p l e room_1 s m #[Value.ref b] below meth c 600000 7302250 (lw_Z below #[Value.ref b] s) k 33 mem 586 [(0, aR 24 0), (1, aR 0 0), (2, aR 13 0), (3, aI x3), (4, aI x4), (5, aI x5), (6, aI x6), (7, aI x7), (12, aI x12), (15, aI x15), (16, aI x16), (17, aI x17), (23, aI x23), (24, aI x24), (25, aI x25)] [] := by
  intro n
  induction n with
  | zero =>
    intro x3 x4 x5 x6 x7 x12 x15 x16 x17 x23 x24 x25 mem  h
    exact nomatch (show (none : Option (Int32 × Mem)) = some _ from h)
  | succ n ih =>
    intro x3 x4 x5 x6 x7 x12 x15 x16 x17 x23 x24 x25 mem  h
    rw [dL_law_586] at h
    refine v_iload X (pc := 586) 14 rfl eL_law_586 ?_
    refine v_iload X (pc := 588) 8 rfl eL_law_588 ?_
    refine v_icmp_ge X (pc := 590) (tgt := 630) h eL_law_590 (by decide) (fun h => ?_) (fun h => ?_)
    · refine v_aload_n X (pc := 593) 1 rfl eL_law_593 rfl ?_
      refine v_iload X (pc := 594) 7 rfl eL_law_594 ?_
      refine v_iload X (pc := 596) 9 rfl eL_law_596 ?_
      refine v_iconst X (pc := 598) (v := (1 : Int32)) eL_law_598 (by decide) ?_
      refine v_iload X (pc := 599) 12 rfl eL_law_599 ?_
      refine v_ishl X (pc := 601) eL_law_601 ?_
      refine v_iconst X (pc := 602) (v := (-1 : Int32)) eL_law_602 (by decide) ?_
      refine v_ixor X (pc := 603) eL_law_603 ?_
      refine v_iand X (pc := 604) eL_law_604 ?_
      obtain ⟨r1, m1, hc1, h⟩ := bd_some h
      refine v_callS X (pc := 605) [_, _, _] [] ok_S_L_113 (cL_isUnheard  hc1) rfl (Nat.le_of_ble_eq_true rfl) ⟨Nat.le_of_ble_eq_true rfl, Nat.le_of_ble_eq_true rfl⟩ ⟨Nat.le_of_ble_eq_true rfl, Nat.le_of_ble_eq_true rfl⟩ eL_law_605 ?_
      refine v_if_eq X (pc := 608) (tgt := 614) h eL_law_608 (by decide) (fun h => ?_) (fun h => ?_)
      · exact v_sub [0, 1, 2, 3, 4, 5, 6, 7, 8, 9, 10, 11, 12, 13, 14] rfl (cL_law_614 X hr hk hk44 hk556 ih _ _ _ _ _ _ _ _ _ _ _ _ _  h)
      · refine v_iinc X (pc := 611) (v := (x24 + (1 : Int32))) (lv' := [(24, _), (0, _), (1, _), (2, _), (3, _), (4, _), (5, _), (6, _), (7, _), (12, _), (15, _), (16, _), (17, _), (23, _), (25, _)]) 13 rfl (by rfl) eL_law_611 (Nat.le_of_ble_eq_true rfl) rfl ?_
        exact v_sub [1, 2, 3, 4, 5, 6, 7, 8, 9, 10, 11, 12, 13, 0, 14] rfl (cL_law_614 X hr hk hk44 hk556 ih _ _ _ _ _ _ _ _ _ _ _ _ _  h)
    · refine v_iload X (pc := 630) 13 rfl eL_law_630 ?_
      refine v_if_eq X (pc := 632) (tgt := 643) h eL_law_632 (by decide) (fun h => ?_) (fun h => ?_)
      · refine v_iconst X (pc := 643) (v := (0 : Int32)) eL_law_643 (by decide) ?_
        exact absurd (Prod.mk.inj (Option.some.inj h)).1 (by decide)
      · refine v_aload_n X (pc := 635) 1 rfl eL_law_635 rfl ?_
        obtain ⟨r2, m2, hc2, h⟩ := bd_some h
        refine v_callV X (pc := 636) [] [] ok_V_L_117 (cW_undo  hc2) rfl (Nat.le_of_ble_eq_true rfl) ⟨Nat.le_of_ble_eq_true rfl, Nat.le_of_ble_eq_true rfl⟩ ⟨Nat.le_of_ble_eq_true rfl, Nat.le_of_ble_eq_true rfl⟩ (by decide) (by decide) rfl rfl eL_law_636 ?_
        refine v_iload_n X (pc := 639) 3 rfl eL_law_639 rfl ?_
        refine v_icmp_eq X (pc := 640) (tgt := 645) h eL_law_640 (by decide) (fun h => ?_) (fun h => ?_)
        · refine v_iinc X (pc := 645) (v := (x23 + (1 : Int32))) (lv' := [(23, _), (0, _), (1, _), (2, _), (3, _), (4, _), (5, _), (6, _), (7, _), (12, _), (15, _), (16, _), (17, _), (24, _), (25, _)]) 12 rfl (by rfl) eL_law_645 (Nat.le_of_ble_eq_true rfl) rfl ?_
          refine v_goto X (pc := 648) (tgt := 556) eL_law_648 (by decide) ?_
          exact v_sub [1, 2, 3, 4, 5, 6, 7, 8, 9, 10, 11, 12, 0] rfl (hk556 _ _ _ _ _ _ _ _ _ _ _  h)
        · refine v_iconst X (pc := 643) (v := (0 : Int32)) eL_law_643 (by decide) ?_
          exact absurd (Prod.mk.inj (Option.some.inj h)).1 (by decide)
set_option maxHeartbeats 4000000 in
set_option maxRecDepth 100000 in
theorem cL_law_556 {p : Program} {l : Launch} {e : Env} {s : State} {m : MethodId} {b : Nat} {below : List Frame} {meth : Method} {c : Code} {k : KK} {f : Nat} {mem' : Mem} (X : CX p s m #[Value.ref b] meth c k code 33 "WallShiftsLaw") (hr : meth.sig.returnType = ret) (hk : kh k = s.heap.size) {k44 : Int32 → Int32 → Int32 → Mem → Option (Int32 × Mem)} (hk44 : ∀ (x3 : Int32) (x4 : Int32) (x5 : Int32) (mem : Mem), k44 x3 x4 x5 mem = some (o, mem') → V p l e room_1 s m #[Value.ref b] below meth c 600000 7302250 (lw_Z below #[Value.ref b] s) k 33 mem 44 [(0, aR 24 0), (1, aR 0 0), (2, aR 13 0), (3, aI x3), (4, aI x4), (5, aI x5)] []) : ∀ (n : Nat) (x3 : Int32) (x4 : Int32) (x5 : Int32) (x6 : Int32) (x7 : Int32) (x12 : Int32) (x15 : Int32) (x16 : Int32) (x17 : Int32) (x23 : Int32) (mem : Mem), dL_law_556 (kL k) (kx k) f k44 n x3 x4 x5 x6 x7 x12 x15 x16 x17 x23 mem = some ((1 : Int32), mem') → V p l e room_1 s m #[Value.ref b] below meth c 600000 7302250 (lw_Z below #[Value.ref b] s) k 33 mem 556 [(0, aR 24 0), (1, aR 0 0), (2, aR 13 0), (3, aI x3), (4, aI x4), (5, aI x5), (6, aI x6), (7, aI x7), (12, aI x12), (15, aI x15), (16, aI x16), (17, aI x17), (23, aI x23)] [] := by
  intro n
  induction n with
  | zero =>
    intro x3 x4 x5 x6 x7 x12 x15 x16 x17 x23 mem  h
    exact nomatch (show (none : Option (Int32 × Mem)) = some _ from h)
  | succ n ih =>
    intro x3 x4 x5 x6 x7 x12 x15 x16 x17 x23 mem  h
    rw [dL_law_556] at h
    refine v_iload X (pc := 556) 12 rfl eL_law_556 ?_
    refine v_iload_n X (pc := 558) 3 rfl eL_law_558 rfl ?_
    refine v_icmp_ge X (pc := 559) (tgt := 651) h eL_law_559 (by decide) (fun h => ?_) (fun h => ?_)
    · refine v_iload X (pc := 562) 9 rfl eL_law_562 ?_
      refine v_if_lt X (pc := 564) (tgt := 651) h eL_law_564 (by decide) (fun h => ?_) (fun h => ?_)
      · exact v_sub [0, 1, 2, 3, 4, 5, 6, 7, 8, 10, 11] rfl (cL_law_651 X hr hk hk44 _ _ _ _ _ _ _ _ _  h)
      · refine v_iload X (pc := 567) 9 rfl eL_law_567 ?_
        refine v_iload X (pc := 569) 12 rfl eL_law_569 ?_
        refine v_ishr X (pc := 571) eL_law_571 ?_
        refine v_iconst X (pc := 572) (v := (1 : Int32)) eL_law_572 (by decide) ?_
        refine v_iand X (pc := 573) eL_law_573 ?_
        refine v_if_ne X (pc := 574) (tgt := 580) h eL_law_574 (by decide) (fun h => ?_) (fun h => ?_)
        · refine v_goto X (pc := 577) (tgt := 645) eL_law_577 (by decide) ?_
          refine v_iinc X (pc := 645) (v := (x23 + (1 : Int32))) (lv' := [(23, _), (0, _), (1, _), (2, _), (3, _), (4, _), (5, _), (6, _), (7, _), (12, _), (15, _), (16, _), (17, _)]) 12 rfl (by rfl) eL_law_645 (Nat.le_of_ble_eq_true rfl) rfl ?_
          refine v_goto X (pc := 648) (tgt := 556) eL_law_648 (by decide) ?_
          exact v_sub [1, 2, 3, 4, 5, 6, 7, 8, 9, 10, 11, 12, 0] rfl (ih _ _ _ _ _ _ _ _ _ _ _  h)
        · refine v_iconst X (pc := 580) (v := (0 : Int32)) eL_law_580 (by decide) ?_
          refine v_istore X (pc := 581) (lv' := [(24, _), (0, _), (1, _), (2, _), (3, _), (4, _), (5, _), (6, _), (7, _), (12, _), (15, _), (16, _), (17, _), (23, _)]) eL_law_581 (Nat.le_of_ble_eq_true rfl) rfl ?_
          refine v_iconst X (pc := 583) (v := (0 : Int32)) eL_law_583 (by decide) ?_
          refine v_istore X (pc := 584) (lv' := [(25, _), (24, _), (0, _), (1, _), (2, _), (3, _), (4, _), (5, _), (6, _), (7, _), (12, _), (15, _), (16, _), (17, _), (23, _)]) eL_law_584 (Nat.le_of_ble_eq_true rfl) rfl ?_
          exact v_sub [2, 3, 4, 5, 6, 7, 8, 9, 10, 11, 12, 13, 14, 1, 0] rfl (cL_law_586 X hr hk hk44 ih _ _ _ _ _ _ _ _ _ _ _ _ _ _  h)
    · exact v_sub [0, 1, 2, 3, 4, 5, 6, 7, 8, 10, 11] rfl (cL_law_651 X hr hk hk44 _ _ _ _ _ _ _ _ _  h)
set_option maxHeartbeats 4000000 in
set_option maxRecDepth 100000 in
theorem cL_law_533 {p : Program} {l : Launch} {e : Env} {s : State} {m : MethodId} {b : Nat} {below : List Frame} {meth : Method} {c : Code} {k : KK} {f : Nat} {mem' : Mem} (X : CX p s m #[Value.ref b] meth c k code 33 "WallShiftsLaw") (hr : meth.sig.returnType = ret) (hk : kh k = s.heap.size) {k44 : Int32 → Int32 → Int32 → Mem → Option (Int32 × Mem)} (hk44 : ∀ (x3 : Int32) (x4 : Int32) (x5 : Int32) (mem : Mem), k44 x3 x4 x5 mem = some (o, mem') → V p l e room_1 s m #[Value.ref b] below meth c 600000 7302250 (lw_Z below #[Value.ref b] s) k 33 mem 44 [(0, aR 24 0), (1, aR 0 0), (2, aR 13 0), (3, aI x3), (4, aI x4), (5, aI x5)] []) : ∀ (x3 : Int32) (x4 : Int32) (x5 : Int32) (x6 : Int32) (x7 : Int32) (x12 : Int32) (x15 : Int32) (x16 : Int32) (x17 : Int32) (mem : Mem), dL_law_533 (kL k) (kx k) f k44 x3 x4 x5 x6 x7 x12 x15 x16 x17 mem = some ((1 : Int32), mem') → V p l e room_1 s m #[Value.ref b] below meth c 600000 7302250 (lw_Z below #[Value.ref b] s) k 33 mem 533 [(0, aR 24 0), (1, aR 0 0), (2, aR 13 0), (3, aI x3), (4, aI x4), (5, aI x5), (6, aI x6), (7, aI x7), (12, aI x12), (15, aI x15), (16, aI x16), (17, aI x17)] [] := by
  intro x3 x4 x5 x6 x7 x12 x15 x16 x17 mem  h
  unfold dL_law_533 at h
  refine v_aload_n X (pc := 533) 1 rfl eL_law_533 rfl ?_
  obtain ⟨r1, m1, hc1, h⟩ := bd_some h
  refine v_callV X (pc := 534) [] [] ok_V_L_117 (cW_undo  hc1) rfl (Nat.le_of_ble_eq_true rfl) ⟨Nat.le_of_ble_eq_true rfl, Nat.le_of_ble_eq_true rfl⟩ ⟨Nat.le_of_ble_eq_true rfl, Nat.le_of_ble_eq_true rfl⟩ (by decide) (by decide) rfl rfl eL_law_534 ?_
  refine v_iload_n X (pc := 537) 3 rfl eL_law_537 rfl ?_
  refine v_icmp_ne X (pc := 538) (tgt := 551) h eL_law_538 (by decide) (fun h => ?_) (fun h => ?_)
  · refine v_aload_n X (pc := 541) 1 rfl eL_law_541 rfl ?_
    refine v_iconst X (pc := 542) (v := (0 : Int32)) eL_law_542 (by decide) ?_
    obtain ⟨r2, m2, hc2, h⟩ := bd_some h
    refine v_callV X (pc := 543) [_] [] ok_V_L_74 (cW_now  hc2) rfl (Nat.le_of_ble_eq_true rfl) ⟨Nat.le_of_ble_eq_true rfl, Nat.le_of_ble_eq_true rfl⟩ ⟨Nat.le_of_ble_eq_true rfl, Nat.le_of_ble_eq_true rfl⟩ (by decide) (by decide) rfl rfl eL_law_543 ?_
    refine v_iload X (pc := 546) 4 rfl eL_law_546 ?_
    refine v_icmp_eq X (pc := 548) (tgt := 553) h eL_law_548 (by decide) (fun h => ?_) (fun h => ?_)
    · refine v_iconst X (pc := 553) (v := (0 : Int32)) eL_law_553 (by decide) ?_
      refine v_istore X (pc := 554) (lv' := [(23, _), (0, _), (1, _), (2, _), (3, _), (4, _), (5, _), (6, _), (7, _), (12, _), (15, _), (16, _), (17, _)]) eL_law_554 (Nat.le_of_ble_eq_true rfl) rfl ?_
      exact v_sub [1, 2, 3, 4, 5, 6, 7, 8, 9, 10, 11, 12, 0] rfl (cL_law_556 X hr hk hk44 _ _ _ _ _ _ _ _ _ _ _ _  h)
    · refine v_iconst X (pc := 551) (v := (0 : Int32)) eL_law_551 (by decide) ?_
      exact absurd (Prod.mk.inj (Option.some.inj h)).1 (by decide)
  · refine v_iconst X (pc := 551) (v := (0 : Int32)) eL_law_551 (by decide) ?_
    exact absurd (Prod.mk.inj (Option.some.inj h)).1 (by decide)
set_option maxHeartbeats 4000000 in
set_option maxRecDepth 100000 in
theorem cL_law_526 {p : Program} {l : Launch} {e : Env} {s : State} {m : MethodId} {b : Nat} {below : List Frame} {meth : Method} {c : Code} {k : KK} {f : Nat} {mem' : Mem} (X : CX p s m #[Value.ref b] meth c k code 33 "WallShiftsLaw") (hr : meth.sig.returnType = ret) (hk : kh k = s.heap.size) {k44 : Int32 → Int32 → Int32 → Mem → Option (Int32 × Mem)} (hk44 : ∀ (x3 : Int32) (x4 : Int32) (x5 : Int32) (mem : Mem), k44 x3 x4 x5 mem = some (o, mem') → V p l e room_1 s m #[Value.ref b] below meth c 600000 7302250 (lw_Z below #[Value.ref b] s) k 33 mem 44 [(0, aR 24 0), (1, aR 0 0), (2, aR 13 0), (3, aI x3), (4, aI x4), (5, aI x5)] []) : ∀ (x3 : Int32) (x4 : Int32) (x5 : Int32) (x6 : Int32) (x7 : Int32) (x12 : Int32) (x15 : Int32) (x16 : Int32) (x17 : Int32) (x22 : Int32) (mem : Mem), dL_law_526 (kL k) (kx k) f k44 x3 x4 x5 x6 x7 x12 x15 x16 x17 x22 mem = some ((1 : Int32), mem') → V p l e room_1 s m #[Value.ref b] below meth c 600000 7302250 (lw_Z below #[Value.ref b] s) k 33 mem 526 [(0, aR 24 0), (1, aR 0 0), (2, aR 13 0), (3, aI x3), (4, aI x4), (5, aI x5), (6, aI x6), (7, aI x7), (12, aI x12), (15, aI x15), (16, aI x16), (17, aI x17), (22, aI x22)] [] := by
  intro x3 x4 x5 x6 x7 x12 x15 x16 x17 x22 mem  h
  unfold dL_law_526 at h
  refine v_iload X (pc := 526) 12 rfl eL_law_526 ?_
  refine v_ldc X (pc := 528) qw_405 eL_law_528 ?_
  refine v_icmp_ne X (pc := 530) (tgt := 551) h eL_law_530 (by decide) (fun h => ?_) (fun h => ?_)
  · exact v_sub [0, 1, 2, 3, 4, 5, 6, 7, 8, 9, 10, 11] rfl (cL_law_533 X hr hk hk44 _ _ _ _ _ _ _ _ _ _  h)
  · refine v_iconst X (pc := 551) (v := (0 : Int32)) eL_law_551 (by decide) ?_
    exact absurd (Prod.mk.inj (Option.some.inj h)).1 (by decide)
set_option maxHeartbeats 4000000 in
set_option maxRecDepth 100000 in
theorem cL_law_496 {p : Program} {l : Launch} {e : Env} {s : State} {m : MethodId} {b : Nat} {below : List Frame} {meth : Method} {c : Code} {k : KK} {f : Nat} {mem' : Mem} (X : CX p s m #[Value.ref b] meth c k code 33 "WallShiftsLaw") (hr : meth.sig.returnType = ret) (hk : kh k = s.heap.size) {k44 : Int32 → Int32 → Int32 → Mem → Option (Int32 × Mem)} (hk44 : ∀ (x3 : Int32) (x4 : Int32) (x5 : Int32) (mem : Mem), k44 x3 x4 x5 mem = some (o, mem') → V p l e room_1 s m #[Value.ref b] below meth c 600000 7302250 (lw_Z below #[Value.ref b] s) k 33 mem 44 [(0, aR 24 0), (1, aR 0 0), (2, aR 13 0), (3, aI x3), (4, aI x4), (5, aI x5)] []) : ∀ (x3 : Int32) (x4 : Int32) (x5 : Int32) (x6 : Int32) (x7 : Int32) (x8 : Int32) (x9 : Int32) (x12 : Int32) (x15 : Int32) (x16 : Int32) (x17 : Int32) (x22 : Int32) (s0 : Int32) (s1 : Int32) (mem : Mem), dL_law_496 (kL k) (kx k) f k44 x3 x4 x5 x6 x7 x8 x9 x12 x15 x16 x17 x22 s0 s1 mem = some ((1 : Int32), mem') → V p l e room_1 s m #[Value.ref b] below meth c 600000 7302250 (lw_Z below #[Value.ref b] s) k 33 mem 496 [(0, aR 24 0), (1, aR 0 0), (2, aR 13 0), (3, aI x3), (4, aI x4), (5, aI x5), (6, aI x6), (7, aI x7), (8, aI x8), (9, aI x9), (12, aI x12), (15, aI x15), (16, aI x16), (17, aI x17), (22, aI x22)] [aI s1, aI s0] := by
  intro x3 x4 x5 x6 x7 x8 x9 x12 x15 x16 x17 x22 s0 s1 mem  h
  unfold dL_law_496 at h
  refine v_icmp_ne X (pc := 496) (tgt := 551) h eL_law_496 (by decide) (fun h => ?_) (fun h => ?_)
  · refine v_iload X (pc := 499) 9 rfl eL_law_499 ?_
    refine v_ldc X (pc := 501) qw_405 eL_law_501 ?_
    refine v_icmp_eq X (pc := 503) (tgt := 526) h eL_law_503 (by decide) (fun h => ?_) (fun h => ?_)
    · exact v_sub [0, 1, 2, 3, 4, 5, 6, 7, 10, 11, 12, 13, 14] rfl (cL_law_526 X hr hk hk44 _ _ _ _ _ _ _ _ _ _ _  h)
    · refine v_iload X (pc := 506) 9 rfl eL_law_506 ?_
      refine v_iload X (pc := 508) 8 rfl eL_law_508 ?_
      refine v_iadd X (pc := 510) eL_law_510 ?_
      refine v_bipush X (pc := 511) (v := (60 : Int32)) eL_law_511 (by decide) ?_
      refine v_icmp_gt X (pc := 513) (tgt := 526) h eL_law_513 (by decide) (fun h => ?_) (fun h => ?_)
      · exact v_sub [0, 1, 2, 3, 4, 5, 6, 7, 10, 11, 12, 13, 14] rfl (cL_law_526 X hr hk hk44 _ _ _ _ _ _ _ _ _ _ _  h)
      · refine v_iload X (pc := 516) 14 rfl eL_law_516 ?_
        refine v_iload X (pc := 518) 9 rfl eL_law_518 ?_
        refine v_icmp_eq X (pc := 520) (tgt := 533) h eL_law_520 (by decide) (fun h => ?_) (fun h => ?_)
        · exact v_sub [0, 1, 2, 3, 4, 5, 6, 7, 10, 11, 12, 13] rfl (cL_law_533 X hr hk hk44 _ _ _ _ _ _ _ _ _ _  h)
        · refine v_goto X (pc := 523) (tgt := 551) eL_law_523 (by decide) ?_
          refine v_iconst X (pc := 551) (v := (0 : Int32)) eL_law_551 (by decide) ?_
          exact absurd (Prod.mk.inj (Option.some.inj h)).1 (by decide)
  · refine v_iconst X (pc := 551) (v := (0 : Int32)) eL_law_551 (by decide) ?_
    exact absurd (Prod.mk.inj (Option.some.inj h)).1 (by decide)
set_option maxHeartbeats 4000000 in
set_option maxRecDepth 100000 in
theorem cL_law_486 {p : Program} {l : Launch} {e : Env} {s : State} {m : MethodId} {b : Nat} {below : List Frame} {meth : Method} {c : Code} {k : KK} {f : Nat} {mem' : Mem} (X : CX p s m #[Value.ref b] meth c k code 33 "WallShiftsLaw") (hr : meth.sig.returnType = ret) (hk : kh k = s.heap.size) {k44 : Int32 → Int32 → Int32 → Mem → Option (Int32 × Mem)} (hk44 : ∀ (x3 : Int32) (x4 : Int32) (x5 : Int32) (mem : Mem), k44 x3 x4 x5 mem = some (o, mem') → V p l e room_1 s m #[Value.ref b] below meth c 600000 7302250 (lw_Z below #[Value.ref b] s) k 33 mem 44 [(0, aR 24 0), (1, aR 0 0), (2, aR 13 0), (3, aI x3), (4, aI x4), (5, aI x5)] []) : ∀ (x3 : Int32) (x4 : Int32) (x5 : Int32) (x6 : Int32) (x7 : Int32) (x8 : Int32) (x9 : Int32) (x12 : Int32) (x15 : Int32) (x16 : Int32) (x17 : Int32) (x18 : Int32) (x22 : Int32) (s0 : Int32) (mem : Mem), dL_law_486 (kL k) (kx k) f k44 x3 x4 x5 x6 x7 x8 x9 x12 x15 x16 x17 x18 x22 s0 mem = some ((1 : Int32), mem') → V p l e room_1 s m #[Value.ref b] below meth c 600000 7302250 (lw_Z below #[Value.ref b] s) k 33 mem 486 [(0, aR 24 0), (1, aR 0 0), (2, aR 13 0), (3, aI x3), (4, aI x4), (5, aI x5), (6, aI x6), (7, aI x7), (8, aI x8), (9, aI x9), (12, aI x12), (15, aI x15), (16, aI x16), (17, aI x17), (18, aI x18), (22, aI x22)] [aI s0] := by
  intro x3 x4 x5 x6 x7 x8 x9 x12 x15 x16 x17 x18 x22 s0 mem  h
  unfold dL_law_486 at h
  refine v_iload X (pc := 486) 14 rfl eL_law_486 ?_
  refine v_if_le X (pc := 488) (tgt := 495) h eL_law_488 (by decide) (fun h => ?_) (fun h => ?_)
  · refine v_iconst X (pc := 491) (v := (1 : Int32)) eL_law_491 (by decide) ?_
    refine v_goto X (pc := 492) (tgt := 496) eL_law_492 (by decide) ?_
    exact v_sub [0, 1, 2, 3, 4, 5, 6, 7, 8, 9, 10, 11, 12, 13, 15] rfl (cL_law_496 X hr hk hk44 _ _ _ _ _ _ _ _ _ _ _ _ _ _ _  h)
  · refine v_iconst X (pc := 495) (v := (0 : Int32)) eL_law_495 (by decide) ?_
    exact v_sub [0, 1, 2, 3, 4, 5, 6, 7, 8, 9, 10, 11, 12, 13, 15] rfl (cL_law_496 X hr hk hk44 _ _ _ _ _ _ _ _ _ _ _ _ _ _ _  h)
set_option maxHeartbeats 4000000 in
set_option maxRecDepth 100000 in
theorem cL_law_469 {p : Program} {l : Launch} {e : Env} {s : State} {m : MethodId} {b : Nat} {below : List Frame} {meth : Method} {c : Code} {k : KK} {f : Nat} {mem' : Mem} (X : CX p s m #[Value.ref b] meth c k code 33 "WallShiftsLaw") (hr : meth.sig.returnType = ret) (hk : kh k = s.heap.size) {k44 : Int32 → Int32 → Int32 → Mem → Option (Int32 × Mem)} (hk44 : ∀ (x3 : Int32) (x4 : Int32) (x5 : Int32) (mem : Mem), k44 x3 x4 x5 mem = some (o, mem') → V p l e room_1 s m #[Value.ref b] below meth c 600000 7302250 (lw_Z below #[Value.ref b] s) k 33 mem 44 [(0, aR 24 0), (1, aR 0 0), (2, aR 13 0), (3, aI x3), (4, aI x4), (5, aI x5)] []) : ∀ (x3 : Int32) (x4 : Int32) (x5 : Int32) (x6 : Int32) (x7 : Int32) (x8 : Int32) (x9 : Int32) (x12 : Int32) (x15 : Int32) (x16 : Int32) (x17 : Int32) (x18 : Int32) (x20 : Int32) (x22 : Int32) (mem : Mem), dL_law_469 (kL k) (kx k) f k44 x3 x4 x5 x6 x7 x8 x9 x12 x15 x16 x17 x18 x20 x22 mem = some ((1 : Int32), mem') → V p l e room_1 s m #[Value.ref b] below meth c 600000 7302250 (lw_Z below #[Value.ref b] s) k 33 mem 469 [(0, aR 24 0), (1, aR 0 0), (2, aR 13 0), (3, aI x3), (4, aI x4), (5, aI x5), (6, aI x6), (7, aI x7), (8, aI x8), (9, aI x9), (12, aI x12), (15, aI x15), (16, aI x16), (17, aI x17), (18, aI x18), (20, aI x20), (22, aI x22)] [] := by
  intro x3 x4 x5 x6 x7 x8 x9 x12 x15 x16 x17 x18 x20 x22 mem  h
  unfold dL_law_469 at h
  refine v_iload X (pc := 469) 15 rfl eL_law_469 ?_
  refine v_if_ne X (pc := 471) (tgt := 551) h eL_law_471 (by decide) (fun h => ?_) (fun h => ?_)
  · refine v_iload X (pc := 474) 11 rfl eL_law_474 ?_
    refine v_ldc X (pc := 476) qw_405 eL_law_476 ?_
    refine v_icmp_ne X (pc := 478) (tgt := 485) h eL_law_478 (by decide) (fun h => ?_) (fun h => ?_)
    · refine v_iconst X (pc := 481) (v := (1 : Int32)) eL_law_481 (by decide) ?_
      refine v_goto X (pc := 482) (tgt := 486) eL_law_482 (by decide) ?_
      exact v_sub [0, 1, 2, 3, 4, 5, 6, 7, 8, 9, 10, 11, 12, 13, 14, 16] rfl (cL_law_486 X hr hk hk44 _ _ _ _ _ _ _ _ _ _ _ _ _ _ _  h)
    · refine v_iconst X (pc := 485) (v := (0 : Int32)) eL_law_485 (by decide) ?_
      exact v_sub [0, 1, 2, 3, 4, 5, 6, 7, 8, 9, 10, 11, 12, 13, 14, 16] rfl (cL_law_486 X hr hk hk44 _ _ _ _ _ _ _ _ _ _ _ _ _ _ _  h)
  · refine v_iconst X (pc := 551) (v := (0 : Int32)) eL_law_551 (by decide) ?_
    exact absurd (Prod.mk.inj (Option.some.inj h)).1 (by decide)
set_option maxHeartbeats 4000000 in
set_option maxRecDepth 100000 in
theorem cL_law_312 {p : Program} {l : Launch} {e : Env} {s : State} {m : MethodId} {b : Nat} {below : List Frame} {meth : Method} {c : Code} {k : KK} {f : Nat} {mem' : Mem} (X : CX p s m #[Value.ref b] meth c k code 33 "WallShiftsLaw") (hr : meth.sig.returnType = ret) (hk : kh k = s.heap.size) {k44 : Int32 → Int32 → Int32 → Mem → Option (Int32 × Mem)} (hk44 : ∀ (x3 : Int32) (x4 : Int32) (x5 : Int32) (mem : Mem), k44 x3 x4 x5 mem = some (o, mem') → V p l e room_1 s m #[Value.ref b] below meth c 600000 7302250 (lw_Z below #[Value.ref b] s) k 33 mem 44 [(0, aR 24 0), (1, aR 0 0), (2, aR 13 0), (3, aI x3), (4, aI x4), (5, aI x5)] []) : ∀ (n : Nat) (x3 : Int32) (x4 : Int32) (x5 : Int32) (x6 : Int32) (x7 : Int32) (x8 : Int32) (x9 : Int32) (x12 : Int32) (x13 : Int32) (x14 : Int32) (x15 : Int32) (x16 : Int32) (x17 : Int32) (x18 : Int32) (x19 : Int32) (x20 : Int32) (x21 : Int32) (x22 : Int32) (x23 : Int32) (mem : Mem), dL_law_312 (kL k) (kx k) f k44 n x3 x4 x5 x6 x7 x8 x9 x12 x13 x14 x15 x16 x17 x18 x19 x20 x21 x22 x23 mem = some ((1 : Int32), mem') → V p l e room_1 s m #[Value.ref b] below meth c 600000 7302250 (lw_Z below #[Value.ref b] s) k 33 mem 312 [(0, aR 24 0), (1, aR 0 0), (2, aR 13 0), (3, aI x3), (4, aI x4), (5, aI x5), (6, aI x6), (7, aI x7), (8, aI x8), (9, aI x9), (12, aI x12), (13, aI x13), (14, aI x14), (15, aI x15), (16, aI x16), (17, aI x17), (18, aI x18), (19, aI x19), (20, aI x20), (21, aI x21), (22, aI x22), (23, aI x23)] [] := by
  intro n
  induction n with
  | zero =>
    intro x3 x4 x5 x6 x7 x8 x9 x12 x13 x14 x15 x16 x17 x18 x19 x20 x21 x22 x23 mem  h
    exact nomatch (show (none : Option (Int32 × Mem)) = some _ from h)
  | succ n ih =>
    intro x3 x4 x5 x6 x7 x8 x9 x12 x13 x14 x15 x16 x17 x18 x19 x20 x21 x22 x23 mem  h
    rw [dL_law_312] at h
    refine v_iload X (pc := 312) 21 rfl eL_law_312 ?_
    refine v_bipush X (pc := 314) (v := (60 : Int32)) eL_law_314 (by decide) ?_
    refine v_icmp_ge X (pc := 316) (tgt := 450) h eL_law_316 (by decide) (fun h => ?_) (fun h => ?_)
    · refine v_aload_n X (pc := 319) 1 rfl eL_law_319 rfl ?_
      refine v_iload X (pc := 320) 7 rfl eL_law_320 ?_
      refine v_sipush X (pc := 322) (v := (1023 : Int32)) eL_law_322 (by decide) ?_
      obtain ⟨r1, m1, hc1, h⟩ := bd_some h
      refine v_callS X (pc := 325) [_, _, _] [] ok_S_L_113 (cL_isUnheard  hc1) rfl (Nat.le_of_ble_eq_true rfl) ⟨Nat.le_of_ble_eq_true rfl, Nat.le_of_ble_eq_true rfl⟩ ⟨Nat.le_of_ble_eq_true rfl, Nat.le_of_ble_eq_true rfl⟩ eL_law_325 ?_
      refine v_istore X (pc := 328) (lv' := [(24, _), (0, _), (1, _), (2, _), (3, _), (4, _), (5, _), (6, _), (7, _), (8, _), (9, _), (12, _), (13, _), (14, _), (15, _), (16, _), (17, _), (18, _), (19, _), (20, _), (21, _), (22, _), (23, _)]) eL_law_328 (Nat.le_of_ble_eq_true rfl) rfl ?_
      refine v_iload X (pc := 330) 0 rfl eL_law_330 ?_
      refine v_if_eq X (pc := 332) (tgt := 342) h eL_law_332 (by decide) (fun h => ?_) (fun h => ?_)
      · refine v_iconst X (pc := 342) (v := (0 : Int32)) eL_law_342 (by decide) ?_
        exact v_sub [1, 2, 3, 4, 5, 6, 7, 8, 9, 10, 11, 12, 13, 14, 15, 16, 17, 18, 19, 21, 22, 0] rfl (cL_law_343 X hr hk hk44 ih _ _ _ _ _ _ _ _ _ _ _ _ _ _ _ _ _ _ _ _ _  h)
      · refine v_iload X (pc := 335) 20 rfl eL_law_335 ?_
        refine v_iconst X (pc := 337) (v := (1 : Int32)) eL_law_337 (by decide) ?_
        refine v_iadd X (pc := 338) eL_law_338 ?_
        refine v_goto X (pc := 339) (tgt := 343) eL_law_339 (by decide) ?_
        exact v_sub [1, 2, 3, 4, 5, 6, 7, 8, 9, 10, 11, 12, 13, 14, 15, 16, 17, 18, 19, 21, 22, 0] rfl (cL_law_343 X hr hk hk44 ih _ _ _ _ _ _ _ _ _ _ _ _ _ _ _ _ _ _ _ _ _  h)
    · refine v_iload X (pc := 450) 16 rfl eL_law_450 ?_
      refine v_iload X (pc := 452) 11 rfl eL_law_452 ?_
      refine v_icmp_ne X (pc := 454) (tgt := 551) h eL_law_454 (by decide) (fun h => ?_) (fun h => ?_)
      · refine v_iload X (pc := 457) 12 rfl eL_law_457 ?_
        refine v_if_lt X (pc := 459) (tgt := 469) h eL_law_459 (by decide) (fun h => ?_) (fun h => ?_)
        · exact v_sub [0, 1, 2, 3, 4, 5, 6, 7, 8, 9, 10, 13, 14, 15, 16, 18, 20] rfl (cL_law_469 X hr hk hk44 _ _ _ _ _ _ _ _ _ _ _ _ _ _ _  h)
        · refine v_iload X (pc := 462) 17 rfl eL_law_462 ?_
          refine v_iload X (pc := 464) 16 rfl eL_law_464 ?_
          refine v_icmp_le X (pc := 466) (tgt := 551) h eL_law_466 (by decide) (fun h => ?_) (fun h => ?_)
          · exact v_sub [0, 1, 2, 3, 4, 5, 6, 7, 8, 9, 10, 13, 14, 15, 16, 18, 20] rfl (cL_law_469 X hr hk hk44 _ _ _ _ _ _ _ _ _ _ _ _ _ _ _  h)
          · refine v_iconst X (pc := 551) (v := (0 : Int32)) eL_law_551 (by decide) ?_
            exact absurd (Prod.mk.inj (Option.some.inj h)).1 (by decide)
      · refine v_iconst X (pc := 551) (v := (0 : Int32)) eL_law_551 (by decide) ?_
        exact absurd (Prod.mk.inj (Option.some.inj h)).1 (by decide)
set_option maxHeartbeats 4000000 in
set_option maxRecDepth 100000 in
theorem cL_law_220 {p : Program} {l : Launch} {e : Env} {s : State} {m : MethodId} {b : Nat} {below : List Frame} {meth : Method} {c : Code} {k : KK} {f : Nat} {mem' : Mem} (X : CX p s m #[Value.ref b] meth c k code 33 "WallShiftsLaw") (hr : meth.sig.returnType = ret) (hk : kh k = s.heap.size) {k44 : Int32 → Int32 → Int32 → Mem → Option (Int32 × Mem)} (hk44 : ∀ (x3 : Int32) (x4 : Int32) (x5 : Int32) (mem : Mem), k44 x3 x4 x5 mem = some (o, mem') → V p l e room_1 s m #[Value.ref b] below meth c 600000 7302250 (lw_Z below #[Value.ref b] s) k 33 mem 44 [(0, aR 24 0), (1, aR 0 0), (2, aR 13 0), (3, aI x3), (4, aI x4), (5, aI x5)] []) : ∀ (x3 : Int32) (x4 : Int32) (x5 : Int32) (x6 : Int32) (x7 : Int32) (x8 : Int32) (x9 : Int32) (mem : Mem), dL_law_220 (kL k) (kx k) f k44 x3 x4 x5 x6 x7 x8 x9 mem = some ((1 : Int32), mem') → V p l e room_1 s m #[Value.ref b] below meth c 600000 7302250 (lw_Z below #[Value.ref b] s) k 33 mem 220 [(0, aR 24 0), (1, aR 0 0), (2, aR 13 0), (3, aI x3), (4, aI x4), (5, aI x5), (6, aI x6), (7, aI x7), (8, aI x8), (9, aI x9)] [] := by
  intro x3 x4 x5 x6 x7 x8 x9 mem  h
  unfold dL_law_220 at h
  refine v_iconst X (pc := 220) (v := (1 : Int32)) eL_law_220 (by decide) ?_
  refine v_iload X (pc := 221) 6 rfl eL_law_221 ?_
  refine v_bipush X (pc := 223) (v := (9 : Int32)) eL_law_223 (by decide) ?_
  refine v_ishr X (pc := 225) eL_law_225 ?_
  refine v_bipush X (pc := 226) (v := (40 : Int32)) eL_law_226 (by decide) ?_
  obtain ⟨r1, m1, hc1, h⟩ := bd_some h
  refine v_callS X (pc := 228) [_, _] [_] ok_S_L_52 (cL_mod  hc1) rfl (Nat.le_of_ble_eq_true rfl) ⟨Nat.le_of_ble_eq_true rfl, Nat.le_of_ble_eq_true rfl⟩ ⟨Nat.le_of_ble_eq_true rfl, Nat.le_of_ble_eq_true rfl⟩ eL_law_228 ?_
  refine v_iadd X (pc := 231) eL_law_231 ?_
  refine v_istore X (pc := 232) (lv' := [(12, _), (0, _), (1, _), (2, _), (3, _), (4, _), (5, _), (6, _), (7, _), (8, _), (9, _)]) eL_law_232 (Nat.le_of_ble_eq_true rfl) rfl ?_
  refine v_aload_n X (pc := 234) 2 rfl eL_law_234 rfl ?_
  refine v_iload X (pc := 235) 8 rfl eL_law_235 ?_
  refine v_iload X (pc := 237) 0 rfl eL_law_237 ?_
  obtain ⟨r2, m2, hc2, h⟩ := bd_some h
  refine v_callV X (pc := 239) [_, _] [] ok_V_L_98 (cW_quiet  hc2) rfl (Nat.le_of_ble_eq_true rfl) ⟨Nat.le_of_ble_eq_true rfl, Nat.le_of_ble_eq_true rfl⟩ ⟨Nat.le_of_ble_eq_true rfl, Nat.le_of_ble_eq_true rfl⟩ (by decide) (by decide) rfl rfl eL_law_239 ?_
  refine v_istore X (pc := 242) (lv' := [(13, _), (12, _), (0, _), (1, _), (2, _), (3, _), (4, _), (5, _), (6, _), (7, _), (8, _), (9, _)]) eL_law_242 (Nat.le_of_ble_eq_true rfl) rfl ?_
  refine v_aload_n X (pc := 244) 3 rfl eL_law_244 rfl ?_
  refine v_iload X (pc := 245) 9 rfl eL_law_245 ?_
  refine v_iload X (pc := 247) 1 rfl eL_law_247 ?_
  obtain ⟨r3, m3, hc3, h⟩ := bd_some h
  refine v_callV X (pc := 249) [_, _] [] ok_V_L_101 (cW_worst  hc3) rfl (Nat.le_of_ble_eq_true rfl) ⟨Nat.le_of_ble_eq_true rfl, Nat.le_of_ble_eq_true rfl⟩ ⟨Nat.le_of_ble_eq_true rfl, Nat.le_of_ble_eq_true rfl⟩ (by decide) (by decide) rfl rfl eL_law_249 ?_
  refine v_istore X (pc := 252) (lv' := [(14, _), (13, _), (12, _), (0, _), (1, _), (2, _), (3, _), (4, _), (5, _), (6, _), (7, _), (8, _), (9, _)]) eL_law_252 (Nat.le_of_ble_eq_true rfl) rfl ?_
  refine v_aload_n X (pc := 254) 4 rfl eL_law_254 rfl ?_
  refine v_iload X (pc := 255) 10 rfl eL_law_255 ?_
  refine v_iload X (pc := 257) 2 rfl eL_law_257 ?_
  obtain ⟨r4, m4, hc4, h⟩ := bd_some h
  refine v_callV X (pc := 259) [_, _] [] ok_V_L_104 (cW_cover  hc4) rfl (Nat.le_of_ble_eq_true rfl) ⟨Nat.le_of_ble_eq_true rfl, Nat.le_of_ble_eq_true rfl⟩ ⟨Nat.le_of_ble_eq_true rfl, Nat.le_of_ble_eq_true rfl⟩ (by decide) (by decide) rfl rfl eL_law_259 ?_
  refine v_istore X (pc := 262) (lv' := [(15, _), (14, _), (13, _), (12, _), (0, _), (1, _), (2, _), (3, _), (4, _), (5, _), (6, _), (7, _), (8, _), (9, _)]) eL_law_262 (Nat.le_of_ble_eq_true rfl) rfl ?_
  refine v_aload_n X (pc := 264) 5 rfl eL_law_264 rfl ?_
  refine v_iload X (pc := 265) 11 rfl eL_law_265 ?_
  refine v_iload X (pc := 267) 3 rfl eL_law_267 ?_
  obtain ⟨r5, m5, hc5, h⟩ := bd_some h
  refine v_callV X (pc := 269) [_, _] [] ok_V_L_107 (cW_shift  hc5) rfl (Nat.le_of_ble_eq_true rfl) ⟨Nat.le_of_ble_eq_true rfl, Nat.le_of_ble_eq_true rfl⟩ ⟨Nat.le_of_ble_eq_true rfl, Nat.le_of_ble_eq_true rfl⟩ (by decide) (by decide) rfl rfl eL_law_269 ?_
  refine v_istore X (pc := 272) (lv' := [(16, _), (15, _), (14, _), (13, _), (12, _), (0, _), (1, _), (2, _), (3, _), (4, _), (5, _), (6, _), (7, _), (8, _), (9, _)]) eL_law_272 (Nat.le_of_ble_eq_true rfl) rfl ?_
  refine v_aload_n X (pc := 274) 6 rfl eL_law_274 rfl ?_
  refine v_iload X (pc := 275) 11 rfl eL_law_275 ?_
  refine v_bipush X (pc := 277) (v := (14 : Int32)) eL_law_277 (by decide) ?_
  refine v_ishr X (pc := 279) eL_law_279 ?_
  refine v_iload_n X (pc := 280) 8 rfl eL_law_280 rfl ?_
  obtain ⟨r6, m6, hc6, h⟩ := bd_some h
  refine v_callS X (pc := 281) [_, _] [_] ok_S_L_52 (cL_mod  hc6) rfl (Nat.le_of_ble_eq_true rfl) ⟨Nat.le_of_ble_eq_true rfl, Nat.le_of_ble_eq_true rfl⟩ ⟨Nat.le_of_ble_eq_true rfl, Nat.le_of_ble_eq_true rfl⟩ eL_law_281 ?_
  refine v_iload X (pc := 284) 12 rfl eL_law_284 ?_
  refine v_iload X (pc := 286) 4 rfl eL_law_286 ?_
  obtain ⟨r7, m7, hc7, h⟩ := bd_some h
  refine v_callV X (pc := 288) [_, _, _] [] ok_V_L_110 (cW_side  hc7) rfl (Nat.le_of_ble_eq_true rfl) ⟨Nat.le_of_ble_eq_true rfl, Nat.le_of_ble_eq_true rfl⟩ ⟨Nat.le_of_ble_eq_true rfl, Nat.le_of_ble_eq_true rfl⟩ (by decide) (by decide) rfl rfl eL_law_288 ?_
  refine v_istore X (pc := 291) (lv' := [(17, _), (16, _), (15, _), (14, _), (13, _), (12, _), (0, _), (1, _), (2, _), (3, _), (4, _), (5, _), (6, _), (7, _), (8, _), (9, _)]) eL_law_291 (Nat.le_of_ble_eq_true rfl) rfl ?_
  refine v_iconst X (pc := 293) (v := (0 : Int32)) eL_law_293 (by decide) ?_
  refine v_istore X (pc := 294) (lv' := [(18, _), (17, _), (16, _), (15, _), (14, _), (13, _), (12, _), (0, _), (1, _), (2, _), (3, _), (4, _), (5, _), (6, _), (7, _), (8, _), (9, _)]) eL_law_294 (Nat.le_of_ble_eq_true rfl) rfl ?_
  refine v_iconst X (pc := 296) (v := (0 : Int32)) eL_law_296 (by decide) ?_
  refine v_istore X (pc := 297) (lv' := [(19, _), (18, _), (17, _), (16, _), (15, _), (14, _), (13, _), (12, _), (0, _), (1, _), (2, _), (3, _), (4, _), (5, _), (6, _), (7, _), (8, _), (9, _)]) eL_law_297 (Nat.le_of_ble_eq_true rfl) rfl ?_
  refine v_iconst X (pc := 299) (v := (0 : Int32)) eL_law_299 (by decide) ?_
  refine v_istore X (pc := 300) (lv' := [(20, _), (19, _), (18, _), (17, _), (16, _), (15, _), (14, _), (13, _), (12, _), (0, _), (1, _), (2, _), (3, _), (4, _), (5, _), (6, _), (7, _), (8, _), (9, _)]) eL_law_300 (Nat.le_of_ble_eq_true rfl) rfl ?_
  refine v_iconst X (pc := 302) (v := (0 : Int32)) eL_law_302 (by decide) ?_
  refine v_istore X (pc := 303) (lv' := [(21, _), (20, _), (19, _), (18, _), (17, _), (16, _), (15, _), (14, _), (13, _), (12, _), (0, _), (1, _), (2, _), (3, _), (4, _), (5, _), (6, _), (7, _), (8, _), (9, _)]) eL_law_303 (Nat.le_of_ble_eq_true rfl) rfl ?_
  refine v_ldc X (pc := 305) qw_405 eL_law_305 ?_
  refine v_istore X (pc := 307) (lv' := [(22, _), (21, _), (20, _), (19, _), (18, _), (17, _), (16, _), (15, _), (14, _), (13, _), (12, _), (0, _), (1, _), (2, _), (3, _), (4, _), (5, _), (6, _), (7, _), (8, _), (9, _)]) eL_law_307 (Nat.le_of_ble_eq_true rfl) rfl ?_
  refine v_iconst X (pc := 309) (v := (0 : Int32)) eL_law_309 (by decide) ?_
  refine v_istore X (pc := 310) (lv' := [(23, _), (22, _), (21, _), (20, _), (19, _), (18, _), (17, _), (16, _), (15, _), (14, _), (13, _), (12, _), (0, _), (1, _), (2, _), (3, _), (4, _), (5, _), (6, _), (7, _), (8, _), (9, _)]) eL_law_310 (Nat.le_of_ble_eq_true rfl) rfl ?_
  exact v_sub [12, 13, 14, 15, 16, 17, 18, 19, 20, 21, 11, 10, 9, 8, 7, 6, 5, 4, 3, 2, 1, 0] rfl (cL_law_312 X hr hk hk44 _ _ _ _ _ _ _ _ _ _ _ _ _ _ _ _ _ _ _ _ _  h)
set_option maxHeartbeats 4000000 in
set_option maxRecDepth 100000 in
theorem cL_law_156 {p : Program} {l : Launch} {e : Env} {s : State} {m : MethodId} {b : Nat} {below : List Frame} {meth : Method} {c : Code} {k : KK} {f : Nat} {mem' : Mem} (X : CX p s m #[Value.ref b] meth c k code 33 "WallShiftsLaw") (hr : meth.sig.returnType = ret) (hk : kh k = s.heap.size) {k44 : Int32 → Int32 → Int32 → Mem → Option (Int32 × Mem)} (hk44 : ∀ (x3 : Int32) (x4 : Int32) (x5 : Int32) (mem : Mem), k44 x3 x4 x5 mem = some (o, mem') → V p l e room_1 s m #[Value.ref b] below meth c 600000 7302250 (lw_Z below #[Value.ref b] s) k 33 mem 44 [(0, aR 24 0), (1, aR 0 0), (2, aR 13 0), (3, aI x3), (4, aI x4), (5, aI x5)] []) : ∀ (x3 : Int32) (x4 : Int32) (x5 : Int32) (x6 : Int32) (x7 : Int32) (x8 : Int32) (x9 : Int32) (x10 : Int32) (x11 : Int32) (mem : Mem), dL_law_156 (kL k) (kx k) f k44 x3 x4 x5 x6 x7 x8 x9 x10 x11 mem = some ((1 : Int32), mem') → V p l e room_1 s m #[Value.ref b] below meth c 600000 7302250 (lw_Z below #[Value.ref b] s) k 33 mem 156 [(0, aR 24 0), (1, aR 0 0), (2, aR 13 0), (3, aI x3), (4, aI x4), (5, aI x5), (6, aI x6), (7, aI x7), (8, aI x8), (9, aI x9), (10, aI x10), (11, aI x11)] [] := by
  intro x3 x4 x5 x6 x7 x8 x9 x10 x11 mem  h
  unfold dL_law_156 at h
  refine v_iload X (pc := 156) 10 rfl eL_law_156 ?_
  refine v_ldc X (pc := 158) qw_405 eL_law_158 ?_
  refine v_icmp_ne X (pc := 160) (tgt := 173) h eL_law_160 (by decide) (fun h => ?_) (fun h => ?_)
  · refine v_iload X (pc := 163) 9 rfl eL_law_163 ?_
    refine v_ldc X (pc := 165) qw_405 eL_law_165 ?_
    refine v_icmp_eq X (pc := 167) (tgt := 220) h eL_law_167 (by decide) (fun h => ?_) (fun h => ?_)
    · exact v_sub [0, 1, 2, 3, 4, 5, 6, 7, 8, 9] rfl (cL_law_220 X hr hk hk44 _ _ _ _ _ _ _ _  h)
    · refine v_goto X (pc := 170) (tgt := 218) eL_law_170 (by decide) ?_
      refine v_iconst X (pc := 218) (v := (0 : Int32)) eL_law_218 (by decide) ?_
      exact absurd (Prod.mk.inj (Option.some.inj h)).1 (by decide)
  · refine v_iload X (pc := 173) 10 rfl eL_law_173 ?_
    refine v_if_lt X (pc := 175) (tgt := 218) h eL_law_175 (by decide) (fun h => ?_) (fun h => ?_)
    · refine v_iconst X (pc := 218) (v := (0 : Int32)) eL_law_218 (by decide) ?_
      exact absurd (Prod.mk.inj (Option.some.inj h)).1 (by decide)
    · refine v_iload X (pc := 178) 10 rfl eL_law_178 ?_
      refine v_bipush X (pc := 180) (v := (9 : Int32)) eL_law_180 (by decide) ?_
      refine v_icmp_gt X (pc := 182) (tgt := 218) h eL_law_182 (by decide) (fun h => ?_) (fun h => ?_)
      · refine v_iconst X (pc := 218) (v := (0 : Int32)) eL_law_218 (by decide) ?_
        exact absurd (Prod.mk.inj (Option.some.inj h)).1 (by decide)
      · refine v_iload X (pc := 185) 11 rfl eL_law_185 ?_
        refine v_if_lt X (pc := 187) (tgt := 218) h eL_law_187 (by decide) (fun h => ?_) (fun h => ?_)
        · refine v_iconst X (pc := 218) (v := (0 : Int32)) eL_law_218 (by decide) ?_
          exact absurd (Prod.mk.inj (Option.some.inj h)).1 (by decide)
        · refine v_iload X (pc := 190) 9 rfl eL_law_190 ?_
          refine v_ldc X (pc := 192) qw_405 eL_law_192 ?_
          refine v_icmp_eq X (pc := 194) (tgt := 220) h eL_law_194 (by decide) (fun h => ?_) (fun h => ?_)
          · exact v_sub [0, 1, 2, 3, 4, 5, 6, 7, 8, 9] rfl (cL_law_220 X hr hk hk44 _ _ _ _ _ _ _ _  h)
          · refine v_iload X (pc := 197) 11 rfl eL_law_197 ?_
            refine v_iload X (pc := 199) 9 rfl eL_law_199 ?_
            refine v_icmp_gt X (pc := 201) (tgt := 218) h eL_law_201 (by decide) (fun h => ?_) (fun h => ?_)
            · refine v_iconst X (pc := 218) (v := (0 : Int32)) eL_law_218 (by decide) ?_
              exact absurd (Prod.mk.inj (Option.some.inj h)).1 (by decide)
            · refine v_iload X (pc := 204) 11 rfl eL_law_204 ?_
              refine v_iload X (pc := 206) 9 rfl eL_law_206 ?_
              refine v_icmp_ne X (pc := 208) (tgt := 220) h eL_law_208 (by decide) (fun h => ?_) (fun h => ?_)
              · refine v_iload X (pc := 211) 10 rfl eL_law_211 ?_
                refine v_iload X (pc := 213) 7 rfl eL_law_213 ?_
                refine v_icmp_le X (pc := 215) (tgt := 220) h eL_law_215 (by decide) (fun h => ?_) (fun h => ?_)
                · refine v_iconst X (pc := 218) (v := (0 : Int32)) eL_law_218 (by decide) ?_
                  exact absurd (Prod.mk.inj (Option.some.inj h)).1 (by decide)
                · exact v_sub [0, 1, 2, 3, 4, 5, 6, 7, 8, 9] rfl (cL_law_220 X hr hk hk44 _ _ _ _ _ _ _ _  h)
              · exact v_sub [0, 1, 2, 3, 4, 5, 6, 7, 8, 9] rfl (cL_law_220 X hr hk hk44 _ _ _ _ _ _ _ _  h)
set_option maxHeartbeats 4000000 in
set_option maxRecDepth 100000 in
theorem cL_law_134 {p : Program} {l : Launch} {e : Env} {s : State} {m : MethodId} {b : Nat} {below : List Frame} {meth : Method} {c : Code} {k : KK} {f : Nat} {mem' : Mem} (X : CX p s m #[Value.ref b] meth c k code 33 "WallShiftsLaw") (hr : meth.sig.returnType = ret) (hk : kh k = s.heap.size) {k44 : Int32 → Int32 → Int32 → Mem → Option (Int32 × Mem)} (hk44 : ∀ (x3 : Int32) (x4 : Int32) (x5 : Int32) (mem : Mem), k44 x3 x4 x5 mem = some (o, mem') → V p l e room_1 s m #[Value.ref b] below meth c 600000 7302250 (lw_Z below #[Value.ref b] s) k 33 mem 44 [(0, aR 24 0), (1, aR 0 0), (2, aR 13 0), (3, aI x3), (4, aI x4), (5, aI x5)] []) : ∀ (x3 : Int32) (x4 : Int32) (x5 : Int32) (x6 : Int32) (x7 : Int32) (x8 : Int32) (x9 : Int32) (x10 : Int32) (s0 : Int32) (mem : Mem), dL_law_134 (kL k) (kx k) f k44 x3 x4 x5 x6 x7 x8 x9 x10 s0 mem = some ((1 : Int32), mem') → V p l e room_1 s m #[Value.ref b] below meth c 600000 7302250 (lw_Z below #[Value.ref b] s) k 33 mem 134 [(0, aR 24 0), (1, aR 0 0), (2, aR 13 0), (3, aI x3), (4, aI x4), (5, aI x5), (6, aI x6), (7, aI x7), (8, aI x8), (9, aI x9), (10, aI x10)] [aI s0] := by
  intro x3 x4 x5 x6 x7 x8 x9 x10 s0 mem  h
  unfold dL_law_134 at h
  refine v_istore X (pc := 134) (lv' := [(11, _), (0, _), (1, _), (2, _), (3, _), (4, _), (5, _), (6, _), (7, _), (8, _), (9, _), (10, _)]) eL_law_134 (Nat.le_of_ble_eq_true rfl) rfl ?_
  refine v_iload X (pc := 136) 10 rfl eL_law_136 ?_
  refine v_ldc X (pc := 138) qw_405 eL_law_138 ?_
  refine v_icmp_eq X (pc := 140) (tgt := 156) h eL_law_140 (by decide) (fun h => ?_) (fun h => ?_)
  · exact v_sub [1, 2, 3, 4, 5, 6, 7, 8, 9, 10, 11, 0] rfl (cL_law_156 X hr hk hk44 _ _ _ _ _ _ _ _ _ _  h)
  · refine v_iload X (pc := 143) 10 rfl eL_law_143 ?_
    refine v_if_lt X (pc := 145) (tgt := 218) h eL_law_145 (by decide) (fun h => ?_) (fun h => ?_)
    · refine v_iconst X (pc := 218) (v := (0 : Int32)) eL_law_218 (by decide) ?_
      exact absurd (Prod.mk.inj (Option.some.inj h)).1 (by decide)
    · refine v_iload X (pc := 148) 10 rfl eL_law_148 ?_
      refine v_sipush X (pc := 150) (v := (240 : Int32)) eL_law_150 (by decide) ?_
      refine v_icmp_gt X (pc := 153) (tgt := 218) h eL_law_153 (by decide) (fun h => ?_) (fun h => ?_)
      · refine v_iconst X (pc := 218) (v := (0 : Int32)) eL_law_218 (by decide) ?_
        exact absurd (Prod.mk.inj (Option.some.inj h)).1 (by decide)
      · exact v_sub [1, 2, 3, 4, 5, 6, 7, 8, 9, 10, 11, 0] rfl (cL_law_156 X hr hk hk44 _ _ _ _ _ _ _ _ _ _  h)
set_option maxHeartbeats 4000000 in
set_option maxRecDepth 100000 in
theorem cL_law_78 {p : Program} {l : Launch} {e : Env} {s : State} {m : MethodId} {b : Nat} {below : List Frame} {meth : Method} {c : Code} {k : KK} {f : Nat} {mem' : Mem} (X : CX p s m #[Value.ref b] meth c k code 33 "WallShiftsLaw") (hr : meth.sig.returnType = ret) (hk : kh k = s.heap.size) {k44 : Int32 → Int32 → Int32 → Mem → Option (Int32 × Mem)} (hk44 : ∀ (x3 : Int32) (x4 : Int32) (x5 : Int32) (mem : Mem), k44 x3 x4 x5 mem = some (o, mem') → V p l e room_1 s m #[Value.ref b] below meth c 600000 7302250 (lw_Z below #[Value.ref b] s) k 33 mem 44 [(0, aR 24 0), (1, aR 0 0), (2, aR 13 0), (3, aI x3), (4, aI x4), (5, aI x5)] []) : ∀ (x3 : Int32) (x4 : Int32) (x5 : Int32) (x6 : Int32) (s0 : Int32) (s1 : Int32) (mem : Mem), dL_law_78 (kL k) (kx k) f k44 x3 x4 x5 x6 s0 s1 mem = some ((1 : Int32), mem') → V p l e room_1 s m #[Value.ref b] below meth c 600000 7302250 (lw_Z below #[Value.ref b] s) k 33 mem 78 [(0, aR 24 0), (1, aR 0 0), (2, aR 13 0), (3, aI x3), (4, aI x4), (5, aI x5), (6, aI x6)] [aI s1, aI s0] := by
  intro x3 x4 x5 x6 s0 s1 mem  h
  unfold dL_law_78 at h
  obtain ⟨r1, m1, hc1, h⟩ := bd_some h
  refine v_callS X (pc := 78) [_, _] [] ok_S_L_52 (cL_mod  hc1) rfl (Nat.le_of_ble_eq_true rfl) ⟨Nat.le_of_ble_eq_true rfl, Nat.le_of_ble_eq_true rfl⟩ ⟨Nat.le_of_ble_eq_true rfl, Nat.le_of_ble_eq_true rfl⟩ eL_law_78 ?_
  refine v_istore X (pc := 81) (lv' := [(7, _), (0, _), (1, _), (2, _), (3, _), (4, _), (5, _), (6, _)]) eL_law_81 (Nat.le_of_ble_eq_true rfl) rfl ?_
  refine v_iconst X (pc := 83) (v := (1 : Int32)) eL_law_83 (by decide) ?_
  refine v_iload X (pc := 84) 7 rfl eL_law_84 ?_
  refine v_iconst X (pc := 86) (v := (5 : Int32)) eL_law_86 (by decide) ?_
  refine v_ishr X (pc := 87) eL_law_87 ?_
  refine v_bipush X (pc := 88) (v := (12 : Int32)) eL_law_88 (by decide) ?_
  obtain ⟨r2, m2, hc2, h⟩ := bd_some h
  refine v_callS X (pc := 90) [_, _] [_] ok_S_L_52 (cL_mod  hc2) rfl (Nat.le_of_ble_eq_true rfl) ⟨Nat.le_of_ble_eq_true rfl, Nat.le_of_ble_eq_true rfl⟩ ⟨Nat.le_of_ble_eq_true rfl, Nat.le_of_ble_eq_true rfl⟩ eL_law_90 ?_
  refine v_iadd X (pc := 93) eL_law_93 ?_
  refine v_istore X (pc := 94) (lv' := [(8, _), (7, _), (0, _), (1, _), (2, _), (3, _), (4, _), (5, _), (6, _)]) eL_law_94 (Nat.le_of_ble_eq_true rfl) rfl ?_
  refine v_aload_n X (pc := 96) 3 rfl eL_law_96 rfl ?_
  refine v_iload X (pc := 97) 1 rfl eL_law_97 ?_
  refine v_iload X (pc := 99) 0 rfl eL_law_99 ?_
  obtain ⟨r3, m3, hc3, h⟩ := bd_some h
  refine v_callV X (pc := 101) [_, _] [] ok_V_L_91 (cW_safe  hc3) rfl (Nat.le_of_ble_eq_true rfl) ⟨Nat.le_of_ble_eq_true rfl, Nat.le_of_ble_eq_true rfl⟩ ⟨Nat.le_of_ble_eq_true rfl, Nat.le_of_ble_eq_true rfl⟩ (by decide) (by decide) rfl rfl eL_law_101 ?_
  refine v_istore X (pc := 104) (lv' := [(9, _), (8, _), (7, _), (0, _), (1, _), (2, _), (3, _), (4, _), (5, _), (6, _)]) eL_law_104 (Nat.le_of_ble_eq_true rfl) rfl ?_
  refine v_aload_n X (pc := 106) 4 rfl eL_law_106 rfl ?_
  refine v_iload X (pc := 107) 1 rfl eL_law_107 ?_
  obtain ⟨r4, m4, hc4, h⟩ := bd_some h
  refine v_callV X (pc := 109) [_] [] ok_V_L_94 (cW_where  hc4) rfl (Nat.le_of_ble_eq_true rfl) ⟨Nat.le_of_ble_eq_true rfl, Nat.le_of_ble_eq_true rfl⟩ ⟨Nat.le_of_ble_eq_true rfl, Nat.le_of_ble_eq_true rfl⟩ (by decide) (by decide) rfl rfl eL_law_109 ?_
  refine v_istore X (pc := 112) (lv' := [(10, _), (9, _), (8, _), (7, _), (0, _), (1, _), (2, _), (3, _), (4, _), (5, _), (6, _)]) eL_law_112 (Nat.le_of_ble_eq_true rfl) rfl ?_
  refine v_iload X (pc := 114) 0 rfl eL_law_114 ?_
  refine v_ldc X (pc := 116) qw_405 eL_law_116 ?_
  refine v_icmp_ne X (pc := 118) (tgt := 126) h eL_law_118 (by decide) (fun h => ?_) (fun h => ?_)
  · refine v_ldc X (pc := 121) qw_405 eL_law_121 ?_
    refine v_goto X (pc := 123) (tgt := 134) eL_law_123 (by decide) ?_
    exact v_sub [4, 5, 6, 7, 8, 9, 10, 3, 2, 1, 0] rfl (cL_law_134 X hr hk hk44 _ _ _ _ _ _ _ _ _ _  h)
  · refine v_aload_n X (pc := 126) 5 rfl eL_law_126 rfl ?_
    refine v_iload X (pc := 127) 0 rfl eL_law_127 ?_
    refine v_iload X (pc := 129) 2 rfl eL_law_129 ?_
    obtain ⟨r5, m5, hc5, h⟩ := bd_some h
    refine v_callV X (pc := 131) [_, _] [] ok_V_L_91 (cW_safe  hc5) rfl (Nat.le_of_ble_eq_true rfl) ⟨Nat.le_of_ble_eq_true rfl, Nat.le_of_ble_eq_true rfl⟩ ⟨Nat.le_of_ble_eq_true rfl, Nat.le_of_ble_eq_true rfl⟩ (by decide) (by decide) rfl rfl eL_law_131 ?_
    exact v_sub [4, 5, 6, 7, 8, 9, 10, 3, 2, 1, 0] rfl (cL_law_134 X hr hk hk44 _ _ _ _ _ _ _ _ _ _  h)
set_option maxHeartbeats 4000000 in
set_option maxRecDepth 100000 in
theorem cL_law_44 {p : Program} {l : Launch} {e : Env} {s : State} {m : MethodId} {b : Nat} {below : List Frame} {meth : Method} {c : Code} {k : KK} {f : Nat} {mem' : Mem} (X : CX p s m #[Value.ref b] meth c k code 33 "WallShiftsLaw") (hr : meth.sig.returnType = ret) (hk : kh k = s.heap.size) : ∀ (n : Nat) (x3 : Int32) (x4 : Int32) (x5 : Int32) (mem : Mem), dL_law_44 (kL k) (kx k) f n x3 x4 x5 mem = some ((1 : Int32), mem') → V p l e room_1 s m #[Value.ref b] below meth c 600000 7302250 (lw_Z below #[Value.ref b] s) k 33 mem 44 [(0, aR 24 0), (1, aR 0 0), (2, aR 13 0), (3, aI x3), (4, aI x4), (5, aI x5)] [] := by
  intro n
  induction n with
  | zero =>
    intro x3 x4 x5 mem  h
    exact nomatch (show (none : Option (Int32 × Mem)) = some _ from h)
  | succ n ih =>
    intro x3 x4 x5 mem  h
    rw [dL_law_44] at h
    refine v_iload X (pc := 44) 5 rfl eL_law_44 ?_
    refine v_iconst X (pc := 46) (v := (4 : Int32)) eL_law_46 (by decide) ?_
    refine v_icmp_ge X (pc := 47) (tgt := 1128) h eL_law_47 (by decide) (fun h => ?_) (fun h => ?_)
    · refine v_aload_n X (pc := 50) 0 rfl eL_law_50 rfl ?_
      refine v_bipush X (pc := 51) (v := (6 : Int32)) eL_law_51 (by decide) ?_
      refine v_iload X (pc := 53) 5 rfl eL_law_53 ?_
      refine v_iadd X (pc := 55) eL_law_55 ?_
      obtain ⟨r1, m1, hc1, h⟩ := bd_some h
      refine v_callSx X (pc := 56) [_, _] [] ok_S_L_50 (cL_at  hc1) rfl (Nat.le_of_ble_eq_true rfl) ⟨Nat.le_of_ble_eq_true rfl, Nat.le_of_ble_eq_true rfl⟩ ⟨Nat.le_of_ble_eq_true rfl, Nat.le_of_ble_eq_true rfl⟩ eL_law_56 ?_
      refine v_istore X (pc := 59) (lv' := [(6, _), (0, _), (1, _), (2, _), (3, _), (4, _), (5, _)]) eL_law_59 (Nat.le_of_ble_eq_true rfl) rfl ?_
      refine v_iload X (pc := 61) 0 rfl eL_law_61 ?_
      refine v_iload X (pc := 63) 0 rfl eL_law_63 ?_
      refine v_iconst X (pc := 65) (v := (4 : Int32)) eL_law_65 (by decide) ?_
      refine v_ishr X (pc := 66) eL_law_66 ?_
      refine v_iconst X (pc := 67) (v := (1 : Int32)) eL_law_67 (by decide) ?_
      refine v_iand X (pc := 68) eL_law_68 ?_
      refine v_if_ne X (pc := 69) (tgt := 76) h eL_law_69 (by decide) (fun h => ?_) (fun h => ?_)
      · refine v_iconst X (pc := 72) (v := (3 : Int32)) eL_law_72 (by decide) ?_
        refine v_goto X (pc := 73) (tgt := 78) eL_law_73 (by decide) ?_
        exact v_sub [1, 2, 3, 4, 5, 6, 0] rfl (cL_law_78 X hr hk ih _ _ _ _ _ _ _  h)
      · refine v_bipush X (pc := 76) (v := (10 : Int32)) eL_law_76 (by decide) ?_
        exact v_sub [1, 2, 3, 4, 5, 6, 0] rfl (cL_law_78 X hr hk ih _ _ _ _ _ _ _  h)
    · refine v_iconst X (pc := 1128) (v := (1 : Int32)) eL_law_1128 (by decide) ?_
      exact v_lwret X hr hk (pc := 1129) h eL_law_1129
set_option maxHeartbeats 4000000 in
set_option maxRecDepth 100000 in
theorem cL_law_13 {p : Program} {l : Launch} {e : Env} {s : State} {m : MethodId} {b : Nat} {below : List Frame} {meth : Method} {c : Code} {k : KK} {f : Nat} {mem' : Mem} (X : CX p s m #[Value.ref b] meth c k code 33 "WallShiftsLaw") (hr : meth.sig.returnType = ret) (hk : kh k = s.heap.size) : ∀  (mem : Mem), dL_law_13 (kL k) (kx k) f  mem = some ((1 : Int32), mem') → V p l e room_1 s m #[Value.ref b] below meth c 600000 7302250 (lw_Z below #[Value.ref b] s) k 33 mem 13 [(0, aR 24 0), (1, aR 0 0), (2, aR 13 0)] [] := by
  intro  mem  h
  unfold dL_law_13 at h
  refine v_aload_n X (pc := 13) 1 rfl eL_law_13 rfl ?_
  refine v_aload_n X (pc := 14) 0 rfl eL_law_14 rfl ?_
  refine v_aload_n X (pc := 15) 2 rfl eL_law_15 rfl ?_
  obtain ⟨r1, m1, hc1, h⟩ := bd_some h
  refine v_callSx X (pc := 16) [_, _, _] [] ok_S_L_83 (cL_lay  hc1) rfl (Nat.le_of_ble_eq_true rfl) ⟨Nat.le_of_ble_eq_true rfl, Nat.le_of_ble_eq_true rfl⟩ ⟨Nat.le_of_ble_eq_true rfl, Nat.le_of_ble_eq_true rfl⟩ eL_law_16 ?_
  refine v_if_eq X (pc := 19) (tgt := 30) h eL_law_19 (by decide) (fun h => ?_) (fun h => ?_)
  · refine v_iconst X (pc := 30) (v := (0 : Int32)) eL_law_30 (by decide) ?_
    exact absurd (Prod.mk.inj (Option.some.inj h)).1 (by decide)
  · refine v_aload_n X (pc := 22) 1 rfl eL_law_22 rfl ?_
    obtain ⟨r2, m2, hc2, h⟩ := bd_some h
    refine v_callV X (pc := 23) [] [] ok_V_L_87 (cW_image  hc2) rfl (Nat.le_of_ble_eq_true rfl) ⟨Nat.le_of_ble_eq_true rfl, Nat.le_of_ble_eq_true rfl⟩ ⟨Nat.le_of_ble_eq_true rfl, Nat.le_of_ble_eq_true rfl⟩ (by decide) (by decide) rfl rfl eL_law_23 ?_
    refine v_iconst X (pc := 26) (v := (1 : Int32)) eL_law_26 (by decide) ?_
    refine v_icmp_eq X (pc := 27) (tgt := 32) h eL_law_27 (by decide) (fun h => ?_) (fun h => ?_)
    · refine v_aload_n X (pc := 32) 2 rfl eL_law_32 rfl ?_
      refine v_iconst X (pc := 33) (v := (5 : Int32)) eL_law_33 (by decide) ?_
      refine v_ialdK X (pc := 34) (n := 66) 5 (by decide) (by decide) (by decide) (by decide) rfl eL_law_34 ?_
      refine v_istore_n X (pc := 35) (lv' := [(3, _), (0, _), (1, _), (2, _)]) eL_law_35 rfl (Nat.le_of_ble_eq_true rfl) rfl ?_
      refine v_aload_n X (pc := 36) 3 rfl eL_law_36 rfl ?_
      refine v_iconst X (pc := 37) (v := (0 : Int32)) eL_law_37 (by decide) ?_
      refine v_ialdK X (pc := 38) (n := 66) 0 (by decide) (by decide) (by decide) (by decide) rfl eL_law_38 ?_
      refine v_istore X (pc := 39) (lv' := [(4, _), (3, _), (0, _), (1, _), (2, _)]) eL_law_39 (Nat.le_of_ble_eq_true rfl) rfl ?_
      refine v_iconst X (pc := 41) (v := (0 : Int32)) eL_law_41 (by decide) ?_
      refine v_istore X (pc := 42) (lv' := [(5, _), (4, _), (3, _), (0, _), (1, _), (2, _)]) eL_law_42 (Nat.le_of_ble_eq_true rfl) rfl ?_
      exact v_sub [3, 4, 5, 2, 1, 0] rfl (cL_law_44 X hr hk _ _ _ _ _  h)
    · refine v_iconst X (pc := 30) (v := (0 : Int32)) eL_law_30 (by decide) ?_
      exact absurd (Prod.mk.inj (Option.some.inj h)).1 (by decide)
end
