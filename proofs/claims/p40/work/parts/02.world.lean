/-! THE WORLD: what the class's and the reference's objects hold, as one memory of numbers: kind of cell, which of that kind, which slot.
Kinds: 0 WallShifts, 1 Palace (3), 2 its rotas, 3 its walls, 4 a wall's numbers (30), 5 Tape, 6 its bytes, 7 the row of sheets, 8 Sheet (4), 9 its numbers, 10 answered, 11 ahead,
13 the row s of the law; 12, 14 to 22: none; read only: 23 static rows (3), 24 the script. -/
abbrev AV : Type := Int32 ⊕ (Int64 ⊕ ((Nat × Nat) ⊕ Unit))
abbrev aI (x : Int32) : AV := .inl x
abbrev aL (x : Int64) : AV := .inr (.inl x)
abbrev aR (t i : Nat) : AV := .inr (.inr (.inl (t, i)))
/-- a reference, or null, that nobody looks at -/
abbrev aQ : AV := .inr (.inr (.inr ()))
abbrev Mem : Type := (Nat → Nat → Nat → Int32) × (Nat → Nat → Nat → Int64)
def gI (m : Mem) (t i j : Nat) : Int32 := m.1 t i j
def gL (m : Mem) (t i j : Nat) : Int64 := m.2 t i j
def sI (m : Mem) (t i j : Nat) (v : Int32) : Mem := (fun t' i' j' => if t' = t ∧ i' = i ∧ j' = j then v else m.1 t' i' j', m.2)
def sL (m : Mem) (t i j : Nat) (v : Int64) : Mem := (m.1, fun t' i' j' => if t' = t ∧ i' = i ∧ j' = j then v else m.2 t' i' j')
/-- a row of ints of one cell put whole -/
def sIr (m : Mem) (t i : Nat) (f : Nat → Int32) : Mem := (fun t' i' j' => if t' = t ∧ i' = i then f j' else m.1 t' i' j', m.2)
def sLr (m : Mem) (t i : Nat) (f : Nat → Int64) : Mem := (m.1, fun t' i' j' => if t' = t ∧ i' = i then f j' else m.2 t' i' j')
/-- where a kind's cells begin, and how many there are -/
def oT (t : Nat) : Nat := [0, 1, 4, 7, 10, 40, 41, 42, 43, 47, 51, 52, 53, 53, 54, 54, 54, 54, 54, 54, 54, 54, 54, 54, 57].getD t 58
def nT (t : Nat) : Nat := [1, 3, 3, 3, 30, 1, 1, 1, 4, 4, 1, 1, 0, 1, 0, 0, 0, 0, 0, 0, 0, 0, 0, 3, 1].getD t 0
def kTs : List (Nat × Nat) := (List.range 23).flatMap (fun t => (List.range (nT t)).map (fun i => (t, i)))
def kT (k : Nat) : Nat := (kTs.getD k (0, 0)).1
def kI (k : Nat) : Nat := (kTs.getD k (0, 0)).2
theorem kT_at : ∀ t, t < 23 → ∀ i, i < nT t → oT t + i < 54 ∧ kT (oT t + i) = t ∧ kI (oT t + i) = i := by decide +kernel
theorem kT_of : ∀ k, k < 54 → oT (kT k) + kI k = k := by decide +kernel
def T_Palace : u_T := fun k => match k with
  | 0 => ("WallShifts$Palace", "minute", "I", false)
  | 1 => ("WallShifts$Palace", "rotas", "[I", true)
  | 2 => ("WallShifts$Palace", "count", "I", false)
  | 3 => ("WallShifts$Palace", "walls", "[[I", true)
  | _ => ("WallShifts$Palace", "unheardWords", "I", false)
def ty_Palace : Nat → FieldType := fun k => match k with
  | 0 => .int
  | 1 => .array .int
  | 2 => .int
  | 3 => .array (.array .int)
  | _ => .int
theorem nm_Palace : ∀ a, a < 5 → ∀ b, b < 5 → a ≠ b → (T_Palace a).2.1 ≠ (T_Palace b).2.1 := by decide +kernel
theorem ty_Palace_ok : ∀ k, k < 5 → parseFieldDescriptor (T_Palace k).2.2.1 = some (ty_Palace k) := by decide +kernel
def T_Sheet : u_T := fun k => match k with
  | 0 => ("WallShifts$Sheet", "bits", "I", false)
  | 1 => ("WallShifts$Sheet", "size", "I", false)
  | _ => ("WallShifts$Sheet", "numbers", "[J", true)
def ty_Sheet : Nat → FieldType := fun k => match k with
  | 0 => .int
  | 1 => .int
  | _ => .array .long
theorem nm_Sheet : ∀ a, a < 3 → ∀ b, b < 3 → a ≠ b → (T_Sheet a).2.1 ≠ (T_Sheet b).2.1 := by decide +kernel
theorem ty_Sheet_ok : ∀ k, k < 3 → parseFieldDescriptor (T_Sheet k).2.2.1 = some (ty_Sheet k) := by decide +kernel
def T_Tape : u_T := fun k => match k with
  | 0 => ("WallShifts$Tape", "bytes", "[I", true)
  | 1 => ("WallShifts$Tape", "size", "I", false)
  | 2 => ("WallShifts$Tape", "begin", "I", false)
  | 3 => ("WallShifts$Tape", "end", "I", false)
  | 4 => ("WallShifts$Tape", "sort", "I", false)
  | _ => ("WallShifts$Tape", "number", "I", false)
def ty_Tape : Nat → FieldType := fun k => match k with
  | 0 => .array .int
  | 1 => .int
  | 2 => .int
  | 3 => .int
  | 4 => .int
  | _ => .int
theorem nm_Tape : ∀ a, a < 6 → ∀ b, b < 6 → a ≠ b → (T_Tape a).2.1 ≠ (T_Tape b).2.1 := by decide +kernel
theorem ty_Tape_ok : ∀ k, k < 6 → parseFieldDescriptor (T_Tape k).2.2.1 = some (ty_Tape k) := by decide +kernel
def T_WallShifts : u_T := fun k => match k with
  | 0 => ("WallShifts", "state", "LWallShifts$Palace;", true)
  | 1 => ("WallShifts", "kept", "LWallShifts$Palace;", true)
  | 2 => ("WallShifts", "hasKept", "Z", false)
  | 3 => ("WallShifts", "trial", "LWallShifts$Palace;", true)
  | 4 => ("WallShifts", "tape", "LWallShifts$Tape;", true)
  | 5 => ("WallShifts", "sheets", "[LWallShifts$Sheet;", true)
  | 6 => ("WallShifts", "answered", "[I", true)
  | _ => ("WallShifts", "ahead", "[I", true)
def ty_WallShifts : Nat → FieldType := fun k => match k with
  | 0 => .object "WallShifts$Palace"
  | 1 => .object "WallShifts$Palace"
  | 2 => .boolean
  | 3 => .object "WallShifts$Palace"
  | 4 => .object "WallShifts$Tape"
  | 5 => .array (.object "WallShifts$Sheet")
  | 6 => .array .int
  | _ => .array .int
theorem nm_WallShifts : ∀ a, a < 8 → ∀ b, b < 8 → a ≠ b → (T_WallShifts a).2.1 ≠ (T_WallShifts b).2.1 := by decide +kernel
theorem ty_WallShifts_ok : ∀ k, k < 8 → parseFieldDescriptor (T_WallShifts k).2.2.1 = some (ty_WallShifts k) := by decide +kernel
abbrev wcl : List vw_C := [("WallShifts$Palace", T_Palace, 5), ("WallShifts$Sheet", T_Sheet, 3), ("WallShifts$Tape", T_Tape, 6), ("WallShifts", T_WallShifts, 8)]
theorem in_Palace : ∀ w ∈ u_ws "WallShifts$Palace" T_Palace 5, w ∈ wG := by decide +kernel
theorem in_Sheet : ∀ w ∈ u_ws "WallShifts$Sheet" T_Sheet 3, w ∈ wG := by decide +kernel
theorem in_Tape : ∀ w ∈ u_ws "WallShifts$Tape" T_Tape 6, w ∈ wG := by decide +kernel
theorem in_WallShifts : ∀ w ∈ u_ws "WallShifts" T_WallShifts 8, w ∈ wG := by decide +kernel
/-- what a cell of a kind holds -/
def ce (cT : Nat → ClassId) (ad : Nat → Nat) (m : Mem) (t i : Nat) : va_E := match t with
  | 0 => .inr (3, [.ref (ad (oT 1 + 0)), .ref (ad (oT 1 + 1)), .int (gI m 0 i 2), .ref (ad (oT 1 + 2)), .ref (ad (oT 5 + 0)), .ref (ad (oT 7 + 0)), .ref (ad (oT 10 + 0)), .ref (ad (oT 11 + 0))])
  | 1 => .inr (0, [.int (gI m 1 i 0), .ref (ad (oT 2 + i)), .int (gI m 1 i 2), .ref (ad (oT 3 + i)), .int (gI m 1 i 4)])
  | 2 => .inl (cT 0, 4, .inl (gI m 2 i))
  | 3 => .inl (cT 2, 10, .inr (.inr (.inr (.inr (fun j => some (ad (oT 4 + (10 * i + j))))))))
  | 4 => .inl (cT 0, 6, .inl (gI m 4 i))
  | 5 => .inr (2, [.ref (ad (oT 6 + 0)), .int (gI m 5 i 1), .int (gI m 5 i 2), .int (gI m 5 i 3), .int (gI m 5 i 4), .int (gI m 5 i 5)])
  | 6 => .inl (cT 0, 120, .inl (gI m 6 i))
  | 7 => .inl (cT 3, 4, .inr (.inr (.inr (.inr (fun j => some (ad (oT 8 + j)))))))
  | 8 => .inr (1, [.int (gI m 8 i 0), .int (gI m 8 i 1), .ref (ad (oT 9 + i))])
  | 9 => .inl (cT 1, 40, .inr (.inl (gL m 9 i)))
  | 10 => .inl (cT 0, 7, .inl (gI m 10 i))
  | 11 => .inl (cT 0, 270, .inl (gI m 11 i))
  | 13 => .inl (cT 0, 66, .inl (gI m 13 i))
  | _ => .inl (cT 0, 66, .inl (gI m t i))
theorem ce_congr {cT : Nat → ClassId} {ad : Nat → Nat} {m m' : Mem} {t i : Nat} (h1 : gI m' t i = gI m t i) (h2 : gL m' t i = gL m t i) (ht : t < 23) : ce cT ad m' t i = ce cT ad m t i := by
  have key : ∀ t, t < 23 → gI m' t i = gI m t i → gL m' t i = gL m t i → ce cT ad m' t i = ce cT ad m t i := by
    intro t ht h1 h2
    match t, ht, h1, h2 with
    | 0, _, h1, h2 => simp only [ce, h1]
    | 1, _, h1, h2 => simp only [ce, h1]
    | 2, _, h1, h2 => simp only [ce, h1]
    | 3, _, h1, h2 => simp only [ce]
    | 4, _, h1, h2 => simp only [ce, h1]
    | 5, _, h1, h2 => simp only [ce, h1]
    | 6, _, h1, h2 => simp only [ce, h1]
    | 7, _, h1, h2 => simp only [ce]
    | 8, _, h1, h2 => simp only [ce, h1]
    | 9, _, h1, h2 => simp only [ce, h2]
    | 10, _, h1, h2 => simp only [ce, h1]
    | 11, _, h1, h2 => simp only [ce, h1]
    | 12, _, h1, h2 => simp only [ce, h1]
    | 13, _, h1, h2 => simp only [ce, h1]
    | 14, _, h1, h2 => simp only [ce, h1]
    | 15, _, h1, h2 => simp only [ce, h1]
    | 16, _, h1, h2 => simp only [ce, h1]
    | 17, _, h1, h2 => simp only [ce, h1]
    | 18, _, h1, h2 => simp only [ce, h1]
    | 19, _, h1, h2 => simp only [ce, h1]
    | 20, _, h1, h2 => simp only [ce, h1]
    | 21, _, h1, h2 => simp only [ce, h1]
    | 22, _, h1, h2 => simp only [ce, h1]
    | n + 23, ht, _, _ => exact absurd ht (by omega)
  exact key t ht h1 h2
/-- the world as the kit has it: a list of cells -/
def wl (cT : Nat → ClassId) (ad : Nat → Nat) (m : Mem) : va_W := (List.range 54).map (fun k => (ad k, ce cT ad m (kT k) (kI k)))
theorem wl_at {cT : Nat → ClassId} {ad : Nat → Nat} {m : Mem} {t i : Nat} (ht : t < 23) (hi : i < nT t) : (wl cT ad m)[oT t + i]? = some (ad (oT t + i), ce cT ad m t i) := by
  obtain ⟨h1, h2, h3⟩ := kT_at t ht i hi
  unfold wl
  rw [List.getElem?_map, List.getElem?_range h1]
  simp only [Option.map_some, h2, h3]
theorem wl_set {cT : Nat → ClassId} {ad : Nat → Nat} {m m' : Mem} {t i : Nat} (ht : t < 23) (hi : i < nT t) (h : ∀ t' i', ¬ (t' = t ∧ i' = i) → gI m' t' i' = gI m t' i' ∧ gL m' t' i' = gL m t' i') : (wl cT ad m).set (oT t + i) (ad (oT t + i), ce cT ad m' t i) = wl cT ad m' := by
  obtain ⟨h1, h2, h3⟩ := kT_at t ht i hi
  apply List.ext_getElem?
  intro k
  by_cases hk : k = oT t + i
  · subst hk
    rw [List.getElem?_set_self (by simp [wl]; exact h1), wl_at ht hi]
  · rw [List.getElem?_set_ne (Ne.symm hk)]
    unfold wl
    rw [List.getElem?_map, List.getElem?_map]
    by_cases hk2 : k < 54
    · rw [List.getElem?_range hk2]
      have hne : ¬ (kT k = t ∧ kI k = i) := by
        rintro ⟨e1, e2⟩
        have := kT_of k hk2
        rw [e1, e2] at this
        exact hk this.symm
      obtain ⟨g1, g2⟩ := h _ _ hne
      have hkt : kT k < 23 := (by decide +kernel : ∀ k, k < 54 → kT k < 23) k hk2
      simp only [Option.map_some, ce_congr g1 g2 hkt]
    · rw [List.getElem?_eq_none (by simp; omega)]
      rfl
