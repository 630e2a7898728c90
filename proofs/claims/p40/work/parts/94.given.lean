/-! THE START: what the given words say of statics, strings, classes. -/
abbrev gvn : Cond := Jvm.Cond.and given_1 narrow_1
abbrev stT (i : Nat) : Jvm.Term := .static "WallShifts" (stN i) "[I"
set_option maxRecDepth 100000 in
theorem gz_ar : ∀ i, i < 3 → Cond.arrayOf (stT i) .int ∈ flatC gvn := by decide +kernel
set_option maxRecDepth 100000 in
theorem gz_le : ∀ i, i < 3 → Cond.eq (.length (stT i)) (.int (Int32.ofNat (stV i).length)) ∈ flatC gvn := by decide +kernel
set_option maxRecDepth 100000 in
theorem gz_el : ∀ i, i < 3 → ∀ j, j < (stV i).length → Cond.eq (.elem (stT i) (.int (Int32.ofNat j))) (.int (stc i j)) ∈ flatC gvn := by decide +kernel
set_option maxRecDepth 100000 in
theorem gz_lay : ∀ i, i < 3 → Cond.laysStatic "WallShifts" (stN i) "[I" ∈ lw_tbl := by decide +kernel
set_option maxRecDepth 100000 in
theorem gz_ini : Cond.initialized "WallShifts" ∈ lw_tbl := by decide +kernel
set_option maxRecDepth 100000 in
theorem gw_n : ∀ w ∈ wNests, w ∈ lw_tbl := by decide +kernel
set_option maxRecDepth 100000 in
theorem gw_i : ∀ w ∈ wNi, w ∈ lw_tbl := by decide +kernel
set_option maxRecDepth 100000 in
theorem ga_I : Cond.arrayClass .int ∈ lw_tbl := by decide +kernel
set_option maxRecDepth 100000 in
theorem ga_J : Cond.arrayClass .long ∈ lw_tbl := by decide +kernel
set_option maxRecDepth 100000 in
theorem ga_A : Cond.arrayOver (.array .int) ∈ lw_tbl := by decide +kernel
set_option maxRecDepth 100000 in
theorem ga_S : Cond.arrayOver (.object "WallShifts$Sheet") ∈ lw_tbl := by decide +kernel
set_option maxRecDepth 100000 in
theorem gi_Palace : Cond.instantiable "WallShifts$Palace" 5 ∈ wG := by decide +kernel
set_option maxRecDepth 100000 in
theorem gi_Sheet : Cond.instantiable "WallShifts$Sheet" 3 ∈ wG := by decide +kernel
set_option maxRecDepth 100000 in
theorem gi_Tape : Cond.instantiable "WallShifts$Tape" 6 ∈ wG := by decide +kernel
set_option maxRecDepth 100000 in
theorem gi_WallShifts : Cond.instantiable "WallShifts" 8 ∈ wG := by decide +kernel
set_option maxRecDepth 100000 in
theorem start_facts {p : Program} {s : State} {m : MethodId} {meth : Method} {c : Code} {b L : Nat} {xs : Nat → Int32} (C0 : lw_At p s m meth c b L xs) : ∃ tS : Nat → Nat,
    (∀ i, i < 3 → va_Z "WallShifts" (stN i) "[I" (.ref (tS i)) (fun q : Nat => s.heap.size ≤ q) s s.heap ∧ va_T .int (tS i) (stV i).length (fun j => .int (stc i j)) (fun q : Nat => s.heap.size ≤ q) s s.heap) := by
  obtain ⟨hx, hb, hr, hml, hown, hts, hX, hbl, hlocks, hgv⟩ := C0
  have hs := flat_of_before _ hgv
  have hA : ∀ a : Nat, a < s.heap.size → ¬ (fun q : Nat => s.heap.size ≤ q) a := fun a h9 => Nat.not_le.mpr h9
  have h4 : ∀ i : Nat, ∃ t : Nat, i < 3 → (va_Z "WallShifts" (stN i) "[I" (.ref t) (fun q : Nat => s.heap.size ≤ q) s s.heap ∧ va_T .int t (stV i).length (fun j => .int (stc i j)) (fun q : Nat => s.heap.size ≤ q) s s.heap) := by
    intro i
    by_cases hi : i < 3
    · obtain ⟨t, ht, hT⟩ := va_Tof (tm := stT i) (ty := .int) (N := (stV i).length) (f := fun j => .int (stc i j)) (A := (fun q : Nat => s.heap.size ≤ q)) ((by decide +kernel : ∀ i, i < 3 → (stV i).length < 2 ^ 31) i hi) (hs _ (gz_ar i hi)) (va_eqt (hs _ (gz_le i hi))) (fun j hj => va_eqt (hs _ (gz_el i hi j hj))) hA
      exact ⟨t, fun _ => ⟨va_Zref (hts _ (gz_lay i hi)) (hts _ gz_ini) ht hA, hT⟩⟩
    · exact ⟨0, fun h => absurd h hi⟩
  exact ⟨fun i => Classical.choose (h4 i), fun i => Classical.choose_spec (h4 i)⟩
set_option maxRecDepth 100000 in
theorem start_K {p : Program} {s : State} {m : MethodId} {meth : Method} {c : Code} {b L : Nat} {xs : Nat → Int32} (C0 : lw_At p s m meth c b L xs) : ∃ (D : va_G) (cT : Nat → ClassId), KI D cT s := by
  obtain ⟨hx, hb, hr, hml, hown, hts, hX, hbl, hlocks, hgv⟩ := C0
  have hg : ∀ w ∈ wG, w.before #[Value.ref b] s = true := fun w hw => hts w (wG_in hw)
  obtain ⟨c0, i0, hK0⟩ := u_known (C := "WallShifts$Palace") (T := T_Palace) (N := 5) (n := 5) hg in_Palace (hg _ gi_Palace)
  obtain ⟨c1, i1, hK1⟩ := u_known (C := "WallShifts$Sheet") (T := T_Sheet) (N := 3) (n := 3) hg in_Sheet (hg _ gi_Sheet)
  obtain ⟨c2, i2, hK2⟩ := u_known (C := "WallShifts$Tape") (T := T_Tape) (N := 6) (n := 6) hg in_Tape (hg _ gi_Tape)
  obtain ⟨c3, i3, hK3⟩ := u_known (C := "WallShifts") (T := T_WallShifts) (N := 8) (n := 8) hg in_WallShifts (hg _ gi_WallShifts)
  obtain ⟨cI, kI, compI, fI, gI, hI⟩ := Cond.arrayClass_spec (hts _ ga_I)
  obtain ⟨cJ, kJ, compJ, fJ, gJ, hJ⟩ := Cond.arrayClass_spec (hts _ ga_J)
  obtain ⟨compA, cA, kA, -, gA, hA, fA⟩ := Cond.arrayOver_specA (hts _ ga_A)
  obtain ⟨compS, cS, kS, eS, -, gS, hS, fS⟩ := Cond.arrayOver_spec (hts _ ga_S)
  refine ⟨(fun k => if k = 0 then c0 else if k = 1 then c1 else if k = 2 then c2 else c3, fun k => if k = 0 then i0 else if k = 1 then i1 else if k = 2 then i2 else i3), fun k => if k = 0 then cI else if k = 1 then cJ else if k = 2 then cA else cS, ⟨fun k q hq => ?_, fun k q hq => ?_⟩, va_AO.of (hts _ ga_S), (show (Cond.arrayOver (.array .int)).before #[] s = true from hts _ ga_A), fun w hw => ?_⟩
  · match k, hq with
    | 0, hq => cases hq; exact hK0
    | 1, hq => cases hq; exact hK1
    | 2, hq => cases hq; exact hK2
    | 3, hq => cases hq; exact hK3
    | k + 4, hq => simp at hq
  · match k, hq with
    | 0, hq => cases hq; exact ⟨fun n z => ⟨fun k h => (by cases h), kI, gI, compI, hI⟩, fI⟩
    | 1, hq => cases hq; exact ⟨fun n z => ⟨fun k h => (by cases h), kJ, gJ, compJ, hJ⟩, fJ⟩
    | 2, hq => cases hq; exact ⟨fun n z => ⟨fun k h => (by cases h), kA, gA, compA, hA⟩, fA⟩
    | 3, hq => cases hq; exact ⟨fun n z => ⟨fun k h => (by cases h), kS, gS, compS, hS⟩, kS, compS, gS, hS, eS, fS⟩
    | k + 4, hq => simp at hq
  · have h := hts _ (gw_i w hw)
    simp only [wNi, List.mem_cons, List.not_mem_nil, or_false] at hw
    rcases hw with rfl | rfl | rfl <;> exact va_Nw.of rfl h
set_option maxRecDepth 100000 in
theorem start_nests {p : Program} {s : State} {m : MethodId} {meth : Method} {c : Code} {b L : Nat} {xs : Nat → Int32} (C0 : lw_At p s m meth c b L xs) : ∀ w ∈ wNests, va_Nw w s := by
  intro w hw
  have h := C0.2.2.2.2.2.1 _ (gw_n w hw)
  simp only [wNests, List.mem_cons, List.not_mem_nil, or_false] at hw
  rcases hw with rfl | rfl | rfl | rfl <;> exact va_Nw.of rfl h
