/-! CONSTRUCTORS: new rows of numbers; new int[10][6]. (C_multi after the printed names' va_mna.) -/
theorem D_new {A : Nat → Prop} {X L : va_W} {D : va_G} {cl : List vw_C} {H : Heap} (hD : va_D A X) (hP : va_P D cl X H) (hL : ∀ (i : Nat) (q : Nat × va_E), L[i]? = some q → q.1 = H.size + i) (hA : ∀ q : Nat, H.size ≤ q → A q) : va_D A (X ++ L) := by
  refine va_D.app hD ⟨fun i j x y hi hj hxy => ?_, fun k x hx => ?_⟩ (fun i j x y hi hj hxy => ?_)
  · have h1 := hL i x hi
    have h2 := hL j y hj
    omega
  · have h1 := hL k x hx
    exact hA _ (by omega)
  · have h1 := (hP i x hi).lt
    have h2 := hL j y hj
    omega
/-- the cells that new int[10][6] makes -/
def rowsW (cT : Nat → ClassId) (q : Nat) (r : Nat → Nat) : va_W := (q, .inl (cT 2, 10, .inr (.inr (.inr (.inr (fun i => some (r i))))))) :: (List.range 10).map (fun i => (r i, .inl (cT 0, 6, .inl (fun _ => 0))))
theorem arrV_eq {c : ClassId} {n : Nat} {f g : Nat → Value} (h : ∀ j, j < n → f j = g j) : arrV c n f = arrV c n g := by
  unfold arrV
  congr 1
  apply Array.ext
  · simp
  · intro i h1 h2
    simp only [Array.getElem_ofFn]
    exact h i (by simpa using h1)
theorem outer_eq (c : ClassId) (N h0 : Nat) : ∀ i : Nat, Jvm.Free.Multi.outerC c N h0 i = arrV c N (fun j => va_rf (if j < i then some (h0 + 1 + j) else none))
  | 0 => by
    show ({ cls := c, slots := Array.replicate N .null, vm := .none } : Cell) = _
    rw [arrV_new]
    refine congrArg (arrV c N) (funext fun j => ?_)
    simp [va_rf]
  | i + 1 => by
    show (Jvm.Free.Multi.outerC c N h0 i).setSlot i (.ref (h0 + 1 + i)) = _
    rw [outer_eq c N h0 i, arrV_store]
    refine congrArg (arrV c N) (funext fun j => ?_)
    by_cases e : j = i
    · subst e
      simp [updV, va_rf]
    · by_cases h : j < i
      · simp [updV, e, h, Nat.lt_succ_of_lt h]
      · simp [updV, e, h, show ¬ j < i + 1 by omega]
abbrev tysC (cT : Nat → ClassId) : List (ClassId × FieldType) := [(cT 0, .int), (cT 1, .long), (cT 2, .array .int), (cT 3, .object "WallShifts$Sheet")]
section CONS
variable {p : Program} {l : Launch} {e : Env} {R : Room} {s : State} {m : MethodId} {args : Array Value} {below : List Frame} {meth : Method} {c : Code} {H : Heap} {locs : List Loc} {cells slots : Nat} {Q : State → Prop}
variable {cc : ByteArray} {pc : Nat} {ls : Array Slot} {rest : List Value} {D : va_G} {cl : List vw_C} {A : Nat → Prop} {ws : va_W} {H0 : Heap} {cT : Nat → ClassId}
theorem C_multi {X : va_W} (hexec : p.tables.exec = Jvm.exec) (hb : c.code = cc) {own : String} {index : Nat} (hown : s.vm.findClass own = some m.cls) (hclink : (Cond.classLink own index ("[" ++ (FieldType.array .int).toString)).before args s = true) (hover : (Cond.arrayOver (.array .int)).before args s = true) (harr : (Cond.arrayClass .int).before args s = true)
    (hK : va_K D cl (tysC cT) s) (hP : va_P D cl X H) (hD : va_D A X) (hS : va_S A H0 H locs) (hA : ∀ q, H0.size ≤ q → A q) (hcells : cells + 11 ≤ R.cells) (hslots : slots + 70 ≤ R.slots) (hdg : decode cc pc = .ok (.multianewarray index 2, 4))
    (kk : ∀ (q : Nat) (r : Nat → Nat) (H1 : Heap), va_P D cl (X ++ rowsW cT q r) H1 → va_D A (X ++ rowsW cT q r) → va_S A H0 H1 locs → W p l e R s m args below meth c H1 locs (cells + 11) (slots + 70) Q (F0 m (pc + 4) ls (.ref q :: rest))) : W p l e R s m args below meth c H locs cells slots Q (F0 m pc ls (.int 6 :: .int 10 :: rest)) := by
  intro T hT Xs
  have t10 : (10 : Int32).toNatClampNeg = 10 := by decide
  have t6 : (6 : Int32).toNatClampNeg = 6 := by decide
  obtain ⟨vm₁, cA, comp, -, fA, fC, -, -, X', step⟩ := Xs.multianewarray2F (n := 10) (k := 6) hexec hown hclink hover harr (g := F0 m pc ls (.int 6 :: .int 10 :: rest)) rfl (by rw [hb]; exact hdg) rfl (by decide) (by decide) (by rw [t10]; decide) (by rw [t6]; decide) (by rw [t6]; decide) rfl rfl (by rw [t10]; exact hcells) (by rw [t10, t6]; exact hslots)
  have ec0 : cT 0 = comp := Option.some.inj (((hK.2 0 (cT 0, .int) rfl).2 : s.vm.findClass _ = _).symm.trans fC)
  have ec2 : cT 2 = cA := Option.some.inj (((hK.2 2 (cT 2, .array .int) rfl).2 : s.vm.findClass _ = _).symm.trans fA)
  rw [t10, t6] at X' step
  rw [← ec0, ← ec2] at X' step
  generalize hF : Jvm.Free.Multi.fill (T.setVm vm₁) (cT 2) (cT 0) 10 6 (defaultValue .int) 10 = F at X' step
  have hTh : (T.setVm vm₁).heap = H := hT
  obtain ⟨f1, f2, -, -⟩ := Jvm.Free.Multi.fill_facts (T.setVm vm₁) (cT 2) (cT 0) 10 6 (defaultValue .int) 10
  rw [hF, hTh] at f1 f2
  have hold : ∀ x : Nat, x < H.size → F.heap[x]? = H[x]? := fun x hx => by
    have := Jvm.Free.Multi.fill_old (T.setVm vm₁) (cT 2) (cT 0) 10 6 (defaultValue .int) (a := x) (by rw [hTh]; exact hx) 10
    rw [hF, hTh] at this
    exact this
  have hrow : ∀ j : Nat, j < 10 → F.heap[H.size + 1 + j]? = some (vp_cell (cT 0) (6, .inl (fun _ => 0))) := fun j hj => by
    have := Jvm.Free.Multi.fill_inner (T.setVm vm₁) (cT 2) (cT 0) 10 6 (defaultValue .int) 10 j hj
    rw [hF, hTh] at this
    rw [this, vp_cell_i, ← arrV_new]
    rfl
  have hout : F.heap[H.size]? = some (vp_cell (cT 2) (10, .inr (.inr (.inr (.inr (fun i => some (H.size + 1 + i))))))) := by
    rw [f2, vp_cell_q, outer_eq]
    exact congrArg some (arrV_eq (fun j hj => by rw [if_pos hj]))
  have hL : ∀ (i : Nat) (q : Nat × va_E), (rowsW cT H.size (fun i => H.size + 1 + i))[i]? = some q → q.1 = H.size + i := fun i q hq => by
    cases i with
    | zero =>
      cases hq
      rfl
    | succ i =>
      have hq' : ((List.range 10).map (fun i => ((H.size + 1 + i, .inl (cT 0, 6, .inl (fun _ => 0))) : Nat × va_E)))[i]? = some q := hq
      rw [List.getElem?_map] at hq'
      by_cases h9 : i < 10
      · rw [List.getElem?_range h9] at hq'
        cases hq'
        show H.size + 1 + i = H.size + (i + 1)
        omega
      · rw [List.getElem?_eq_none (by rw [List.length_range]; omega)] at hq'
        cases hq'
  have hP0 : va_P D cl X F.heap := hP.kept (fun k9 x hx => hold x.1 ((hP k9 x hx).lt))
  have hP1 : va_P D cl (X ++ rowsW cT H.size (fun i => H.size + 1 + i)) F.heap := hP0.app (fun i q hq => by
    cases i with
    | zero =>
      cases hq
      exact hout
    | succ i =>
      have hq' : ((List.range 10).map (fun i => ((H.size + 1 + i, .inl (cT 0, 6, .inl (fun _ => 0))) : Nat × va_E)))[i]? = some q := hq
      rw [List.getElem?_map] at hq'
      by_cases h9 : i < 10
      · rw [List.getElem?_range h9] at hq'
        cases hq'
        exact hrow i h9
      · rw [List.getElem?_eq_none (by rw [List.length_range]; omega)] at hq'
        cases hq')
  have hD1 := D_new hD hP hL (fun q hq => hA q (Nat.le_trans hS.1 hq))
  obtain ⟨t, a1, b1⟩ := kk H.size (fun i => H.size + 1 + i) F.heap hP1 hD1 ⟨by rw [f1]; have := hS.1; omega, fun x h1 h2 => (hold x (Nat.lt_of_lt_of_le h1 hS.1)).trans (hS.2.1 x h1 h2), hS.2.2⟩ F rfl X'
  refine ⟨t, step t ?_, b1⟩
  have e : T.heap.size = H.size := by rw [hT]
  rw [e]
  exact a1
theorem C_newI {n : Nat} (hexec : p.tables.exec = Jvm.exec) (hb : c.code = cc) (harr : (Cond.arrayClass .int).before args s = true) (hK : va_K D cl (tysC cT) s) (hP : va_P D cl ws H) (hD : va_D A ws) (hS : va_S A H0 H locs) (hA : ∀ q, H0.size ≤ q → A q) (hn : n < 1000) (hcells : cells + 1 ≤ R.cells) (hslots : slots + n ≤ R.slots) (hdg : decode cc pc = .ok (.newarray .int, 2))
    (kk : ∀ (q : Nat) (H1 : Heap), va_P D cl (ws ++ [(q, .inl (cT 0, n, .inl (fun _ => 0)))]) H1 → va_D A (ws ++ [(q, .inl (cT 0, n, .inl (fun _ => 0)))]) → va_S A H0 H1 locs → W p l e R s m args below meth c H1 locs (cells + 1) (slots + n) Q (F0 m (pc + 2) ls (.ref q :: rest))) : W p l e R s m args below meth c H locs cells slots Q (F0 m pc ls (.int (nI n) :: rest)) := by
  refine va_newa (atype := .int) (N' := n) (a0 := (n, .inl (fun _ => 0))) hexec hb harr rfl hK hP hD hS hA (fun cA => vp_cell_i cA n _) (nI_pos (by omega)) (nI_clamp (by omega)) (by show n * 4 ≤ _; omega) hcells hslots hdg (fun q cA H1 hK1 hP1 hD1 hS1 => ?_)
  have ec : cT 0 = cA := Option.some.inj (((hK.2 0 (cT 0, .int) rfl).2 : s.vm.findClass _ = _).symm.trans ((hK1.2 4 (cA, .int) rfl).2 : s.vm.findClass _ = _))
  subst ec
  exact kk q H1 hP1 hD1 hS1
theorem C_newJ {n : Nat} (hexec : p.tables.exec = Jvm.exec) (hb : c.code = cc) (harr : (Cond.arrayClass .long).before args s = true) (hK : va_K D cl (tysC cT) s) (hP : va_P D cl ws H) (hD : va_D A ws) (hS : va_S A H0 H locs) (hA : ∀ q, H0.size ≤ q → A q) (hn : n < 1000) (hcells : cells + 1 ≤ R.cells) (hslots : slots + n ≤ R.slots) (hdg : decode cc pc = .ok (.newarray .long, 2))
    (kk : ∀ (q : Nat) (H1 : Heap), va_P D cl (ws ++ [(q, .inl (cT 1, n, .inr (.inl (fun _ => 0))))]) H1 → va_D A (ws ++ [(q, .inl (cT 1, n, .inr (.inl (fun _ => 0))))]) → va_S A H0 H1 locs → W p l e R s m args below meth c H1 locs (cells + 1) (slots + n) Q (F0 m (pc + 2) ls (.ref q :: rest))) : W p l e R s m args below meth c H locs cells slots Q (F0 m pc ls (.int (nI n) :: rest)) := by
  refine va_newa (atype := .long) (N' := n) (a0 := (n, .inr (.inl (fun _ => 0)))) hexec hb harr rfl hK hP hD hS hA (fun cA => vp_cell_l cA n _) (nI_pos (by omega)) (nI_clamp (by omega)) (by show n * 8 ≤ _; omega) hcells hslots hdg (fun q cA H1 hK1 hP1 hD1 hS1 => ?_)
  have ec : cT 1 = cA := Option.some.inj (((hK.2 1 (cT 1, .long) rfl).2 : s.vm.findClass _ = _).symm.trans ((hK1.2 4 (cA, .long) rfl).2 : s.vm.findClass _ = _))
  subst ec
  exact kk q H1 hP1 hD1 hS1
end CONS
/-- what the constructors lean on, beside the tables' words -/
def aAOA (U : State) : Prop := (Cond.arrayOver (.array .int)).before #[] U = true
def wNi : List Cond := [.methodLinkNest "WallShifts" 9 ⟨"WallShifts$Palace", "<init>", "()V"⟩ "WallShifts", .methodLinkNest "WallShifts" 28 ⟨"WallShifts$Tape", "<init>", "()V"⟩ "WallShifts", .methodLinkNest "WallShifts" 46 ⟨"WallShifts$Sheet", "<init>", "()V"⟩ "WallShifts"]
def KI (D : va_G) (cT : Nat → ClassId) (U : State) : Prop := va_K D wcl (tysC cT) U ∧ va_AO "WallShifts$Sheet" U ∧ aAOA U ∧ ∀ w ∈ wNi, va_Nw w U
theorem KI.same {D : va_G} {cT : Nat → ClassId} {u U : State} (hv : u.vm = U.vm) (h : KI D cT u) : KI D cT U := by
  obtain ⟨h1, h2, h3, h4⟩ := h
  have hal : u.vm.Alike U.vm := by rw [hv]; exact Vm.Alike.refl _
  refine ⟨h1.moved hal, h2.moved hal, arrayOver_alikeB hal h3, fun w hw => ?_⟩
  have hz := h4 w hw
  simp only [wNi, List.mem_cons, List.not_mem_nil, or_false] at hw
  rcases hw with rfl | rfl | rfl <;> exact va_Nw.same rfl hv hz
theorem KI.warm {D : va_G} {cT : Nat → ClassId} {s U : State} (hW : s.WarmedH U.vm) (h : KI D cT s) : KI D cT U := by
  obtain ⟨h1, h2, h3, h4⟩ := h
  refine ⟨h1.moved hW.alike, h2.moved hW.alike, arrayOver_alikeB hW.alike h3, fun w hw => ?_⟩
  have hz := h4 w hw
  simp only [wNi, List.mem_cons, List.not_mem_nil, or_false] at hw
  rcases hw with rfl | rfl | rfl <;> exact va_Nw.warmM hW hz
