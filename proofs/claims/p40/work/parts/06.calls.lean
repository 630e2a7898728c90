/-! THE ROWS of calls, copies and ends. -/
abbrev rmO (fr lo fr' lo' n : Nat) : Prop := fr + 1 ≤ fr' ∧ 8 + (n + 11) + lo ≤ lo'
section CALLS
variable {p : Program} {l : Launch} {e : Env} {R : Room} {s : State} {m : MethodId} {args : Array Value} {below : List Frame} {meth : Method} {c : Code} {cells slots : Nat} {Q : State → Prop} {k : KK} {nL : Nat} {mem : Mem} {pc : Nat} {lv lv' : List (Nat × AV)} {st : List AV} {cc : ByteArray} {own : String}
/-- behind a call -/
theorem v_goes {H : Heap} {locs : List Loc} {ls : Array Slot} {st0 rest : List Value} {r : Option AV} {mem1 : Mem} {a : Array Value} (hr : va_Run p l e R s m args below meth c H locs cells slots 0 0 (F0 m pc ls st0) rest (RQc k r mem1 a) (kA k)) (hS : va_S (kA k) s.heap H locs)
    (kk : ∀ (H1 : Heap) (locs1 : List Loc), va_P (kD k) wcl (wl (kC k) (ka k) mem1) H1 → va_S (kA k) s.heap H1 locs1 → W p l e R s m args below meth c H1 locs1 cells slots Q (F0 m (pc + 3) ls ((r.map (cv k)).toList ++ rest))) : W p l e R s m args below meth c H locs cells slots Q (F0 m pc ls st0) := by
  intro T hT X
  obtain ⟨v, st₀, t, T', L, h0, X', hL, e1, e2, ⟨hv, hP1, hz, hk⟩, st⟩ := hr T hT X
  have hv' : v = r.map (cv k) := Outcome.returned.inj hv
  subst hv'
  rw [h0] at hz hk
  obtain ⟨t2, a1, b1⟩ := kk t.heap (locs ++ L) hP1 ⟨Nat.le_trans hS.1 hz, fun q h1 h2 => by rw [hk q (Nat.lt_of_lt_of_le h1 hS.1) h2]; exact hS.2.1 q h1 h2, fun q hq => by
      rcases List.mem_append.mp hq with h | h
      · exact hS.2.2 q h
      · exact hL q h⟩ T' e1 X'
  exact ⟨t2, st t2 a1, b1⟩
theorem blindK (as : List AV) : FrameBlind (RPc k as mem) := fun a U g mk q => by
  obtain ⟨q1, q2, q3⟩ := q
  exact ⟨q1, KF.same (u := U) (U := U.calling g mk a) rfl rfl q2, q3⟩
theorem preS_of (X : CX p s m args meth c k cc nL own) {H : Heap} {locs : List Loc} (hP : va_P (kD k) wcl (wl (kC k) (ka k) mem) H) (hS : va_S (kA k) s.heap H locs) (as : List AV) : PreS s H (RPc k as mem) (as.map (cv k)) :=
  ⟨blindK as, fun U hU hW => ⟨rfl, X.2.2.2.2.2.1.go hW hU hS, by rw [hU]; exact hP⟩⟩
theorem cat_of (k : KK) (st : List AV) (h : slA st ≤ 8) : ((st.map (cv k)).map fun v => v.category).sum ≤ 8 := by
  rw [List.map_map]
  have : (fun v => v.category) ∘ cv k = acat := funext fun v => cv_cat k v
  rw [this]
  exact h
/-- the words of a call of an own class's method on an object -/
def okV (own : String) (idx : Nat) (y : MethodName) (b : ByteArray) (n : Nat) (ret : Option FieldType) (na : Nat) : Prop :=
  (∀ w ∈ wsV own idx y.cls y (wM y b n ret), w ∈ wG) ∧ y.cls ≠ "java/lang/invoke/MethodHandle" ∧ y.cls ≠ "java/lang/invoke/VarHandle" ∧ (parseMethodDescriptor y.desc).map (fun d => d.parameters.length) = some na
def okS (own : String) (idx : Nat) (y : MethodName) (b : ByteArray) (n : Nat) (ret : Option FieldType) (na : Nat) : Prop :=
  (∀ w ∈ va_wsS own idx y (wM y b n ret), w ∈ wG) ∧ y.cls ≠ "java/lang/invoke/MethodHandle" ∧ y.cls ≠ "java/lang/invoke/VarHandle" ∧ (parseMethodDescriptor y.desc).map (fun d => d.parameters.length) = some na
def okN (own : String) (idx : Nat) (y : MethodName) (b : ByteArray) (n : Nat) (ret : Option FieldType) (na : Nat) : Prop :=
  (∀ w ∈ [Cond.static y, .initialized y.cls] ++ wM y b n ret, w ∈ wG) ∧ Cond.methodLinkNest own idx y "WallShifts" ∈ wNests ∧ y.cls ≠ "java/lang/invoke/MethodHandle" ∧ y.cls ≠ "java/lang/invoke/VarHandle" ∧ (parseMethodDescriptor y.desc).map (fun d => d.parameters.length) = some na
theorem okV_of {own : String} {idx : Nat} {y : MethodName} {b : ByteArray} {n : Nat} {ret : Option FieldType} {na : Nat} (h1 : Cond.methodLink own idx y ∈ wG) (h2 : Cond.instanceMethod y ∈ wG) (h3 : Cond.selects y.cls y y ∈ wG) (h4 : Cond.initialized y.cls ∈ wG) (h5 : Cond.code y b n ret ∈ wG)
    (h6 : y.cls ≠ "java/lang/invoke/MethodHandle" ∧ y.cls ≠ "java/lang/invoke/VarHandle" ∧ (parseMethodDescriptor y.desc).map (fun d => d.parameters.length) = some na) : okV own idx y b n ret na := by
  refine ⟨fun w hw => ?_, h6⟩
  unfold wsV at hw
  simp only [List.mem_append, List.mem_cons, List.not_mem_nil, or_false] at hw
  rcases hw with (rfl | rfl | rfl | rfl) | rfl | hw
  · exact h1
  · exact h2
  · exact h3
  · exact h4
  · exact h5
  · exact hw
theorem okS_of {own : String} {idx : Nat} {y : MethodName} {b : ByteArray} {n : Nat} {ret : Option FieldType} {na : Nat} (h1 : Cond.methodLink own idx y ∈ wG) (h2 : Cond.static y ∈ wG) (h4 : Cond.initialized y.cls ∈ wG) (h5 : Cond.code y b n ret ∈ wG)
    (h6 : y.cls ≠ "java/lang/invoke/MethodHandle" ∧ y.cls ≠ "java/lang/invoke/VarHandle" ∧ (parseMethodDescriptor y.desc).map (fun d => d.parameters.length) = some na) : okS own idx y b n ret na := by
  refine ⟨fun w hw => ?_, h6⟩
  unfold va_wsS at hw
  simp only [List.mem_append, List.mem_cons, List.not_mem_nil, or_false] at hw
  rcases hw with (rfl | rfl | rfl) | rfl | hw
  · exact h1
  · exact h2
  · exact h4
  · exact h5
  · exact hw
theorem okN_of {own : String} {idx : Nat} {y : MethodName} {b : ByteArray} {n : Nat} {ret : Option FieldType} {na : Nat} (h1 : Cond.methodLinkNest own idx y "WallShifts" ∈ wNests) (h2 : Cond.static y ∈ wG) (h4 : Cond.initialized y.cls ∈ wG) (h5 : Cond.code y b n ret ∈ wG)
    (h6 : y.cls ≠ "java/lang/invoke/MethodHandle" ∧ y.cls ≠ "java/lang/invoke/VarHandle" ∧ (parseMethodDescriptor y.desc).map (fun d => d.parameters.length) = some na) : okN own idx y b n ret na := by
  refine ⟨fun w hw => ?_, h1, h6⟩
  simp only [List.mem_append, List.mem_cons, List.not_mem_nil, or_false] at hw
  rcases hw with (rfl | rfl) | rfl | hw
  · exact h2
  · exact h4
  · exact h5
  · exact hw
/-- a call on an object of a class of ours -/
theorem v_callV (X : CX p s m args meth c k cc nL own) {idx na n fr lo : Nat} {y : MethodName} {b : ByteArray} {ret : Option FieldType} {t i ci : Nat} {T : u_T} {N : Nat} {fs : List Value} (as : List AV) (st : List AV) {r : Option AV} {mem1 : Mem} (ok : okV own idx y b n ret na) (hM : RT y b n ret (rmM fr lo) (aR t i :: as) mem r mem1)
    (hn : as.length = na) (hst : slA st ≤ 8) (hR : rmO fr lo R.frames R.locals n) (hf : cells ≤ R.cells ∧ slots ≤ R.slots) (ht : t < 23) (hi : i < nT t) (hc : ce (kC k) (ka k) mem t i = .inr (ci, fs)) (hcl : wcl[ci]? = some (y.cls, T, N)) (hd : decode cc pc = .ok (.invokevirtual idx, 3))
    (kk : V p l e R s m args below meth c cells slots Q k nL mem1 (pc + 3) lv (r.toList ++ st)) : V p l e R s m args below meth c cells slots Q k nL mem pc lv (as.reverse ++ aR t i :: st) := by
  intro H locs ls hP hS hl
  have hw := wl_at (cT := kC k) (ad := ka k) (m := mem) ht hi
  rw [hc] at hw
  have pre := preS_of X hP hS (aR t i :: as)
  refine v_goes (r := r) (va_runV (As := as.map (cv k)) (rest := st.map (cv k)) (b := ka k (oT t + i)) ⟨X.1, X.2.1, X.2.2.1, X.2.2.2.1, X.2.2.2.2.1⟩ (hM l k) (cwV na X.2.2.2.2.1 (wG_all ok.1) rfl rfl rfl ⟨rfl, ok.2⟩ ⟨hR.1, hR.2⟩) ⟨pre.1, va_recv X.2.2.2.2.2.1.1 hP hcl hw, pre.2⟩ rfl (by rw [List.length_map, hn]) hl.1 ?_ (lv_room (ls := ls) (cat_of k st hst)) hd hf) hS (fun H1 locs1 hP1 hS1 => ?_)
  · show List.map (cv k) (as.reverse ++ aR t i :: st) = _
    rw [List.map_append, List.map_reverse]
    rfl
  · have := kk H1 locs1 ls hP1 hS1 hl
    rw [List.map_append] at this
    cases r <;> exact this
theorem v_callS (X : CX p s m args meth c k cc nL own) {idx na n fr lo : Nat} {y : MethodName} {b : ByteArray} {ret : Option FieldType} (as : List AV) (st : List AV) {r : Option AV} {mem1 : Mem} (ok : okS own idx y b n ret na) (hM : RT y b n ret (rmM fr lo) as mem r mem1)
    (hn : as.length = na) (hst : slA st ≤ 8) (hR : rmO fr lo R.frames R.locals n) (hf : cells ≤ R.cells ∧ slots ≤ R.slots) (hd : decode cc pc = .ok (.invokestatic idx, 3))
    (kk : V p l e R s m args below meth c cells slots Q k nL mem1 (pc + 3) lv (r.toList ++ st)) : V p l e R s m args below meth c cells slots Q k nL mem pc lv (as.reverse ++ st) := by
  intro H locs ls hP hS hl
  have pre := preS_of X hP hS as
  refine v_goes (r := r) (va_runS (As := as.map (cv k)) (rest := st.map (cv k)) ⟨X.1, X.2.1, X.2.2.1, X.2.2.2.1, X.2.2.2.2.1⟩ (hM l k) (va_cwS na X.2.2.2.2.1 (wG_all ok.1) rfl rfl rfl ok.2 ⟨hR.1, hR.2⟩) pre rfl (by rw [List.length_map, hn]) hl.1 ?_ (lv_room (ls := ls) (cat_of k st hst)) hd hf) hS (fun H1 locs1 hP1 hS1 => ?_)
  · show List.map (cv k) (as.reverse ++ st) = _
    rw [List.map_append, List.map_reverse]
  · have := kk H1 locs1 ls hP1 hS1 hl
    rw [List.map_append] at this
    cases r <;> exact this
/-- of a method that reads the script -/
theorem v_callSx (X : CX p s m args meth c k cc nL own) {idx na n fr lo : Nat} {y : MethodName} {b : ByteArray} {ret : Option FieldType} (as : List AV) (st : List AV) {r : Option AV} {mem1 : Mem} (ok : okS own idx y b n ret na) (hM : RTx (kL k) (kx k) y b n ret (rmM fr lo) as mem r mem1)
    (hn : as.length = na) (hst : slA st ≤ 8) (hR : rmO fr lo R.frames R.locals n) (hf : cells ≤ R.cells ∧ slots ≤ R.slots) (hd : decode cc pc = .ok (.invokestatic idx, 3))
    (kk : V p l e R s m args below meth c cells slots Q k nL mem1 (pc + 3) lv (r.toList ++ st)) : V p l e R s m args below meth c cells slots Q k nL mem pc lv (as.reverse ++ st) := by
  intro H locs ls hP hS hl
  have pre := preS_of X hP hS as
  refine v_goes (r := r) (va_runS (As := as.map (cv k)) (rest := st.map (cv k)) ⟨X.1, X.2.1, X.2.2.1, X.2.2.2.1, X.2.2.2.2.1⟩ (hM l k rfl rfl) (va_cwS na X.2.2.2.2.1 (wG_all ok.1) rfl rfl rfl ok.2 ⟨hR.1, hR.2⟩) pre rfl (by rw [List.length_map, hn]) hl.1 ?_ (lv_room (ls := ls) (cat_of k st hst)) hd hf) hS (fun H1 locs1 hP1 hS1 => ?_)
  · show List.map (cv k) (as.reverse ++ st) = _
    rw [List.map_append, List.map_reverse]
  · have := kk H1 locs1 ls hP1 hS1 hl
    rw [List.map_append] at this
    cases r <;> exact this
theorem v_callN (X : CX p s m args meth c k cc nL own) {idx na n fr lo : Nat} {y : MethodName} {b : ByteArray} {ret : Option FieldType} (as : List AV) (st : List AV) {r : Option AV} {mem1 : Mem} (ok : okN own idx y b n ret na) (hM : RT y b n ret (rmM fr lo) as mem r mem1)
    (hn : as.length = na) (hst : slA st ≤ 8) (hR : rmO fr lo R.frames R.locals n) (hf : cells ≤ R.cells ∧ slots ≤ R.slots) (hd : decode cc pc = .ok (.invokestatic idx, 3))
    (kk : V p l e R s m args below meth c cells slots Q k nL mem1 (pc + 3) lv (r.toList ++ st)) : V p l e R s m args below meth c cells slots Q k nL mem pc lv (as.reverse ++ st) := by
  intro H locs ls hP hS hl
  have pre := preS_of X hP hS as
  have hg : ∀ w ∈ wM y b n ret, w ∈ wG := fun w hw => ok.1 w (List.mem_append_right _ hw)
  refine v_goes (r := r) (va_runSN (host := "WallShifts") (As := as.map (cv k)) (rest := st.map (cv k)) ⟨X.1, X.2.1, X.2.2.1, X.2.2.2.1, X.2.2.2.2.1⟩ (hM l k) ⟨va_cnB na X.2.2.2.2.1 (wG_all hg) rfl rfl rfl (X.2.2.2.2.2.1.2.2.2.1 _ ok.2.1) (X.2.2.2.2.1 _ (ok.1 _ (by simp))) ok.2.2 ⟨hR.1, hR.2⟩, X.2.2.2.2.1 _ (ok.1 _ (by simp)), trivial⟩ pre rfl (by rw [List.length_map, hn]) hl.1 ?_ (lv_room (ls := ls) (cat_of k st hst)) hd hf) hS (fun H1 locs1 hP1 hS1 => ?_)
  · show List.map (cv k) (as.reverse ++ st) = _
    rw [List.map_append, List.map_reverse]
  · have := kk H1 locs1 ls hP1 hS1 hl
    rw [List.map_append] at this
    cases r <;> exact this
/-- System.arraycopy between rows of ints, of longs -/
def cp (x y n : Int32) (a b : Nat) : Prop := x < 0 ∨ y < 0 ∨ n < 0 ∨ a < x.toNatClampNeg + n.toNatClampNeg ∨ b < y.toNatClampNeg + n.toNatClampNeg
def cpy {α : Type} (x y n : Int32) (a b : Nat) (A : Option α) : Option α := if x < 0 ∨ y < 0 ∨ n < 0 ∨ a < x.toNatClampNeg + n.toNatClampNeg ∨ b < y.toNatClampNeg + n.toNatClampNeg then none else A
theorem cpy_some {α : Type} {x y n : Int32} {a b : Nat} {A : Option α} {o : α} (h : cpy x y n a b A = some o) : ¬ x < 0 ∧ ¬ y < 0 ∧ ¬ n < 0 ∧ x.toNatClampNeg + n.toNatClampNeg ≤ a ∧ y.toNatClampNeg + n.toNatClampNeg ≤ b ∧ A = some o := by
  unfold cpy at h
  by_cases c : x < 0 ∨ y < 0 ∨ n < 0 ∨ a < x.toNatClampNeg + n.toNatClampNeg ∨ b < y.toNatClampNeg + n.toNatClampNeg
  · rw [if_pos c] at h
    cases h
  · rw [if_neg c] at h
    simp only [not_or, Nat.not_lt] at c
    exact ⟨c.1, c.2.1, c.2.2.1, c.2.2.2.1, c.2.2.2.2, h⟩
def okC (own : String) (idx : Nat) : Prop := Cond.methodLink own idx arraycopyName ∈ wG ∧ Cond.native arraycopyName ∈ wG ∧ Cond.static arraycopyName ∈ wG ∧ Cond.initialized "java/lang/System" ∈ wG
theorem v_copyI (X : CX p s m args meth c k cc nL own) {idx t0 i0 t1 i1 n0 n1 : Nat} {x y z : Int32} {α : Type} {A : Option α} {o : α} (h : cpy x y z n0 n1 A = some o) (ok : okC own idx) (h0 : t0 < 23) (hi0 : i0 < nT t0) (h1 : t1 < 23) (hi1 : i1 < nT t1) (hc0 : ce (kC k) (ka k) mem t0 i0 = .inl (kC k 0, n0, .inl (gI mem t0 i0))) (hc1 : ∀ mem, ce (kC k) (ka k) mem t1 i1 = .inl (kC k 0, n1, .inl (gI mem t1 i1))) (st : List AV) (hst : slA st + (nativeFrameWords "java/lang/System" "arraycopy" 5 + 11) ≤ R.locals) (hfr : 1 ≤ R.frames) (hd : decode cc pc = .ok (.invokestatic idx, 3))
    (kk : A = some o → V p l e R s m args below meth c cells slots Q k nL (sIr mem t1 i1 (va_cpy (gI mem t0 i0) (gI mem t1 i1) x.toNatClampNeg y.toNatClampNeg z.toNatClampNeg)) (pc + 3) lv st) : V p l e R s m args below meth c cells slots Q k nL mem pc lv (aI z :: aI y :: aR t1 i1 :: aI x :: aR t0 i0 :: st) := by
  intro H locs ls hP hS hl
  obtain ⟨g1, g2, g3, g4, g5, g6⟩ := cpy_some h
  have hw0 := wl_at (cT := kC k) (ad := ka k) (m := mem) h0 hi0
  rw [hc0] at hw0
  have hw1 := wl_at (cT := kC k) (ad := ka k) (m := mem) h1 hi1
  rw [hc1] at hw1
  have hcat : ((st.map (cv k)).map fun v => v.category).sum = slA st := by
    rw [List.map_map]
    have : (fun v => v.category) ∘ cv k = acat := funext fun v => cv_cat k v
    rw [this]
    rfl
  refine va_copyi (D := kD k) X.1 X.2.1 (X.2.2.1.trans hl.1.symm) X.2.2.2.1 (X.2.2.2.2.1 _ ok.1) (X.2.2.2.2.1 _ ok.2.1) (X.2.2.2.2.1 _ ok.2.2.1) (X.2.2.2.2.1 _ ok.2.2.2) X.2.2.2.2.2.1.1 hP (X.2.2.2.2.2.1.2.1 mem) hS (oT t0 + i0) (oT t1 + i1) 0 0 hw0 hw1 rfl rfl rfl g1 g2 g3 g4 g5 (fun _ _ => rfl) hfr (by rw [hcat]; exact hst) hd (fun H1 locs1 hP1 _ hS1 => ?_)
  have hc' := hc1 (sIr mem t1 i1 (va_cpy (gI mem t0 i0) (gI mem t1 i1) x.toNatClampNeg y.toNatClampNeg z.toNatClampNeg))
  rw [rowIr_eq] at hc'
  rw [← hc', wl_set h1 hi1 rowIr_ne] at hP1
  exact kk g6 H1 locs1 ls hP1 hS1 hl
theorem v_copyL (X : CX p s m args meth c k cc nL own) {idx t0 i0 t1 i1 n0 n1 : Nat} {x y z : Int32} {α : Type} {A : Option α} {o : α} (h : cpy x y z n0 n1 A = some o) (ok : okC own idx) (h0 : t0 < 23) (hi0 : i0 < nT t0) (h1 : t1 < 23) (hi1 : i1 < nT t1) (hc0 : ce (kC k) (ka k) mem t0 i0 = .inl (kC k 1, n0, .inr (.inl (gL mem t0 i0)))) (hc1 : ∀ mem, ce (kC k) (ka k) mem t1 i1 = .inl (kC k 1, n1, .inr (.inl (gL mem t1 i1)))) (st : List AV) (hst : slA st + (nativeFrameWords "java/lang/System" "arraycopy" 5 + 11) ≤ R.locals) (hfr : 1 ≤ R.frames) (hd : decode cc pc = .ok (.invokestatic idx, 3))
    (kk : A = some o → V p l e R s m args below meth c cells slots Q k nL (sLr mem t1 i1 (va_cpy (gL mem t0 i0) (gL mem t1 i1) x.toNatClampNeg y.toNatClampNeg z.toNatClampNeg)) (pc + 3) lv st) : V p l e R s m args below meth c cells slots Q k nL mem pc lv (aI z :: aI y :: aR t1 i1 :: aI x :: aR t0 i0 :: st) := by
  intro H locs ls hP hS hl
  obtain ⟨g1, g2, g3, g4, g5, g6⟩ := cpy_some h
  have hw0 := wl_at (cT := kC k) (ad := ka k) (m := mem) h0 hi0
  rw [hc0] at hw0
  have hw1 := wl_at (cT := kC k) (ad := ka k) (m := mem) h1 hi1
  rw [hc1] at hw1
  have hcat : ((st.map (cv k)).map fun v => v.category).sum = slA st := by
    rw [List.map_map]
    have : (fun v => v.category) ∘ cv k = acat := funext fun v => cv_cat k v
    rw [this]
    rfl
  refine va_copyl (D := kD k) X.1 X.2.1 (X.2.2.1.trans hl.1.symm) X.2.2.2.1 (X.2.2.2.2.1 _ ok.1) (X.2.2.2.2.1 _ ok.2.1) (X.2.2.2.2.1 _ ok.2.2.1) (X.2.2.2.2.1 _ ok.2.2.2) X.2.2.2.2.2.1.1 hP (X.2.2.2.2.2.1.2.1 mem) hS (oT t0 + i0) (oT t1 + i1) 1 1 hw0 hw1 rfl rfl rfl g1 g2 g3 g4 g5 (fun _ _ => rfl) hfr (by rw [hcat]; exact hst) hd (fun H1 locs1 hP1 _ hS1 => ?_)
  have hc' := hc1 (sLr mem t1 i1 (va_cpy (gL mem t0 i0) (gL mem t1 i1) x.toNatClampNeg y.toNatClampNeg z.toNatClampNeg))
  rw [rowLr_eq] at hc'
  rw [← hc', wl_set h1 hi1 rowLr_ne] at hP1
  exact kk g6 H1 locs1 ls hP1 hS1 hl
/-- ends -/
theorem v_iret (X : CX p s m args meth c k cc nL own) {x r : Int32} {mem' : Mem} (h : some (x, mem) = some (r, mem')) (hr : meth.sig.returnType = some .int) (hd : decode cc pc = .ok (.ireturn, 1)) : V p l e R s m args below meth c 0 0 (MQ below (RQc k (some (aI r)) mem') args s 0 0 (kA k)) k nL mem pc lv [aI x] := by
  obtain ⟨rfl, rfl⟩ := Prod.mk.inj (Option.some.inj h)
  intro H locs ls hP hS hl
  exact W.iret (v := x) X.1 X.2.1 hr (fun t ht hW => ⟨rfl, by rw [ht]; exact hP, hS.F ht⟩) hS.2.2 hd X.2.2.2.2.2.2
theorem v_zret (X : CX p s m args meth c k cc nL own) {ty : FieldType} {x r : Int32} {mem' : Mem} (h : some (x, mem) = some (r, mem')) (hr : meth.sig.returnType = some ty) (hn : narrow ty (.int x) = .int x) (hd : decode cc pc = .ok (.ireturn, 1)) : V p l e R s m args below meth c 0 0 (MQ below (RQc k (some (aI r)) mem') args s 0 0 (kA k)) k nL mem pc lv [aI x] := by
  obtain ⟨rfl, rfl⟩ := Prod.mk.inj (Option.some.inj h)
  intro H locs ls hP hS hl
  exact W.zret (v := x) X.1 X.2.1 hr hn (fun t ht hW => ⟨rfl, by rw [ht]; exact hP, hS.F ht⟩) hS.2.2 hd X.2.2.2.2.2.2
theorem v_lret (X : CX p s m args meth c k cc nL own) {x r : Int64} {mem' : Mem} (h : some (x, mem) = some (r, mem')) (hr : meth.sig.returnType = some .long) (hd : decode cc pc = .ok (.lreturn, 1)) : V p l e R s m args below meth c 0 0 (MQ below (RQc k (some (aL r)) mem') args s 0 0 (kA k)) k nL mem pc lv [aL x] := by
  obtain ⟨rfl, rfl⟩ := Prod.mk.inj (Option.some.inj h)
  intro H locs ls hP hS hl
  exact W.lret (v := x) X.1 X.2.1 hr (fun t ht hW => ⟨rfl, by rw [ht]; exact hP, hS.F ht⟩) hS.2.2 hd X.2.2.2.2.2.2
theorem v_vret (X : CX p s m args meth c k cc nL own) {r : Unit} {mem' : Mem} (h : some ((), mem) = some (r, mem')) (hr : meth.sig.returnType = none) (hd : decode cc pc = .ok (.return_, 1)) : V p l e R s m args below meth c 0 0 (MQ below (RQc k none mem') args s 0 0 (kA k)) k nL mem pc lv [] := by
  obtain ⟨-, rfl⟩ := Prod.mk.inj (Option.some.inj h)
  intro H locs ls hP hS hl
  exact W.vret X.1 X.2.1 hr (fun t ht hW => ⟨rfl, by rw [ht]; exact hP, hS.F ht⟩) hS.2.2 hd X.2.2.2.2.2.2
theorem v_aret (X : CX p s m args meth c k cc nL own) {C : String} {t x r : Nat} {mem' : Mem} (h : some (x, mem) = some (r, mem')) (hr : meth.sig.returnType = some (.object C)) (hd : decode cc pc = .ok (.areturn, 1)) : V p l e R s m args below meth c 0 0 (MQ below (RQc k (some (aR t r)) mem') args s 0 0 (kA k)) k nL mem pc lv [aR t x] := by
  obtain ⟨rfl, rfl⟩ := Prod.mk.inj (Option.some.inj h)
  intro H locs ls hP hS hl
  exact W.aret (v := .ref (ka k (oT t + x))) (rt := .object C) X.1 X.2.1 hr (Or.inl ⟨C, rfl⟩) (Or.inr ⟨_, rfl⟩) (fun t ht hW => ⟨rfl, by rw [ht]; exact hP, hS.F ht⟩) hS.2.2 hd X.2.2.2.2.2.2
end CALLS
