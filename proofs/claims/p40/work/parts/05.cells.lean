/-! THE ROWS of cells: fields, arrays, statics, literals, copies, calls, ends. -/
theorem vp_of_lt {x : Int32} {n : Nat} (h : vp_in x n) : x.toNatClampNeg < n := Nat.not_le.mp (fun q => h (Or.inr q))
section CELLS
variable {p : Program} {l : Launch} {e : Env} {R : Room} {s : State} {m : MethodId} {args : Array Value} {below : List Frame} {meth : Method} {c : Code} {cells slots : Nat} {Q : State → Prop} {k : KK} {nL : Nat} {mem : Mem} {pc : Nat} {lv lv' : List (Nat × AV)} {st : List AV} {cc : ByteArray} {own : String}
theorem v_get (X : CX p s m args meth c k cc nL own) {t i ci idx : Nat} {C ref n d : String} {T : u_T} {N : Nat} {fs : List Value} (j : Nat) {a : AV} (ht : t < 23) (hi : i < nT t) (hc : ce (kC k) (ka k) mem t i = .inr (ci, fs)) (hv : fs[j]? = some (cv k a)) (hcl : wcl[ci]? = some (C, T, N)) (hin : ∀ w ∈ u_ws C T N, w ∈ wG) (hj : j < N)
    (hq : Cond.fieldLink own idx ref n d ∈ wG) (hn : T j = (ref, n, d, (T j).2.2.2)) (hd : decode cc pc = .ok (.getfield idx, 3)) (kk : V p l e R s m args below meth c cells slots Q k nL mem (pc + 3) lv (a :: st)) : V p l e R s m args below meth c cells slots Q k nL mem pc lv (aR t i :: st) := by
  intro H locs ls hP hS hl
  have e1 : (T j).1 = ref := by rw [hn]
  have e2 : (T j).2.1 = n := by rw [hn]
  have e3 : (T j).2.2.1 = d := by rw [hn]
  have hw := wl_at (cT := kC k) (ad := ka k) (m := mem) ht hi
  rw [hc] at hw
  exact va_get (D := kD k) X.1 X.2.1 X.2.2.2.2.1 hin X.2.2.2.1 X.2.2.2.2.2.1.1 hP (oT t + i) hw hcl j hj (by rw [e2, e3]; exact X.2.2.2.2.1 _ hq) (fun x hx => by rw [e1] at hx; exact hx) hv hd (kk H locs ls hP hS hl)
theorem v_put (X : CX p s m args meth c k cc nL own) {t i ci idx : Nat} {C ref n d : String} {T : u_T} {ty : Nat → FieldType} {N : Nat} {fs : List Value} (j : Nat) {a : AV} {mem' : Mem} (ht : t < 23) (hi : i < nT t) (hc : ce (kC k) (ka k) mem t i = .inr (ci, fs)) (hc' : ce (kC k) (ka k) mem' t i = .inr (ci, fs.set j (cv k a))) (hm : ∀ t' i', ¬ (t' = t ∧ i' = i) → gI mem' t' i' = gI mem t' i' ∧ gL mem' t' i' = gL mem t' i') (hcl : wcl[ci]? = some (C, T, N)) (hin : ∀ w ∈ u_ws C T N, w ∈ wG) (hty : ∀ k, k < N → parseFieldDescriptor (T k).2.2.1 = some (ty k)) (hnm : ∀ a, a < N → ∀ b, b < N → a ≠ b → (T a).2.1 ≠ (T b).2.1) (hj : j < N)
    (hq : Cond.fieldLink own idx ref n d ∈ wG) (hn : T j = (ref, n, d, false)) (hna : narrow (ty j) (cv k a) = cv k a) (hfi : fits (ty j) (cv k a) = true) (hlf : j < fs.length) (hd : decode cc pc = .ok (.putfield idx, 3)) (kk : V p l e R s m args below meth c cells slots Q k nL mem' (pc + 3) lv st) : V p l e R s m args below meth c cells slots Q k nL mem pc lv (a :: aR t i :: st) := by
  intro H locs ls hP hS hl
  have e1 : (T j).1 = ref := by rw [hn]
  have e2 : (T j).2.1 = n := by rw [hn]
  have e3 : (T j).2.2.1 = d := by rw [hn]
  have hw := wl_at (cT := kC k) (ad := ka k) (m := mem) ht hi
  rw [hc] at hw
  refine va_put (D := kD k) X.1 X.2.1 X.2.2.2.2.1 hin ty hty hnm X.2.2.2.1 X.2.2.2.2.2.1.1 hP (X.2.2.2.2.2.1.2.1 mem) hS (oT t + i) hw hcl j hj (by rw [e2, e3]; exact X.2.2.2.2.1 _ hq) (fun x hx => by rw [e1] at hx; exact hx) (by rw [hn]) (hty j hj) hna hfi hlf hd (fun H1 locs1 hP1 _ hS1 => ?_)
  rw [← hc', wl_set ht hi hm] at hP1
  exact kk H1 locs1 ls hP1 hS1 hl
theorem v_iald (X : CX p s m args meth c k cc nL own) {t i n : Nat} {x : Int32} {α : Type} {A : Option α} {o : α} (h : ck x n A = some o) (ht : t < 23) (hi : i < nT t) (hc : ce (kC k) (ka k) mem t i = .inl (kC k 0, n, .inl (gI mem t i))) (hd : decode cc pc = .ok (.iaload, 1)) (kk : A = some o → V p l e R s m args below meth c cells slots Q k nL mem (pc + 1) lv (aI (gI mem t i x.toNatClampNeg) :: st)) : V p l e R s m args below meth c cells slots Q k nL mem pc lv (aI x :: aR t i :: st) := by
  intro H locs ls hP hS hl
  obtain ⟨h1, h2, h3⟩ := ck_some h
  have hw := wl_at (cT := kC k) (ad := ka k) (m := mem) ht hi
  rw [hc] at hw
  exact va_iald (D := kD k) X.1 X.2.1 X.2.2.2.2.2.1.1 hP (oT t + i) 0 hw rfl h1 hd (kk h3 H locs ls hP hS hl)
theorem v_lald (X : CX p s m args meth c k cc nL own) {t i n : Nat} {x : Int32} {α : Type} {A : Option α} {o : α} (h : ck x n A = some o) (ht : t < 23) (hi : i < nT t) (hc : ce (kC k) (ka k) mem t i = .inl (kC k 1, n, .inr (.inl (gL mem t i)))) (hd : decode cc pc = .ok (.laload, 1)) (kk : A = some o → V p l e R s m args below meth c cells slots Q k nL mem (pc + 1) lv (aL (gL mem t i x.toNatClampNeg) :: st)) : V p l e R s m args below meth c cells slots Q k nL mem pc lv (aI x :: aR t i :: st) := by
  intro H locs ls hP hS hl
  obtain ⟨h1, h2, h3⟩ := ck_some h
  have hw := wl_at (cT := kC k) (ad := ka k) (m := mem) ht hi
  rw [hc] at hw
  exact va_lald (D := kD k) X.1 X.2.1 X.2.2.2.2.2.1.1 hP (oT t + i) 1 hw rfl h1 hd (kk h3 H locs ls hP hS hl)
theorem v_iast (X : CX p s m args meth c k cc nL own) {t i n : Nat} {x y : Int32} {α : Type} {A : Option α} {o : α} (h : ck x n A = some o) (ht : t < 23) (hi : i < nT t) (hc : ∀ mem, ce (kC k) (ka k) mem t i = .inl (kC k 0, n, .inl (gI mem t i))) (hd : decode cc pc = .ok (.iastore, 1)) (kk : A = some o → V p l e R s m args below meth c cells slots Q k nL (sI mem t i x.toNatClampNeg y) (pc + 1) lv st) : V p l e R s m args below meth c cells slots Q k nL mem pc lv (aI y :: aI x :: aR t i :: st) := by
  intro H locs ls hP hS hl
  obtain ⟨h1, h2, h3⟩ := ck_some h
  have hw := wl_at (cT := kC k) (ad := ka k) (m := mem) ht hi
  rw [hc] at hw
  refine va_iast (D := kD k) X.1 X.2.1 X.2.2.2.2.2.1.1 hP (X.2.2.2.2.2.1.2.1 mem) hS (oT t + i) 0 hw rfl h1 hd (fun H1 locs1 hP1 _ hS1 => ?_)
  have hc' := hc (sI mem t i x.toNatClampNeg y)
  rw [rowI_eq] at hc'
  rw [← hc', wl_set ht hi rowI_ne] at hP1
  exact kk h3 H1 locs1 ls hP1 hS1 hl
theorem v_last (X : CX p s m args meth c k cc nL own) {t i n : Nat} {x : Int32} {y : Int64} {α : Type} {A : Option α} {o : α} (h : ck x n A = some o) (ht : t < 23) (hi : i < nT t) (hc : ∀ mem, ce (kC k) (ka k) mem t i = .inl (kC k 1, n, .inr (.inl (gL mem t i)))) (hd : decode cc pc = .ok (.lastore, 1)) (kk : A = some o → V p l e R s m args below meth c cells slots Q k nL (sL mem t i x.toNatClampNeg y) (pc + 1) lv st) : V p l e R s m args below meth c cells slots Q k nL mem pc lv (aL y :: aI x :: aR t i :: st) := by
  intro H locs ls hP hS hl
  obtain ⟨h1, h2, h3⟩ := ck_some h
  have hw := wl_at (cT := kC k) (ad := ka k) (m := mem) ht hi
  rw [hc] at hw
  refine va_last (D := kD k) X.1 X.2.1 X.2.2.2.2.2.1.1 hP (X.2.2.2.2.2.1.2.1 mem) hS (oT t + i) 1 hw rfl h1 hd (fun H1 locs1 hP1 _ hS1 => ?_)
  have hc' := hc (sL mem t i x.toNatClampNeg y)
  rw [rowL_eq] at hc'
  rw [← hc', wl_set ht hi rowL_ne] at hP1
  exact kk h3 H1 locs1 ls hP1 hS1 hl
/-- a row of the walls -/
theorem v_aaldW (X : CX p s m args meth c k cc nL own) {i : Nat} {x : Int32} {α : Type} {A : Option α} {o : α} (h : ck x 10 A = some o) (hi : i < 3) (hd : decode cc pc = .ok (.aaload, 1)) (kk : 10 * i + x.toNatClampNeg < 30 → A = some o → V p l e R s m args below meth c cells slots Q k nL mem (pc + 1) lv (aR 4 (10 * i + x.toNatClampNeg) :: st)) : V p l e R s m args below meth c cells slots Q k nL mem pc lv (aI x :: aR 3 i :: st) := by
  intro H locs ls hP hS hl
  obtain ⟨h1, h2, h3⟩ := ck_some h
  have hw := wl_at (cT := kC k) (ad := ka k) (m := mem) (t := 3) (i := i) (by decide) hi
  exact W.aald (v := .ref (ka k (oT 4 + (10 * i + x.toNatClampNeg)))) (ty := .array .int) X.1 X.2.1 (hP (oT 3 + i) _ hw) ((X.2.2.2.2.2.1.1.2 2 _ rfl).1 10 (fun j => va_rf (some (ka k (oT 4 + (10 * i + j)))))) rfl (fun q => by cases q) (by show ¬ (x < 0 ∨ (arrV _ _ _).slots.size ≤ _); rw [arrV_size]; exact h1) (by show (arrV _ _ _).slots[_]? = _; rw [arrV_read _ _ h2]; rfl) rfl rfl hd (kk (by omega) h3 H locs ls hP hS hl)
/-- one of the sheets -/
theorem v_aaldS (X : CX p s m args meth c k cc nL own) {i : Nat} {x : Int32} {α : Type} {A : Option α} {o : α} (h : ck x 4 A = some o) (hi : i < 1) (hd : decode cc pc = .ok (.aaload, 1)) (kk : x.toNatClampNeg < 4 → A = some o → V p l e R s m args below meth c cells slots Q k nL mem (pc + 1) lv (aR 8 x.toNatClampNeg :: st)) : V p l e R s m args below meth c cells slots Q k nL mem pc lv (aI x :: aR 7 i :: st) := by
  intro H locs ls hP hS hl
  obtain ⟨h1, h2, h3⟩ := ck_some h
  have hw := wl_at (cT := kC k) (ad := ka k) (m := mem) (t := 7) (i := i) (by decide) hi
  exact va_aldq (D := kD k) X.1 X.2.1 X.2.2.2.2.2.1.1 hP (oT 7 + i) 3 hw rfl h1 hd (kk h2 h3 H locs ls hP hS hl)
theorem v_alenI (X : CX p s m args meth c k cc nL own) {t i n : Nat} {v : Int32} (hv : Int32.ofNat n = v) (ht : t < 23) (hi : i < nT t) (hc : ce (kC k) (ka k) mem t i = .inl (kC k 0, n, .inl (gI mem t i))) (hd : decode cc pc = .ok (.arraylength, 1)) (kk : V p l e R s m args below meth c cells slots Q k nL mem (pc + 1) lv (aI v :: st)) : V p l e R s m args below meth c cells slots Q k nL mem pc lv (aR t i :: st) := by
  intro H locs ls hP hS hl
  have hw := wl_at (cT := kC k) (ad := ka k) (m := mem) ht hi
  rw [hc] at hw
  exact va_alen (D := kD k) X.1 X.2.1 X.2.2.2.2.2.1.1 hP (oT t + i) 0 hw rfl hv hd (kk H locs ls hP hS hl)
theorem v_alenL (X : CX p s m args meth c k cc nL own) {t i n : Nat} {v : Int32} (hv : Int32.ofNat n = v) (ht : t < 23) (hi : i < nT t) (hc : ce (kC k) (ka k) mem t i = .inl (kC k 1, n, .inr (.inl (gL mem t i)))) (hd : decode cc pc = .ok (.arraylength, 1)) (kk : V p l e R s m args below meth c cells slots Q k nL mem (pc + 1) lv (aI v :: st)) : V p l e R s m args below meth c cells slots Q k nL mem pc lv (aR t i :: st) := by
  intro H locs ls hP hS hl
  have hw := wl_at (cT := kC k) (ad := ka k) (m := mem) ht hi
  rw [hc] at hw
  exact va_alen (D := kD k) X.1 X.2.1 X.2.2.2.2.2.1.1 hP (oT t + i) 1 hw rfl hv hd (kk H locs ls hP hS hl)
/-- the script -/
theorem v_sld (X : CX p s m args meth c k cc nL own) {x : Int32} {α : Type} {A : Option α} {o : α} (h : ck x (kL k) A = some o) (hd : decode cc pc = .ok (.iaload, 1)) (kk : A = some o → V p l e R s m args below meth c cells slots Q k nL mem (pc + 1) lv (aI (kx k x.toNatClampNeg) :: st)) : V p l e R s m args below meth c cells slots Q k nL mem pc lv (aI x :: aR 24 0 :: st) := by
  intro H locs ls hP hS hl
  obtain ⟨h1, h2, h3⟩ := ck_some h
  obtain ⟨-, -, g3, -, -, g10, g11⟩ := X.2.2.2.2.2.1
  exact va_sld (A := kA k) X.1 X.2.1 g10 (Nat.lt_of_lt_of_le g11 g3) (Nat.not_le.mpr g11) hS h1 hd (kk h3 H locs ls hP hS hl)
theorem v_slen (X : CX p s m args meth c k cc nL own) (hd : decode cc pc = .ok (.arraylength, 1)) (kk : V p l e R s m args below meth c cells slots Q k nL mem (pc + 1) lv (aI (Int32.ofNat (kL k)) :: st)) : V p l e R s m args below meth c cells slots Q k nL mem pc lv (aR 24 0 :: st) := by
  intro H locs ls hP hS hl
  obtain ⟨-, -, g3, -, -, g10, g11⟩ := X.2.2.2.2.2.1
  exact va_slen (A := kA k) X.1 X.2.1 g10 (Nat.lt_of_lt_of_le g11 g3) (Nat.not_le.mpr g11) hS hd (kk H locs ls hP hS hl)
/-- static rows -/
theorem v_gets (X : CX p s m args meth c k cc nL own) {idx : Nat} (i : Nat) (hi : i < 3) (hq : Cond.fieldLink own idx "WallShifts" (stN i) "[I" ∈ wG) (hd : decode cc pc = .ok (.getstatic idx, 3)) (kk : V p l e R s m args below meth c cells slots Q k nL mem (pc + 3) lv (aR 23 i :: st)) : V p l e R s m args below meth c cells slots Q k nL mem pc lv st :=
  fun H locs ls hP hS hl => va_gets (A := kA k) X.1 X.2.1 (X.2.2.2.2.2.1.2.2.2.2.1 i hi).1 hS X.2.2.2.1 (X.2.2.2.2.1 _ hq) (fun _ h => h) hd (kk H locs ls hP hS hl)
theorem v_getsN (X : CX p s m args meth c k cc nL own) {idx : Nat} (i : Nat) (hi : i < 3) (hq : Cond.fieldLinkNest own idx "WallShifts" (stN i) "[I" "WallShifts" ∈ wNests) (hd : decode cc pc = .ok (.getstatic idx, 3)) (kk : V p l e R s m args below meth c cells slots Q k nL mem (pc + 3) lv (aR 23 i :: st)) : V p l e R s m args below meth c cells slots Q k nL mem pc lv st :=
  fun H locs ls hP hS hl => va_getsN (A := kA k) X.1 X.2.1 (X.2.2.2.2.2.1.2.2.2.2.1 i hi).1 hS X.2.2.2.1 (va_Nw.use rfl (X.2.2.2.2.2.1.2.2.2.1 _ hq)) (fun _ h => h) hd (kk H locs ls hP hS hl)
theorem v_stld (X : CX p s m args meth c k cc nL own) {i : Nat} {x : Int32} {α : Type} {A : Option α} {o : α} (h : ck x (stV i).length A = some o) (hi : i < 3) (hd : decode cc pc = .ok (.iaload, 1)) (kk : A = some o → V p l e R s m args below meth c cells slots Q k nL mem (pc + 1) lv (aI (stc i x.toNatClampNeg) :: st)) : V p l e R s m args below meth c cells slots Q k nL mem pc lv (aI x :: aR 23 i :: st) := by
  intro H locs ls hP hS hl
  obtain ⟨h1, h2, h3⟩ := ck_some h
  exact va_ti (A := kA k) X.1 X.2.1 (X.2.2.2.2.2.1.2.2.2.2.1 i hi).2 hS h1 rfl hd (kk h3 H locs ls hP hS hl)
end CELLS
