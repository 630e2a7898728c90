/-! MORE ROWS: fewer locals; places that are written numbers; values of small types. -/
def nz {α : Type} (ty : FieldType) (x : Int32) (A : Option α) : Option α := if vp_nar ty x = x then A else none
theorem nz_some {α : Type} {ty : FieldType} {x : Int32} {A : Option α} {o : α} (h : nz ty x A = some o) : vp_nar ty x = x ∧ A = some o := by
  unfold nz at h
  by_cases c : vp_nar ty x = x
  · rw [if_pos c] at h
    exact ⟨c, h⟩
  · rw [if_neg c] at h
    cases h
theorem nz_bool {x : Int32} (h : vp_nar .boolean x = x) : narrow .boolean (.int x) = .int x := by
  have e : narrow .boolean (.int x) = .int (vp_nar .boolean x) := rfl
  rw [e, h]
theorem nz_char {x : Int32} (h : vp_nar .char x = x) : narrow .char (.int x) = .int x := by
  have e : narrow .char (.int x) = .int (vp_nar .char x) := rfl
  rw [e, h]
theorem nz_byte {x : Int32} (h : vp_nar .byte x = x) : narrow .byte (.int x) = .int x := by
  have e : narrow .byte (.int x) = .int (vp_nar .byte x) := rfl
  rw [e, h]
def zb {α : Type} (x : Int32) (A : Option α) : Option α := if x = 0 ∨ x = 1 then A else none
theorem zb_some {α : Type} {x : Int32} {A : Option α} {o : α} (h : zb x A = some o) : (x = 0 ∨ x = 1) ∧ A = some o := by
  unfold zb at h
  by_cases c : x = 0 ∨ x = 1
  · rw [if_pos c] at h
    exact ⟨c, h⟩
  · rw [if_neg c] at h
    cases h
theorem zb_n {x : Int32} (h : x = 0 ∨ x = 1) : narrow .boolean (.int x) = .int x := by rcases h with rfl | rfl <;> rfl
theorem zb_f {x : Int32} (h : x = 0 ∨ x = 1) : fits .boolean (.int x) = true := by rcases h with rfl | rfl <;> rfl
section MORE
variable {p : Program} {l : Launch} {e : Env} {R : Room} {s : State} {m : MethodId} {args : Array Value} {below : List Frame} {meth : Method} {c : Code} {cells slots : Nat} {Q : State → Prop} {k : KK} {nL : Nat} {mem : Mem} {pc : Nat} {lv lv' : List (Nat × AV)} {st : List AV} {cc : ByteArray} {own : String}
theorem v_sub (js : List Nat) (hl : js.filterMap (fun j => lv[j]?) = lv') (kk : V p l e R s m args below meth c cells slots Q k nL mem pc lv' st) : V p l e R s m args below meth c cells slots Q k nL mem pc lv st := by
  intro H locs ls hP hS h
  refine kk H locs ls hP hS (lv_sub h js ?_)
  rw [← hl]
  unfold lv_pick cvl
  rw [List.map_filterMap]
  congr 1
  funext j
  rw [List.getElem?_map]
theorem v_ialdK (X : CX p s m args meth c k cc nL own) {t i n : Nat} {x : Int32} (j : Nat) (hin : ck x n (some ()) = some ()) (hj : x.toNatClampNeg = j) (ht : t < 23) (hi : i < nT t) (hc : ce (kC k) (ka k) mem t i = .inl (kC k 0, n, .inl (gI mem t i))) (hd : decode cc pc = .ok (.iaload, 1)) (kk : V p l e R s m args below meth c cells slots Q k nL mem (pc + 1) lv (aI (gI mem t i j) :: st)) : V p l e R s m args below meth c cells slots Q k nL mem pc lv (aI x :: aR t i :: st) := by
  subst hj
  exact v_iald X hin ht hi hc hd (fun _ => kk)
theorem v_iastK (X : CX p s m args meth c k cc nL own) {t i n : Nat} {x y : Int32} (j : Nat) (hin : ck x n (some ()) = some ()) (hj : x.toNatClampNeg = j) (ht : t < 23) (hi : i < nT t) (hc : ∀ mem, ce (kC k) (ka k) mem t i = .inl (kC k 0, n, .inl (gI mem t i))) (hd : decode cc pc = .ok (.iastore, 1)) (kk : V p l e R s m args below meth c cells slots Q k nL (sI mem t i j y) (pc + 1) lv st) : V p l e R s m args below meth c cells slots Q k nL mem pc lv (aI y :: aI x :: aR t i :: st) := by
  subst hj
  exact v_iast X hin ht hi hc hd (fun _ => kk)
def okM (own : String) (idx : Nat) : Prop := Cond.methodLink own idx Lib.Math.min.name ∈ wG ∧ Cond.static Lib.Math.min.name ∈ wG ∧ Cond.initialized "java/lang/Math" ∈ wG ∧ Cond.code Lib.Math.min.name Lib.Math.min.code 2 (some .int) ∈ wG
theorem v_mmin (X : CX p s m args meth c k cc nL own) {idx : Nat} {x y : Int32} (ok : okM own idx) (st : List AV) (hst : slA st + 13 ≤ R.locals) (hfr : 1 ≤ R.frames) (hf : cells ≤ R.cells ∧ slots ≤ R.slots) (hd : decode cc pc = .ok (.invokestatic idx, 3))
    (kk : V p l e R s m args below meth c cells slots Q k nL mem (pc + 3) lv (aI (if y < x then y else x) :: st)) : V p l e R s m args below meth c cells slots Q k nL mem pc lv (aI y :: aI x :: st) := by
  intro H locs ls hP hS hl
  have hcat : ((st.map (cv k)).map fun v => v.category).sum = slA st := by
    rw [List.map_map]
    have : (fun v => v.category) ∘ cv k = acat := funext fun v => cv_cat k v
    rw [this]
    rfl
  exact va_mmin X.1 X.2.1 (X.2.2.1.trans hl.1.symm) X.2.2.2.1 (X.2.2.2.2.1 _ ok.1) (X.2.2.2.2.1 _ ok.2.1) (X.2.2.2.2.1 _ ok.2.2.1) (X.2.2.2.2.1 _ ok.2.2.2) hfr (by rw [hcat]; exact hst) hf.1 hf.2 hd (kk H locs ls hP hS hl)
end MORE
