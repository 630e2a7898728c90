/-! THE ROWS: one instruction each. 'h' carries what the method's program text comes to. -/
def lst (i : Nat) (v : AV) (lv : List (Nat × AV)) : List (Nat × AV) := (i, v) :: lv.filter (fun q => !(q.1 == i) && !(q.1 + 1 == i && acat q.2 == 2))
def lst2 (i : Nat) (v : AV) (lv : List (Nat × AV)) : List (Nat × AV) := (i, v) :: lv.filter (fun q => !(q.1 == i) && (!(q.1 == i + 1) && !(q.1 + 1 == i && acat q.2 == 2)))
theorem cvl_lst (k : KK) (i : Nat) (v : AV) (lv : List (Nat × AV)) : (i, cv k v) :: (cvl k lv).filter (fun q => !(q.1 == i) && !(q.1 + 1 == i && q.2.category == 2)) = cvl k (lst i v lv) := by
  show _ = (i, cv k v) :: List.map _ (List.filter _ lv)
  congr 1
  unfold cvl
  rw [List.filter_map]
  congr 1
  apply List.filter_congr
  intro q _
  simp only [Function.comp, cv_cat]
theorem cvl_lst2 (k : KK) (i : Nat) (v : AV) (lv : List (Nat × AV)) : (i, cv k v) :: (cvl k lv).filter (fun q => !(q.1 == i) && (!(q.1 == i + 1) && !(q.1 + 1 == i && q.2.category == 2))) = cvl k (lst2 i v lv) := by
  show _ = (i, cv k v) :: List.map _ (List.filter _ lv)
  congr 1
  unfold cvl
  rw [List.filter_map]
  congr 1
  apply List.filter_congr
  intro q _
  simp only [Function.comp, cv_cat]
theorem cvl_at {k : KK} {lv : List (Nat × AV)} {j i : Nat} {v : AV} (h : lv[j]? = some (i, v)) : (cvl k lv)[j]? = some (i, cv k v) := by
  unfold cvl
  rw [List.getElem?_map, h]
  rfl
def ck {α : Type} (x : Int32) (n : Nat) (A : Option α) : Option α := if x < 0 ∨ n ≤ x.toNatClampNeg then none else A
theorem ck_some {α : Type} {x : Int32} {n : Nat} {A : Option α} {o : α} (h : ck x n A = some o) : vp_in x n ∧ x.toNatClampNeg < n ∧ A = some o := by
  unfold ck at h
  by_cases c : x < 0 ∨ n ≤ x.toNatClampNeg
  · rw [if_pos c] at h
    cases h
  · rw [if_neg c] at h
    exact ⟨c, Nat.not_le.mp (fun q => c (Or.inr q)), h⟩
def bd {α β : Type} (x : Option (α × Mem)) (F : α → Mem → Option β) : Option β := match x with
  | none => none
  | some q => F q.1 q.2
theorem bd_some {α β : Type} {x : Option (α × Mem)} {F : α → Mem → Option β} {o : β} (h : bd x F = some o) : ∃ (r : α) (m1 : Mem), x = some (r, m1) ∧ F r m1 = some o := by
  cases x with
  | none => cases h
  | some q => exact ⟨q.1, q.2, rfl, h⟩
theorem it_t {α : Type} {c : Prop} [Decidable c] {A B : Option α} {o : α} (h : (if c then A else B) = some o) (hc : c) : A = some o := by rw [if_pos hc] at h; exact h
theorem it_f {α : Type} {c : Prop} [Decidable c] {A B : Option α} {o : α} (h : (if c then A else B) = some o) (hc : ¬ c) : B = some o := by rw [if_neg hc] at h; exact h
theorem rowI_ne {m : Mem} {t i j : Nat} {v : Int32} (t' i' : Nat) (h : ¬ (t' = t ∧ i' = i)) : gI (sI m t i j v) t' i' = gI m t' i' ∧ gL (sI m t i j v) t' i' = gL m t' i' := by
  refine ⟨funext fun j' => ?_, rfl⟩
  show (if t' = t ∧ i' = i ∧ j' = j then v else m.1 t' i' j') = m.1 t' i' j'
  rw [if_neg (fun q => h ⟨q.1, q.2.1⟩)]
theorem rowL_ne {m : Mem} {t i j : Nat} {v : Int64} (t' i' : Nat) (h : ¬ (t' = t ∧ i' = i)) : gI (sL m t i j v) t' i' = gI m t' i' ∧ gL (sL m t i j v) t' i' = gL m t' i' := by
  refine ⟨rfl, funext fun j' => ?_⟩
  show (if t' = t ∧ i' = i ∧ j' = j then v else m.2 t' i' j') = m.2 t' i' j'
  rw [if_neg (fun q => h ⟨q.1, q.2.1⟩)]
theorem rowIr_ne {m : Mem} {t i : Nat} {f : Nat → Int32} (t' i' : Nat) (h : ¬ (t' = t ∧ i' = i)) : gI (sIr m t i f) t' i' = gI m t' i' ∧ gL (sIr m t i f) t' i' = gL m t' i' := by
  refine ⟨funext fun j' => ?_, rfl⟩
  show (if t' = t ∧ i' = i then f j' else m.1 t' i' j') = m.1 t' i' j'
  rw [if_neg h]
theorem rowLr_ne {m : Mem} {t i : Nat} {f : Nat → Int64} (t' i' : Nat) (h : ¬ (t' = t ∧ i' = i)) : gI (sLr m t i f) t' i' = gI m t' i' ∧ gL (sLr m t i f) t' i' = gL m t' i' := by
  refine ⟨rfl, funext fun j' => ?_⟩
  show (if t' = t ∧ i' = i then f j' else m.2 t' i' j') = m.2 t' i' j'
  rw [if_neg h]
theorem rowI_eq (m : Mem) (t i j : Nat) (v : Int32) : gI (sI m t i j v) t i = upd (gI m t i) j v := by
  funext j'
  show (if t = t ∧ i = i ∧ j' = j then v else m.1 t i j') = if j' = j then v else m.1 t i j'
  by_cases h : j' = j
  · rw [if_pos h, if_pos ⟨rfl, rfl, h⟩]
  · rw [if_neg h, if_neg (fun q => h q.2.2)]
theorem rowL_eq (m : Mem) (t i j : Nat) (v : Int64) : gL (sL m t i j v) t i = vp_updL (gL m t i) j v := by
  funext j'
  show (if t = t ∧ i = i ∧ j' = j then v else m.2 t i j') = if j' = j then v else m.2 t i j'
  by_cases h : j' = j
  · rw [if_pos h, if_pos ⟨rfl, rfl, h⟩]
  · rw [if_neg h, if_neg (fun q => h q.2.2)]
theorem rowIr_eq (m : Mem) (t i : Nat) (f : Nat → Int32) : gI (sIr m t i f) t i = f := by
  funext j'
  show (if t = t ∧ i = i then f j' else m.1 t i j') = f j'
  rw [if_pos ⟨rfl, rfl⟩]
theorem rowLr_eq (m : Mem) (t i : Nat) (f : Nat → Int64) : gL (sLr m t i f) t i = f := by
  funext j'
  show (if t = t ∧ i = i then f j' else m.2 t i j') = f j'
  rw [if_pos ⟨rfl, rfl⟩]
section ROWS
variable {p : Program} {l : Launch} {e : Env} {R : Room} {s : State} {m : MethodId} {args : Array Value} {below : List Frame} {meth : Method} {c : Code} {cells slots : Nat} {Q : State → Prop} {k : KK} {nL : Nat} {mem : Mem} {pc : Nat} {lv lv' : List (Nat × AV)} {st : List AV} {cc : ByteArray} {own : String}
theorem v_iconst (X : CX p s m args meth c k cc nL own) {n : Int} {v : Int32} (hd : decode cc pc = .ok (.iconst n, 1)) (hv : Int32.ofInt n = v) (kk : V p l e R s m args below meth c cells slots Q k nL mem (pc + 1) lv (aI v :: st)) : V p l e R s m args below meth c cells slots Q k nL mem pc lv st :=
  fun H locs ls hP hS hl => lv_iconst X.1 X.2.1 hd hv (kk H locs ls hP hS hl)
theorem v_bipush (X : CX p s m args meth c k cc nL own) {n : Int} {v : Int32} (hd : decode cc pc = .ok (.bipush n, 2)) (hv : (Int8.ofInt n).toInt32 = v) (kk : V p l e R s m args below meth c cells slots Q k nL mem (pc + 2) lv (aI v :: st)) : V p l e R s m args below meth c cells slots Q k nL mem pc lv st :=
  fun H locs ls hP hS hl => lv_bipush X.1 X.2.1 hd hv (kk H locs ls hP hS hl)
theorem v_sipush (X : CX p s m args meth c k cc nL own) {n : Int} {v : Int32} (hd : decode cc pc = .ok (.sipush n, 3)) (hv : (Int16.ofInt n).toInt32 = v) (kk : V p l e R s m args below meth c cells slots Q k nL mem (pc + 3) lv (aI v :: st)) : V p l e R s m args below meth c cells slots Q k nL mem pc lv st :=
  fun H locs ls hP hS hl => lv_sipush X.1 X.2.1 hd hv (kk H locs ls hP hS hl)
theorem v_lconst (X : CX p s m args meth c k cc nL own) {n : Fin 2} {v : Int64} (hd : decode cc pc = .ok (.lconst n, 1)) (hv : Int64.ofNat (n : Nat) = v) (kk : V p l e R s m args below meth c cells slots Q k nL mem (pc + 1) lv (aL v :: st)) : V p l e R s m args below meth c cells slots Q k nL mem pc lv st :=
  fun H locs ls hP hS hl => lv_lconst X.1 X.2.1 hd hv (kk H locs ls hP hS hl)
theorem v_ldc (X : CX p s m args meth c k cc nL own) {idx : Nat} {v : Int32} (hq : Cond.constant own idx v ∈ wG) (hd : decode cc pc = .ok (.ldc idx, 2)) (kk : V p l e R s m args below meth c cells slots Q k nL mem (pc + 2) lv (aI v :: st)) : V p l e R s m args below meth c cells slots Q k nL mem pc lv st :=
  fun H locs ls hP hS hl => lv_ldc X.1 X.2.1 X.2.2.2.1 (X.2.2.2.2.1 _ hq) hd (kk H locs ls hP hS hl)
theorem v_ldcw (X : CX p s m args meth c k cc nL own) {idx : Nat} {v : Int32} (hq : Cond.constant own idx v ∈ wG) (hd : decode cc pc = .ok (.ldc_w idx, 3)) (kk : V p l e R s m args below meth c cells slots Q k nL mem (pc + 3) lv (aI v :: st)) : V p l e R s m args below meth c cells slots Q k nL mem pc lv st :=
  fun H locs ls hP hS hl => lv_ldcw X.1 X.2.1 X.2.2.2.1 (X.2.2.2.2.1 _ hq) hd (kk H locs ls hP hS hl)
theorem v_ldc2 (X : CX p s m args meth c k cc nL own) {idx : Nat} {v : Int64} (hq : Cond.constantLong own idx v ∈ wG) (hd : decode cc pc = .ok (.ldc2_w idx, 3)) (kk : V p l e R s m args below meth c cells slots Q k nL mem (pc + 3) lv (aL v :: st)) : V p l e R s m args below meth c cells slots Q k nL mem pc lv st :=
  fun H locs ls hP hS hl => lv_ldc2 X.1 X.2.1 X.2.2.2.1 (X.2.2.2.2.1 _ hq) hd (kk H locs ls hP hS hl)
theorem v_iload (X : CX p s m args meth c k cc nL own) {i : Nat} {x : Int32} (j : Nat) (hj : lv[j]? = some (i, aI x)) (hd : decode cc pc = .ok (.iload i, 2)) (kk : V p l e R s m args below meth c cells slots Q k nL mem (pc + 2) lv (aI x :: st)) : V p l e R s m args below meth c cells slots Q k nL mem pc lv st :=
  fun H locs ls hP hS hl => lv_iload X.1 X.2.1 hd (lv_at hl j (cvl_at hj)) (kk H locs ls hP hS hl)
theorem v_iload_n (X : CX p s m args meth c k cc nL own) {kk0 : Fin 4} {i : Nat} {x : Int32} (j : Nat) (hj : lv[j]? = some (i, aI x)) (hd : decode cc pc = .ok (.iload_n kk0, 1)) (hi : (kk0 : Nat) = i) (kk : V p l e R s m args below meth c cells slots Q k nL mem (pc + 1) lv (aI x :: st)) : V p l e R s m args below meth c cells slots Q k nL mem pc lv st :=
  fun H locs ls hP hS hl => lv_iload_n X.1 X.2.1 hd hi (lv_at hl j (cvl_at hj)) (kk H locs ls hP hS hl)
theorem v_lload (X : CX p s m args meth c k cc nL own) {i : Nat} {x : Int64} (j : Nat) (hj : lv[j]? = some (i, aL x)) (hd : decode cc pc = .ok (.lload i, 2)) (kk : V p l e R s m args below meth c cells slots Q k nL mem (pc + 2) lv (aL x :: st)) : V p l e R s m args below meth c cells slots Q k nL mem pc lv st :=
  fun H locs ls hP hS hl => lv_lload X.1 X.2.1 hd (lv_at hl j (cvl_at hj)) (kk H locs ls hP hS hl)
theorem v_lload_n (X : CX p s m args meth c k cc nL own) {kk0 : Fin 4} {i : Nat} {x : Int64} (j : Nat) (hj : lv[j]? = some (i, aL x)) (hd : decode cc pc = .ok (.lload_n kk0, 1)) (hi : (kk0 : Nat) = i) (kk : V p l e R s m args below meth c cells slots Q k nL mem (pc + 1) lv (aL x :: st)) : V p l e R s m args below meth c cells slots Q k nL mem pc lv st :=
  fun H locs ls hP hS hl => lv_lload_n X.1 X.2.1 hd hi (lv_at hl j (cvl_at hj)) (kk H locs ls hP hS hl)
theorem v_aload (X : CX p s m args meth c k cc nL own) {i : Nat} {t q : Nat} (j : Nat) (hj : lv[j]? = some (i, aR t q)) (hd : decode cc pc = .ok (.aload i, 2)) (kk : V p l e R s m args below meth c cells slots Q k nL mem (pc + 2) lv (aR t q :: st)) : V p l e R s m args below meth c cells slots Q k nL mem pc lv st :=
  fun H locs ls hP hS hl => lv_aload X.1 X.2.1 hd (lv_at hl j (cvl_at hj)) (kk H locs ls hP hS hl)
theorem v_aload_n (X : CX p s m args meth c k cc nL own) {kk0 : Fin 4} {i : Nat} {t q : Nat} (j : Nat) (hj : lv[j]? = some (i, aR t q)) (hd : decode cc pc = .ok (.aload_n kk0, 1)) (hi : (kk0 : Nat) = i) (kk : V p l e R s m args below meth c cells slots Q k nL mem (pc + 1) lv (aR t q :: st)) : V p l e R s m args below meth c cells slots Q k nL mem pc lv st :=
  fun H locs ls hP hS hl => lv_aload_n X.1 X.2.1 hd hi (lv_at hl j (cvl_at hj)) (kk H locs ls hP hS hl)
theorem v_istore (X : CX p s m args meth c k cc nL own) {i : Nat} {x : Int32} (hd : decode cc pc = .ok (.istore i, 2)) (hn : i < nL) (hl : lst i (aI x) lv = lv') (kk : V p l e R s m args below meth c cells slots Q k nL mem (pc + 2) lv' st) : V p l e R s m args below meth c cells slots Q k nL mem pc lv (aI x :: st) :=
  fun H locs ls hP hS h => lv_istore X.1 X.2.1 hd h hn (cvl_lst k i (aI x) lv) (fun ls' h' => kk H locs ls' hP hS (by rw [← hl]; exact h'))
theorem v_istore_n (X : CX p s m args meth c k cc nL own) {kk0 : Fin 4} {i : Nat} {x : Int32} (hd : decode cc pc = .ok (.istore_n kk0, 1)) (hi : (kk0 : Nat) = i) (hn : i < nL) (hl : lst i (aI x) lv = lv') (kk : V p l e R s m args below meth c cells slots Q k nL mem (pc + 1) lv' st) : V p l e R s m args below meth c cells slots Q k nL mem pc lv (aI x :: st) :=
  fun H locs ls hP hS h => lv_istore_n X.1 X.2.1 hd hi h hn (cvl_lst k i (aI x) lv) (fun ls' h' => kk H locs ls' hP hS (by rw [← hl]; exact h'))
theorem v_lstore (X : CX p s m args meth c k cc nL own) {i : Nat} {x : Int64} (hd : decode cc pc = .ok (.lstore i, 2)) (hn : i + 1 < nL) (hl : lst2 i (aL x) lv = lv') (kk : V p l e R s m args below meth c cells slots Q k nL mem (pc + 2) lv' st) : V p l e R s m args below meth c cells slots Q k nL mem pc lv (aL x :: st) :=
  fun H locs ls hP hS h => lv_lstore X.1 X.2.1 hd h hn (cvl_lst2 k i (aL x) lv) (fun ls' h' => kk H locs ls' hP hS (by rw [← hl]; exact h'))
theorem v_lstore_n (X : CX p s m args meth c k cc nL own) {kk0 : Fin 4} {i : Nat} {x : Int64} (hd : decode cc pc = .ok (.lstore_n kk0, 1)) (hi : (kk0 : Nat) = i) (hn : i + 1 < nL) (hl : lst2 i (aL x) lv = lv') (kk : V p l e R s m args below meth c cells slots Q k nL mem (pc + 1) lv' st) : V p l e R s m args below meth c cells slots Q k nL mem pc lv (aL x :: st) :=
  fun H locs ls hP hS h => lv_lstore_n X.1 X.2.1 hd hi h hn (cvl_lst2 k i (aL x) lv) (fun ls' h' => kk H locs ls' hP hS (by rw [← hl]; exact h'))
theorem v_astore (X : CX p s m args meth c k cc nL own) {i : Nat} {t q : Nat} (hd : decode cc pc = .ok (.astore i, 2)) (hn : i < nL) (hl : lst i (aR t q) lv = lv') (kk : V p l e R s m args below meth c cells slots Q k nL mem (pc + 2) lv' st) : V p l e R s m args below meth c cells slots Q k nL mem pc lv (aR t q :: st) :=
  fun H locs ls hP hS h => lv_astore X.1 X.2.1 hd h hn (cvl_lst k i (aR t q) lv) (fun ls' h' => kk H locs ls' hP hS (by rw [← hl]; exact h'))
theorem v_astore_n (X : CX p s m args meth c k cc nL own) {kk0 : Fin 4} {i : Nat} {t q : Nat} (hd : decode cc pc = .ok (.astore_n kk0, 1)) (hi : (kk0 : Nat) = i) (hn : i < nL) (hl : lst i (aR t q) lv = lv') (kk : V p l e R s m args below meth c cells slots Q k nL mem (pc + 1) lv' st) : V p l e R s m args below meth c cells slots Q k nL mem pc lv (aR t q :: st) :=
  fun H locs ls hP hS h => lv_astore_n X.1 X.2.1 hd hi h hn (cvl_lst k i (aR t q) lv) (fun ls' h' => kk H locs ls' hP hS (by rw [← hl]; exact h'))
theorem v_aloadQ (X : CX p s m args meth c k cc nL own) {kk0 : Fin 4} {i : Nat} (j : Nat) (hj : lv[j]? = some (i, aQ)) (hd : decode cc pc = .ok (.aload_n kk0, 1)) (hi : (kk0 : Nat) = i) (kk : V p l e R s m args below meth c cells slots Q k nL mem (pc + 1) lv (aQ :: st)) : V p l e R s m args below meth c cells slots Q k nL mem pc lv st :=
  fun H locs ls hP hS hl => by
    have h1 := lv_at hl j (cvl_at hj)
    have h2 : ls[i]? = some (.val (va_rf (ko k))) := h1
    have k2 : W p l e R s m args below meth c H locs cells slots Q (F0 m (pc + 1) ls (va_rf (ko k) :: st.map (cv k))) := kk H locs ls hP hS hl
    have hz : va_rf (ko k) = .null ∨ ∃ a, va_rf (ko k) = .ref a := by
      cases ko k with
      | none => exact Or.inl rfl
      | some a => exact Or.inr ⟨a, rfl⟩
    rcases hz with hz | ⟨a, hz⟩
    · rw [hz] at h2 k2
      exact lv_aload_nN X.1 X.2.1 hd hi h2 k2
    · rw [hz] at h2 k2
      exact lv_aload_n X.1 X.2.1 hd hi h2 k2
theorem v_iinc (X : CX p s m args meth c k cc nL own) {i : Nat} {n : Int} {x v : Int32} (j : Nat) (hj : lv[j]? = some (i, aI x)) (hv : x + Int32.ofInt n = v) (hd : decode cc pc = .ok (.iinc i n, 3)) (hn : i < nL) (hl : lst i (aI v) lv = lv') (kk : V p l e R s m args below meth c cells slots Q k nL mem (pc + 3) lv' st) : V p l e R s m args below meth c cells slots Q k nL mem pc lv st :=
  fun H locs ls hP hS h => lv_iinc X.1 X.2.1 hd h (cvl_at hj) hv hn (cvl_lst k i (aI v) lv) (fun ls' h' => kk H locs ls' hP hS (by rw [← hl]; exact h'))
theorem v_iadd (X : CX p s m args meth c k cc nL own) {x y : Int32} (hd : decode cc pc = .ok (.iadd, 1)) (kk : V p l e R s m args below meth c cells slots Q k nL mem (pc + 1) lv (aI (x + y) :: st)) : V p l e R s m args below meth c cells slots Q k nL mem pc lv (aI y :: aI x :: st) :=
  fun H locs ls hP hS hl => lv_iadd X.1 X.2.1 hd (kk H locs ls hP hS hl)
theorem v_isub (X : CX p s m args meth c k cc nL own) {x y : Int32} (hd : decode cc pc = .ok (.isub, 1)) (kk : V p l e R s m args below meth c cells slots Q k nL mem (pc + 1) lv (aI (x - y) :: st)) : V p l e R s m args below meth c cells slots Q k nL mem pc lv (aI y :: aI x :: st) :=
  fun H locs ls hP hS hl => lv_isub X.1 X.2.1 hd (kk H locs ls hP hS hl)
theorem v_imul (X : CX p s m args meth c k cc nL own) {x y : Int32} (hd : decode cc pc = .ok (.imul, 1)) (kk : V p l e R s m args below meth c cells slots Q k nL mem (pc + 1) lv (aI (x * y) :: st)) : V p l e R s m args below meth c cells slots Q k nL mem pc lv (aI y :: aI x :: st) :=
  fun H locs ls hP hS hl => lv_imul X.1 X.2.1 hd (kk H locs ls hP hS hl)
theorem v_iand (X : CX p s m args meth c k cc nL own) {x y : Int32} (hd : decode cc pc = .ok (.iand, 1)) (kk : V p l e R s m args below meth c cells slots Q k nL mem (pc + 1) lv (aI (x &&& y) :: st)) : V p l e R s m args below meth c cells slots Q k nL mem pc lv (aI y :: aI x :: st) :=
  fun H locs ls hP hS hl => lv_iand X.1 X.2.1 hd (kk H locs ls hP hS hl)
theorem v_ior (X : CX p s m args meth c k cc nL own) {x y : Int32} (hd : decode cc pc = .ok (.ior, 1)) (kk : V p l e R s m args below meth c cells slots Q k nL mem (pc + 1) lv (aI (x ||| y) :: st)) : V p l e R s m args below meth c cells slots Q k nL mem pc lv (aI y :: aI x :: st) :=
  fun H locs ls hP hS hl => lv_ior X.1 X.2.1 hd (kk H locs ls hP hS hl)
theorem v_ixor (X : CX p s m args meth c k cc nL own) {x y : Int32} (hd : decode cc pc = .ok (.ixor, 1)) (kk : V p l e R s m args below meth c cells slots Q k nL mem (pc + 1) lv (aI (x ^^^ y) :: st)) : V p l e R s m args below meth c cells slots Q k nL mem pc lv (aI y :: aI x :: st) :=
  fun H locs ls hP hS hl => lv_ixor X.1 X.2.1 hd (kk H locs ls hP hS hl)
theorem v_ishl (X : CX p s m args meth c k cc nL own) {x y : Int32} (hd : decode cc pc = .ok (.ishl, 1)) (kk : V p l e R s m args below meth c cells slots Q k nL mem (pc + 1) lv (aI (x <<< (y &&& 31)) :: st)) : V p l e R s m args below meth c cells slots Q k nL mem pc lv (aI y :: aI x :: st) :=
  fun H locs ls hP hS hl => lv_ishl X.1 X.2.1 hd (kk H locs ls hP hS hl)
theorem v_ishr (X : CX p s m args meth c k cc nL own) {x y : Int32} (hd : decode cc pc = .ok (.ishr, 1)) (kk : V p l e R s m args below meth c cells slots Q k nL mem (pc + 1) lv (aI (x >>> (y &&& 31)) :: st)) : V p l e R s m args below meth c cells slots Q k nL mem pc lv (aI y :: aI x :: st) :=
  fun H locs ls hP hS hl => lv_ishr X.1 X.2.1 hd (kk H locs ls hP hS hl)
theorem v_ladd (X : CX p s m args meth c k cc nL own) {x y : Int64} (hd : decode cc pc = .ok (.ladd, 1)) (kk : V p l e R s m args below meth c cells slots Q k nL mem (pc + 1) lv (aL (x + y) :: st)) : V p l e R s m args below meth c cells slots Q k nL mem pc lv (aL y :: aL x :: st) :=
  fun H locs ls hP hS hl => lv_ladd X.1 X.2.1 hd (kk H locs ls hP hS hl)
theorem v_lsub (X : CX p s m args meth c k cc nL own) {x y : Int64} (hd : decode cc pc = .ok (.lsub, 1)) (kk : V p l e R s m args below meth c cells slots Q k nL mem (pc + 1) lv (aL (x - y) :: st)) : V p l e R s m args below meth c cells slots Q k nL mem pc lv (aL y :: aL x :: st) :=
  fun H locs ls hP hS hl => lv_lsub X.1 X.2.1 hd (kk H locs ls hP hS hl)
theorem v_lmul (X : CX p s m args meth c k cc nL own) {x y : Int64} (hd : decode cc pc = .ok (.lmul, 1)) (kk : V p l e R s m args below meth c cells slots Q k nL mem (pc + 1) lv (aL (x * y) :: st)) : V p l e R s m args below meth c cells slots Q k nL mem pc lv (aL y :: aL x :: st) :=
  fun H locs ls hP hS hl => lv_lmul X.1 X.2.1 hd (kk H locs ls hP hS hl)
theorem v_land (X : CX p s m args meth c k cc nL own) {x y : Int64} (hd : decode cc pc = .ok (.land, 1)) (kk : V p l e R s m args below meth c cells slots Q k nL mem (pc + 1) lv (aL (x &&& y) :: st)) : V p l e R s m args below meth c cells slots Q k nL mem pc lv (aL y :: aL x :: st) :=
  fun H locs ls hP hS hl => lv_land X.1 X.2.1 hd (kk H locs ls hP hS hl)
theorem v_lor (X : CX p s m args meth c k cc nL own) {x y : Int64} (hd : decode cc pc = .ok (.lor, 1)) (kk : V p l e R s m args below meth c cells slots Q k nL mem (pc + 1) lv (aL (x ||| y) :: st)) : V p l e R s m args below meth c cells slots Q k nL mem pc lv (aL y :: aL x :: st) :=
  fun H locs ls hP hS hl => lv_lor X.1 X.2.1 hd (kk H locs ls hP hS hl)
theorem v_iushr (X : CX p s m args meth c k cc nL own) {x y v : Int32} (hv : (x.toUInt32 >>> (y &&& 31).toUInt32).toInt32 = v) (hd : decode cc pc = .ok (.iushr, 1)) (kk : V p l e R s m args below meth c cells slots Q k nL mem (pc + 1) lv (aI v :: st)) : V p l e R s m args below meth c cells slots Q k nL mem pc lv (aI y :: aI x :: st) :=
  fun H locs ls hP hS hl => lv_iushr X.1 X.2.1 hd hv (kk H locs ls hP hS hl)
theorem v_idiv (X : CX p s m args meth c k cc nL own) {x y : Int32} {α : Type} {A : Option α} {o : α} (h : (if y = 0 then none else A) = some o) (hd : decode cc pc = .ok (.idiv, 1)) (kk : A = some o → V p l e R s m args below meth c cells slots Q k nL mem (pc + 1) lv (aI (x / y) :: st)) : V p l e R s m args below meth c cells slots Q k nL mem pc lv (aI y :: aI x :: st) := by
  intro H locs ls hP hS hl
  by_cases hz : y = 0
  · rw [if_pos hz] at h; cases h
  · rw [if_neg hz] at h
    exact lv_idiv X.1 X.2.1 hd hz (kk h H locs ls hP hS hl)
theorem v_irem (X : CX p s m args meth c k cc nL own) {x y : Int32} {α : Type} {A : Option α} {o : α} (h : (if y = 0 then none else A) = some o) (hd : decode cc pc = .ok (.irem, 1)) (kk : A = some o → V p l e R s m args below meth c cells slots Q k nL mem (pc + 1) lv (aI (x % y) :: st)) : V p l e R s m args below meth c cells slots Q k nL mem pc lv (aI y :: aI x :: st) := by
  intro H locs ls hP hS hl
  by_cases hz : y = 0
  · rw [if_pos hz] at h; cases h
  · rw [if_neg hz] at h
    have e : x - x / y * y = x % y := irem_eq_mod x y
    have kk2 := kk h H locs ls hP hS hl
    rw [← e] at kk2
    exact lv_irem X.1 X.2.1 hd hz kk2
theorem v_i2l (X : CX p s m args meth c k cc nL own) {x : Int32} (hd : decode cc pc = .ok (.i2l, 1)) (kk : V p l e R s m args below meth c cells slots Q k nL mem (pc + 1) lv (aL (x.toInt64) :: st)) : V p l e R s m args below meth c cells slots Q k nL mem pc lv (aI x :: st) :=
  fun H locs ls hP hS hl => lv_i2l X.1 X.2.1 hd rfl (kk H locs ls hP hS hl)
theorem v_l2i (X : CX p s m args meth c k cc nL own) {x : Int64} (hd : decode cc pc = .ok (.l2i, 1)) (kk : V p l e R s m args below meth c cells slots Q k nL mem (pc + 1) lv (aI (x.toInt32) :: st)) : V p l e R s m args below meth c cells slots Q k nL mem pc lv (aL x :: st) :=
  fun H locs ls hP hS hl => lv_l2i X.1 X.2.1 hd rfl (kk H locs ls hP hS hl)
theorem v_i2b (X : CX p s m args meth c k cc nL own) {x : Int32} (hd : decode cc pc = .ok (.i2b, 1)) (kk : V p l e R s m args below meth c cells slots Q k nL mem (pc + 1) lv (aI (x.toInt8.toInt32) :: st)) : V p l e R s m args below meth c cells slots Q k nL mem pc lv (aI x :: st) :=
  fun H locs ls hP hS hl => lv_i2b X.1 X.2.1 hd rfl (kk H locs ls hP hS hl)
theorem v_i2s (X : CX p s m args meth c k cc nL own) {x : Int32} (hd : decode cc pc = .ok (.i2s, 1)) (kk : V p l e R s m args below meth c cells slots Q k nL mem (pc + 1) lv (aI (x.toInt16.toInt32) :: st)) : V p l e R s m args below meth c cells slots Q k nL mem pc lv (aI x :: st) :=
  fun H locs ls hP hS hl => lv_i2s X.1 X.2.1 hd rfl (kk H locs ls hP hS hl)
theorem v_i2c (X : CX p s m args meth c k cc nL own) {x : Int32} (hd : decode cc pc = .ok (.i2c, 1)) (kk : V p l e R s m args below meth c cells slots Q k nL mem (pc + 1) lv (aI ((x.toUInt32 % 65536).toInt32) :: st)) : V p l e R s m args below meth c cells slots Q k nL mem pc lv (aI x :: st) :=
  fun H locs ls hP hS hl => lv_i2c X.1 X.2.1 hd rfl (kk H locs ls hP hS hl)
theorem v_lshl (X : CX p s m args meth c k cc nL own) {x : Int64} {y : Int32} (hd : decode cc pc = .ok (.lshl, 1)) (kk : V p l e R s m args below meth c cells slots Q k nL mem (pc + 1) lv (aL (x <<< (y.toInt64 &&& 63)) :: st)) : V p l e R s m args below meth c cells slots Q k nL mem pc lv (aI y :: aL x :: st) :=
  fun H locs ls hP hS hl => lv_lshl X.1 X.2.1 hd rfl (kk H locs ls hP hS hl)
theorem v_lshr (X : CX p s m args meth c k cc nL own) {x : Int64} {y : Int32} (hd : decode cc pc = .ok (.lshr, 1)) (kk : V p l e R s m args below meth c cells slots Q k nL mem (pc + 1) lv (aL (x >>> (y.toInt64 &&& 63)) :: st)) : V p l e R s m args below meth c cells slots Q k nL mem pc lv (aI y :: aL x :: st) :=
  fun H locs ls hP hS hl => lv_lshr X.1 X.2.1 hd rfl (kk H locs ls hP hS hl)
theorem v_lcmp (X : CX p s m args meth c k cc nL own) {x y : Int64} (hd : decode cc pc = .ok (.lcmp, 1)) (kk : V p l e R s m args below meth c cells slots Q k nL mem (pc + 1) lv (aI (lg_cmp x y) :: st)) : V p l e R s m args below meth c cells slots Q k nL mem pc lv (aL y :: aL x :: st) :=
  fun H locs ls hP hS hl => W.lcmp X.1 X.2.1 hd (kk H locs ls hP hS hl)
theorem v_dup (X : CX p s m args meth c k cc nL own) {a : AV} (ha : acat a = 1) (hd : decode cc pc = .ok (.dup, 1)) (kk : V p l e R s m args below meth c cells slots Q k nL mem (pc + 1) lv (a :: a :: st)) : V p l e R s m args below meth c cells slots Q k nL mem pc lv (a :: st) :=
  fun H locs ls hP hS hl => lv_dup X.1 X.2.1 hd ((cv_cat k a).trans ha) (kk H locs ls hP hS hl)
theorem v_pop (X : CX p s m args meth c k cc nL own) {a : AV} (ha : acat a = 1) (hd : decode cc pc = .ok (.pop, 1)) (kk : V p l e R s m args below meth c cells slots Q k nL mem (pc + 1) lv st) : V p l e R s m args below meth c cells slots Q k nL mem pc lv (a :: st) :=
  fun H locs ls hP hS hl => lv_pop X.1 X.2.1 hd ((cv_cat k a).trans ha) (kk H locs ls hP hS hl)
theorem v_dup_x1 (X : CX p s m args meth c k cc nL own) {a b : AV} (ha : acat a = 1) (hb : acat b = 1) (hd : decode cc pc = .ok (.dup_x1, 1)) (kk : V p l e R s m args below meth c cells slots Q k nL mem (pc + 1) lv (a :: b :: a :: st)) : V p l e R s m args below meth c cells slots Q k nL mem pc lv (a :: b :: st) :=
  fun H locs ls hP hS hl => lv_dup_x1 X.1 X.2.1 hd ((cv_cat k a).trans ha) ((cv_cat k b).trans hb) (kk H locs ls hP hS hl)
theorem v_dup2 (X : CX p s m args meth c k cc nL own) {a b : AV} (ha : acat a = 1) (hb : acat b = 1) (hd : decode cc pc = .ok (.dup2, 1)) (kk : V p l e R s m args below meth c cells slots Q k nL mem (pc + 1) lv (a :: b :: a :: b :: st)) : V p l e R s m args below meth c cells slots Q k nL mem pc lv (a :: b :: st) :=
  fun H locs ls hP hS hl => lv_dup2_11 X.1 X.2.1 hd ((cv_cat k a).trans ha) ((cv_cat k b).trans hb) (kk H locs ls hP hS hl)
theorem v_goto (X : CX p s m args meth c k cc nL own) {off : Int} {tgt : Nat} (hd : decode cc pc = .ok (.goto off, 3)) (ht : (pc : Int) + off = (tgt : Int)) (kk : V p l e R s m args below meth c cells slots Q k nL mem tgt lv st) : V p l e R s m args below meth c cells slots Q k nL mem pc lv st :=
  fun H locs ls hP hS hl => lv_goto X.1 X.2.1 hd ht (kk H locs ls hP hS hl)
theorem v_icmp_eq (X : CX p s m args meth c k cc nL own) {x y : Int32} {off : Int} {tgt : Nat} {α : Type} {A B : Option α} {o : α} (h : (if x = y then A else B) = some o) (hd : decode cc pc = .ok (.if_icmp .eq off, 3)) (ht : (pc : Int) + off = (tgt : Int)) (k1 : A = some o → V p l e R s m args below meth c cells slots Q k nL mem tgt lv st) (k2 : B = some o → V p l e R s m args below meth c cells slots Q k nL mem (pc + 3) lv st) : V p l e R s m args below meth c cells slots Q k nL mem pc lv (aI y :: aI x :: st) :=
  fun H locs ls hP hS hl => lv_icmp_eq X.1 X.2.1 hd ht (fun q => k1 (it_t h q) H locs ls hP hS hl) (fun q => k2 (it_f h q) H locs ls hP hS hl)
theorem v_icmp_ne (X : CX p s m args meth c k cc nL own) {x y : Int32} {off : Int} {tgt : Nat} {α : Type} {A B : Option α} {o : α} (h : (if x = y then A else B) = some o) (hd : decode cc pc = .ok (.if_icmp .ne off, 3)) (ht : (pc : Int) + off = (tgt : Int)) (k1 : A = some o → V p l e R s m args below meth c cells slots Q k nL mem (pc + 3) lv st) (k2 : B = some o → V p l e R s m args below meth c cells slots Q k nL mem tgt lv st) : V p l e R s m args below meth c cells slots Q k nL mem pc lv (aI y :: aI x :: st) :=
  fun H locs ls hP hS hl => lv_icmp_ne X.1 X.2.1 hd ht (fun q => k2 (it_f h q) H locs ls hP hS hl) (fun q => k1 (it_t h q) H locs ls hP hS hl)
theorem v_icmp_lt (X : CX p s m args meth c k cc nL own) {x y : Int32} {off : Int} {tgt : Nat} {α : Type} {A B : Option α} {o : α} (h : (if x < y then A else B) = some o) (hd : decode cc pc = .ok (.if_icmp .lt off, 3)) (ht : (pc : Int) + off = (tgt : Int)) (k1 : A = some o → V p l e R s m args below meth c cells slots Q k nL mem tgt lv st) (k2 : B = some o → V p l e R s m args below meth c cells slots Q k nL mem (pc + 3) lv st) : V p l e R s m args below meth c cells slots Q k nL mem pc lv (aI y :: aI x :: st) :=
  fun H locs ls hP hS hl => lv_icmp_lt X.1 X.2.1 hd ht (fun q => k1 (it_t h q) H locs ls hP hS hl) (fun q => k2 (it_f h q) H locs ls hP hS hl)
theorem v_icmp_ge (X : CX p s m args meth c k cc nL own) {x y : Int32} {off : Int} {tgt : Nat} {α : Type} {A B : Option α} {o : α} (h : (if x < y then A else B) = some o) (hd : decode cc pc = .ok (.if_icmp .ge off, 3)) (ht : (pc : Int) + off = (tgt : Int)) (k1 : A = some o → V p l e R s m args below meth c cells slots Q k nL mem (pc + 3) lv st) (k2 : B = some o → V p l e R s m args below meth c cells slots Q k nL mem tgt lv st) : V p l e R s m args below meth c cells slots Q k nL mem pc lv (aI y :: aI x :: st) :=
  fun H locs ls hP hS hl => lv_icmp_ge X.1 X.2.1 hd ht (fun q => k2 (it_f h (Int32.not_lt.mpr q)) H locs ls hP hS hl) (fun q => k1 (it_t h (Int32.not_le.mp q)) H locs ls hP hS hl)
theorem v_icmp_gt (X : CX p s m args meth c k cc nL own) {x y : Int32} {off : Int} {tgt : Nat} {α : Type} {A B : Option α} {o : α} (h : (if y < x then A else B) = some o) (hd : decode cc pc = .ok (.if_icmp .gt off, 3)) (ht : (pc : Int) + off = (tgt : Int)) (k1 : A = some o → V p l e R s m args below meth c cells slots Q k nL mem tgt lv st) (k2 : B = some o → V p l e R s m args below meth c cells slots Q k nL mem (pc + 3) lv st) : V p l e R s m args below meth c cells slots Q k nL mem pc lv (aI y :: aI x :: st) :=
  fun H locs ls hP hS hl => lv_icmp_gt X.1 X.2.1 hd ht (fun q => k1 (it_t h q) H locs ls hP hS hl) (fun q => k2 (it_f h q) H locs ls hP hS hl)
theorem v_icmp_le (X : CX p s m args meth c k cc nL own) {x y : Int32} {off : Int} {tgt : Nat} {α : Type} {A B : Option α} {o : α} (h : (if y < x then A else B) = some o) (hd : decode cc pc = .ok (.if_icmp .le off, 3)) (ht : (pc : Int) + off = (tgt : Int)) (k1 : A = some o → V p l e R s m args below meth c cells slots Q k nL mem (pc + 3) lv st) (k2 : B = some o → V p l e R s m args below meth c cells slots Q k nL mem tgt lv st) : V p l e R s m args below meth c cells slots Q k nL mem pc lv (aI y :: aI x :: st) :=
  fun H locs ls hP hS hl => lv_icmp_le X.1 X.2.1 hd ht (fun q => k2 (it_f h (Int32.not_lt.mpr q)) H locs ls hP hS hl) (fun q => k1 (it_t h (Int32.not_le.mp q)) H locs ls hP hS hl)
theorem v_if_eq (X : CX p s m args meth c k cc nL own) {x : Int32} {off : Int} {tgt : Nat} {α : Type} {A B : Option α} {o : α} (h : (if x = 0 then A else B) = some o) (hd : decode cc pc = .ok (.ifCond .eq off, 3)) (ht : (pc : Int) + off = (tgt : Int)) (k1 : A = some o → V p l e R s m args below meth c cells slots Q k nL mem tgt lv st) (k2 : B = some o → V p l e R s m args below meth c cells slots Q k nL mem (pc + 3) lv st) : V p l e R s m args below meth c cells slots Q k nL mem pc lv (aI x :: st) :=
  fun H locs ls hP hS hl => lv_if_eq X.1 X.2.1 hd ht (fun q => k1 (it_t h q) H locs ls hP hS hl) (fun q => k2 (it_f h q) H locs ls hP hS hl)
theorem v_if_ne (X : CX p s m args meth c k cc nL own) {x : Int32} {off : Int} {tgt : Nat} {α : Type} {A B : Option α} {o : α} (h : (if x = 0 then A else B) = some o) (hd : decode cc pc = .ok (.ifCond .ne off, 3)) (ht : (pc : Int) + off = (tgt : Int)) (k1 : A = some o → V p l e R s m args below meth c cells slots Q k nL mem (pc + 3) lv st) (k2 : B = some o → V p l e R s m args below meth c cells slots Q k nL mem tgt lv st) : V p l e R s m args below meth c cells slots Q k nL mem pc lv (aI x :: st) :=
  fun H locs ls hP hS hl => lv_if_ne X.1 X.2.1 hd ht (fun q => k2 (it_f h q) H locs ls hP hS hl) (fun q => k1 (it_t h q) H locs ls hP hS hl)
theorem v_if_lt (X : CX p s m args meth c k cc nL own) {x : Int32} {off : Int} {tgt : Nat} {α : Type} {A B : Option α} {o : α} (h : (if x < 0 then A else B) = some o) (hd : decode cc pc = .ok (.ifCond .lt off, 3)) (ht : (pc : Int) + off = (tgt : Int)) (k1 : A = some o → V p l e R s m args below meth c cells slots Q k nL mem tgt lv st) (k2 : B = some o → V p l e R s m args below meth c cells slots Q k nL mem (pc + 3) lv st) : V p l e R s m args below meth c cells slots Q k nL mem pc lv (aI x :: st) :=
  fun H locs ls hP hS hl => lv_if_lt X.1 X.2.1 hd ht (fun q => k1 (it_t h q) H locs ls hP hS hl) (fun q => k2 (it_f h q) H locs ls hP hS hl)
theorem v_if_ge (X : CX p s m args meth c k cc nL own) {x : Int32} {off : Int} {tgt : Nat} {α : Type} {A B : Option α} {o : α} (h : (if x < 0 then A else B) = some o) (hd : decode cc pc = .ok (.ifCond .ge off, 3)) (ht : (pc : Int) + off = (tgt : Int)) (k1 : A = some o → V p l e R s m args below meth c cells slots Q k nL mem (pc + 3) lv st) (k2 : B = some o → V p l e R s m args below meth c cells slots Q k nL mem tgt lv st) : V p l e R s m args below meth c cells slots Q k nL mem pc lv (aI x :: st) :=
  fun H locs ls hP hS hl => lv_if_ge X.1 X.2.1 hd ht (fun q => k2 (it_f h (Int32.not_lt.mpr q)) H locs ls hP hS hl) (fun q => k1 (it_t h (Int32.not_le.mp q)) H locs ls hP hS hl)
theorem v_if_gt (X : CX p s m args meth c k cc nL own) {x : Int32} {off : Int} {tgt : Nat} {α : Type} {A B : Option α} {o : α} (h : (if 0 < x then A else B) = some o) (hd : decode cc pc = .ok (.ifCond .gt off, 3)) (ht : (pc : Int) + off = (tgt : Int)) (k1 : A = some o → V p l e R s m args below meth c cells slots Q k nL mem tgt lv st) (k2 : B = some o → V p l e R s m args below meth c cells slots Q k nL mem (pc + 3) lv st) : V p l e R s m args below meth c cells slots Q k nL mem pc lv (aI x :: st) :=
  fun H locs ls hP hS hl => lv_if_gt X.1 X.2.1 hd ht (fun q => k1 (it_t h q) H locs ls hP hS hl) (fun q => k2 (it_f h q) H locs ls hP hS hl)
theorem v_if_le (X : CX p s m args meth c k cc nL own) {x : Int32} {off : Int} {tgt : Nat} {α : Type} {A B : Option α} {o : α} (h : (if 0 < x then A else B) = some o) (hd : decode cc pc = .ok (.ifCond .le off, 3)) (ht : (pc : Int) + off = (tgt : Int)) (k1 : A = some o → V p l e R s m args below meth c cells slots Q k nL mem (pc + 3) lv st) (k2 : B = some o → V p l e R s m args below meth c cells slots Q k nL mem tgt lv st) : V p l e R s m args below meth c cells slots Q k nL mem pc lv (aI x :: st) :=
  fun H locs ls hP hS hl => lv_if_le X.1 X.2.1 hd ht (fun q => k2 (it_f h (Int32.not_lt.mpr q)) H locs ls hP hS hl) (fun q => k1 (it_t h (Int32.not_le.mp q)) H locs ls hP hS hl)
theorem v_tsw (X : CX p s m args meth c k cc nL own) {dflt lo hi : Int} {offs : Array Int} {len : Nat} {x : Int32} {off : Int} {tgt : Nat} (v : Int32) (hx : x = v) (hd : decode cc pc = .ok (.tableswitch dflt lo hi offs, len)) (h1 : ¬ v.toInt < lo) (h2 : ¬ hi < v.toInt) (ho : offs[(v.toInt - lo).toNat]? = some off) (ht : (pc : Int) + off = (tgt : Int)) (kk : V p l e R s m args below meth c cells slots Q k nL mem tgt lv st) : V p l e R s m args below meth c cells slots Q k nL mem pc lv (aI x :: st) :=
  fun H locs ls hP hS hl => lv_tableIn X.1 X.2.1 hd (by rw [hx]; exact h1) (by rw [hx]; exact h2) (by rw [hx]; exact ho) ht (kk H locs ls hP hS hl)
theorem v_tswD (X : CX p s m args meth c k cc nL own) {dflt lo hi : Int} {offs : Array Int} {len : Nat} {x : Int32} {tgt : Nat} (hx : x.toInt < lo ∨ hi < x.toInt) (hd : decode cc pc = .ok (.tableswitch dflt lo hi offs, len)) (ht : (pc : Int) + dflt = (tgt : Int)) (kk : V p l e R s m args below meth c cells slots Q k nL mem tgt lv st) : V p l e R s m args below meth c cells slots Q k nL mem pc lv (aI x :: st) :=
  fun H locs ls hP hS hl => lv_tableOut X.1 X.2.1 hd hx ht (kk H locs ls hP hS hl)
end ROWS
