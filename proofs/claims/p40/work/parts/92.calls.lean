/-! CONSTRUCTORS: a call of one of them, the new row of sheets. -/
theorem F_last {A0 : Nat → Prop} {X : va_W} {q : Nat} {e0 : va_E} {H0 H : Heap} {locs : List Loc} (hD : va_D A0 (X ++ [(q, e0)])) (hS : va_S A0 H0 H locs) (hA : ∀ a, H0.size ≤ a → A0 a) : ∀ a, va_A [(q, e0)] H.size a → A0 a := by
  intro a h
  rcases h with ⟨k, e, h⟩ | h
  · have hk : (X ++ [(q, e0)])[X.length + k]? = some (a, e) := by
      rw [List.getElem?_append_right (by omega), Nat.add_sub_cancel_left]
      exact h
    exact hD.2 _ _ hk
  · exact hA a (Nat.le_trans hS.1 h)
theorem J_last {A0 : Nat → Prop} {D : va_G} {cl : List vw_C} {X w1 : va_W} {q : Nat} {e0 : va_E} {H H1 : Heap} (hP : va_P D cl (X ++ [(q, e0)]) H) (hD : va_D A0 (X ++ [(q, e0)])) (hk : ∀ a : Nat, a < H.size → ¬ va_A [(q, e0)] H.size a → H1[a]? = H[a]?) (hF : ∀ a, va_A [(q, e0)] H.size a → A0 a) (hP1 : va_P D cl w1 H1) (hD1 : va_D (va_A [(q, e0)] H.size) w1) : va_P D cl (X ++ w1) H1 ∧ va_D A0 (X ++ w1) := by
  have hX : ∀ (k : Nat) (x : Nat × va_E), X[k]? = some x → k < X.length ∧ (X ++ [(q, e0)])[k]? = some x := fun k x hx => by
    have hl := (List.getElem?_eq_some_iff.mp hx).1
    exact ⟨hl, by rw [List.getElem?_append_left hl]; exact hx⟩
  have apart : ∀ (k : Nat) (x : Nat × va_E), X[k]? = some x → x.1 < H.size ∧ ¬ va_A [(q, e0)] H.size x.1 := by
    intro k x hx
    obtain ⟨hl, h2⟩ := hX k x hx
    have hlt := (hP k x h2).lt
    refine ⟨hlt, fun h => ?_⟩
    rcases h with ⟨j, e, h⟩ | h
    · have hj : (X ++ [(q, e0)])[X.length + j]? = some (x.1, e) := by
        rw [List.getElem?_append_right (by omega), Nat.add_sub_cancel_left]
        exact h
      have := hD.1 k _ x (x.1, e) h2 hj rfl
      omega
    · omega
  have hDX : va_D A0 X := ⟨fun i j x y hi hj hxy => hD.1 i j x y (hX i x hi).2 (hX j y hj).2 hxy, fun k x hx => hD.2 k x (hX k x hx).2⟩
  refine ⟨va_P.app (fun k x hx => ?_) hP1, va_D.app hDX (hD1.weaken (fun k x _ h => hF x.1 h)) (fun i j x y hx hy hxy => ?_)⟩
  · obtain ⟨g1, g2⟩ := apart k x hx
    exact (hP k x (hX k x hx).2).kept (hk x.1 g1 g2)
  · exact (apart i x hx).2 (by rw [hxy]; exact hD1.2 j y hy)
section CONS2
variable {p : Program} {l : Launch} {e : Env} {R : Room} {s : State} {m : MethodId} {args : Array Value} {below : List Frame} {meth : Method} {c : Code} {H : Heap} {locs : List Loc} {cells slots : Nat} {Q : State → Prop}
variable {cc : ByteArray} {pc : Nat} {ls : Array Slot} {rest : List Value} {D : va_G} {A : Nat → Prop} {H0 : Heap} {cT : Nat → ClassId}
theorem C_newQ {ws : va_W} {n : Nat} (hexec : p.tables.exec = Jvm.exec) (hb : c.code = cc) {own : String} {index : Nat} (hown : s.vm.findClass own = some m.cls) (hclink : (Cond.classLink own index "WallShifts$Sheet").before args s = true) (hover : va_AO "WallShifts$Sheet" s) (hK : va_K D wcl (tysC cT) s) (hP : va_P D wcl ws H) (hD : va_D A ws) (hS : va_S A H0 H locs) (hA : ∀ q, H0.size ≤ q → A q) (hn : n < 1000) (hcells : cells + 1 ≤ R.cells) (hslots : slots + n ≤ R.slots) (hdg : decode cc pc = .ok (.anewarray index, 3))
    (kk : ∀ (q : Nat) (H1 : Heap), va_P D wcl (ws ++ [(q, .inl (cT 3, n, .inr (.inr (.inr (.inr (fun _ => none))))))]) H1 → va_D A (ws ++ [(q, .inl (cT 3, n, .inr (.inr (.inr (.inr (fun _ => none))))))]) → va_S A H0 H1 locs → W p l e R s m args below meth c H1 locs (cells + 1) (slots + n) Q (F0 m (pc + 3) ls (.ref q :: rest))) : W p l e R s m args below meth c H locs cells slots Q (F0 m pc ls (.int (nI n) :: rest)) := by
  refine va_newq (N' := n) hexec hb hown hclink hover hK hP hD hS hA (nI_pos (by omega)) (nI_clamp (by omega)) (by omega) hcells hslots hdg (fun q cA H1 hK1 hP1 hD1 hS1 => ?_)
  obtain ⟨_, _, _, _, _, h3⟩ := (hK.2 3 (cT 3, .object "WallShifts$Sheet") rfl).2
  obtain ⟨_, _, _, _, _, h4⟩ := (hK1.2 4 (cA, .object "WallShifts$Sheet") rfl).2
  have ec : cT 3 = cA := Option.some.inj (h3.symm.trans h4)
  subst ec
  exact kk q H1 hP1 hD1 hS1
theorem KI.blind {sz : Nat} {as : List Value} {X : va_W} : FrameBlind (va_Pc as (fun U => KI D cT U ∧ U.heap.size = sz ∧ va_P D wcl X U.heap)) := by
  intro a U g mk q
  obtain ⟨q0, q1, q2, q3⟩ := q
  exact ⟨q0, KI.same (u := U) (U := U.calling g mk a) rfl q1, q2, q3⟩
theorem C_ctorN {S : Type} {X : va_W} {y : MethodName} {b : ByteArray} {n index : Nat} {rm : Room} {q nL : Nat} {e0 : va_E} {Wf : S → va_W} (hM : CT l y b n rm D cT q H.size e0 Wf) (hx : p.tables.exec = Jvm.exec) (hb : c.code = cc) (hml : c.maxLocals = nL) (hown : s.vm.findClass "WallShifts" = some m.cls) (hg : ∀ w ∈ wG, w.before args s = true) (hKI : KI D cT s)
    (hcode : Cond.code y b n none ∈ wG) (hini : Cond.initialized y.cls ∈ wG) (hins : Cond.instanceMethod y ∈ wG) (hnest : Cond.methodLinkNest "WallShifts" index y "WallShifts" ∈ wNi) (hy : y.cls ≠ "java/lang/invoke/MethodHandle" ∧ y.cls ≠ "java/lang/invoke/VarHandle" ∧ (parseMethodDescriptor y.desc).map (fun d => d.parameters.length) = some 0) (hy1 : y.name = "<init>") (hR : rm.frames + 1 ≤ R.frames ∧ 8 + (n + 11) + rm.locals ≤ R.locals)
    (hP : va_P D wcl (X ++ [(q, e0)]) H) (hD : va_D A (X ++ [(q, e0)])) (hS : va_S A H0 H locs) (hA : ∀ q, H0.size ≤ q → A q) (hls : ls.size = nL) (hcat : (rest.map fun v => v.category).sum ≤ 8) (hcells : cells + rm.cells ≤ R.cells) (hslots : slots + rm.slots ≤ R.slots) (hdg : decode cc pc = .ok (.invokespecial index, 3))
    (kk : ∀ (u : S) (H1 : Heap) (locs1 : List Loc), va_P D wcl (X ++ Wf u) H1 → va_D A (X ++ Wf u) → va_S A H0 H1 locs1 → W p l e R s m args below meth c H1 locs1 (cells + rm.cells) (slots + rm.slots) Q (F0 m (pc + 3) ls rest)) : W p l e R s m args below meth c H locs cells slots Q (F0 m pc ls (.ref q :: rest)) := by
  have hF := F_last hD hS hA
  have hP0 : va_P D wcl [(q, e0)] H := fun k x hx2 => hP (X.length + k) x (by rw [List.getElem?_append_right (by omega), Nat.add_sub_cancel_left]; exact hx2)
  have hgood : ∀ w ∈ wM y b n none, w ∈ wG := fun w hw => by
    rcases List.mem_cons.mp hw with rfl | h
    · exact hcode
    · exact h
  refine va_callv (va_runIN (host := "WallShifts") (As := []) (rest := rest) ⟨hx, hb, hml, hown, hg⟩ hM ⟨va_cnB 0 hg (wG_all hgood) rfl rfl rfl (hKI.2.2.2 _ hnest) (hg _ hini) hy hR, hy1, hg _ hins⟩ ⟨KI.blind, fun U hU hW => ⟨rfl, KI.warm hW hKI, by rw [hU], by rw [hU]; exact hP0⟩⟩ rfl rfl hls rfl (lv_room hcat) hdg ⟨hcells, hslots⟩) hS (fun a _ h => hF a h) hF (fun u t H1 locs1 ht hvm hw hB hz1 hk1 hS1 => ?_)
  obtain ⟨hP1, hD1⟩ := hB
  rw [ht] at hP1
  obtain ⟨hP2, hD2⟩ := J_last hP hD hk1 hF hP1 hD1
  exact kk u H1 locs1 hP2 hD2 hS1
theorem C_ctor {S : Type} {X : va_W} {own : String} {y : MethodName} {b : ByteArray} {n index : Nat} {rm : Room} {q nL : Nat} {e0 : va_E} {Wf : S → va_W} (hM : CT l y b n rm D cT q H.size e0 Wf) (hx : p.tables.exec = Jvm.exec) (hb : c.code = cc) (hml : c.maxLocals = nL) (hown : s.vm.findClass own = some m.cls) (hg : ∀ w ∈ wG, w.before args s = true) (hKI : KI D cT s)
    (hcode : Cond.code y b n none ∈ wG) (hini : Cond.initialized y.cls ∈ wG) (hins : Cond.instanceMethod y ∈ wG) (hlink : Cond.methodLink own index y ∈ wG) (hy : y.cls ≠ "java/lang/invoke/MethodHandle" ∧ y.cls ≠ "java/lang/invoke/VarHandle" ∧ (parseMethodDescriptor y.desc).map (fun d => d.parameters.length) = some 0) (hy1 : y.name = "<init>") (hR : rm.frames + 1 ≤ R.frames ∧ 8 + (n + 11) + rm.locals ≤ R.locals)
    (hP : va_P D wcl (X ++ [(q, e0)]) H) (hD : va_D A (X ++ [(q, e0)])) (hS : va_S A H0 H locs) (hA : ∀ q, H0.size ≤ q → A q) (hls : ls.size = nL) (hcat : (rest.map fun v => v.category).sum ≤ 8) (hcells : cells + rm.cells ≤ R.cells) (hslots : slots + rm.slots ≤ R.slots) (hdg : decode cc pc = .ok (.invokespecial index, 3))
    (kk : ∀ (u : S) (H1 : Heap) (locs1 : List Loc), va_P D wcl (X ++ Wf u) H1 → va_D A (X ++ Wf u) → va_S A H0 H1 locs1 → W p l e R s m args below meth c H1 locs1 (cells + rm.cells) (slots + rm.slots) Q (F0 m (pc + 3) ls rest)) : W p l e R s m args below meth c H locs cells slots Q (F0 m pc ls (.ref q :: rest)) := by
  have hF := F_last hD hS hA
  have hP0 : va_P D wcl [(q, e0)] H := fun k x hx2 => hP (X.length + k) x (by rw [List.getElem?_append_right (by omega), Nat.add_sub_cancel_left]; exact hx2)
  have hgood : ∀ w ∈ wM y b n none, w ∈ wG := fun w hw => by
    rcases List.mem_cons.mp hw with rfl | h
    · exact hcode
    · exact h
  refine va_callv (va_runI (As := []) (rest := rest) ⟨hx, hb, hml, hown, hg⟩ hM (cwI 0 hg (wG_all hgood) rfl rfl rfl (hg _ hini) (hg _ hlink) (hg _ hins) hy1 hy hR) ⟨KI.blind, fun U hU hW => ⟨rfl, KI.warm hW hKI, by rw [hU], by rw [hU]; exact hP0⟩⟩ rfl rfl hls rfl (lv_room hcat) hdg ⟨hcells, hslots⟩) hS (fun a _ h => hF a h) hF (fun u t H1 locs1 ht hvm hw hB hz1 hk1 hS1 => ?_)
  obtain ⟨hP1, hD1⟩ := hB
  rw [ht] at hP1
  obtain ⟨hP2, hD2⟩ := J_last hP hD hk1 hF hP1 hD1
  exact kk u H1 locs1 hP2 hD2 hS1
end CONS2
