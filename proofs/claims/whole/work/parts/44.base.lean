/-! FRAMES: which cells a change touches; a wall's number put; the reference's small methods. -/
theorem gI_sI (m : Mem) (t i j : Nat) (v : Int32) (t' i' j' : Nat) : gI (sI m t i j v) t' i' j' = if t' = t ∧ i' = i ∧ j' = j then v else gI m t' i' j' := rfl
theorem gI_sL (m : Mem) (t i j : Nat) (v : Int64) (t' i' j' : Nat) : gI (sL m t i j v) t' i' j' = gI m t' i' j' := rfl
theorem gL_sI (m : Mem) (t i j : Nat) (v : Int32) (t' i' j' : Nat) : gL (sI m t i j v) t' i' j' = gL m t' i' j' := rfl
theorem gL_sL (m : Mem) (t i j : Nat) (v : Int64) (t' i' j' : Nat) : gL (sL m t i j v) t' i' j' = if t' = t ∧ i' = i ∧ j' = j then v else gL m t' i' j' := rfl
theorem gI_sIr (m : Mem) (t i : Nat) (f : Nat → Int32) (t' i' j' : Nat) : gI (sIr m t i f) t' i' j' = if t' = t ∧ i' = i then f j' else gI m t' i' j' := rfl
theorem gL_sIr (m : Mem) (t i : Nat) (f : Nat → Int32) (t' i' j' : Nat) : gL (sIr m t i f) t' i' j' = gL m t' i' j' := rfl
theorem gI_sLr (m : Mem) (t i : Nat) (f : Nat → Int64) (t' i' j' : Nat) : gI (sLr m t i f) t' i' j' = gI m t' i' j' := rfl
theorem gL_sLr (m : Mem) (t i : Nat) (f : Nat → Int64) (t' i' j' : Nat) : gL (sLr m t i f) t' i' j' = if t' = t ∧ i' = i then f j' else gL m t' i' j' := rfl
/-- only the cells of P may have changed -/
def Fx (P : Nat → Nat → Bool) (m m' : Mem) : Prop := ∀ t i, P t i = false → (∀ j, gI m' t i j = gI m t i j) ∧ ∀ j, gL m' t i j = gL m t i j
theorem Fx_rfl (P : Nat → Nat → Bool) (m : Mem) : Fx P m m := fun _ _ _ => ⟨fun _ => rfl, fun _ => rfl⟩
theorem Fx_tr {P : Nat → Nat → Bool} {m m' m'' : Mem} (h : Fx P m m') (h' : Fx P m' m'') : Fx P m m'' := fun t i e => ⟨fun j => ((h' t i e).1 j).trans ((h t i e).1 j), fun j => ((h' t i e).2 j).trans ((h t i e).2 j)⟩
theorem Fx_mo {P Q : Nat → Nat → Bool} {m m' : Mem} (h : Fx P m m') (hq : ∀ t i, P t i = true → Q t i = true) : Fx Q m m' := fun t i e => h t i (by
  cases c : P t i with
  | false => rfl
  | true => rw [hq t i c] at e; cases e)
theorem Fx_sI {P : Nat → Nat → Bool} {m : Mem} {t i j : Nat} {v : Int32} (h : P t i = true) : Fx P m (sI m t i j v) := fun t' i' e => ⟨fun j' => (by
  rw [gI_sI, if_neg]
  rintro ⟨rfl, rfl, -⟩
  rw [h] at e
  cases e), fun _ => rfl⟩
theorem Fx_sL {P : Nat → Nat → Bool} {m : Mem} {t i j : Nat} {v : Int64} (h : P t i = true) : Fx P m (sL m t i j v) := fun t' i' e => ⟨fun _ => rfl, fun j' => by
  rw [gL_sL, if_neg]
  rintro ⟨rfl, rfl, -⟩
  rw [h] at e
  cases e⟩
theorem Fx_sIr {P : Nat → Nat → Bool} {m : Mem} {t i : Nat} {f : Nat → Int32} (h : P t i = true) : Fx P m (sIr m t i f) := fun t' i' e => ⟨fun j' => (by
  rw [gI_sIr, if_neg]
  rintro ⟨rfl, rfl⟩
  rw [h] at e
  cases e), fun _ => rfl⟩
theorem Fx_sLr {P : Nat → Nat → Bool} {m : Mem} {t i : Nat} {f : Nat → Int64} (h : P t i = true) : Fx P m (sLr m t i f) := fun t' i' e => ⟨fun _ => rfl, fun j' => by
  rw [gL_sLr, if_neg]
  rintro ⟨rfl, rfl⟩
  rw [h] at e
  cases e⟩
def palB (p t i : Nat) : Bool := decide (t = 1 ∧ i = p ∨ t = 2 ∧ i = p ∨ t = 4 ∧ i / 10 = p)
def rowB (t _i : Nat) : Bool := decide (t = 13)
theorem palB1 (p : Nat) : palB p 1 p = true := by simp [palB]
theorem palB2 (p : Nat) : palB p 2 p = true := by simp [palB]
theorem palB4 {p w : Nat} (h : w < 10) : palB p 4 (10 * p + w) = true := by
  have : (10 * p + w) / 10 = p := by omega
  simp [palB, this]
theorem RC_fx {P : Nat → Nat → Bool} {mem mem' : Mem} {p : Nat} {S : PS} (h : RC mem p S) (hc : ct S ≤ 10) (fx : Fx P mem mem') (hp : ∀ t i, palB p t i = true → P t i = false) : RC mem' p S := by
  obtain ⟨h1, h2, h3, h4⟩ := h
  refine ⟨?_, fun j hj => ?_, ?_, fun w hw k hk => ?_⟩
  · rw [(fx 1 p (hp _ _ (palB1 p))).1, h1]
  · rw [(fx 2 p (hp _ _ (palB2 p))).1, h2 j hj]
  · rw [(fx 1 p (hp _ _ (palB1 p))).1, h3]
  · rw [(fx 4 (10 * p + w) (hp _ _ (palB4 (by omega)))).1, h4 w hw k hk]
def setW (S : PS) (w k v : Nat) : PS := (mi S, ro S, ct S, fun w' k' => if w' = w ∧ k' = k then v else wa S w' k')
theorem RC_put {mem : Mem} {p : Nat} {S : PS} (h : RC mem p S) (w k v : Nat) : RC (sI mem 4 (10 * p + w) k (nI v)) p (setW S w k v) := by
  obtain ⟨h1, h2, h3, h4⟩ := h
  refine ⟨h1, h2, h3, fun w' hw' k' hk' => ?_⟩
  rw [gI_sI]
  show _ = nI (if w' = w ∧ k' = k then v else wa S w' k')
  by_cases c : w' = w ∧ k' = k
  · rw [if_pos c, if_pos ⟨rfl, by omega, c.2⟩]
  · rw [if_neg c, if_neg (by omega)]
    exact h4 w' hw' k' hk'
theorem RM_put {mem : Mem} {S : PS} (h : RM mem S) {w k : Nat} (hk : k < 6) (v : Nat) : RM (sI mem 13 0 (6 + 6 * w + k) (nI v)) (setW S w k v) := by
  obtain ⟨h1, h2, h3, h4⟩ := h
  refine ⟨?_, fun j hj => ?_, ?_, fun w' hw' k' hk' => ?_⟩
  · rw [gI_sI, if_neg (by omega)]
    exact h1
  · rw [gI_sI, if_neg (by omega)]
    exact h2 j hj
  · rw [gI_sI, if_neg (by omega)]
    exact h3
  rw [gI_sI]
  show _ = nI (if w' = w ∧ k' = k then v else wa S w' k')
  by_cases c : w' = w ∧ k' = k
  · rw [if_pos c, if_pos ⟨rfl, rfl, by omega⟩]
  · rw [if_neg c, if_neg (by omega)]
    exact h4 w' hw' k' hk'
theorem ifz_f {α : Sort _} {A B : α} : (if nI (b2 false) = 0 then A else B) = A := if_pos rfl
theorem ifz_t {α : Sort _} {A B : α} : (if nI (b2 true) = 0 then A else B) = B := if_neg (by decide)
theorem its_ok {f w k : Nat} {mem : Mem} {S : PS} (h : RM mem S) (hi : IV S) (hw : w < ct S) (hk : OfNat.ofNat k < 6) : dM_its f (nI w) (OfNat.ofNat k : Int32) mem = some (nI (wa S w (OfNat.ofNat k)), mem) := by
  have hct : ct S ≤ 10 := hi.2.2.2.2.2.2.2.1
  have hk' : k < 6 := hk
  unfold dM_its
  simp (disch := omega) only [nb_lit, nb_lt, nb_le, nb_inj, nb_add, nb_mul, nb_sub, nb_div, nb_mod, nb_and, nb_or, nb_xor, nb_shl2, nb_shr2, nI_clamp]
  rw [ck_in _ (by omega) (by omega)]
  exact congrArg (fun z => some (z, mem)) (h.2.2.2 w hw k hk')
theorem puts_ok {f w k v : Nat} {mem : Mem} {S : PS} (hi : IV S) (hw : w < ct S) (hk : OfNat.ofNat k < 6) : dM_puts f (nI w) (OfNat.ofNat k : Int32) (nI v) mem = some ((), sI mem 13 0 (6 + 6 * w + OfNat.ofNat k) (nI v)) := by
  have hct : ct S ≤ 10 := hi.2.2.2.2.2.2.2.1
  have hk' : k < 6 := hk
  unfold dM_puts
  simp (disch := omega) only [nb_lit, nb_lt, nb_le, nb_inj, nb_add, nb_mul, nb_sub, nb_div, nb_mod, nb_and, nb_or, nb_xor, nb_shl2, nb_shr2, nI_clamp]
  rw [ck_in _ (by omega) (by omega)]
theorem has_ok {f a k : Nat} {mem : Mem} (ha : a < 2 ^ 31) (hk : k < 32) : dM_has f (nI a) (nI k) mem = some (nI (b2 (a.testBit k)), mem) := by
  unfold dM_has
  rw [nb_has ha hk]
  cases a.testBit k <;> rfl
theorem isAt_ok {f w set : Nat} {mem : Mem} {S : PS} (h : RM mem S) (hi : IV S) (hw : w < ct S) (hs : set < 2 ^ 31) : dM_isAt f (nI w) (nI set) mem = some (nI (b2 (atS S set w)), mem) := by
  have hv := hi.2.2.2.2.2.2.2.2 w hw
  have h1 := hv.2.1
  have h2 := hv.2.2.1
  unfold dM_isAt atS
  rw [its_ok h hi hw (by omega), bd_ok, has_ok hs (by omega), bd_ok]
  cases set.testBit (wa S w 1) with
  | true => rfl
  | false =>
    rw [ifz_f, its_ok h hi hw (by omega), bd_ok, has_ok hs (by omega), bd_ok]
    cases set.testBit (wa S w 2) <;> rfl
theorem isOn_47 {f w q rest : Nat} {mem : Mem} {S : PS} (h : RM mem S) (hi : IV S) (hw : w < ct S) (hq : q < 2 ^ 31) (hr : rest < 2 ^ 31) (own : Bool) :
    dM_isOnDuty_47 f (nI w) (nI q) (nI rest) (nI (b2 own)) mem =
      some (nI (b2 (if wa S w 0 = 1 then own && !decide (ro S 2 = 3) else if wa S w 0 = 4 then (if ro S 2 = 3 then decide (rest = 0) else own) else if wa S w 0 = 5 then own || (decide (q = (wa S w 3 + 1) % 4) && decide (ro S 1 ≤ rest)) else own)), mem) := by
  have hv := hi.2.2.2.2.2.2.2.2 w hw
  have r1 : gI mem 13 0 2 = nI (ro S 1) := h.2.1 1 (by omega)
  have r2 : gI mem 13 0 3 = nI (ro S 2) := h.2.1 2 (by omega)
  obtain ⟨i1, i2, i3, i4, i5, i6, i7, i8, i9⟩ := hi
  have hi : IV S := ⟨i1, i2, i3, i4, i5, i6, i7, i8, i9⟩
  unfold dM_isOnDuty_47
  rw [its_ok h hi hw (by omega), bd_ok, its_ok h hi hw (by omega), bd_ok, r1, r2]
  obtain ⟨v0, v1, v2, v3, v4, v5⟩ := hv
  have k1 : nI (wa S w 0) = 1 ↔ wa S w 0 = 1 := nb_inj (b := 1) (by omega) (by omega)
  have k2 : nI (wa S w 0) = 2 ↔ wa S w 0 = 2 := nb_inj (b := 2) (by omega) (by omega)
  have k3 : nI (wa S w 0) = 3 ↔ wa S w 0 = 3 := nb_inj (b := 3) (by omega) (by omega)
  have k4 : nI (wa S w 0) = 4 ↔ wa S w 0 = 4 := nb_inj (b := 4) (by omega) (by omega)
  have k5 : nI (wa S w 0) = 5 ↔ wa S w 0 = 5 := nb_inj (b := 5) (by omega) (by omega)
  have c3 : nI (ro S 2) = 3 ↔ ro S 2 = 3 := nb_inj (b := 3) (by omega) (by omega)
  have c0 : nI rest = 0 ↔ rest = 0 := nb_zero hr
  have c1 : nI rest < nI (ro S 1) ↔ ¬ ro S 1 ≤ rest := by rw [nb_lt hr (by omega)]; omega
  have cq : nI q = (nI (wa S w 3) + 1) % 4 ↔ q = (wa S w 3 + 1) % 4 := by
    have e : (nI (wa S w 3) + 1) % 4 = nI ((wa S w 3 + 1) % 4) := by
      rw [show (nI (wa S w 3) + 1 : Int32) = nI (wa S w 3 + 1) from nb_add _ 1]
      exact nb_mod (b := 4) (by omega) (by omega)
    rw [e]
    exact nb_inj hq (by omega)
  have o0 : nI (b2 own) = 0 ↔ own = false := by cases own <;> decide
  have z0 : ∀ {α : Type} (A : Option α), zb (nI (b2 own)) A = A := fun A => by cases own <;> rfl
  simp only [k1, k2, k3, k4, k5, c3, c0, c1, cq, o0, z0]
  by_cases e1 : wa S w 0 = 1
  · by_cases e2 : ro S 2 = 3 <;> cases own <;> simp [e1, e2] <;> rfl
  by_cases e4 : wa S w 0 = 4
  · by_cases e2 : ro S 2 = 3 <;> by_cases e3 : rest = 0 <;> cases own <;> simp [e4, e2, e3] <;> rfl
  by_cases e5 : wa S w 0 = 5
  · by_cases e2 : q = (wa S w 3 + 1) % 4 <;> by_cases e3 : ro S 1 ≤ rest <;> cases own <;> simp [e5, e2, e3] <;> rfl
  simp [e1, e4, e5]
theorem isOn_ok {f w t : Nat} {mem : Mem} {S : PS} (h : RM mem S) (hi : IV S) (hw : w < ct S) (ht : t < 2 ^ 30) : dM_isOnDuty f (nI w) (nI t) mem = some (nI (b2 (onF S (ro S 0) w t)), mem) := by
  have hv := hi.2.2.2.2.2.2.2.2 w hw
  have r0 : gI mem 13 0 1 = nI (ro S 0) := h.2.1 0 (by omega)
  have r1 : gI mem 13 0 2 = nI (ro S 1) := h.2.1 1 (by omega)
  have i2 := hi.2.1
  have i3 := hi.2.2.1
  have i4 := hi.2.2.2.1
  have v3 := hv.2.2.2.1
  have hd : t / ro S 0 < 2 ^ 31 := Nat.lt_of_le_of_lt (Nat.div_le_self _ _) (by omega)
  have hm : t % ro S 0 < ro S 0 := Nat.mod_lt _ (by omega)
  unfold dM_isOnDuty
  rw [its_ok h hi hw (by omega), bd_ok, r0, r1]
  have e1 : nI t / nI (ro S 0) % 4 = nI (t / ro S 0 % 4) := by
    rw [nb_div (by omega) (by omega)]
    exact nb_mod (b := 4) hd (by omega)
  have e2 : nI t % nI (ro S 0) = nI (t % ro S 0) := nb_mod (by omega) (by omega)
  rw [e1, e2, if_neg (by rw [nb_zero (by omega)]; omega), if_neg (by decide), if_neg (by rw [nb_zero (by omega)]; omega)]
  have L := isOn_47 (f := f) h hi hw (q := t / ro S 0 % 4) (rest := t % ro S 0) (by omega) (by omega)
  unfold onF lisF
  have cq : nI (t / ro S 0 % 4) = nI (wa S w 3) ↔ t / ro S 0 % 4 = wa S w 3 := nb_inj (by omega) (by omega)
  have c1 : nI (t % ro S 0) < nI (ro S 1) ↔ ¬ ro S 1 ≤ t % ro S 0 := by rw [nb_lt (by omega) (by omega)]; omega
  have L0 := L false
  have L1 := L true
  rw [b2_f] at L0
  rw [b2_t] at L1
  by_cases x : t / ro S 0 % 4 = wa S w 3
  · rw [if_pos (cq.mpr x)]
    by_cases y : ro S 1 ≤ t % ro S 0
    · rw [if_neg (fun z => (c1.mp z) y)]
      refine L1.trans ?_
      simp [x, y]
    · rw [if_pos (c1.mpr y)]
      refine L0.trans ?_
      simp [x, y]
  · rw [if_neg (fun z => x (cq.mp z))]
    refine L0.trans ?_
    simp [x]
