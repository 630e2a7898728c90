/-! FRAMES: which cells a change touches; a wall's number put; the reference's small methods. -/
theorem gI_sI (m : Mem) (t i j : Nat) (v : Int32) (t' i' j' : Nat) : gI (sI m t i j v) t' i' j' = if t' = t ∧ i' = i ∧ j' = j then v else gI m t' i' j' := rfl
theorem gI_sL (m : Mem) (t i j : Nat) (v : Int64) (t' i' j' : Nat) : gI (sL m t i j v) t' i' j' = gI m t' i' j' := rfl
theorem gL_sI (m : Mem) (t i j : Nat) (v : Int32) (t' i' j' : Nat) : gL (sI m t i j v) t' i' j' = gL m t' i' j' := rfl
theorem gL_sL (m : Mem) (t i j : Nat) (v : Int64) (t' i' j' : Nat) : gL (sL m t i j v) t' i' j' = if t' = t ∧ i' = i ∧ j' = j then v else gL m t' i' j' := rfl
theorem gI_sIr (m : Mem) (t i : Nat) (f : Nat → Int32) (t' i' j' : Nat) : gI (sIr m t i f) t' i' j' = if t' = t ∧ i' = i then f j' else gI m t' i' j' := rfl
theorem gL_sIr (m : Mem) (t i : Nat) (f : Nat → Int32) (t' i' j' : Nat) : gL (sIr m t i f) t' i' j' = gL m t' i' j' := rfl
theorem gI_sLr (m : Mem) (t i : Nat) (f : Nat → Int64) (t' i' j' : Nat) : gI (sLr m t i f) t' i' j' = gI m t' i' j' := rfl
theorem gL_sLr (m : Mem) (t i : Nat) (f : Nat → Int64) (t' i' j' : Nat) : gL (sLr m t i f) t' i' j' = if t' = t ∧ i' = i then f j' else gL m t' i' j' := rfl
/-- only the cells of P may have changed -/
def Fx (P : Nat → Nat → Bool) (m m' : Mem) : Prop := ∀ t i, P t i = false → (∀ j, gI m' t i j = gI m t i j) ∧ ∀ j, gL m' t i j = gL m t i j
theorem Fx_rfl (P : Nat → Nat → Bool) (m : Mem) : Fx P m m := fun _ _ _ => ⟨fun _ => rfl, fun _ => rfl⟩
theorem Fx_tr {P : Nat → Nat → Bool} {m m' m'' : Mem} (h : Fx P m m') (h' : Fx P m' m'') : Fx P m m'' := fun t i e => ⟨fun j => ((h' t i e).1 j).trans ((h t i e).1 j), fun j => ((h' t i e).2 j).trans ((h t i e).2 j)⟩
theorem Fx_mo {P Q : Nat → Nat → Bool} {m m' : Mem} (h : Fx P m m') (hq : ∀ t i, P t i = true → Q t i = true) : Fx Q m m' := fun t i e => h t i (by
  cases c : P t i with
  | false => rfl
  | true => rw [hq t i c] at e; cases e)
theorem Fx_sI {P : Nat → Nat → Bool} {m : Mem} {t i j : Nat} {v : Int32} (h : P t i = true) : Fx P m (sI m t i j v) := fun t' i' e => ⟨fun j' => (by
  rw [gI_sI, if_neg]
  rintro ⟨rfl, rfl, -⟩
  rw [h] at e
  cases e), fun _ => rfl⟩
theorem Fx_sL {P : Nat → Nat → Bool} {m : Mem} {t i j : Nat} {v : Int64} (h : P t i = true) : Fx P m (sL m t i j v) := fun t' i' e => ⟨fun _ => rfl, fun j' => by
  rw [gL_sL, if_neg]
  rintro ⟨rfl, rfl, -⟩
  rw [h] at e
  cases e⟩
theorem Fx_sIr {P : Nat → Nat → Bool} {m : Mem} {t i : Nat} {f : Nat → Int32} (h : P t i = true) : Fx P m (sIr m t i f) := fun t' i' e => ⟨fun j' => (by
  rw [gI_sIr, if_neg]
  rintro ⟨rfl, rfl⟩
  rw [h] at e
  cases e), fun _ => rfl⟩
theorem Fx_sLr {P : Nat → Nat → Bool} {m : Mem} {t i : Nat} {f : Nat → Int64} (h : P t i = true) : Fx P m (sLr m t i f) := fun t' i' e => ⟨fun _ => rfl, fun j' => by
  rw [gL_sLr, if_neg]
  rintro ⟨rfl, rfl⟩
  rw [h] at e
  cases e⟩
def palB (p t i : Nat) : Bool := decide (t = 1 ∧ i = p ∨ t = 2 ∧ i = p ∨ t = 4 ∧ i / 10 = p)
def rowB (t _i : Nat) : Bool := decide (t = 13)
theorem palB1 (p : Nat) : palB p 1 p = true := by simp [palB]
theorem palB2 (p : Nat) : palB p 2 p = true := by simp [palB]
theorem palB4 {p w : Nat} (h : w < 10) : palB p 4 (10 * p + w) = true := by
  have : (10 * p + w) / 10 = p := by omega
  simp [palB, this]
theorem RC_fx {P : Nat → Nat → Bool} {mem mem' : Mem} {p : Nat} {S : PS} (h : RC mem p S) (hc : ct S ≤ 10) (fx : Fx P mem mem') (hp : ∀ t i, palB p t i = true → P t i = false) : RC mem' p S := by
  obtain ⟨h1, h2, h3, h4⟩ := h
  refine ⟨?_, fun j hj => ?_, ?_, fun w hw k hk => ?_⟩
  · rw [(fx 1 p (hp _ _ (palB1 p))).1, h1]
  · rw [(fx 2 p (hp _ _ (palB2 p))).1, h2 j hj]
  · rw [(fx 1 p (hp _ _ (palB1 p))).1, h3]
  · rw [(fx 4 (10 * p + w) (hp _ _ (palB4 (by omega)))).1, h4 w hw k hk]
def setW (S : PS) (w k v : Nat) : PS := (mi S, ro S, ct S, fun w' k' => if w' = w ∧ k' = k then v else wa S w' k')
theorem RC_put {mem : Mem} {p : Nat} {S : PS} (h : RC mem p S) (w k v : Nat) : RC (sI mem 4 (10 * p + w) k (nI v)) p (setW S w k v) := by
  obtain ⟨h1, h2, h3, h4⟩ := h
  refine ⟨h1, h2, h3, fun w' hw' k' hk' => ?_⟩
  rw [gI_sI]
  show _ = nI (if w' = w ∧ k' = k then v else wa S w' k')
  by_cases c : w' = w ∧ k' = k
  · rw [if_pos c, if_pos ⟨rfl, by omega, c.2⟩]
  · rw [if_neg c, if_neg (by omega)]
    exact h4 w' hw' k' hk'
theorem RM_put {mem : Mem} {S : PS} (h : RM mem S) {w k : Nat} (hk : k < 6) (v : Nat) : RM (sI mem 13 0 (6 + 6 * w + k) (nI v)) (setW S w k v) := by
  obtain ⟨h1, h2, h3, h4⟩ := h
  refine ⟨?_, fun j hj => ?_, ?_, fun w' hw' k' hk' => ?_⟩
  · rw [gI_sI, if_neg (by omega)]
    exact h1
  · rw [gI_sI, if_neg (by omega)]
    exact h2 j hj
  · rw [gI_sI, if_neg (by omega)]
    exact h3
  rw [gI_sI]
  show _ = nI (if w' = w ∧ k' = k then v else wa S w' k')
  by_cases c : w' = w ∧ k' = k
  · rw [if_pos c, if_pos ⟨rfl, rfl, by omega⟩]
  · rw [if_neg c, if_neg (by omega)]
    exact h4 w' hw' k' hk'
theorem ifz_f {α : Sort _} {A B : α} : (if nI (b2 false) = 0 then A else B) = A := if_pos rfl
theorem ifz_t {α : Sort _} {A B : α} : (if nI (b2 true) = 0 then A else B) = B := if_neg (by decide)
