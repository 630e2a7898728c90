/-! THE START: both new objects, cell for cell, as the memory has them. -/
/-- the memory at the start -/
def mem0 : Mem := (fun t _ j => if t = 2 then rotF j else 0, fun _ _ _ => 0)
def adL (w z : Nat) (u : (Nat → Nat) × (Nat → Nat × Nat × (Nat → Nat)) × (Nat → Nat) × (Nat → Nat) × (Nat → Nat)) : List Nat := [w, u.1 0, u.1 1, u.1 2, (u.2.1 0).1, (u.2.1 1).1, (u.2.1 2).1, (u.2.1 0).2.1, (u.2.1 1).2.1, (u.2.1 2).2.1, (u.2.1 0).2.2 0, (u.2.1 0).2.2 1, (u.2.1 0).2.2 2, (u.2.1 0).2.2 3, (u.2.1 0).2.2 4, (u.2.1 0).2.2 5, (u.2.1 0).2.2 6, (u.2.1 0).2.2 7, (u.2.1 0).2.2 8, (u.2.1 0).2.2 9, (u.2.1 1).2.2 0, (u.2.1 1).2.2 1, (u.2.1 1).2.2 2, (u.2.1 1).2.2 3, (u.2.1 1).2.2 4, (u.2.1 1).2.2 5, (u.2.1 1).2.2 6, (u.2.1 1).2.2 7, (u.2.1 1).2.2 8, (u.2.1 1).2.2 9, (u.2.1 2).2.2 0, (u.2.1 2).2.2 1, (u.2.1 2).2.2 2, (u.2.1 2).2.2 3, (u.2.1 2).2.2 4, (u.2.1 2).2.2 5, (u.2.1 2).2.2 6, (u.2.1 2).2.2 7, (u.2.1 2).2.2 8, (u.2.1 2).2.2 9, u.2.2.1 0, u.2.2.1 1, u.2.2.1 2, u.2.2.2.1 0, u.2.2.2.1 1, u.2.2.2.1 2, u.2.2.2.1 3, u.2.2.2.2 0, u.2.2.2.2 1, u.2.2.2.2 2, u.2.2.2.2 3, u.2.2.1 3, u.2.2.1 4, z]
def adA (w z : Nat) (u : (Nat → Nat) × (Nat → Nat × Nat × (Nat → Nat)) × (Nat → Nat) × (Nat → Nat) × (Nat → Nat)) (tS : Nat → Nat) (b : Nat) : Nat → Nat := fun k => if k < 54 then (adL w z u).getD k 0 else if k < 57 then tS (k - 54) else b
def sgm (k : Nat) : Nat := [0, 10, 23, 36, 11, 24, 37, 12, 25, 38, 13, 14, 15, 16, 17, 18, 19, 20, 21, 22, 26, 27, 28, 29, 30, 31, 32, 33, 34, 35, 39, 40, 41, 42, 43, 44, 45, 46, 47, 48, 49, 50, 1, 8, 6, 4, 2, 9, 7, 5, 3, 51, 52, 53].getD k 0
theorem sgm_inj : ∀ i, i < 54 → ∀ j, j < 54 → sgm i = sgm j → i = j := by decide +kernel
theorem at_q {D : va_G} {cl : List vw_C} {H : Heap} {a n : Nat} {cA : ClassId} {f g : Nat → Option Nat} (h : va_at D cl (a, .inl (cA, n, .inr (.inr (.inr (.inr f))))) H) (he : ∀ j, j < n → f j = g j) : va_at D cl (a, .inl (cA, n, .inr (.inr (.inr (.inr g))))) H := by
  have h' : H[a]? = some (vp_cell cA (n, .inr (.inr (.inr (.inr f))))) := h
  show H[a]? = some (vp_cell cA (n, .inr (.inr (.inr (.inr g)))))
  rw [h', vp_cell_q, vp_cell_q]
  exact congrArg some (arrV_eq (fun j hj => by rw [he j hj]))
section PLACE
variable {D : va_G} {cT : Nat → ClassId} {w z b : Nat} {u : (Nat → Nat) × (Nat → Nat × Nat × (Nat → Nat)) × (Nat → Nat) × (Nat → Nat) × (Nat → Nat)} {tS : Nat → Nat} {H : Heap}
theorem pl_0 (hP : va_P D wcl (walW cT w u ++ [(z, .inl (cT 0, 66, .inl (fun _ => 0)))]) H) : ∀ i, i < 1 → va_at D wcl (adA w z u tS b (oT 0 + i), ce cT (adA w z u tS b) mem0 0 i) H := fun i hi => match i, hi with
  | 0, _ => hP 0 _ rfl
  | i + 1, h => absurd h (by omega)
theorem pl_1 (hP : va_P D wcl (walW cT w u ++ [(z, .inl (cT 0, 66, .inl (fun _ => 0)))]) H) : ∀ i, i < 3 → va_at D wcl (adA w z u tS b (oT 1 + i), ce cT (adA w z u tS b) mem0 1 i) H := fun i hi => match i, hi with
  | 0, _ => hP 10 _ rfl
  | 1, _ => hP 23 _ rfl
  | 2, _ => hP 36 _ rfl
  | i + 3, h => absurd h (by omega)
theorem pl_2 (hP : va_P D wcl (walW cT w u ++ [(z, .inl (cT 0, 66, .inl (fun _ => 0)))]) H) : ∀ i, i < 3 → va_at D wcl (adA w z u tS b (oT 2 + i), ce cT (adA w z u tS b) mem0 2 i) H := fun i hi => match i, hi with
  | 0, _ => hP 11 _ rfl
  | 1, _ => hP 24 _ rfl
  | 2, _ => hP 37 _ rfl
  | i + 3, h => absurd h (by omega)
theorem pl_3 (hP : va_P D wcl (walW cT w u ++ [(z, .inl (cT 0, 66, .inl (fun _ => 0)))]) H) : ∀ i, i < 3 → va_at D wcl (adA w z u tS b (oT 3 + i), ce cT (adA w z u tS b) mem0 3 i) H := fun i hi => match i, hi with
  | 0, _ => at_q (hP 12 _ rfl) (fun j hj => match j, hj with | 0, _ => rfl | 1, _ => rfl | 2, _ => rfl | 3, _ => rfl | 4, _ => rfl | 5, _ => rfl | 6, _ => rfl | 7, _ => rfl | 8, _ => rfl | 9, _ => rfl | j + 10, h => absurd h (by omega))
  | 1, _ => at_q (hP 25 _ rfl) (fun j hj => match j, hj with | 0, _ => rfl | 1, _ => rfl | 2, _ => rfl | 3, _ => rfl | 4, _ => rfl | 5, _ => rfl | 6, _ => rfl | 7, _ => rfl | 8, _ => rfl | 9, _ => rfl | j + 10, h => absurd h (by omega))
  | 2, _ => at_q (hP 38 _ rfl) (fun j hj => match j, hj with | 0, _ => rfl | 1, _ => rfl | 2, _ => rfl | 3, _ => rfl | 4, _ => rfl | 5, _ => rfl | 6, _ => rfl | 7, _ => rfl | 8, _ => rfl | 9, _ => rfl | j + 10, h => absurd h (by omega))
  | i + 3, h => absurd h (by omega)
theorem pl_4 (hP : va_P D wcl (walW cT w u ++ [(z, .inl (cT 0, 66, .inl (fun _ => 0)))]) H) : ∀ i, i < 30 → va_at D wcl (adA w z u tS b (oT 4 + i), ce cT (adA w z u tS b) mem0 4 i) H := fun i hi => match i, hi with
  | 0, _ => hP 13 _ rfl
  | 1, _ => hP 14 _ rfl
  | 2, _ => hP 15 _ rfl
  | 3, _ => hP 16 _ rfl
  | 4, _ => hP 17 _ rfl
  | 5, _ => hP 18 _ rfl
  | 6, _ => hP 19 _ rfl
  | 7, _ => hP 20 _ rfl
  | 8, _ => hP 21 _ rfl
  | 9, _ => hP 22 _ rfl
  | 10, _ => hP 26 _ rfl
  | 11, _ => hP 27 _ rfl
  | 12, _ => hP 28 _ rfl
  | 13, _ => hP 29 _ rfl
  | 14, _ => hP 30 _ rfl
  | 15, _ => hP 31 _ rfl
  | 16, _ => hP 32 _ rfl
  | 17, _ => hP 33 _ rfl
  | 18, _ => hP 34 _ rfl
  | 19, _ => hP 35 _ rfl
  | 20, _ => hP 39 _ rfl
  | 21, _ => hP 40 _ rfl
  | 22, _ => hP 41 _ rfl
  | 23, _ => hP 42 _ rfl
  | 24, _ => hP 43 _ rfl
  | 25, _ => hP 44 _ rfl
  | 26, _ => hP 45 _ rfl
  | 27, _ => hP 46 _ rfl
  | 28, _ => hP 47 _ rfl
  | 29, _ => hP 48 _ rfl
  | i + 30, h => absurd h (by omega)
theorem pl_5 (hP : va_P D wcl (walW cT w u ++ [(z, .inl (cT 0, 66, .inl (fun _ => 0)))]) H) : ∀ i, i < 1 → va_at D wcl (adA w z u tS b (oT 5 + i), ce cT (adA w z u tS b) mem0 5 i) H := fun i hi => match i, hi with
  | 0, _ => hP 49 _ rfl
  | i + 1, h => absurd h (by omega)
theorem pl_6 (hP : va_P D wcl (walW cT w u ++ [(z, .inl (cT 0, 66, .inl (fun _ => 0)))]) H) : ∀ i, i < 1 → va_at D wcl (adA w z u tS b (oT 6 + i), ce cT (adA w z u tS b) mem0 6 i) H := fun i hi => match i, hi with
  | 0, _ => hP 50 _ rfl
  | i + 1, h => absurd h (by omega)
theorem pl_7 (hP : va_P D wcl (walW cT w u ++ [(z, .inl (cT 0, 66, .inl (fun _ => 0)))]) H) : ∀ i, i < 1 → va_at D wcl (adA w z u tS b (oT 7 + i), ce cT (adA w z u tS b) mem0 7 i) H := fun i hi => match i, hi with
  | 0, _ => at_q (hP 1 _ rfl) (fun j hj => match j, hj with | 0, _ => rfl | 1, _ => rfl | 2, _ => rfl | 3, _ => rfl | j + 4, h => absurd h (by omega))
  | i + 1, h => absurd h (by omega)
theorem pl_8 (hP : va_P D wcl (walW cT w u ++ [(z, .inl (cT 0, 66, .inl (fun _ => 0)))]) H) : ∀ i, i < 4 → va_at D wcl (adA w z u tS b (oT 8 + i), ce cT (adA w z u tS b) mem0 8 i) H := fun i hi => match i, hi with
  | 0, _ => hP 8 _ rfl
  | 1, _ => hP 6 _ rfl
  | 2, _ => hP 4 _ rfl
  | 3, _ => hP 2 _ rfl
  | i + 4, h => absurd h (by omega)
theorem pl_9 (hP : va_P D wcl (walW cT w u ++ [(z, .inl (cT 0, 66, .inl (fun _ => 0)))]) H) : ∀ i, i < 4 → va_at D wcl (adA w z u tS b (oT 9 + i), ce cT (adA w z u tS b) mem0 9 i) H := fun i hi => match i, hi with
  | 0, _ => hP 9 _ rfl
  | 1, _ => hP 7 _ rfl
  | 2, _ => hP 5 _ rfl
  | 3, _ => hP 3 _ rfl
  | i + 4, h => absurd h (by omega)
theorem pl_10 (hP : va_P D wcl (walW cT w u ++ [(z, .inl (cT 0, 66, .inl (fun _ => 0)))]) H) : ∀ i, i < 1 → va_at D wcl (adA w z u tS b (oT 10 + i), ce cT (adA w z u tS b) mem0 10 i) H := fun i hi => match i, hi with
  | 0, _ => hP 51 _ rfl
  | i + 1, h => absurd h (by omega)
theorem pl_11 (hP : va_P D wcl (walW cT w u ++ [(z, .inl (cT 0, 66, .inl (fun _ => 0)))]) H) : ∀ i, i < 1 → va_at D wcl (adA w z u tS b (oT 11 + i), ce cT (adA w z u tS b) mem0 11 i) H := fun i hi => match i, hi with
  | 0, _ => hP 52 _ rfl
  | i + 1, h => absurd h (by omega)
theorem pl_12 (hP : va_P D wcl (walW cT w u ++ [(z, .inl (cT 0, 66, .inl (fun _ => 0)))]) H) : ∀ i, i < 0 → va_at D wcl (adA w z u tS b (oT 12 + i), ce cT (adA w z u tS b) mem0 12 i) H := fun i hi => match i, hi with
  
  | i + 0, h => absurd h (by omega)
theorem pl_13 (hP : va_P D wcl (walW cT w u ++ [(z, .inl (cT 0, 66, .inl (fun _ => 0)))]) H) : ∀ i, i < 1 → va_at D wcl (adA w z u tS b (oT 13 + i), ce cT (adA w z u tS b) mem0 13 i) H := fun i hi => match i, hi with
  | 0, _ => hP 53 _ rfl
  | i + 1, h => absurd h (by omega)
theorem pl_14 (hP : va_P D wcl (walW cT w u ++ [(z, .inl (cT 0, 66, .inl (fun _ => 0)))]) H) : ∀ i, i < 0 → va_at D wcl (adA w z u tS b (oT 14 + i), ce cT (adA w z u tS b) mem0 14 i) H := fun i hi => match i, hi with
  
  | i + 0, h => absurd h (by omega)
theorem pl_15 (hP : va_P D wcl (walW cT w u ++ [(z, .inl (cT 0, 66, .inl (fun _ => 0)))]) H) : ∀ i, i < 0 → va_at D wcl (adA w z u tS b (oT 15 + i), ce cT (adA w z u tS b) mem0 15 i) H := fun i hi => match i, hi with
  
  | i + 0, h => absurd h (by omega)
theorem pl_16 (hP : va_P D wcl (walW cT w u ++ [(z, .inl (cT 0, 66, .inl (fun _ => 0)))]) H) : ∀ i, i < 0 → va_at D wcl (adA w z u tS b (oT 16 + i), ce cT (adA w z u tS b) mem0 16 i) H := fun i hi => match i, hi with
  
  | i + 0, h => absurd h (by omega)
theorem pl_17 (hP : va_P D wcl (walW cT w u ++ [(z, .inl (cT 0, 66, .inl (fun _ => 0)))]) H) : ∀ i, i < 0 → va_at D wcl (adA w z u tS b (oT 17 + i), ce cT (adA w z u tS b) mem0 17 i) H := fun i hi => match i, hi with
  
  | i + 0, h => absurd h (by omega)
theorem pl_18 (hP : va_P D wcl (walW cT w u ++ [(z, .inl (cT 0, 66, .inl (fun _ => 0)))]) H) : ∀ i, i < 0 → va_at D wcl (adA w z u tS b (oT 18 + i), ce cT (adA w z u tS b) mem0 18 i) H := fun i hi => match i, hi with
  
  | i + 0, h => absurd h (by omega)
theorem pl_19 (hP : va_P D wcl (walW cT w u ++ [(z, .inl (cT 0, 66, .inl (fun _ => 0)))]) H) : ∀ i, i < 0 → va_at D wcl (adA w z u tS b (oT 19 + i), ce cT (adA w z u tS b) mem0 19 i) H := fun i hi => match i, hi with
  
  | i + 0, h => absurd h (by omega)
theorem pl_20 (hP : va_P D wcl (walW cT w u ++ [(z, .inl (cT 0, 66, .inl (fun _ => 0)))]) H) : ∀ i, i < 0 → va_at D wcl (adA w z u tS b (oT 20 + i), ce cT (adA w z u tS b) mem0 20 i) H := fun i hi => match i, hi with
  
  | i + 0, h => absurd h (by omega)
theorem pl_21 (hP : va_P D wcl (walW cT w u ++ [(z, .inl (cT 0, 66, .inl (fun _ => 0)))]) H) : ∀ i, i < 0 → va_at D wcl (adA w z u tS b (oT 21 + i), ce cT (adA w z u tS b) mem0 21 i) H := fun i hi => match i, hi with
  
  | i + 0, h => absurd h (by omega)
theorem pl_22 (hP : va_P D wcl (walW cT w u ++ [(z, .inl (cT 0, 66, .inl (fun _ => 0)))]) H) : ∀ i, i < 0 → va_at D wcl (adA w z u tS b (oT 22 + i), ce cT (adA w z u tS b) mem0 22 i) H := fun i hi => match i, hi with
  
  | i + 0, h => absurd h (by omega)
theorem pl_all (hP : va_P D wcl (walW cT w u ++ [(z, .inl (cT 0, 66, .inl (fun _ => 0)))]) H) : ∀ t, t < 23 → ∀ i, i < nT t → va_at D wcl (adA w z u tS b (oT t + i), ce cT (adA w z u tS b) mem0 t i) H := fun t ht => match t, ht with
  | 0, _ => pl_0 hP
  | 1, _ => pl_1 hP
  | 2, _ => pl_2 hP
  | 3, _ => pl_3 hP
  | 4, _ => pl_4 hP
  | 5, _ => pl_5 hP
  | 6, _ => pl_6 hP
  | 7, _ => pl_7 hP
  | 8, _ => pl_8 hP
  | 9, _ => pl_9 hP
  | 10, _ => pl_10 hP
  | 11, _ => pl_11 hP
  | 12, _ => pl_12 hP
  | 13, _ => pl_13 hP
  | 14, _ => pl_14 hP
  | 15, _ => pl_15 hP
  | 16, _ => pl_16 hP
  | 17, _ => pl_17 hP
  | 18, _ => pl_18 hP
  | 19, _ => pl_19 hP
  | 20, _ => pl_20 hP
  | 21, _ => pl_21 hP
  | 22, _ => pl_22 hP
  | t + 23, h => absurd h (by omega)
theorem pk (cT : Nat → ClassId) : ∀ k, k < 54 → ∃ e, (walW cT w u ++ [(z, .inl (cT 0, 66, .inl (fun _ => 0)))])[sgm k]? = some (adA w z u tS b k, e) := fun k hk => match k, hk with
  | 0, _ => ⟨_, rfl⟩
  | 1, _ => ⟨_, rfl⟩
  | 2, _ => ⟨_, rfl⟩
  | 3, _ => ⟨_, rfl⟩
  | 4, _ => ⟨_, rfl⟩
  | 5, _ => ⟨_, rfl⟩
  | 6, _ => ⟨_, rfl⟩
  | 7, _ => ⟨_, rfl⟩
  | 8, _ => ⟨_, rfl⟩
  | 9, _ => ⟨_, rfl⟩
  | 10, _ => ⟨_, rfl⟩
  | 11, _ => ⟨_, rfl⟩
  | 12, _ => ⟨_, rfl⟩
  | 13, _ => ⟨_, rfl⟩
  | 14, _ => ⟨_, rfl⟩
  | 15, _ => ⟨_, rfl⟩
  | 16, _ => ⟨_, rfl⟩
  | 17, _ => ⟨_, rfl⟩
  | 18, _ => ⟨_, rfl⟩
  | 19, _ => ⟨_, rfl⟩
  | 20, _ => ⟨_, rfl⟩
  | 21, _ => ⟨_, rfl⟩
  | 22, _ => ⟨_, rfl⟩
  | 23, _ => ⟨_, rfl⟩
  | 24, _ => ⟨_, rfl⟩
  | 25, _ => ⟨_, rfl⟩
  | 26, _ => ⟨_, rfl⟩
  | 27, _ => ⟨_, rfl⟩
  | 28, _ => ⟨_, rfl⟩
  | 29, _ => ⟨_, rfl⟩
  | 30, _ => ⟨_, rfl⟩
  | 31, _ => ⟨_, rfl⟩
  | 32, _ => ⟨_, rfl⟩
  | 33, _ => ⟨_, rfl⟩
  | 34, _ => ⟨_, rfl⟩
  | 35, _ => ⟨_, rfl⟩
  | 36, _ => ⟨_, rfl⟩
  | 37, _ => ⟨_, rfl⟩
  | 38, _ => ⟨_, rfl⟩
  | 39, _ => ⟨_, rfl⟩
  | 40, _ => ⟨_, rfl⟩
  | 41, _ => ⟨_, rfl⟩
  | 42, _ => ⟨_, rfl⟩
  | 43, _ => ⟨_, rfl⟩
  | 44, _ => ⟨_, rfl⟩
  | 45, _ => ⟨_, rfl⟩
  | 46, _ => ⟨_, rfl⟩
  | 47, _ => ⟨_, rfl⟩
  | 48, _ => ⟨_, rfl⟩
  | 49, _ => ⟨_, rfl⟩
  | 50, _ => ⟨_, rfl⟩
  | 51, _ => ⟨_, rfl⟩
  | 52, _ => ⟨_, rfl⟩
  | 53, _ => ⟨_, rfl⟩
  | k + 54, h => absurd h (by omega)
theorem wl_nth {cT : Nat → ClassId} {ad : Nat → Nat} {m : Mem} {k : Nat} {q : Nat × va_E} (h : (wl cT ad m)[k]? = some q) : k < 54 ∧ q = (ad k, ce cT ad m (kT k) (kI k)) := by
  have hk : k < 54 := by
    have := (List.getElem?_eq_some_iff.mp h).1
    simpa [wl] using this
  unfold wl at h
  rw [List.getElem?_map, List.getElem?_range hk] at h
  exact ⟨hk, (Option.some.inj h).symm⟩
theorem kT_in : ∀ k, k < 54 → kT k < 23 ∧ kI k < nT (kT k) := by decide +kernel
theorem wl_P (hP : va_P D wcl (walW cT w u ++ [(z, .inl (cT 0, 66, .inl (fun _ => 0)))]) H) : va_P D wcl (wl cT (adA w z u tS b) mem0) H := by
  intro k q hq
  obtain ⟨hk, rfl⟩ := wl_nth hq
  have h := pl_all (b := b) (tS := tS) hP (kT k) (kT_in k hk).1 (kI k) (kT_in k hk).2
  rw [kT_of k hk] at h
  exact h
theorem wl_D {A : Nat → Prop} (hD : va_D A (walW cT w u ++ [(z, .inl (cT 0, 66, .inl (fun _ => 0)))])) (m : Mem) : va_D A (wl cT (adA w z u tS b) m) := by
  refine ⟨fun i j x y hi hj hxy => ?_, fun k x hx => ?_⟩
  · obtain ⟨hi', rfl⟩ := wl_nth hi
    obtain ⟨hj', rfl⟩ := wl_nth hj
    obtain ⟨e1, h1⟩ := pk (w := w) (z := z) (u := u) (tS := tS) (b := b) cT i hi'
    obtain ⟨e2, h2⟩ := pk (w := w) (z := z) (u := u) (tS := tS) (b := b) cT j hj'
    exact sgm_inj i hi' j hj' (hD.1 _ _ _ _ h1 h2 hxy)
  · obtain ⟨hk, rfl⟩ := wl_nth hx
    obtain ⟨e1, h1⟩ := pk (w := w) (z := z) (u := u) (tS := tS) (b := b) cT k hk
    exact hD.2 _ (_, e1) h1
end PLACE
theorem rc0 : RC mem0 0 S00 := by
  refine ⟨rfl, ?_, rfl, fun w hw => absurd hw (Nat.not_lt_zero w)⟩
  intro j hj
  match j, hj with
  | 0, _ => rfl
  | 1, _ => rfl
  | 2, _ => rfl
  | 3, _ => rfl
  | j + 4, h => exact absurd h (by omega)
theorem row0 : ∀ j, j < 66 → gI mem0 13 0 j = 0 := fun _ _ => rfl
