/-! Promises 2 to 8: the palace's own calls. -/
def clZ (t i j : Nat) : Bool := palL 0 t i j || palL 2 t i j || decide (t = 11)
theorem clZ_0 {t i j : Nat} (h : palL 0 t i j = true) : clZ t i j = true := by unfold clZ; rw [h]; rfl
theorem clZ_2 {t i j : Nat} (h : palL 2 t i j = true) : clZ t i j = true := by unfold clZ; rw [h, Bool.or_true]; rfl
theorem clZ_11 (i j : Nat) : clZ 11 i j = true := by unfold clZ; rw [decide_eq_true rfl, Bool.or_true]
theorem clZ_no {t i j : Nat} (h : clZ t i j = true) : (t = 1 ∨ t = 2 ∨ t = 4) ∧ (palZ 1 t i j = false) ∨ t = 11 := by
  unfold clZ palL palZ at h
  unfold palZ
  simp only [Bool.or_eq_true, decide_eq_true_eq] at h
  by_cases c : t = 11
  · exact Or.inr c
  · refine Or.inl ⟨by omega, decide_eq_false ?_⟩
    omega
theorem cl_13 (j : Nat) : clZ 13 0 j = false := by
  cases c : clZ 13 0 j with
  | false => rfl
  | true => exact absurd (clZ_no c) (by omega)
theorem RM_cl {mem m : Mem} {S : PS} (h : RM mem S) (fx : Fz clZ mem m) : RM m S := RK_fz (t := 13) h fx cl_13
theorem fz0 {mem m : Mem} (h : Fz (palZ 0) mem m) : Fz clZ mem m := Fz_mo h (fun _ _ _ q => clZ_0 (palL_of q))
theorem fzL0 {mem m : Mem} (h : Fz (palL 0) mem m) : Fz clZ mem m := Fz_mo h (fun _ _ _ q => clZ_0 q)
theorem fz2 {mem m : Mem} (h : Fz (palZ 2) mem m) : Fz clZ mem m := Fz_mo h (fun _ _ _ q => clZ_2 (palL_of q))
theorem fzL2 {mem m : Mem} (h : Fz (palL 2) mem m) : Fz clZ mem m := Fz_mo h (fun _ _ _ q => clZ_2 q)
def setR (S : PS) (k v : Nat) : PS := (mi S, fun j => if j = k then v else ro S j, ct S, wa S)
def okR (k v : Nat) : Prop := (k = 0 ∧ 1 ≤ v ∧ v ≤ 60) ∨ (k = 1 ∧ v ≤ 60) ∨ (k = 2 ∧ v ≤ 3) ∨ (k = 3 ∧ 1 ≤ v ∧ v ≤ 20)
theorem IV_setR {S : PS} (hi : IV S) {k v : Nat} (h : okR k v) : IV (setR S k v) := by
  obtain ⟨i1, i2, i3, i4, i5, i6, i7, i8, i9⟩ := hi
  unfold okR at h
  refine ⟨i1, ?_, ?_, ?_, ?_, ?_, ?_, i8, i9⟩
  · show 1 ≤ (if (0 : Nat) = k then v else ro S 0)
    split <;> omega
  · show (if (0 : Nat) = k then v else ro S 0) ≤ 60
    split <;> omega
  · show (if (1 : Nat) = k then v else ro S 1) ≤ 60
    split <;> omega
  · show (if (2 : Nat) = k then v else ro S 2) ≤ 3
    split <;> omega
  · show 1 ≤ (if (3 : Nat) = k then v else ro S 3)
    split <;> omega
  · show (if (3 : Nat) = k then v else ro S 3) ≤ 20
    split <;> omega
theorem RC_setR {mem : Mem} {p : Nat} {S : PS} (h : RC mem p S) (k v : Nat) : RC (sI mem 2 p k (nI v)) p (setR S k v) := by
  obtain ⟨h1, h2, h3, h4⟩ := h
  refine ⟨h1, fun j hj => ?_, h3, h4⟩
  rw [gI_sI]
  show _ = nI (if j = k then v else ro S j)
  by_cases c : j = k
  · rw [if_pos c, if_pos ⟨rfl, rfl, c⟩]
  · rw [if_neg c, if_neg (fun z => c z.2.2)]
    exact h2 j hj
theorem RM_setR {mem : Mem} {S : PS} (h : RM mem S) {k : Nat} (hk : k < 4) (v : Nat) : RM (sI mem 13 0 (1 + k) (nI v)) (setR S k v) := by
  obtain ⟨h1, h2, h3, h4⟩ := h
  refine ⟨?_, fun j hj => ?_, ?_, fun w hw k' hk' => ?_⟩
  · rw [gI_sI, if_neg (by omega)]
    exact h1
  · rw [gI_sI]
    show _ = nI (if j = k then v else ro S j)
    by_cases c : j = k
    · rw [if_pos c, if_pos ⟨rfl, rfl, by omega⟩]
    · rw [if_neg c, if_neg (by omega)]
      exact h2 j hj
  · rw [gI_sI, if_neg (by omega)]
    exact h3
  · rw [gI_sI, if_neg (by omega)]
    exact h4 w hw k' hk'
def tbR (a1 a2 : Int32) : Bool := if a1 = 0 then inb a2 1 60 else if a1 = 1 then inb a2 0 60 else if a1 = 2 then inb a2 0 3 else if a1 = 3 then inb a2 1 20 else false
theorem W_mayBe {f : Nat} {mem : Mem} (a1 a2 : Int32) : dW_mayBeRota f a1 a2 mem = some (nI (b2 (tbR a1 a2)), mem) := by
  unfold dW_mayBeRota
  rw [W_in, bd_ok]
  cases h : inb a1 0 3 with
  | false =>
    rw [ifz_f]
    have n0 : ¬ a1 = 0 := fun e => by rw [e] at h; exact absurd h (by decide)
    have n1 : ¬ a1 = 1 := fun e => by rw [e] at h; exact absurd h (by decide)
    have n2 : ¬ a1 = 2 := fun e => by rw [e] at h; exact absurd h (by decide)
    have n3 : ¬ a1 = 3 := fun e => by rw [e] at h; exact absurd h (by decide)
    unfold tbR
    rw [if_neg n0, if_neg n1, if_neg n2, if_neg n3]
    rfl
  | true =>
    rw [ifz_t]
    obtain ⟨k, -, hk, rfl⟩ := inb_t (a := 0) (n := 3) rfl (by omega) (by omega) h
    rw [ck_in _ (by omega) (by omega), ck_in _ (by omega) (by omega), W_in, bd_ok]
    have hkk : k = 0 ∨ k = 1 ∨ k = 2 ∨ k = 3 := by omega
    have fin : ∀ b : Bool, (if nI (b2 b) = 0 then some ((0 : Int32), mem) else some ((1 : Int32), mem)) = some (nI (b2 b), mem) := fun b => by cases b <;> rfl
    rw [fin]
    rcases hkk with rfl | rfl | rfl | rfl <;> rfl
theorem tbR_t {a1 a2 : Int32} (h : tbR a1 a2 = true) : ∃ k v, a1 = nI k ∧ a2 = nI v ∧ okR k v := by
  unfold tbR at h
  by_cases c0 : a1 = 0
  · rw [if_pos c0] at h
    obtain ⟨v, h1, h2, e⟩ := inb_t (a := 1) (n := 60) rfl (by omega) (by omega) h
    exact ⟨0, v, c0, e, Or.inl ⟨rfl, h1, h2⟩⟩
  rw [if_neg c0] at h
  by_cases c1 : a1 = 1
  · rw [if_pos c1] at h
    obtain ⟨v, h1, h2, e⟩ := inb_t (a := 0) (n := 60) rfl (by omega) (by omega) h
    exact ⟨1, v, c1, e, Or.inr (Or.inl ⟨rfl, h2⟩)⟩
  rw [if_neg c1] at h
  by_cases c2 : a1 = 2
  · rw [if_pos c2] at h
    obtain ⟨v, h1, h2, e⟩ := inb_t (a := 0) (n := 3) rfl (by omega) (by omega) h
    exact ⟨2, v, c2, e, Or.inr (Or.inr (Or.inl ⟨rfl, h2⟩))⟩
  rw [if_neg c2] at h
  by_cases c3 : a1 = 3
  · rw [if_pos c3] at h
    obtain ⟨v, h1, h2, e⟩ := inb_t (a := 1) (n := 20) rfl (by omega) (by omega) h
    exact ⟨3, v, c3, e, Or.inr (Or.inr (Or.inr ⟨rfl, h1, h2⟩))⟩
  rw [if_neg c3] at h
  cases h
/-- a new WALL behind the others -/
def newW (S : PS) (a b c d : Nat) : PS := (mi S, ro S, ct S + 1, fun w k => if w = ct S then (if k = 0 then a else if k = 1 then b else if k = 2 then c else if k = 3 then d else 0) else wa S w k)
theorem IV_newW {S : PS} (hi : IV S) (hc : ct S < 10) {a b c d : Nat} (ha : a ≤ 5) (hb : b ≤ 9) (hcc : c ≤ 9) (hd : d ≤ 3) : IV (newW S a b c d) := by
  obtain ⟨i1, i2, i3, i4, i5, i6, i7, i8, i9⟩ := hi
  refine ⟨i1, i2, i3, i4, i5, i6, i7, hc, fun w hw => ?_⟩
  have hw' : w < ct S + 1 := hw
  by_cases e : w = ct S
  · have g : ∀ k, wa (newW S a b c d) w k = (if k = 0 then a else if k = 1 then b else if k = 2 then c else if k = 3 then d else 0) := fun k => if_pos e
    refine ⟨?_, ?_, ?_, ?_, ?_, ?_⟩ <;> rw [g] <;> simp <;> omega
  · have g : ∀ k, wa (newW S a b c d) w k = wa S w k := fun k => if_neg e
    obtain ⟨v0, v1, v2, v3, v4, v5⟩ := i9 w (by omega)
    refine ⟨?_, ?_, ?_, ?_, ?_, ?_⟩ <;> rw [g] <;> assumption
theorem build_ok {f p a b c d : Nat} {mem : Mem} {S : PS} (h : RC mem p S) (hc : ct S < 10) : ∃ m', dP_build f p (nI a) (nI b) (nI c) (nI d) mem = some (nI (ct S), m') ∧ RC m' p (newW S a b c d) ∧ Fz (palZ p) mem m' := by
  obtain ⟨h1, h2, h3, h4⟩ := h
  unfold dP_build
  rw [h3, ck_in _ hc (by omega), nI_clamp (by omega)]
  have e : ∀ (x : Mem), gI x 1 p 2 = nI (ct S) → gI (sI x 4 (10 * p + ct S) 0 (nI a)) 1 p 2 = nI (ct S) := fun x hx => hx
  refine ⟨_, congrArg (fun z => some (z, _)) ?_, ?_, ?_⟩
  · show gI mem 1 p 2 = _
    exact h3
  · refine ⟨?_, fun j hj => ?_, ?_, fun w hw k hk => ?_⟩
    · simp only [gI_sI]
      simp
      exact h1
    · simp only [gI_sI]
      simp
      exact h2 j hj
    · simp only [gI_sI]
      simp
      rw [h3]
      exact add1 _
    · have hw' : w < ct S + 1 := hw
      simp only [gI_sI]
      show _ = nI (if w = ct S then (if k = 0 then a else if k = 1 then b else if k = 2 then c else if k = 3 then d else 0) else wa S w k)
      by_cases ew : w = ct S
      · subst ew
        have hkk : k = 0 ∨ k = 1 ∨ k = 2 ∨ k = 3 ∨ k = 4 ∨ k = 5 := by omega
        rcases hkk with rfl | rfl | rfl | rfl | rfl | rfl <;> simp <;> rfl
      · have g : ¬ 10 * p + w = 10 * p + ct S := by omega
        simp [ew, g]
        exact h4 w (by omega) k hk
  · exact Fz_tr (Fz_tr (Fz_tr (Fz_tr (Fz_tr (Fz_tr (Fz_sI (palZ4 hc)) (Fz_sI (palZ4 hc))) (Fz_sI (palZ4 hc))) (Fz_sI (palZ4 hc))) (Fz_sI (palZ4 hc))) (Fz_sI (palZ4 hc))) (Fz_sI (palZ2 p))
theorem built_ok {f p : Nat} {mem : Mem} {S : PS} (h : RC mem p S) (hi : IV S) : dP_isBuiltUp f p mem = some (nI (b2 (decide (10 ≤ ct S))), mem) := by
  have hct : ct S ≤ 10 := hi.2.2.2.2.2.2.2.1
  have k : nI (ct S) < 10 ↔ ct S < 10 := nb_lt (b := 10) (by omega) (by omega)
  unfold dP_isBuiltUp
  rw [h.2.2.1]
  by_cases c : ct S < 10
  · rw [if_pos (k.mpr c), decide_eq_false (by omega)]
    rfl
  · rw [if_neg (fun z => c (k.mp z)), decide_eq_true (by omega)]
    rfl
