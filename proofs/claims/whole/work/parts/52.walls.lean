/-! of, set, turn, as, hears. -/
theorem its_n {f w k : Nat} {mem : Mem} {S : PS} (h : RM mem S) (hi : IV S) (hw : w < ct S) (hk : k < 6) : dM_its f (nI w) (nI k) mem = some (nI (wa S w k), mem) := its_ok (k := k) h hi hw hk
theorem if_b2 {α : Sort _} (b : Bool) {A B : α} : (if nI (b2 b) = 0 then A else B) = if b = true then B else A := by cases b <;> rfl
theorem inb_0 {k n : Nat} (hk : k < 2 ^ 31) (hn : n < 2 ^ 31) : inb (nI k) 0 (nI n) = decide (k ≤ n) := by
  have := inb_n (k := k) (a := 0) (n := n) hk (by omega) hn
  rw [decide_eq_true (Nat.zero_le k), Bool.true_and] at this
  exact this
theorem inb_f {x : Int32} {k n : Nat} (h : inb x 0 (nI n) = false) (hk : k ≤ n) (hn : n < 2 ^ 31) : ¬ x = nI k := fun e => by
  rw [e, inb_0 (by omega) hn, decide_eq_true hk] at h
  cases h
theorem ca_of {f : Nat} {mem : Mem} (hf : 2000 ≤ f) (hI : INV mem) (a1 a2 : Int32) : CA (dW_of f a1 a2) (dM_of f a1 a2) mem := by
  have hI' := hI
  obtain ⟨S, hC, hM, hi, hm, hR⟩ := hI'
  have hct : ct S ≤ 10 := hi.2.2.2.2.2.2.2.1
  cases h1 : isW S a1 with
  | false => exact find_B (f := f) hI (by unfold dW_of; rw [W_isWall hC, bd_ok, h1, ifz_f]) (fun m fx => by unfold dM_of; rw [M_isOne (RM_10 hM fx), bd_ok, h1, ifz_f])
  | true =>
  obtain ⟨w, hw, rfl⟩ := isW_t hi h1
  obtain ⟨v0, v1, v2, v3, v4, v5⟩ := hi.2.2.2.2.2.2.2.2 w hw
  have hW : dW_of f (nI w) a2 mem = if nI (b2 (inb a2 0 5)) = 0 then (if a2 = (6 : Int32) then (bd (dP_dutyOf f 0 (nI w) (gI mem 1 0 0) mem) (fun r5 m5 => if r5 = 0 then (some ((0 : Int32), m5)) else (some ((1 : Int32), m5)))) else (if a2 = (7 : Int32) then (bd (dP_isAwake f 0 (10 * 0 + w) mem) (fun r6 m6 => if r6 = 0 then (some ((0 : Int32), m6)) else (some ((1 : Int32), m6)))) else (if a2 = (8 : Int32) then (bd (dW_tires f (gI mem 4 (10 * 0 + w) 0) mem) (fun r7 m7 => some (r7, m7))) else (bd (dW_finding f (-1000000001 : Int32) mem) (fun r8 m8 => some (r8, m8)))))) else (ck a2 6 (some ((gI mem 4 (10 * 0 + w) a2.toNatClampNeg), mem))) := by
    unfold dW_of
    rw [W_isWall hC, bd_ok, h1, ifz_t, ck_in _ (by omega) (by omega), W_in, bd_ok, nI_clamp (by omega)]
  cases h8 : inb a2 0 8 with
  | false =>
    have n6 : ¬ a2 = 6 := inb_f (k := 6) (n := 8) h8 (by omega) (by omega)
    have n7 : ¬ a2 = 7 := inb_f (k := 7) (n := 8) h8 (by omega) (by omega)
    have n8 : ¬ a2 = 8 := inb_f (k := 8) (n := 8) h8 (by omega) (by omega)
    have n5 : inb a2 0 5 = false := by
      cases h5 : inb a2 0 5 with
      | false => rfl
      | true =>
        obtain ⟨k, -, hk, e⟩ := inb_t (a := 0) (n := 5) rfl (by omega) (by omega) h5
        exact absurd e (inb_f (k := k) (n := 8) h8 (by omega) (by omega))
    exact find_B (f := f) hI (by rw [hW, n5, ifz_f, if_neg n6, if_neg n7, if_neg n8]) (fun m fx => by unfold dM_of; rw [M_isOne (RM_10 hM fx), bd_ok, h1, ifz_t, M_in, bd_ok, h8, ifz_f])
  | true =>
    obtain ⟨k, -, hk, rfl⟩ := inb_t (a := 0) (n := 8) rfl (by omega) (by omega) h8
    have e5 : inb (nI k) 0 5 = decide (k ≤ 5) := inb_0 (n := 5) (by omega) (by omega)
    have hB : dM_of f (nI w) (nI k) mem = if nI k = (6 : Int32) then (bd (dM_isOnDuty f (nI w) (gI mem 13 0 0) mem) (fun r5 m5 => if r5 = 0 then (some ((0 : Int32), m5)) else (some ((1 : Int32), m5)))) else (if nI k = (7 : Int32) then (bd (dM_isAwake f (nI w) mem) (fun r6 m6 => if r6 = 0 then (some ((0 : Int32), m6)) else (some ((1 : Int32), m6)))) else (if nI k = (8 : Int32) then (bd (dM_tires f (nI w) mem) (fun r7 m7 => some (r7, m7))) else (bd (dM_its f (nI w) (nI k) mem) (fun r8 m8 => some (r8, m8))))) := by
      unfold dM_of
      rw [M_isOne hM, bd_ok, h1, ifz_t, M_in, bd_ok, h8, ifz_t]
    have hm' : mi S < 2 ^ 30 := by omega
    by_cases c5 : k ≤ 5
    · have q6 : ¬ nI k = 6 := by rw [show (6 : Int32) = nI 6 from rfl, nb_inj (by omega) (by omega)]; omega
      have q7 : ¬ nI k = 7 := by rw [show (7 : Int32) = nI 7 from rfl, nb_inj (by omega) (by omega)]; omega
      have q8 : ¬ nI k = 8 := by rw [show (8 : Int32) = nI 8 from rfl, nb_inj (by omega) (by omega)]; omega
      exact ans_ca (r := nI (wa S w k)) (by rw [hW, e5, decide_eq_true c5, ifz_t, ck_in _ (by omega) (by omega), nI_clamp (by omega), hC.2.2.2 w hw k (by omega)]) (by rw [hB, if_neg q6, if_neg q7, if_neg q8, its_n hM hi hw (by omega), bd_ok]) hI
    · have hkk : k = 6 ∨ k = 7 ∨ k = 8 := by omega
      rcases hkk with rfl | rfl | rfl
      · refine ans_ca (r := if onF S (ro S 0) w (mi S) = true then 1 else 0) (m1 := mem) (m2 := mem) ?_ ?_ hI
        · rw [hW, e5, decide_eq_false c5, ifz_f, if_pos (show nI 6 = 6 from rfl), hC.1, dutyOf_ok hf hC hi hw hm', bd_ok, if_b2]
          split <;> rfl
        · rw [hB, if_pos (show nI 6 = 6 from rfl), hM.1, isOn_ok hM hi hw hm', bd_ok, if_b2]
          split <;> rfl
      · refine ans_ca (r := if wakeB S w = true then 1 else 0) (m1 := mem) (m2 := mem) ?_ ?_ hI
        · rw [hW, e5, decide_eq_false c5, ifz_f, if_neg (by decide), if_pos (show nI 7 = 7 from rfl), awakeC_ok hC hi hw, bd_ok, if_b2]
          split <;> rfl
        · rw [hB, if_neg (by decide), if_pos (show nI 7 = 7 from rfl), awakeM_ok hM hi hw, bd_ok, if_b2]
          split <;> rfl
      · refine ans_ca (r := nI (tirN (wa S w 0))) (m1 := mem) (m2 := mem) ?_ ?_ hI
        · rw [hW, e5, decide_eq_false c5, ifz_f, if_neg (by decide), if_neg (by decide), if_pos (show nI 8 = 8 from rfl), hC.2.2.2 w hw 0 (by omega), tiresC_ok v0, bd_ok]
        · rw [hB, if_neg (by decide), if_neg (by decide), if_pos (show nI 8 = 8 from rfl), tiresM_ok hM hi hw, bd_ok]
def okW (k v : Nat) : Prop := (k = 0 ∧ v ≤ 5) ∨ (k = 1 ∧ v ≤ 9) ∨ (k = 2 ∧ v ≤ 9) ∨ (k = 3 ∧ v ≤ 3) ∨ (k = 4 ∧ v ≤ 65535) ∨ (k = 5 ∧ v ≤ 99)
theorem IV_setW {S : PS} (hi : IV S) {w k v : Nat} (h : okW k v) : IV (setW S w k v) := by
  obtain ⟨i1, i2, i3, i4, i5, i6, i7, i8, i9⟩ := hi
  unfold okW at h
  refine ⟨i1, i2, i3, i4, i5, i6, i7, i8, fun w' hw => ?_⟩
  obtain ⟨v0, v1, v2, v3, v4, v5⟩ := i9 w' hw
  refine ⟨?_, ?_, ?_, ?_, ?_, ?_⟩
  · show (if w' = w ∧ 0 = k then v else wa S w' 0) ≤ 5
    split <;> omega
  · show (if w' = w ∧ 1 = k then v else wa S w' 1) ≤ 9
    split <;> omega
  · show (if w' = w ∧ 2 = k then v else wa S w' 2) ≤ 9
    split <;> omega
  · show (if w' = w ∧ 3 = k then v else wa S w' 3) ≤ 3
    split <;> omega
  · show (if w' = w ∧ 4 = k then v else wa S w' 4) ≤ 65535
    split <;> omega
  · show (if w' = w ∧ 5 = k then v else wa S w' 5) ≤ 99
    split <;> omega
theorem repl_ok {f p w k : Nat} {v : Int32} {mem : Mem} {S : PS} (h : RC mem p S) (hi : IV S) (hw : w < ct S) (hk : k < 6) : dP_replace f p (nI w) (nI k) v mem = some (nI (wa S w k), sI mem 4 (10 * p + w) k v) := by
  have hct : ct S ≤ 10 := hi.2.2.2.2.2.2.2.1
  unfold dP_replace
  rw [ck_in _ (by omega) (by omega), ck_in _ hk (by omega), ck_in _ (by omega) (by omega), ck_in _ hk (by omega), nI_clamp (by omega), nI_clamp (by omega), h.2.2.2 w hw k hk]
theorem at6 (w k : Nat) : (6 : Int32) + (6 : Int32) * nI w + nI k = nI (6 + 6 * w + k) := by
  have e1 : (6 : Int32) * nI w = nI (6 * w) := nb_mul 6 w
  have e2 : (6 : Int32) + nI (6 * w) = nI (6 + 6 * w) := nb_add 6 (6 * w)
  rw [e1, e2, nb_add]
theorem becM_ok {f w k : Nat} {v : Int32} {mem : Mem} {S : PS} (h : RM mem S) (hi : IV S) (hw : w < ct S) (hk : k < 6) : dM_becomes f (nI (6 + 6 * w + k)) v mem = some (nI (wa S w k), sI mem 13 0 (6 + 6 * w + k) v) := by
  have hct : ct S ≤ 10 := hi.2.2.2.2.2.2.2.1
  unfold dM_becomes
  rw [ck_in _ (by omega) (by omega), ck_in _ (by omega) (by omega), nI_clamp (by omega), h.2.2.2 w hw k hk]
def tbW (a2 a3 : Int32) : Bool := if a2 = 1 then inb a3 0 9 else if a2 = 2 then inb a3 0 9 else if a2 = 3 then inb a3 0 3 else if a2 = 4 then inb a3 0 65535 else if a2 = 5 then inb a3 0 99 else false
theorem M_set {f : Nat} {mem : Mem} (a1 a2 a3 : Int32) : dM_set f a1 a2 a3 mem = dM_set_66 f a1 a2 a3 (nI (b2 (tbW a2 a3))) mem := by
  unfold dM_set tbW
  simp only [M_in, M_isRoom, bd_ok]
  have fin : ∀ b : Bool, (if nI (b2 b) = 0 then dM_set_66 f a1 a2 a3 0 mem else dM_set_66 f a1 a2 a3 1 mem) = dM_set_66 f a1 a2 a3 (nI (b2 b)) mem := fun b => by cases b <;> rfl
  by_cases c1 : a2 = 1
  · rw [if_pos c1, if_pos c1]
  rw [if_neg c1, if_neg c1]
  by_cases c2 : a2 = 2
  · rw [if_pos c2, if_pos c2]
  rw [if_neg c2, if_neg c2]
  by_cases c3 : a2 = 3
  · rw [if_pos c3, if_pos c3]
  rw [if_neg c3, if_neg c3]
  by_cases c4 : a2 = 4
  · rw [if_pos c4, if_pos c4]
  rw [if_neg c4, if_neg c4]
  by_cases c5 : a2 = 5
  · rw [if_pos c5, if_pos c5]
    exact fin _
  rw [if_neg c5, if_neg c5]
  rfl
theorem tbW_t {a2 a3 : Int32} (h : tbW a2 a3 = true) : ∃ k v, 1 ≤ k ∧ a2 = nI k ∧ a3 = nI v ∧ okW k v := by
  unfold tbW at h
  by_cases c1 : a2 = 1
  · rw [if_pos c1] at h
    obtain ⟨v, -, h2, e⟩ := inb_t (a := 0) (n := 9) rfl (by omega) (by omega) h
    exact ⟨1, v, by omega, c1, e, by unfold okW; omega⟩
  rw [if_neg c1] at h
  by_cases c2 : a2 = 2
  · rw [if_pos c2] at h
    obtain ⟨v, -, h2, e⟩ := inb_t (a := 0) (n := 9) rfl (by omega) (by omega) h
    exact ⟨2, v, by omega, c2, e, by unfold okW; omega⟩
  rw [if_neg c2] at h
  by_cases c3 : a2 = 3
  · rw [if_pos c3] at h
    obtain ⟨v, -, h2, e⟩ := inb_t (a := 0) (n := 3) rfl (by omega) (by omega) h
    exact ⟨3, v, by omega, c3, e, by unfold okW; omega⟩
  rw [if_neg c3] at h
  by_cases c4 : a2 = 4
  · rw [if_pos c4] at h
    obtain ⟨v, -, h2, e⟩ := inb_t (a := 0) (n := 65535) rfl (by omega) (by omega) h
    exact ⟨4, v, by omega, c4, e, by unfold okW; omega⟩
  rw [if_neg c4] at h
  by_cases c5 : a2 = 5
  · rw [if_pos c5] at h
    obtain ⟨v, -, h2, e⟩ := inb_t (a := 0) (n := 99) rfl (by omega) (by omega) h
    exact ⟨5, v, by omega, c5, e, by unfold okW; omega⟩
  rw [if_neg c5] at h
  cases h
theorem tbW_i {a2 a3 : Int32} (h : inb a2 1 5 = true) : ck a2 6 (some (inb a3 0 (stc 1 a2.toNatClampNeg))) = some (tbW a2 a3) := by
  obtain ⟨k, h1, h2, rfl⟩ := inb_t (a := 1) (n := 5) rfl (by omega) (by omega) h
  have hkk : k = 1 ∨ k = 2 ∨ k = 3 ∨ k = 4 ∨ k = 5 := by omega
  rcases hkk with rfl | rfl | rfl | rfl | rfl <;> rfl
theorem tbW_o {a2 a3 : Int32} (h : inb a2 1 5 = false) : tbW a2 a3 = false := by
  cases c : tbW a2 a3 with
  | false => rfl
  | true =>
    obtain ⟨k, v, h1, rfl, -, h3⟩ := tbW_t c
    unfold okW at h3
    have := inb_n (k := k) (a := 1) (n := 5) (by omega) (by omega) (by omega)
    rw [decide_eq_true h1, decide_eq_true (by omega)] at this
    exact absurd (this.symm.trans h) (by decide)
theorem W_set {f : Nat} {mem : Mem} {S : PS} (hC : RC mem 0 S) (a1 a2 a3 : Int32) : dW_set f a1 a2 a3 mem = if (isW S a1 && tbW a2 a3) = true then bd (dP_replace f 0 a1 a2 a3 mem) (fun r7 m7 => some (r7, m7)) else bd (dW_finding f (-1000000001 : Int32) mem) (fun r m => some (r, m)) := by
  unfold dW_set
  rw [W_isWall hC, bd_ok]
  cases h1 : isW S a1 with
  | false => rw [ifz_f]; rfl
  | true =>
  rw [ifz_t, W_in, bd_ok]
  cases h2 : inb a2 1 5 with
  | false => rw [ifz_f, tbW_o h2]; rfl
  | true =>
  have ht := tbW_i (a3 := a3) h2
  rw [ifz_t, W_in, bd_ok]
  obtain ⟨k, q1, q2, rfl⟩ := inb_t (a := 1) (n := 5) rfl (by omega) (by omega) h2
  rw [ck_in _ (by omega) (by omega)] at ht
  rw [ck_in _ (by omega) (by omega), Option.some.inj ht, if_b2, Bool.true_and]
theorem M_set66 {f : Nat} {mem : Mem} {S : PS} (hM : RM mem S) (a1 a2 a3 : Int32) : dM_set f a1 a2 a3 mem = if (isW S a1 && tbW a2 a3) = true then bd (dM_becomes f (((6 : Int32) + ((6 : Int32) * a1)) + a2) a3 mem) (fun r7 m7 => some (r7, m7)) else bd (dM_finds f (-1000000001 : Int32) mem) (fun r m => some (r, m)) := by
  rw [M_set]
  unfold dM_set_66
  rw [M_isOne hM, bd_ok]
  cases h1 : isW S a1 with
  | false => rw [ifz_f]; rfl
  | true => rw [ifz_t, if_b2, Bool.true_and]
theorem put_ca {mem : Mem} {S : PS} (hC : RC mem 0 S) (hM : RM mem S) (hi : IV S) (hm : mi S ≤ 99999) (hR : RS mem) {w k v : Nat} (hw : w < ct S) (ho : okW k v) : INV (sI (sI mem 4 (10 * 0 + w) k (nI v)) 13 0 (6 + 6 * w + k) (nI v)) := by
  have hct : ct S ≤ 10 := hi.2.2.2.2.2.2.2.1
  have g1 : Fz clZ mem (sI mem 4 (10 * 0 + w) k (nI v)) := fz0 (Fz_sI (palZ4 (by omega)))
  exact INV_mv hR (RC_put hC w k v) g1 (RM_put (RM_cl hM g1) (by unfold okW at ho; omega) v) (fz13 (Fz_sI rfl)) (IV_setW hi ho) hm
theorem ca_set {f : Nat} {mem : Mem} (hI : INV mem) (a1 a2 a3 : Int32) : CA (dW_set f a1 a2 a3) (dM_set f a1 a2 a3) mem := by
  have hI' := hI
  obtain ⟨S, hC, hM, hi, hm, hR⟩ := hI'
  have hct : ct S ≤ 10 := hi.2.2.2.2.2.2.2.1
  cases h : (isW S a1 && tbW a2 a3) with
  | false => exact find_B (f := f) hI (by rw [W_set hC, h]; rfl) (fun m fx => by rw [M_set66 (RM_10 hM fx), h]; rfl)
  | true =>
    have h' := h
    rw [Bool.and_eq_true] at h'
    obtain ⟨w, hw, rfl⟩ := isW_t hi h'.1
    obtain ⟨k, v, h1, rfl, rfl, ho⟩ := tbW_t h'.2
    have hk : k < 6 := by unfold okW at ho; omega
    have hM1 : RM (sI mem 4 (10 * 0 + w) k (nI v)) S := RM_cl hM (fz0 (Fz_sI (palZ4 (by omega))))
    exact ans_ca (by rw [W_set hC, h, if_pos rfl, repl_ok hC hi hw hk, bd_ok]) (by rw [M_set66 hM1, h, if_pos rfl, at6, becM_ok hM1 hi hw hk, bd_ok]) (put_ca hC hM hi hm hR hw ho)
theorem ca_turn {f : Nat} {mem : Mem} (hI : INV mem) (a1 a2 : Int32) : CA (dW_turn f a1 a2) (dM_turn f a1 a2) mem := by
  have hI' := hI
  obtain ⟨S, hC, hM, hi, hm, hR⟩ := hI'
  have hct : ct S ≤ 10 := hi.2.2.2.2.2.2.2.1
  cases h1 : isW S a1 with
  | false => exact find_B (f := f) hI (by unfold dW_turn; rw [W_isWall hC, bd_ok, h1, ifz_f]) (fun m fx => by unfold dM_turn; rw [M_isOne (RM_10 hM fx), bd_ok, h1, ifz_f])
  | true =>
  cases h2 : inb a2 0 5 with
  | false => exact find_B (f := f) hI (by unfold dW_turn; rw [W_isWall hC, bd_ok, h1, ifz_t, W_isKind, bd_ok, h2, ifz_f]) (fun m fx => by unfold dM_turn; rw [M_isOne (RM_10 hM fx), bd_ok, h1, ifz_t, M_isKind, bd_ok, h2, ifz_f])
  | true =>
    obtain ⟨w, hw, rfl⟩ := isW_t hi h1
    obtain ⟨v, -, hv, rfl⟩ := inb_t (a := 0) (n := 5) rfl (by omega) (by omega) h2
    have hM1 : RM (sI mem 4 (10 * 0 + w) 0 (nI v)) S := RM_cl hM (fz0 (Fz_sI (palZ4 (by omega))))
    have e6 : (6 : Int32) + (6 : Int32) * nI w = nI (6 + 6 * w + 0) := (add0 _).symm.trans (at6 w 0)
    have R := repl_ok (f := f) (k := 0) (v := nI v) hC hi hw (by omega)
    exact ans_ca (by unfold dW_turn; rw [W_isWall hC, bd_ok, h1, ifz_t, W_isKind, bd_ok, h2, ifz_t, show dP_replace f 0 (nI w) 0 (nI v) mem = _ from R, bd_ok]) (by unfold dM_turn; rw [M_isOne hM1, bd_ok, h1, ifz_t, M_isKind, bd_ok, h2, ifz_t, e6, becM_ok hM1 hi hw (by omega), bd_ok]) (put_ca hC hM hi hm hR hw (Or.inl ⟨rfl, hv⟩))
def undB (own k : Nat) : Bool := decide (k = 0 ∨ k = own ∨ k = 1 ∧ own = 4 ∨ k = 2 ∧ own = 5)
theorem und_ok {f own k : Nat} {mem : Mem} (hf : 2000 ≤ f) (ho : own ≤ 5) (hk : k ≤ 5) : dW_isUnder f (nI own) (nI k) mem = some (nI (b2 (undB own k)), mem) := by
  obtain ⟨n, rfl⟩ : ∃ n, f = n + 1 + 1 + 1 + 1 + 1 + 1 + 1 := ⟨f - 7, by omega⟩
  unfold dW_isUnder
  have hoo : own = 0 ∨ own = 1 ∨ own = 2 ∨ own = 3 ∨ own = 4 ∨ own = 5 := by omega
  have hkk : k = 0 ∨ k = 1 ∨ k = 2 ∨ k = 3 ∨ k = 4 ∨ k = 5 := by omega
  rcases hoo with rfl | rfl | rfl | rfl | rfl | rfl <;> rcases hkk with rfl | rfl | rfl | rfl | rfl | rfl <;> rfl
theorem asM_63 {f w : Nat} {mem : Mem} {S : PS} (hM : RM mem S) (hi : IV S) (hw : w < ct S) (b : Bool) : dM_as_63 f (nI w) (nI (b2 b)) mem = if b = true then some (nI (wa S w 4), mem) else bd (dM_finds f (-1000000003 : Int32) mem) (fun r m => some (r, m)) := by
  unfold dM_as_63
  rw [if_b2, show dM_its f (nI w) 4 mem = _ from its_n (k := 4) hM hi hw (by omega), bd_ok]
theorem M_as {f w k : Nat} {mem : Mem} {S : PS} (hM : RM mem S) (hi : IV S) (hw : w < ct S) (hk : k ≤ 5) (h1 : isW S (nI w) = true) : dM_as f (nI w) (nI k) mem = if undB (wa S w 0) k = true then some (nI (wa S w 4), mem) else bd (dM_finds f (-1000000003 : Int32) mem) (fun r m => some (r, m)) := by
  obtain ⟨v0, v1, v2, v3, v4, v5⟩ := hi.2.2.2.2.2.2.2.2 w hw
  have e2 : inb (nI k) 0 5 = true := (inb_n (k := k) (a := 0) (n := 5) (by omega) (by omega) (by omega)).trans (by rw [decide_eq_true (by omega), decide_eq_true hk]; rfl)
  have T := asM_63 (f := f) hM hi hw true
  have F := asM_63 (f := f) hM hi hw false
  unfold dM_as
  rw [M_isOne hM, bd_ok, h1, ifz_t, M_isKind, bd_ok, e2, ifz_t, show dM_its f (nI w) 0 mem = _ from its_n (k := 0) hM hi hw (by omega), bd_ok]
  unfold dM_as_48
  rw [show dM_as_63 f (nI w) 1 mem = _ from T, show dM_as_63 f (nI w) 0 mem = _ from F]
  have k0 : nI k = 0 ↔ k = 0 := nb_zero (by omega)
  have k1 : nI k = 1 ↔ k = 1 := nb_inj (b := 1) (by omega) (by omega)
  have k2 : nI k = 2 ↔ k = 2 := nb_inj (b := 2) (by omega) (by omega)
  have ko : nI k = nI (wa S w 0) ↔ k = wa S w 0 := nb_inj (by omega) (by omega)
  have o4 : nI (wa S w 0) = 4 ↔ wa S w 0 = 4 := nb_inj (b := 4) (by omega) (by omega)
  have o5 : nI (wa S w 0) = 5 ↔ wa S w 0 = 5 := nb_inj (b := 5) (by omega) (by omega)
  unfold undB
  simp only [k0, k1, k2, ko, o4, o5, decide_eq_true_eq]
  by_cases c0 : k = 0
  · simp [c0]
  by_cases co : k = wa S w 0
  · simp [co]
  by_cases c1 : k = 1
  · by_cases c4 : wa S w 0 = 4
    · simp [c1, c4]
    · simp [c1, c4]
  by_cases c2 : k = 2
  · by_cases c5 : wa S w 0 = 5
    · simp [c2, c5]
    · simp [c2, c5]
  simp [c0, co, c1, c2]
theorem ca_as {f : Nat} {mem : Mem} (hf : 2000 ≤ f) (hI : INV mem) (a1 a2 : Int32) : CA (dW_as f a1 a2) (dM_as f a1 a2) mem := by
  have hI' := hI
  obtain ⟨S, hC, hM, hi, hm, hR⟩ := hI'
  have hct : ct S ≤ 10 := hi.2.2.2.2.2.2.2.1
  cases h1 : isW S a1 with
  | false => exact find_B (f := f) hI (by unfold dW_as; rw [W_isWall hC, bd_ok, h1, ifz_f]) (fun m fx => by unfold dM_as; rw [M_isOne (RM_10 hM fx), bd_ok, h1, ifz_f])
  | true =>
  cases h2 : inb a2 0 5 with
  | false => exact find_B (f := f) hI (by unfold dW_as; rw [W_isWall hC, bd_ok, h1, ifz_t, W_isKind, bd_ok, h2, ifz_f]) (fun m fx => by unfold dM_as; rw [M_isOne (RM_10 hM fx), bd_ok, h1, ifz_t, M_isKind, bd_ok, h2, ifz_f])
  | true =>
    obtain ⟨w, hw, rfl⟩ := isW_t hi h1
    obtain ⟨k, -, hk, rfl⟩ := inb_t (a := 0) (n := 5) rfl (by omega) (by omega) h2
    obtain ⟨v0, v1, v2, v3, v4, v5⟩ := hi.2.2.2.2.2.2.2.2 w hw
    have hA : dW_as f (nI w) (nI k) mem = if undB (wa S w 0) k = true then some (nI (wa S w 4), mem) else bd (dW_finding f (-1000000003 : Int32) mem) (fun r m => some (r, m)) := by
      unfold dW_as
      rw [W_isWall hC, bd_ok, h1, ifz_t, W_isKind, bd_ok, h2, ifz_t, ck_in _ (by omega) (by omega), nI_clamp (by omega), hC.2.2.2 w hw 0 (by omega), und_ok hf v0 hk, bd_ok, hC.2.2.2 w hw 4 (by omega), if_b2]
    cases h3 : undB (wa S w 0) k with
    | false => exact find_K (f := f) hI (by rw [hA, h3]; rfl) (fun m fx => by rw [M_as (RM_10 hM fx) hi hw hk h1, h3]; rfl)
    | true => exact ans_ca (by rw [hA, h3, if_pos rfl]) (by rw [M_as hM hi hw hk h1, h3, if_pos rfl]) hI
theorem ca_hears {f : Nat} {mem : Mem} (hI : INV mem) (a1 a2 : Int32) : CA (dW_hears f a1 a2) (dM_hears f a1 a2) mem := by
  have hI' := hI
  obtain ⟨S, hC, hM, hi, hm, hR⟩ := hI'
  have hct : ct S ≤ 10 := hi.2.2.2.2.2.2.2.1
  cases h1 : isW S a1 with
  | false => exact find_B (f := f) hI (by unfold dW_hears; rw [W_isWall hC, bd_ok, h1, ifz_f]) (fun m fx => by unfold dM_hears; rw [M_isOne (RM_10 hM fx), bd_ok, h1, ifz_f])
  | true =>
  cases h2 : inb a2 0 15 with
  | false => exact find_B (f := f) hI (by unfold dW_hears; rw [W_isWall hC, bd_ok, h1, ifz_t, W_isWord, bd_ok, h2, ifz_f]) (fun m fx => by unfold dM_hears; rw [M_isOne (RM_10 hM fx), bd_ok, h1, ifz_t, M_isWord, bd_ok, h2, ifz_f])
  | true =>
    obtain ⟨w, hw, rfl⟩ := isW_t hi h1
    obtain ⟨k, -, hk, rfl⟩ := inb_t (a := 0) (n := 15) rfl (by omega) (by omega) h2
    have hA : dW_hears f (nI w) (nI k) mem = if hrd S w k < 0 then (bd (dW_finding f (-1000000004 : Int32) mem) (fun r7 m7 => some (r7, m7))) else (some (hrd S w k, mem)) := by
      unfold dW_hears
      rw [W_isWall hC, bd_ok, h1, ifz_t, W_isWord, bd_ok, h2, ifz_t, ck_in _ (by omega) (by omega), nI_clamp (by omega), heardC_ok hC hi hw (by omega), bd_ok]
    have hB : ∀ m, RM m S → dM_hears f (nI w) (nI k) m = if hrd S w k < 0 then (bd (dM_finds f (-1000000004 : Int32) m) (fun r7 m7 => some (r7, m7))) else (some (hrd S w k, m)) := by
      intro m hMm
      unfold dM_hears
      rw [M_isOne hMm, bd_ok, h1, ifz_t, M_isWord, bd_ok, h2, ifz_t, heardM_ok hMm hi hw (by omega), bd_ok]
    by_cases c : hrd S w k < 0
    · exact find_N (f := f) hI (by rw [hA, if_pos c]) (fun m fx => by rw [hB m (RM_10 hM fx), if_pos c])
    · exact ans_ca (by rw [hA, if_neg c]) (by rw [hB mem hM, if_neg c]) hI
