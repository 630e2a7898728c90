/-! THE TEXT: what an ITEM comes to; the class's way. -/
def kN (T : TT) (e : Nat) : Nat := if named T e 5 = true then 0 else if named T e 0 = true then 1 else if named T e 1 = true then 2 else if named T e 2 = true then 3 else if named T e 3 = true then 4 else if named T e 4 = true then 5 else 6
def rNm (T : TT) (e : Nat) : Nat := if named T e 9 = true then 0 else if named T e 10 = true then 1 else if named T e 11 = true then 2 else 3
def inN (T : TT) (e l h : Nat) : Bool := decide (so T e = 3 ∧ l ≤ nu T e ∧ nu T e ≤ h)
def aSide (T : TT) (S : PS) (k r o e : Nat) : Bool × PS × Nat := if named T e 8 = true then (if inN T (en T e) 0 3 = true then (true, newW S k r o (nu T (en T e)), en T (en T e)) else (false, S, en T e)) else (true, newW S k r o 0, e)
def aW3 (T : TT) (S : PS) (k r e : Nat) : Bool × PS × Nat := if named T e 7 = true then (if inN T (en T e) 0 9 = true then aSide T S k r (nu T (en T e)) (en T (en T e)) else (false, S, en T e)) else aSide T S k r r e
def aW2 (T : TT) (S : PS) (k e : Nat) : Bool × PS × Nat := if inN T e 0 9 = true then aW3 T S k (nu T e) (en T e) else (false, S, e)
def aWall (T : TT) (S : PS) (k e : Nat) : Bool × PS × Nat := if 10 ≤ ct S then (false, S, e) else if named T (en T e) 6 = true then aW2 T S k (en T (en T e)) else (false, S, en T e)
def loR (w : Nat) : Nat := if w = 0 then 1 else 0
def hiR (w : Nat) : Nat := if w = 2 then 3 else 60
def aItem (T : TT) (S : PS) (e : Nat) : Bool × PS × Nat := if kN T e < 6 then aWall T S (kN T e) e else if rNm T e < 3 then (if inN T (en T e) (loR (rNm T e)) (hiR (rNm T e)) = true then (true, setR S (rNm T e) (nu T (en T e)), en T (en T e)) else (false, S, en T e)) else (false, S, e)
theorem inN_le {T : TT} {e l h : Nat} (c : inN T e l h = true) : so T e = 3 ∧ l ≤ nu T e ∧ nu T e ≤ h := of_decide_eq_true c
/-- where it stands is within the tape; the palace behind it -/
def aOK (T : TT) (S : PS) (e : Nat) (r : Bool × PS × Nat) : Prop := e ≤ r.2.2 ∧ r.2.2 ≤ T.2 ∧ IV r.2.1 ∧ mi r.2.1 = mi S ∧ (r.1 = true → e + 1 ≤ r.2.2)
theorem ge_en (T : TT) (e : Nat) : e ≤ en T e := Nat.le_trans (bg_ge T e) (en_ge T e)
theorem gt_en {T : TT} (hT : okT T) {e : Nat} (h : so T e = 2 ∨ so T e = 3 ∨ so T e = 4) : e + 1 ≤ en T e := by
  have := en_gt hT h
  have := bg_ge T e
  omega
theorem aSide_ok {T : TT} {S : PS} {k r o e : Nat} (hT : okT T) (he : e ≤ T.2) (hi : IV S) (hc : ct S < 10) (hk : k ≤ 5) (hr : r ≤ 9) (ho : o ≤ 9) : e ≤ (aSide T S k r o e).2.2 ∧ (aSide T S k r o e).2.2 ≤ T.2 ∧ IV (aSide T S k r o e).2.1 ∧ mi (aSide T S k r o e).2.1 = mi S := by
  have h1 := en_le (T := T) he
  have h2 := en_le (T := T) h1
  have g1 := ge_en T e
  have g2 := ge_en T (en T e)
  unfold aSide
  by_cases c : named T e 8 = true
  · rw [if_pos c]
    by_cases c2 : inN T (en T e) 0 3 = true
    · rw [if_pos c2]
      exact ⟨by show e ≤ en T (en T e); omega, h2, IV_newW hi hc hk hr ho (inN_le c2).2.2, rfl⟩
    · rw [if_neg c2]
      exact ⟨g1, h1, hi, rfl⟩
  · rw [if_neg c]
    exact ⟨Nat.le_refl _, he, IV_newW hi hc hk hr ho (by omega), rfl⟩
theorem aW3_ok {T : TT} {S : PS} {k r e : Nat} (hT : okT T) (he : e ≤ T.2) (hi : IV S) (hc : ct S < 10) (hk : k ≤ 5) (hr : r ≤ 9) : e ≤ (aW3 T S k r e).2.2 ∧ (aW3 T S k r e).2.2 ≤ T.2 ∧ IV (aW3 T S k r e).2.1 ∧ mi (aW3 T S k r e).2.1 = mi S := by
  have h1 := en_le (T := T) he
  have h2 := en_le (T := T) h1
  have g1 := ge_en T e
  have g2 := ge_en T (en T e)
  unfold aW3
  by_cases c : named T e 7 = true
  · rw [if_pos c]
    by_cases c2 : inN T (en T e) 0 9 = true
    · rw [if_pos c2]
      obtain ⟨q1, q2, q3, q4⟩ := aSide_ok (k := k) (r := r) (o := nu T (en T e)) hT h2 hi hc hk hr (inN_le c2).2.2
      exact ⟨by omega, q2, q3, q4⟩
    · rw [if_neg c2]
      exact ⟨g1, h1, hi, rfl⟩
  · rw [if_neg c]
    exact aSide_ok hT he hi hc hk hr hr
theorem named_so {T : TT} {e q : Nat} (h : named T e q = true) : so T e = 2 := (of_decide_eq_true h).1
theorem kN_so {T : TT} {e : Nat} (h : kN T e < 6) : so T e = 2 := by
  unfold kN at h
  by_cases c5 : named T e 5 = true
  · exact named_so c5
  rw [if_neg c5] at h
  by_cases c0 : named T e 0 = true
  · exact named_so c0
  rw [if_neg c0] at h
  by_cases c1 : named T e 1 = true
  · exact named_so c1
  rw [if_neg c1] at h
  by_cases c2 : named T e 2 = true
  · exact named_so c2
  rw [if_neg c2] at h
  by_cases c3 : named T e 3 = true
  · exact named_so c3
  rw [if_neg c3] at h
  by_cases c4 : named T e 4 = true
  · exact named_so c4
  rw [if_neg c4] at h
  omega
theorem rNm_so {T : TT} {e : Nat} (h : rNm T e < 3) : so T e = 2 := by
  unfold rNm at h
  by_cases c5 : named T e 9 = true
  · exact named_so c5
  rw [if_neg c5] at h
  by_cases c0 : named T e 10 = true
  · exact named_so c0
  rw [if_neg c0] at h
  by_cases c1 : named T e 11 = true
  · exact named_so c1
  rw [if_neg c1] at h
  omega
theorem aItem_ok {T : TT} {S : PS} {e : Nat} (hT : okT T) (he : e ≤ T.2) (hi : IV S) : aOK T S e (aItem T S e) := by
  have hct : ct S ≤ 10 := hi.2.2.2.2.2.2.2.1
  have h1 := en_le (T := T) he
  have h2 := en_le (T := T) h1
  have h3 := en_le (T := T) h2
  have g1 := ge_en T e
  have g2 := ge_en T (en T e)
  have g3 := ge_en T (en T (en T e))
  unfold aItem
  by_cases ck : kN T e < 6
  · have gk := gt_en (e := e) hT (Or.inl (kN_so ck))
    rw [if_pos ck]
    unfold aWall
    by_cases c10 : 10 ≤ ct S
    · rw [if_pos c10]
      exact ⟨Nat.le_refl _, he, hi, rfl, fun z => by cases z⟩
    rw [if_neg c10]
    by_cases c6 : named T (en T e) 6 = true
    · rw [if_pos c6]
      unfold aW2
      by_cases c9 : inN T (en T (en T e)) 0 9 = true
      · rw [if_pos c9]
        obtain ⟨q1, q2, q3, q4⟩ := aW3_ok (k := kN T e) (r := nu T (en T (en T e))) hT h3 hi (by omega) (by omega) (inN_le c9).2.2
        exact ⟨by omega, q2, q3, q4, fun _ => by omega⟩
      · rw [if_neg c9]
        exact ⟨by show e ≤ en T (en T e); omega, h2, hi, rfl, fun z => by cases z⟩
    · rw [if_neg c6]
      exact ⟨g1, h1, hi, rfl, fun z => by cases z⟩
  rw [if_neg ck]
  by_cases cr : rNm T e < 3
  · have gk := gt_en (e := e) hT (Or.inl (rNm_so cr))
    rw [if_pos cr]
    by_cases cn : inN T (en T e) (loR (rNm T e)) (hiR (rNm T e)) = true
    · rw [if_pos cn]
      obtain ⟨q1, q2, q3⟩ := inN_le cn
      refine ⟨by show e ≤ en T (en T e); omega, h2, IV_setR hi ?_, rfl, fun _ => by show e + 1 ≤ en T (en T e); omega⟩
      unfold loR at q2
      unfold hiR at q3
      unfold okR
      have : rNm T e = 0 ∨ rNm T e = 1 ∨ rNm T e = 2 := by omega
      rcases this with z | z | z <;> rw [z] at q2 q3 ⊢ <;> simp at q2 q3 <;> omega
    · rw [if_neg cn]
      exact ⟨g1, h1, hi, rfl, fun z => by cases z⟩
  · rw [if_neg cr]
    exact ⟨Nat.le_refl _, he, hi, rfl, fun z => by cases z⟩
def psZ (t i j : Nat) : Bool := q5 t i j || palZ 2 t i j
theorem ps_q {mem m : Mem} (h : Fz q5 mem m) : Fz psZ mem m := Fz_mo h (fun t i j q => by unfold psZ; rw [q]; rfl)
theorem ps_p {mem m : Mem} (h : Fz (palZ 2) mem m) : Fz psZ mem m := Fz_mo h (fun t i j q => by unfold psZ; rw [q, Bool.or_true])
theorem RC_q5 {mem m : Mem} {p : Nat} {S : PS} (h : RC mem p S) (hi : IV S) (fx : Fz q5 mem m) : RC m p S := RC_fz h hi.2.2.2.2.2.2.2.1 fx (fun t i j q => by
  have := notPal q
  exact decide_eq_false (by omega))
def PC (mem : Mem) (T : TT) (e : Nat) (S : PS) : Prop := TpC mem T ∧ TC mem T e ∧ RC mem 2 S
theorem nextP {f e : Nat} {mem : Mem} {T : TT} {S : PS} (hf : 2000 ≤ f) (hT : okT T) (he : e ≤ T.2) (hi : IV S) (h : PC mem T e S) : ∃ m', dT_next f mem = some ((), m') ∧ PC m' T (en T e) S ∧ Fz psZ mem m' := by
  obtain ⟨h1, h2, h3⟩ := h
  obtain ⟨m', r1, r2, r3, r4⟩ := next_ok (f := f) hf hT (en_le he) h1 h2.2.1
  exact ⟨m', r1, ⟨r3, r2, RC_q5 h3 hi r4⟩, ps_q r4⟩
theorem numC {f e l h : Nat} {mem : Mem} {T : TT} (ht : TC mem T e) (hh : h < 1000) : dT_isNumber f (nI l) (nI h) mem = some (nI (b2 (inN T e l h)), mem) := by
  have hs : so T e ≤ 4 := sc_le T (bg T e)
  have k3 : nI (so T e) = 3 ↔ so T e = 3 := nb_inj (b := 3) (by omega) (by omega)
  unfold dT_isNumber
  rw [ht.2.2.1]
  by_cases c : so T e = 3
  · by_cases hl : l < 2 ^ 31
    · rw [if_pos (k3.mpr c), W_in, bd_ok, ht.2.2.2 c, inb_n (by omega) hl (by omega), if_b2]
      have e1 : (decide (l ≤ min 1000 (nu T e)) && decide (min 1000 (nu T e) ≤ h)) = inN T e l h := by
        unfold inN
        rw [← Bool.decide_and]
        apply decide_eq_decide.mpr
        constructor
        · rintro ⟨a, b⟩
          exact ⟨c, by omega, by omega⟩
        · rintro ⟨-, a, b⟩
          omega
      rw [e1]
      cases inN T e l h <;> rfl
    · sorry
  · have : inN T e l h = false := decide_eq_false (fun z => c z.1)
    rw [if_neg (fun z => c (k3.mp z)), this]
    rfl
