/-! THE TEXT: what an ITEM comes to; the class's way. -/
def kN (T : TT) (e : Nat) : Nat := if named T e 5 = true then 0 else if named T e 0 = true then 1 else if named T e 1 = true then 2 else if named T e 2 = true then 3 else if named T e 3 = true then 4 else if named T e 4 = true then 5 else 6
def rNm (T : TT) (e : Nat) : Nat := if named T e 9 = true then 0 else if named T e 10 = true then 1 else if named T e 11 = true then 2 else 3
def inN (T : TT) (e l h : Nat) : Bool := decide (so T e = 3 ∧ l ≤ nu T e ∧ nu T e ≤ h)
def aSide (T : TT) (S : PS) (k r o e : Nat) : Bool × PS × Nat := if named T e 8 = true then (if inN T (en T e) 0 3 = true then (true, newW S k r o (nu T (en T e)), en T (en T e)) else (false, S, en T e)) else (true, newW S k r o 0, e)
def aW3 (T : TT) (S : PS) (k r e : Nat) : Bool × PS × Nat := if named T e 7 = true then (if inN T (en T e) 0 9 = true then aSide T S k r (nu T (en T e)) (en T (en T e)) else (false, S, en T e)) else aSide T S k r r e
def aW2 (T : TT) (S : PS) (k e : Nat) : Bool × PS × Nat := if inN T e 0 9 = true then aW3 T S k (nu T e) (en T e) else (false, S, e)
def aWall (T : TT) (S : PS) (k e : Nat) : Bool × PS × Nat := if 10 ≤ ct S then (false, S, e) else if named T (en T e) 6 = true then aW2 T S k (en T (en T e)) else (false, S, en T e)
def loR (w : Nat) : Nat := if w = 0 then 1 else 0
def hiR (w : Nat) : Nat := if w = 2 then 3 else 60
def aItem (T : TT) (S : PS) (e : Nat) : Bool × PS × Nat := if kN T e < 6 then aWall T S (kN T e) e else if rNm T e < 3 then (if inN T (en T e) (loR (rNm T e)) (hiR (rNm T e)) = true then (true, setR S (rNm T e) (nu T (en T e)), en T (en T e)) else (false, S, en T e)) else (false, S, e)
theorem inN_le {T : TT} {e l h : Nat} (c : inN T e l h = true) : so T e = 3 ∧ l ≤ nu T e ∧ nu T e ≤ h := of_decide_eq_true c
/-- where it stands is within the tape; the palace behind it -/
def aOK (T : TT) (S : PS) (e : Nat) (r : Bool × PS × Nat) : Prop := e ≤ r.2.2 ∧ r.2.2 ≤ T.2 ∧ IV r.2.1 ∧ mi r.2.1 = mi S ∧ (r.1 = true → e + 1 ≤ r.2.2)
theorem ge_en (T : TT) (e : Nat) : e ≤ en T e := Nat.le_trans (bg_ge T e) (en_ge T e)
theorem gt_en {T : TT} (hT : okT T) {e : Nat} (h : so T e = 2 ∨ so T e = 3 ∨ so T e = 4) : e + 1 ≤ en T e := by
  have := en_gt hT h
  have := bg_ge T e
  omega
theorem aSide_ok {T : TT} {S : PS} {k r o e : Nat} (hT : okT T) (he : e ≤ T.2) (hi : IV S) (hc : ct S < 10) (hk : k ≤ 5) (hr : r ≤ 9) (ho : o ≤ 9) : e ≤ (aSide T S k r o e).2.2 ∧ (aSide T S k r o e).2.2 ≤ T.2 ∧ IV (aSide T S k r o e).2.1 ∧ mi (aSide T S k r o e).2.1 = mi S := by
  have h1 := en_le (T := T) he
  have h2 := en_le (T := T) h1
  have g1 := ge_en T e
  have g2 := ge_en T (en T e)
  unfold aSide
  by_cases c : named T e 8 = true
  · rw [if_pos c]
    by_cases c2 : inN T (en T e) 0 3 = true
    · rw [if_pos c2]
      exact ⟨by show e ≤ en T (en T e); omega, h2, IV_newW hi hc hk hr ho (inN_le c2).2.2, rfl⟩
    · rw [if_neg c2]
      exact ⟨g1, h1, hi, rfl⟩
  · rw [if_neg c]
    exact ⟨Nat.le_refl _, he, IV_newW hi hc hk hr ho (by omega), rfl⟩
theorem aW3_ok {T : TT} {S : PS} {k r e : Nat} (hT : okT T) (he : e ≤ T.2) (hi : IV S) (hc : ct S < 10) (hk : k ≤ 5) (hr : r ≤ 9) : e ≤ (aW3 T S k r e).2.2 ∧ (aW3 T S k r e).2.2 ≤ T.2 ∧ IV (aW3 T S k r e).2.1 ∧ mi (aW3 T S k r e).2.1 = mi S := by
  have h1 := en_le (T := T) he
  have h2 := en_le (T := T) h1
  have g1 := ge_en T e
  have g2 := ge_en T (en T e)
  unfold aW3
  by_cases c : named T e 7 = true
  · rw [if_pos c]
    by_cases c2 : inN T (en T e) 0 9 = true
    · rw [if_pos c2]
      obtain ⟨q1, q2, q3, q4⟩ := aSide_ok (k := k) (r := r) (o := nu T (en T e)) hT h2 hi hc hk hr (inN_le c2).2.2
      exact ⟨by omega, q2, q3, q4⟩
    · rw [if_neg c2]
      exact ⟨g1, h1, hi, rfl⟩
  · rw [if_neg c]
    exact aSide_ok hT he hi hc hk hr hr
theorem named_so {T : TT} {e q : Nat} (h : named T e q = true) : so T e = 2 := (of_decide_eq_true h).1
theorem kN_so {T : TT} {e : Nat} (h : kN T e < 6) : so T e = 2 := by
  unfold kN at h
  by_cases c5 : named T e 5 = true
  · exact named_so c5
  rw [if_neg c5] at h
  by_cases c0 : named T e 0 = true
  · exact named_so c0
  rw [if_neg c0] at h
  by_cases c1 : named T e 1 = true
  · exact named_so c1
  rw [if_neg c1] at h
  by_cases c2 : named T e 2 = true
  · exact named_so c2
  rw [if_neg c2] at h
  by_cases c3 : named T e 3 = true
  · exact named_so c3
  rw [if_neg c3] at h
  by_cases c4 : named T e 4 = true
  · exact named_so c4
  rw [if_neg c4] at h
  omega
theorem rNm_so {T : TT} {e : Nat} (h : rNm T e < 3) : so T e = 2 := by
  unfold rNm at h
  by_cases c5 : named T e 9 = true
  · exact named_so c5
  rw [if_neg c5] at h
  by_cases c0 : named T e 10 = true
  · exact named_so c0
  rw [if_neg c0] at h
  by_cases c1 : named T e 11 = true
  · exact named_so c1
  rw [if_neg c1] at h
  omega
theorem aItem_ok {T : TT} {S : PS} {e : Nat} (hT : okT T) (he : e ≤ T.2) (hi : IV S) : aOK T S e (aItem T S e) := by
  have hct : ct S ≤ 10 := hi.2.2.2.2.2.2.2.1
  have h1 := en_le (T := T) he
  have h2 := en_le (T := T) h1
  have h3 := en_le (T := T) h2
  have g1 := ge_en T e
  have g2 := ge_en T (en T e)
  have g3 := ge_en T (en T (en T e))
  unfold aItem
  by_cases ck : kN T e < 6
  · have gk := gt_en (e := e) hT (Or.inl (kN_so ck))
    rw [if_pos ck]
    unfold aWall
    by_cases c10 : 10 ≤ ct S
    · rw [if_pos c10]
      exact ⟨Nat.le_refl _, he, hi, rfl, fun z => by cases z⟩
    rw [if_neg c10]
    by_cases c6 : named T (en T e) 6 = true
    · rw [if_pos c6]
      unfold aW2
      by_cases c9 : inN T (en T (en T e)) 0 9 = true
      · rw [if_pos c9]
        obtain ⟨q1, q2, q3, q4⟩ := aW3_ok (k := kN T e) (r := nu T (en T (en T e))) hT h3 hi (by omega) (by omega) (inN_le c9).2.2
        exact ⟨by omega, q2, q3, q4, fun _ => by omega⟩
      · rw [if_neg c9]
        exact ⟨by show e ≤ en T (en T e); omega, h2, hi, rfl, fun z => by cases z⟩
    · rw [if_neg c6]
      exact ⟨g1, h1, hi, rfl, fun z => by cases z⟩
  rw [if_neg ck]
  by_cases cr : rNm T e < 3
  · have gk := gt_en (e := e) hT (Or.inl (rNm_so cr))
    rw [if_pos cr]
    by_cases cn : inN T (en T e) (loR (rNm T e)) (hiR (rNm T e)) = true
    · rw [if_pos cn]
      obtain ⟨q1, q2, q3⟩ := inN_le cn
      refine ⟨by show e ≤ en T (en T e); omega, h2, IV_setR hi ?_, rfl, fun _ => by show e + 1 ≤ en T (en T e); omega⟩
      unfold loR at q2
      unfold hiR at q3
      unfold okR
      have : rNm T e = 0 ∨ rNm T e = 1 ∨ rNm T e = 2 := by omega
      rcases this with z | z | z <;> rw [z] at q2 q3 ⊢ <;> simp at q2 q3 <;> omega
    · rw [if_neg cn]
      exact ⟨g1, h1, hi, rfl, fun z => by cases z⟩
  · rw [if_neg cr]
    exact ⟨Nat.le_refl _, he, hi, rfl, fun z => by cases z⟩
def psZ (t i j : Nat) : Bool := q5 t i j || palZ 2 t i j
theorem ps_q {mem m : Mem} (h : Fz q5 mem m) : Fz psZ mem m := Fz_mo h (fun t i j q => by unfold psZ; rw [q]; rfl)
theorem ps_p {mem m : Mem} (h : Fz (palZ 2) mem m) : Fz psZ mem m := Fz_mo h (fun t i j q => by unfold psZ; rw [q, Bool.or_true])
theorem RC_q5 {mem m : Mem} {p : Nat} {S : PS} (h : RC mem p S) (hi : IV S) (fx : Fz q5 mem m) : RC m p S := RC_fz h hi.2.2.2.2.2.2.2.1 fx (fun t i j q => by
  have := notPal q
  exact decide_eq_false (by omega))
def PC (mem : Mem) (T : TT) (e : Nat) (S : PS) : Prop := TpC mem T ∧ TC mem T e ∧ RC mem 2 S
theorem nextP {f e : Nat} {mem : Mem} {T : TT} {S : PS} (hf : 2000 ≤ f) (hT : okT T) (he : e ≤ T.2) (hi : IV S) (h : PC mem T e S) : ∃ m', dT_next f mem = some ((), m') ∧ PC m' T (en T e) S ∧ Fz psZ mem m' := by
  obtain ⟨h1, h2, h3⟩ := h
  obtain ⟨m', r1, r2, r3, r4⟩ := next_ok (f := f) hf hT (en_le he) h1 h2.2.1
  exact ⟨m', r1, ⟨r3, r2, RC_q5 h3 hi r4⟩, ps_q r4⟩
theorem numC {f e l h : Nat} {mem : Mem} {T : TT} (ht : TC mem T e) (hl : l < 1000) (hh : h < 1000) : dT_isNumber f (nI l) (nI h) mem = some (nI (b2 (inN T e l h)), mem) := by
  have hs : so T e ≤ 4 := sc_le T (bg T e)
  have k3 : nI (so T e) = 3 ↔ so T e = 3 := nb_inj (b := 3) (by omega) (by omega)
  unfold dT_isNumber
  rw [ht.2.2.1]
  by_cases c : so T e = 3
  · rw [if_pos (k3.mpr c), W_in, bd_ok, ht.2.2.2 c, inb_n (by omega) (by omega) (by omega), if_b2]
    have e1 : (decide (l ≤ min 1000 (nu T e)) && decide (min 1000 (nu T e) ≤ h)) = inN T e l h := by
      unfold inN
      rw [← Bool.decide_and]
      apply decide_eq_decide.mpr
      constructor
      · rintro ⟨a, b⟩
        exact ⟨c, by omega, by omega⟩
      · rintro ⟨-, a, b⟩
        omega
    rw [e1]
    cases inN T e l h <;> rfl
  · have : inN T e l h = false := decide_eq_false (fun z => c z.1)
    rw [if_neg (fun z => c (k3.mp z)), this]
    rfl
theorem PC_p {mem m : Mem} {T : TT} {e : Nat} {S : PS} (h1 : TpC mem T) (h2 : TC mem T e) (fx : Fz (palZ 2) mem m) (h3 : RC m 2 S) : PC m T e S := by
  have k5 : ∀ i j, gI m 5 i j = gI mem 5 i j := fun i j => (fx 5 i j (decide_eq_false (by omega))).1
  have k6 : ∀ i j, gI m 6 i j = gI mem 6 i j := fun i j => (fx 6 i j (decide_eq_false (by omega))).1
  exact ⟨⟨(k5 0 1).trans h1.1, fun j hj => (k6 0 j).trans (h1.2 j hj)⟩, ⟨(k5 0 2).trans h2.1, (k5 0 3).trans h2.2.1, (k5 0 4).trans h2.2.2.1, fun c => (k5 0 5).trans (h2.2.2.2 c)⟩, h3⟩
theorem b124 {f k r o d e : Nat} {mem : Mem} {T : TT} {S : PS} (hc : ct S < 10) (h : PC mem T e S) : ∃ m', dT_takesWall_124 f 2 (nI k) (nI r) (nI o) (nI d) mem = some (1, m') ∧ PC m' T e (newW S k r o d) ∧ Fz psZ mem m' := by
  obtain ⟨h1, h2, h3⟩ := h
  obtain ⟨m', r1, r2, r3⟩ := build_ok (f := f) (a := k) (b := r) (c := o) (d := d) h3 hc
  unfold dT_takesWall_124
  rw [r1, bd_ok]
  exact ⟨m', rfl, PC_p h1 h2 r3 r2, ps_p r3⟩
theorem sideP {f k r o e : Nat} {mem : Mem} {T : TT} {S : PS} (hf : 2000 ≤ f) (hT : okT T) (he : e ≤ T.2) (hi : IV S) (hc : ct S < 10) (h : PC mem T e S) :
    ∃ m', dT_takesWall_87 f 2 (nI k) (nI r) (nI o) mem = some (nI (b2 (aSide T S k r o e).1), m') ∧ PC m' T (aSide T S k r o e).2.2 (aSide T S k r o e).2.1 ∧ Fz psZ mem m' := by
  have h1 := en_le (T := T) he
  unfold dT_takesWall_87 aSide
  rw [namedC_ok hf hT he h.1 h.2.1 (by decide), bd_ok, if_b2]
  by_cases c : named T e 8 = true
  · rw [if_pos c, if_pos c]
    obtain ⟨m1, r1, r2, r3⟩ := nextP (f := f) hf hT he hi h
    rw [r1, bd_ok, show dT_isNumber f 0 3 m1 = _ from numC (l := 0) (h := 3) r2.2.1 (by omega) (by omega), bd_ok, if_b2]
    by_cases c2 : inN T (en T e) 0 3 = true
    · rw [if_pos c2, if_pos c2]
      obtain ⟨q1, q2, q3⟩ := inN_le c2
      obtain ⟨m2, s1, s2, s3⟩ := nextP (f := f) hf hT h1 hi r2
      have en5 : gI m1 5 0 5 = nI (nu T (en T e)) := (r2.2.1.2.2.2 q1).trans (by rw [Nat.min_eq_right (by omega)])
      rw [s1, bd_ok, en5]
      obtain ⟨m3, t1, t2, t3⟩ := b124 (f := f) (k := k) (r := r) (o := o) (d := nu T (en T e)) hc s2
      exact ⟨m3, t1, t2, Fz_tr r3 (Fz_tr s3 t3)⟩
    · rw [if_neg c2, if_neg c2]
      exact ⟨m1, rfl, r2, r3⟩
  · rw [if_neg c, if_neg c]
    exact b124 (d := 0) hc h
theorem wall3P {f k r e : Nat} {mem : Mem} {T : TT} {S : PS} (hf : 2000 ≤ f) (hT : okT T) (he : e ≤ T.2) (hi : IV S) (hc : ct S < 10) (h : PC mem T e S) :
    ∃ m', bd (dT_isNamed f 7 mem) (fun r7 m7 => if r7 = 0 then (dT_takesWall_87 f 2 (nI k) (nI r) (nI r) m7) else (bd (dT_next f m7) (fun r8 m8 => bd (dT_isNumber f (0 : Int32) (9 : Int32) m8) (fun r9 m9 => if r9 = 0 then (some ((0 : Int32), m9)) else (bd (dT_next f m9) (fun r10 m10 => dT_takesWall_87 f 2 (nI k) (nI r) (gI m9 5 0 5) m10)))))) = some (nI (b2 (aW3 T S k r e).1), m') ∧ PC m' T (aW3 T S k r e).2.2 (aW3 T S k r e).2.1 ∧ Fz psZ mem m' := by
  have h1 := en_le (T := T) he
  have h2 := en_le (T := T) h1
  unfold aW3
  rw [namedC_ok hf hT he h.1 h.2.1 (by decide), bd_ok, if_b2]
  by_cases c : named T e 7 = true
  · rw [if_pos c, if_pos c]
    obtain ⟨m1, r1, r2, r3⟩ := nextP (f := f) hf hT he hi h
    rw [r1, bd_ok, show dT_isNumber f 0 9 m1 = _ from numC (l := 0) (h := 9) r2.2.1 (by omega) (by omega), bd_ok, if_b2]
    by_cases c2 : inN T (en T e) 0 9 = true
    · rw [if_pos c2, if_pos c2]
      obtain ⟨q1, q2, q3⟩ := inN_le c2
      obtain ⟨m2, s1, s2, s3⟩ := nextP (f := f) hf hT h1 hi r2
      have en5 : gI m1 5 0 5 = nI (nu T (en T e)) := (r2.2.1.2.2.2 q1).trans (by rw [Nat.min_eq_right (by omega)])
      rw [s1, bd_ok, en5]
      obtain ⟨m3, t1, t2, t3⟩ := sideP (f := f) (k := k) (r := r) (o := nu T (en T e)) hf hT h2 hi hc s2
      exact ⟨m3, t1, t2, Fz_tr r3 (Fz_tr s3 t3)⟩
    · rw [if_neg c2, if_neg c2]
      exact ⟨m1, rfl, r2, r3⟩
  · rw [if_neg c, if_neg c]
    exact sideP hf hT he hi hc h
theorem wallP {f k e : Nat} {mem : Mem} {T : TT} {S : PS} (hf : 2000 ≤ f) (hT : okT T) (he : e ≤ T.2) (hi : IV S) (h : PC mem T e S) :
    ∃ m', dT_takesWall f 2 (nI k) mem = some (nI (b2 (aWall T S k e).1), m') ∧ PC m' T (aWall T S k e).2.2 (aWall T S k e).2.1 ∧ Fz psZ mem m' := by
  have h1 := en_le (T := T) he
  have h2 := en_le (T := T) h1
  have h3 := en_le (T := T) h2
  unfold dT_takesWall aWall
  rw [built_ok h.2.2 hi, bd_ok, if_b2]
  by_cases c10 : 10 ≤ ct S
  · rw [decide_eq_true c10, if_pos rfl, if_pos c10]
    exact ⟨mem, rfl, h, Fz_rfl _ _⟩
  rw [decide_eq_false c10, if_neg (by decide), if_neg c10]
  obtain ⟨m1, r1, r2, r3⟩ := nextP (f := f) hf hT he hi h
  rw [r1, bd_ok, namedC_ok hf hT h1 r2.1 r2.2.1 (by decide), bd_ok, if_b2]
  by_cases c6 : named T (en T e) 6 = true
  · rw [if_pos c6, if_pos c6]
    unfold aW2
    obtain ⟨m2, s1, s2, s3⟩ := nextP (f := f) hf hT h1 hi r2
    rw [s1, bd_ok, show dT_isNumber f 0 9 m2 = _ from numC (l := 0) (h := 9) s2.2.1 (by omega) (by omega), bd_ok, if_b2]
    by_cases c9 : inN T (en T (en T e)) 0 9 = true
    · rw [if_pos c9, if_pos c9]
      obtain ⟨q1, q2, q3⟩ := inN_le c9
      obtain ⟨m3, t1, t2, t3⟩ := nextP (f := f) hf hT h2 hi s2
      have en5 : gI m2 5 0 5 = nI (nu T (en T (en T e))) := (s2.2.1.2.2.2 q1).trans (by rw [Nat.min_eq_right (by omega)])
      rw [t1, bd_ok, en5]
      obtain ⟨m4, u1, u2, u3⟩ := wall3P (f := f) (k := k) (r := nu T (en T (en T e))) hf hT h3 hi (by omega) t2
      exact ⟨m4, u1, u2, Fz_tr r3 (Fz_tr s3 (Fz_tr t3 u3))⟩
    · rw [if_neg c9, if_neg c9]
      exact ⟨m2, rfl, s2, Fz_tr r3 s3⟩
  · rw [if_neg c6, if_neg c6]
    exact ⟨m1, rfl, r2, r3⟩
theorem kindC {f e : Nat} {mem : Mem} {T : TT} (hf : 2000 ≤ f) (hT : okT T) (he : e ≤ T.2) (h : TpC mem T) (ht : TC mem T e) : dT_kindNamed f mem = some (if kN T e < 6 then nI (kN T e) else -1, mem) := by
  obtain ⟨n, rfl⟩ : ∃ n, f = n + 1 + 1 + 1 + 1 + 1 + 1 + 1 := ⟨f - 7, by omega⟩
  have N := fun q (hq : q < 12) => namedC_ok (f := n + 1 + 1 + 1 + 1 + 1 + 1 + 1) (q := q) hf hT he h ht hq
  have st : ∀ k q m, k < 6 → q < 12 → dT_nameOfKind (n + 1 + 1 + 1 + 1 + 1 + 1 + 1) (nI k) mem = some (q, mem) → dT_kindNamed_2 (n + 1 + 1 + 1 + 1 + 1 + 1 + 1) (m + 1) (nI k) mem = if named T e q = true then some (nI k, mem) else dT_kindNamed_2 (n + 1 + 1 + 1 + 1 + 1 + 1 + 1) m (nI (k + 1)) mem := by
    intro k q m hk hq hn
    rw [dT_kindNamed_2, if_pos (show nI k < (6 : Int32) from lt_n (c := 6) hk (by omega)), hn, bd_ok, if_neg (by omega), N q hq, bd_ok, if_b2, add1]
  unfold dT_kindNamed
  rw [show (0 : Int32) = nI 0 from rfl, st 0 5 _ (by omega) (by omega) rfl, st 1 0 _ (by omega) (by omega) rfl, st 2 1 _ (by omega) (by omega) rfl, st 3 2 _ (by omega) (by omega) rfl, st 4 3 _ (by omega) (by omega) rfl, st 5 4 _ (by omega) (by omega) rfl, dT_kindNamed_2, if_neg (show ¬ nI (5 + 1) < (6 : Int32) by decide)]
  unfold kN
  by_cases c5 : named T e 5 = true
  · simp [c5]
  by_cases c0 : named T e 0 = true
  · simp [c5, c0]
  by_cases c1 : named T e 1 = true
  · simp [c5, c0, c1]
  by_cases c2 : named T e 2 = true
  · simp [c5, c0, c1, c2]
  by_cases c3 : named T e 3 = true
  · simp [c5, c0, c1, c2, c3]
  by_cases c4 : named T e 4 = true
  · simp [c5, c0, c1, c2, c3, c4]
  simp [c5, c0, c1, c2, c3, c4]
theorem rotaC {f e : Nat} {mem : Mem} {T : TT} (hf : 2000 ≤ f) (hT : okT T) (he : e ≤ T.2) (h : TpC mem T) (ht : TC mem T e) : dT_rotaNamed f mem = some (if rNm T e < 3 then nI (rNm T e) else -1, mem) := by
  unfold dT_rotaNamed rNm
  rw [namedC_ok hf hT he h ht (by decide), bd_ok, if_b2, namedC_ok hf hT he h ht (by decide), bd_ok, if_b2, namedC_ok hf hT he h ht (by decide), bd_ok, if_b2]
  by_cases c5 : named T e 9 = true
  · simp [c5]
    rfl
  by_cases c0 : named T e 10 = true
  · simp [c5, c0]
    rfl
  by_cases c1 : named T e 11 = true
  · simp [c5, c0, c1]
    rfl
  simp [c5, c0, c1]
theorem stc_lo : ∀ w, w < 3 → stc 2 w = nI (loR w) ∧ stc 3 w = nI (hiR w) := by decide +kernel
theorem loR_lt (w : Nat) : loR w < 1000 := by unfold loR; split <;> omega
theorem hiR_lt (w : Nat) : hiR w < 1000 := by unfold hiR; split <;> omega
theorem itemP {f e : Nat} {mem : Mem} {T : TT} {S : PS} (hf : 2000 ≤ f) (hT : okT T) (he : e ≤ T.2) (hi : IV S) (h : PC mem T e S) :
    ∃ m', dT_takesItem f 2 mem = some (nI (b2 (aItem T S e).1), m') ∧ PC m' T (aItem T S e).2.2 (aItem T S e).2.1 ∧ Fz psZ mem m' := by
  have h1 := en_le (T := T) he
  unfold dT_takesItem aItem
  rw [kindC hf hT he h.1 h.2.1, bd_ok]
  by_cases ck : kN T e < 6
  · rw [if_pos ck, if_pos ck, if_neg (nI_pos (by omega))]
    obtain ⟨m1, r1, r2, r3⟩ := wallP (f := f) (k := kN T e) hf hT he hi h
    rw [r1, bd_ok, zb_b]
    exact ⟨m1, rfl, r2, r3⟩
  rw [if_neg ck, if_neg ck, if_pos (by decide), rotaC hf hT he h.1 h.2.1, bd_ok]
  by_cases cr : rNm T e < 3
  · rw [if_pos cr, if_pos cr, if_neg (nI_pos (by omega))]
    obtain ⟨m1, r1, r2, r3⟩ := nextP (f := f) hf hT he hi h
    obtain ⟨l1, l2⟩ := stc_lo (rNm T e) cr
    rw [r1, bd_ok, ck_in _ (by omega) (by omega), ck_in _ (by omega) (by omega), nI_clamp (by omega), l1, l2, numC r2.2.1 (loR_lt _) (hiR_lt _), bd_ok, if_b2]
    by_cases cn : inN T (en T e) (loR (rNm T e)) (hiR (rNm T e)) = true
    · rw [if_pos cn, if_pos cn]
      obtain ⟨q1, q2, q3⟩ := inN_le cn
      have hh := hiR_lt (rNm T e)
      have en5 : gI m1 5 0 5 = nI (nu T (en T e)) := (r2.2.1.2.2.2 q1).trans (by rw [Nat.min_eq_right (by omega)])
      have fx : Fz (palZ 2) m1 (sI m1 2 2 (rNm T e) (nI (nu T (en T e)))) := Fz_sI (palZr 2 _)
      have hok : okR (rNm T e) (nu T (en T e)) := by
        unfold loR at q2
        unfold hiR at q3
        unfold okR
        have : rNm T e = 0 ∨ rNm T e = 1 ∨ rNm T e = 2 := by omega
        rcases this with z | z | z <;> rw [z] at q2 q3 ⊢ <;> simp at q2 q3 <;> omega
      obtain ⟨m2, s1, s2, s3⟩ := nextP (f := f) hf hT h1 (IV_setR hi hok) (PC_p r2.1 r2.2.1 fx (RC_setR r2.2.2 (rNm T e) (nu T (en T e))))
      rw [ck_in _ (by omega) (by omega), en5, s1, bd_ok]
      exact ⟨m2, rfl, s2, Fz_tr r3 (Fz_tr (ps_p fx) s3)⟩
    · rw [if_neg cn, if_neg cn]
      exact ⟨m1, rfl, r2, r3⟩
  · rw [if_neg cr, if_neg cr, if_pos (by decide)]
    exact ⟨mem, rfl, h, Fz_rfl _ _⟩
