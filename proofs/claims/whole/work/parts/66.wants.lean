/-! THE TEXT: the reference's way. -/
def pM (t i j : Nat) : Bool := decide (t = 12 ∧ i = 0 ∧ 6 ≤ j ∧ j ≤ 11 ∨ t = 13)
theorem pM_a {mem m : Mem} (h : Fz a6 mem m) : Fz pM mem m := Fz_mo h (fun t i j q => by
  have := of_decide_eq_true q
  exact decide_eq_true (by omega))
theorem pM_13 {mem m : Mem} (h : Fz (rowZ 13) mem m) : Fz pM mem m := Fz_mo h (fun t i j q => by
  have : t = 13 := of_decide_eq_true q
  exact decide_eq_true (by omega))
theorem pM_rf {mem m : Mem} (h : Fz pM mem m) : Fz rfZ mem m := Fz_mo h (fun t i j q => by
  have := of_decide_eq_true q
  exact decide_eq_true (by omega))
def PM (mem : Mem) (T : TT) (e : Nat) (S : PS) (g : Bool) : Prop := TpM mem T ∧ TM mem T e ∧ RM mem S ∧ gI mem 12 0 11 = nI (b2 g)
theorem RM_a6 {mem m : Mem} {S : PS} (h : RM mem S) (fx : Fz a6 mem m) : RM m S := RK_fz (t := 13) h fx (fun _ => rfl)
theorem set11 {mem : Mem} {T : TT} {e : Nat} {S : PS} {g : Bool} (g' : Bool) (h : PM mem T e S g) : PM (sI mem 12 0 11 (nI (b2 g'))) T e S g' := by
  obtain ⟨⟨t1, t2⟩, ⟨h1, h2, h3, h4, h5, h6, h7⟩, hR, -⟩ := h
  have k : ∀ j, j ≠ 11 → gI (sI mem 12 0 11 (nI (b2 g'))) 12 0 j = gI mem 12 0 j := fun j hj => by rw [gI_sI, if_neg (fun z => hj z.2.2)]
  refine ⟨⟨(k 5 (by omega)).trans t1, fun j hj => by rw [gI_sI, if_neg (by omega)]; exact t2 j hj⟩, ⟨(k 7 (by omega)).trans h1, (k 6 (by omega)).trans h2, fun z => (k 8 (by omega)).trans (h3 z), h4, fun z => (k 10 (by omega)).trans (h5 z), fun z => (k 10 (by omega)).trans (h6 z), fun z => by rw [k 10 (by omega)]; exact h7 z⟩, RM_12 hR 11 _, by rw [gI_sI, if_pos ⟨rfl, rfl, rfl⟩]⟩
theorem z11 (mem : Mem) (v : Int32) : gI (sI mem 12 0 11 v) 12 0 11 = v := by rw [gI_sI, if_pos ⟨rfl, rfl, rfl⟩]
theorem zbl1 {α : Type} (A : Option α) : zb (1 : Int32) A = A := rfl
theorem zbl0 {α : Type} (A : Option α) : zb (0 : Int32) A = A := rfl
theorem fz11s {mem : Mem} {v : Int32} : Fz pM mem (sI mem 12 0 11 v) := Fz_sI rfl
theorem advP {f e : Nat} {mem : Mem} {T : TT} {S : PS} {g : Bool} (hf : 2000 ≤ f) (hT : okT T) (he : e ≤ T.2) (hs : so T e ≠ 1) (h : PM mem T e S g) : ∃ m', dM_advance f mem = some ((), m') ∧ PM m' T (en T e) S g ∧ Fz pM mem m' := by
  obtain ⟨h1, h2, h3, h4⟩ := h
  obtain ⟨m', r1, r2, r3, r4⟩ := adv_ok (f := f) hf hT (en_le he) h1 (h2.2.2.1 hs)
  exact ⟨m', r1, ⟨r3, r2, RM_a6 h3 r4, (r4 12 0 11 rfl).1.trans h4⟩, pM_a r4⟩
theorem nu_le {T : TT} {e : Nat} (hT : okT T) (he : e ≤ T.2) : nu T e ≤ 20000 := by
  have := en_le (T := T) he
  exact nuF_le hT _ _ _ (by omega) (fun j a b => by omega)
theorem want_t {f e l h : Nat} {mem : Mem} {T : TT} {S : PS} (hf : 2000 ≤ f) (hT : okT T) (he : e ≤ T.2) (hl : l < 1000) (hh : h < 1000) (hP : PM mem T e S true) (c : inN T e l h = true) :
    ∃ m', dM_wantNumber f (nI l) (nI h) mem = some (nI (nu T e), m') ∧ PM m' T (en T e) S true ∧ Fz pM mem m' := by
  obtain ⟨q1, q2, q3⟩ := inN_le c
  have e1 : inb (nI (nu T e)) (nI l) (nI h) = true := by
    rw [inb_n (by omega) (by omega) (by omega), decide_eq_true q2, decide_eq_true q3]
    rfl
  obtain ⟨m', r1, r2, r3⟩ := advP (f := f) hf hT he (by omega) (set11 true hP)
  unfold dM_wantNumber
  rw [hP.2.2.2, if_neg (by decide), hP.2.1.2.1, if_pos (rs2.mpr q1), hP.2.1.2.2.2.2.1 q1, M_in, bd_ok, e1, ifz_t]
  unfold dM_wantNumber_35
  rw [z11, zbl1, if_neg (by decide), show dM_advance f (sI mem 12 0 11 1) = _ from r1, bd_ok]
  exact ⟨m', rfl, r2, Fz_tr fz11s r3⟩
theorem want_n {f e : Nat} {mem : Mem} {T : TT} {S : PS} {g : Bool} {x : Int32} (hP : PM mem T e S g) : ∃ m', dM_wantNumber_35 f x 0 mem = some (x, m') ∧ PM m' T e S false ∧ Fz pM mem m' := by
  unfold dM_wantNumber_35
  rw [z11, zbl0, if_pos rfl]
  exact ⟨_, rfl, set11 false hP, fz11s⟩
theorem want_f {f e l h : Nat} {mem : Mem} {T : TT} {S : PS} (hT : okT T) (he : e ≤ T.2) (hl : l < 1000) (hh : h < 1000) (hP : PM mem T e S true) (c : ¬ inN T e l h = true) :
    ∃ v m', dM_wantNumber f (nI l) (nI h) mem = some (v, m') ∧ PM m' T e S false ∧ Fz pM mem m' := by
  unfold dM_wantNumber
  rw [hP.2.2.2, if_neg (by decide), hP.2.1.2.1]
  by_cases q : so T e = 3
  · have hn := nu_le hT he
    have e1 : inb (nI (nu T e)) (nI l) (nI h) = false := by
      rw [inb_n (by omega) (by omega) (by omega), ← Bool.decide_and]
      exact decide_eq_false (fun z => c (decide_eq_true ⟨q, z.1, z.2⟩))
    rw [if_pos (rs2.mpr q), hP.2.1.2.2.2.2.1 q, M_in, bd_ok, e1, ifz_f]
    obtain ⟨m', r1, r2, r3⟩ := want_n (f := f) (x := nI (nu T e)) hP
    exact ⟨_, m', r1, r2, r3⟩
  · rw [if_neg (fun z => q (rs2.mp z))]
    obtain ⟨m', r1, r2, r3⟩ := want_n (f := f) (x := gI mem 12 0 10) hP
    exact ⟨_, m', r1, r2, r3⟩
theorem may_no {f : Nat} {mem : Mem} {T : TT} {e : Nat} {S : PS} {w : Int64} {a b c : Int32} (hP : PM mem T e S false) : dM_mayWant f w a b c mem = some (c, mem) := by
  unfold dM_mayWant
  rw [hP.2.2.2, if_pos (show nI (b2 false) = 0 from rfl)]
theorem may_else {f q : Nat} {mem : Mem} {T : TT} {e : Nat} {S : PS} {a b c : Int32} (he : e ≤ T.2) (hq : q < 12) (hP : PM mem T e S true) (hn : ¬ named T e q = true) : dM_mayWant f (lvN q) a b c mem = some (c, mem) := by
  unfold dM_mayWant
  rw [hP.2.2.2, if_neg (by decide), namedM he hP.2.1 hq, bd_ok, if_b2, if_neg hn]
theorem may_t {f q l h e : Nat} {mem : Mem} {T : TT} {S : PS} {c : Int32} (hf : 2000 ≤ f) (hT : okT T) (he : e ≤ T.2) (hl : l < 1000) (hh : h < 1000) (hq : q < 12) (hP : PM mem T e S true) (hn : named T e q = true) (ci : inN T (en T e) l h = true) :
    ∃ m', dM_mayWant f (lvN q) (nI l) (nI h) c mem = some (nI (nu T (en T e)), m') ∧ PM m' T (en T (en T e)) S true ∧ Fz pM mem m' := by
  obtain ⟨m1, r1, r2, r3⟩ := advP (f := f) hf hT he (by have := named_so hn; omega) hP
  obtain ⟨m2, s1, s2, s3⟩ := want_t (f := f) hf hT (en_le he) hl hh r2 ci
  unfold dM_mayWant
  rw [hP.2.2.2, if_neg (by decide), namedM he hP.2.1 hq, bd_ok, if_b2, if_pos hn, r1, bd_ok, s1, bd_ok]
  exact ⟨m2, rfl, s2, Fz_tr r3 s3⟩
theorem may_f {f q l h e : Nat} {mem : Mem} {T : TT} {S : PS} {c : Int32} (hf : 2000 ≤ f) (hT : okT T) (he : e ≤ T.2) (hl : l < 1000) (hh : h < 1000) (hq : q < 12) (hP : PM mem T e S true) (hn : named T e q = true) (ci : ¬ inN T (en T e) l h = true) :
    ∃ v m', dM_mayWant f (lvN q) (nI l) (nI h) c mem = some (v, m') ∧ PM m' T (en T e) S false ∧ Fz pM mem m' := by
  obtain ⟨m1, r1, r2, r3⟩ := advP (f := f) hf hT he (by have := named_so hn; omega) hP
  obtain ⟨v, m2, s1, s2, s3⟩ := want_f (f := f) hT (en_le he) hl hh r2 ci
  unfold dM_mayWant
  rw [hP.2.2.2, if_neg (by decide), namedM he hP.2.1 hq, bd_ok, if_b2, if_pos hn, r1, bd_ok, s1, bd_ok]
  exact ⟨v, m2, rfl, s2, Fz_tr r3 s3⟩
def sideX (f : Nat) (k r6 r7 : Int32) (mem : Mem) : Option (Unit × Mem) := bd (dM_mayWant f (380651 : Int64) (0 : Int32) (3 : Int32) (0 : Int32) mem) (fun r8 m8 => if (gI m8 12 0 11) = 0 then (some ((), m8)) else (bd (dM_addWall f k r6 r7 r8 m8) (fun r9 m9 => some ((), m9))))
theorem PM_add {f k r o d e : Nat} {mem : Mem} {T : TT} {S : PS} (hc : ct S < 10) (hP : PM mem T e S true) : ∃ m', dM_addWall f (nI k) (nI r) (nI o) (nI d) mem = some ((), m') ∧ PM m' T e (newW S k r o d) true ∧ Fz pM mem m' := by
  obtain ⟨m', r1, r2, r3⟩ := addWall_ok (f := f) (a := k) (b := r) (c := o) (d := d) hP.2.2.1 hc
  have k12 : ∀ j, gI m' 12 0 j = gI mem 12 0 j := fun j => (r3 12 0 j rfl).1
  obtain ⟨⟨t1, t2⟩, ⟨h1, h2, h3, h4, h5, h6, h7⟩, hR, h11⟩ := hP
  exact ⟨m', r1, ⟨⟨(k12 _).trans t1, fun j hj => (r3 16 0 j rfl).1.trans (t2 j hj)⟩, ⟨(k12 _).trans h1, (k12 _).trans h2, fun z => (k12 _).trans (h3 z), fun z => (r3 12 0 9 rfl).2.trans (h4 z), fun z => (k12 _).trans (h5 z), fun z => (k12 _).trans (h6 z), fun z => by rw [k12]; exact h7 z⟩, r2, (k12 _).trans h11⟩, pM_13 r3⟩
theorem sideX_no {f e : Nat} {mem : Mem} {T : TT} {S : PS} {k r6 r7 : Int32} (hP : PM mem T e S false) : sideX f k r6 r7 mem = some ((), mem) := by
  unfold sideX
  rw [may_no hP, bd_ok, hP.2.2.2, if_pos (show nI (b2 false) = 0 from rfl)]
theorem sideM {f k r o e : Nat} {mem : Mem} {T : TT} {S : PS} (hf : 2000 ≤ f) (hT : okT T) (he : e ≤ T.2) (hc : ct S < 10) (hP : PM mem T e S true) :
    ∃ m', sideX f (nI k) (nI r) (nI o) mem = some ((), m') ∧ PM m' T (aSide T S k r o e).2.2 (aSide T S k r o e).2.1 (aSide T S k r o e).1 ∧ Fz pM mem m' := by
  unfold sideX aSide
  rw [lv_side]
  by_cases c : named T e 8 = true
  · rw [if_pos c]
    by_cases c2 : inN T (en T e) 0 3 = true
    · rw [if_pos c2]
      obtain ⟨m1, r1, r2, r3⟩ := may_t (f := f) (q := 8) (l := 0) (h := 3) (c := 0) hf hT he (by omega) (by omega) (by omega) hP c c2
      obtain ⟨m2, s1, s2, s3⟩ := PM_add (f := f) (k := k) (r := r) (o := o) (d := nu T (en T e)) hc r2
      rw [show dM_mayWant f (lvN 8) 0 3 0 mem = _ from r1, bd_ok, r2.2.2.2, if_neg (by decide), s1, bd_ok]
      exact ⟨m2, rfl, s2, Fz_tr r3 s3⟩
    · rw [if_neg c2]
      obtain ⟨v, m1, r1, r2, r3⟩ := may_f (f := f) (q := 8) (l := 0) (h := 3) (c := 0) hf hT he (by omega) (by omega) (by omega) hP c c2
      rw [show dM_mayWant f (lvN 8) 0 3 0 mem = _ from r1, bd_ok, r2.2.2.2, if_pos (show nI (b2 false) = 0 from rfl)]
      exact ⟨m1, rfl, r2, r3⟩
  · rw [if_neg c, may_else he (by omega) hP c, bd_ok, hP.2.2.2, if_neg (by decide)]
    obtain ⟨m2, s1, s2, s3⟩ := PM_add (f := f) (k := k) (r := r) (o := o) (d := 0) hc hP
    rw [show dM_addWall f (nI k) (nI r) (nI o) 0 mem = _ from s1, bd_ok]
    exact ⟨m2, rfl, s2, s3⟩
def andX (f : Nat) (k r6 : Int32) (mem : Mem) : Option (Unit × Mem) := bd (dM_mayWant f (1111 : Int64) (0 : Int32) (9 : Int32) r6 mem) (fun r7 m7 => sideX f k r6 r7 m7)
theorem andM {f k r e : Nat} {mem : Mem} {T : TT} {S : PS} (hf : 2000 ≤ f) (hT : okT T) (he : e ≤ T.2) (hc : ct S < 10) (hP : PM mem T e S true) :
    ∃ m', andX f (nI k) (nI r) mem = some ((), m') ∧ PM m' T (aW3 T S k r e).2.2 (aW3 T S k r e).2.1 (aW3 T S k r e).1 ∧ Fz pM mem m' := by
  unfold andX aW3
  rw [lv_and]
  by_cases c : named T e 7 = true
  · rw [if_pos c]
    by_cases c2 : inN T (en T e) 0 9 = true
    · rw [if_pos c2]
      obtain ⟨m1, r1, r2, r3⟩ := may_t (f := f) (q := 7) (l := 0) (h := 9) (c := nI r) hf hT he (by omega) (by omega) (by omega) hP c c2
      obtain ⟨m2, s1, s2, s3⟩ := sideM (f := f) (k := k) (r := r) (o := nu T (en T e)) hf hT (en_le (en_le he)) hc r2
      rw [show dM_mayWant f (lvN 7) 0 9 (nI r) mem = _ from r1, bd_ok]
      exact ⟨m2, s1, s2, Fz_tr r3 s3⟩
    · rw [if_neg c2]
      obtain ⟨v, m1, r1, r2, r3⟩ := may_f (f := f) (q := 7) (l := 0) (h := 9) (c := nI r) hf hT he (by omega) (by omega) (by omega) hP c c2
      rw [show dM_mayWant f (lvN 7) 0 9 (nI r) mem = _ from r1, bd_ok, sideX_no r2]
      exact ⟨m1, rfl, r2, r3⟩
  · rw [if_neg c, may_else he (by omega) hP c, bd_ok]
    exact sideM hf hT he hc hP
theorem wallM {f k e : Nat} {mem : Mem} {T : TT} {S : PS} (hf : 2000 ≤ f) (hT : okT T) (he : e ≤ T.2) (hi : IV S) (hs : so T e = 2) (hP : PM mem T e S true) :
    ∃ m', dM_wantWall f (nI k) mem = some ((), m') ∧ PM m' T (aWall T S k e).2.2 (aWall T S k e).2.1 (aWall T S k e).1 ∧ Fz pM mem m' := by
  have hct : ct S ≤ 10 := hi.2.2.2.2.2.2.2.1
  have h1 := en_le (T := T) he
  have h2 := en_le (T := T) h1
  have h3 := en_le (T := T) h2
  have k10 : nI (ct S) < 10 ↔ ct S < 10 := nb_lt (b := 10) (by omega) (by omega)
  unfold dM_wantWall aWall
  rw [hP.2.2.1.2.2.1]
  by_cases c10 : 10 ≤ ct S
  · rw [if_neg (fun z => by have := k10.mp z; omega), if_pos c10]
    unfold dM_wantWall_17
    rw [z11, zbl0, if_pos rfl]
    exact ⟨_, rfl, set11 false hP, fz11s⟩
  rw [if_pos (k10.mpr (by omega)), if_neg c10]
  have P1 := set11 true hP
  obtain ⟨m1, r1, r2, r3⟩ := advP (f := f) hf hT he (by omega) P1
  unfold dM_wantWall_17
  rw [z11, zbl1, if_neg (by decide), show dM_advance f (sI mem 12 0 11 1) = _ from r1, bd_ok, lv_of, namedM h1 r2.2.1 (by omega), bd_ok]
  have P2 := fun g => set11 (g' := g) r2
  by_cases c6 : named T (en T e) 6 = true
  · rw [c6, if_pos rfl, zb_b, z11, if_neg (show ¬ nI (b2 true) = 0 by decide)]
    obtain ⟨m2, s1, s2, s3⟩ := advP (f := f) hf hT h1 (by have := named_so c6; omega) (P2 true)
    rw [s1, bd_ok]
    unfold aW2
    by_cases c9 : inN T (en T (en T e)) 0 9 = true
    · rw [if_pos c9]
      obtain ⟨m3, t1, t2, t3⟩ := want_t (f := f) hf hT h2 (by omega) (by omega) s2 c9
      obtain ⟨m4, u1, u2, u3⟩ := andM (f := f) (k := k) (r := nu T (en T (en T e))) hf hT h3 (by omega) t2
      rw [show dM_wantNumber f 0 9 m2 = _ from t1, bd_ok]
      exact ⟨m4, u1, u2, Fz_tr fz11s (Fz_tr r3 (Fz_tr fz11s (Fz_tr s3 (Fz_tr t3 u3))))⟩
    · rw [if_neg c9]
      obtain ⟨v, m3, t1, t2, t3⟩ := want_f (f := f) hT h2 (by omega) (by omega) s2 c9
      rw [show dM_wantNumber f 0 9 m2 = _ from t1, bd_ok, may_no t2, bd_ok]
      show ∃ m', sideX f (nI k) v v m3 = _ ∧ _
      rw [sideX_no t2]
      exact ⟨m3, rfl, t2, Fz_tr fz11s (Fz_tr r3 (Fz_tr fz11s (Fz_tr s3 t3)))⟩
  · have c6' : named T (en T e) 6 = false := Bool.eq_false_iff.mpr c6
    rw [c6', if_neg Bool.false_ne_true, zb_b, z11, if_pos (show nI (b2 false) = 0 from rfl)]
    exact ⟨_, rfl, P2 false, Fz_tr fz11s (Fz_tr r3 fz11s)⟩
theorem kindM {f e : Nat} {mem : Mem} {T : TT} (he : e ≤ T.2) (ht : TM mem T e) : dM_kindHere f mem = some (if kN T e < 6 then nI (kN T e) else -1, mem) := by
  unfold dM_kindHere kN
  rw [lv_wall, lv_north, lv_papered, lv_thin, lv_stone, lv_tapestry]
  rw [namedM he ht (by omega), bd_ok, if_b2, namedM he ht (by omega), bd_ok, if_b2, namedM he ht (by omega), bd_ok, if_b2, namedM he ht (by omega), bd_ok, if_b2, namedM he ht (by omega), bd_ok, if_b2, namedM he ht (by omega), bd_ok, if_b2]
  by_cases c5 : named T e 5 = true
  · simp [c5]
    rfl
  by_cases c0 : named T e 0 = true
  · simp [c5, c0]
    rfl
  by_cases c1 : named T e 1 = true
  · simp [c5, c0, c1]
    rfl
  by_cases c2 : named T e 2 = true
  · simp [c5, c0, c1, c2]
    rfl
  by_cases c3 : named T e 3 = true
  · simp [c5, c0, c1, c2, c3]
    rfl
  by_cases c4 : named T e 4 = true
  · simp [c5, c0, c1, c2, c3, c4]
    rfl
  simp [c5, c0, c1, c2, c3, c4]
theorem RM_self {mem : Mem} {S : PS} (h : RM mem S) (j : Nat) : RM (sI mem 13 0 j (gI mem 13 0 j)) S := by
  have k : ∀ j', gI (sI mem 13 0 j (gI mem 13 0 j)) 13 0 j' = gI mem 13 0 j' := fun j' => by
    rw [gI_sI]
    by_cases c : j' = j
    · rw [if_pos ⟨rfl, rfl, c⟩, c]
    · rw [if_neg (fun z => c z.2.2)]
  obtain ⟨h1, h2, h3, h4⟩ := h
  exact ⟨(k _).trans h1, fun j hj => (k _).trans (h2 j hj), (k _).trans h3, fun w hw q hq => (k _).trans (h4 w hw q hq)⟩
theorem PM_13 {mem m : Mem} {T : TT} {e : Nat} {S S' : PS} {g : Bool} (hP : PM mem T e S g) (r3 : Fz (rowZ 13) mem m) (r2 : RM m S') : PM m T e S' g := by
  have k12 : ∀ j, gI m 12 0 j = gI mem 12 0 j := fun j => (r3 12 0 j rfl).1
  obtain ⟨⟨t1, t2⟩, ⟨h1, h2, h3, h4, h5, h6, h7⟩, hR, h11⟩ := hP
  exact ⟨⟨(k12 _).trans t1, fun j hj => (r3 16 0 j rfl).1.trans (t2 j hj)⟩, ⟨(k12 _).trans h1, (k12 _).trans h2, fun z => (k12 _).trans (h3 z), fun z => (r3 12 0 9 rfl).2.trans (h4 z), fun z => (k12 _).trans (h5 z), fun z => (k12 _).trans (h6 z), fun z => by rw [k12]; exact h7 z⟩, r2, (k12 _).trans h11⟩
theorem rotaM {f e w : Nat} {mem : Mem} {T : TT} {S : PS} (hf : 2000 ≤ f) (hT : okT T) (he : e ≤ T.2) (hs : so T e = 2) (hw : w < 3) (hP : PM mem T e S true) :
    ∃ m', dM_wantRota f (nI (1 + w)) (nI (loR w)) (nI (hiR w)) mem = some ((), m') ∧ (if inN T (en T e) (loR w) (hiR w) = true then PM m' T (en T (en T e)) (setR S w (nu T (en T e))) true else PM m' T (en T e) S false) ∧ Fz pM mem m' := by
  have h1 := en_le (T := T) he
  obtain ⟨m1, r1, r2, r3⟩ := advP (f := f) hf hT he (by omega) hP
  unfold dM_wantRota
  rw [r1, bd_ok]
  by_cases c : inN T (en T e) (loR w) (hiR w) = true
  · obtain ⟨m2, s1, s2, s3⟩ := want_t (f := f) hf hT h1 (loR_lt w) (hiR_lt w) r2 c
    rw [s1, bd_ok, s2.2.2.2, if_neg (by decide), ck_in _ (by omega) (by omega), nI_clamp (by omega)]
    exact ⟨_, rfl, by rw [if_pos c]; exact PM_13 s2 (Fz_sI rfl) (RM_setR s2.2.2.1 (by omega) _), Fz_tr r3 (Fz_tr s3 (pM_13 (Fz_sI rfl)))⟩
  · obtain ⟨v, m2, s1, s2, s3⟩ := want_f (f := f) hT h1 (loR_lt w) (hiR_lt w) r2 c
    rw [s1, bd_ok, s2.2.2.2, if_pos (show nI (b2 false) = 0 from rfl), ck_in _ (by omega) (by omega), ck_in _ (by omega) (by omega), nI_clamp (by omega)]
    exact ⟨_, rfl, by rw [if_neg c]; exact PM_13 s2 (Fz_sI rfl) (RM_self s2.2.2.1 _), Fz_tr r3 (Fz_tr s3 (pM_13 (Fz_sI rfl)))⟩
theorem itemM {f e : Nat} {mem : Mem} {T : TT} {S : PS} (hf : 2000 ≤ f) (hT : okT T) (he : e ≤ T.2) (hi : IV S) (hP : PM mem T e S true) :
    ∃ m', dM_wantItem f mem = some ((), m') ∧ PM m' T (aItem T S e).2.2 (aItem T S e).2.1 (aItem T S e).1 ∧ Fz pM mem m' := by
  unfold dM_wantItem aItem
  rw [kindM he hP.2.1, bd_ok]
  by_cases ck : kN T e < 6
  · rw [if_pos ck, if_pos ck, if_neg (nI_pos (by omega)), kindM he hP.2.1, bd_ok, if_pos ck]
    obtain ⟨m', r1, r2, r3⟩ := wallM (f := f) (k := kN T e) hf hT he hi (kN_so ck) hP
    rw [r1, bd_ok]
    exact ⟨m', rfl, r2, r3⟩
  rw [if_neg ck, if_neg ck, if_pos (by decide), lv_shift, lv_change, lv_season, namedM he hP.2.1 (by omega), bd_ok, if_b2, namedM he hP.2.1 (by omega), bd_ok, if_b2, namedM he hP.2.1 (by omega), bd_ok, if_b2]
  have go : ∀ w, w < 3 → so T e = 2 → ∃ m', bd (dM_wantRota f (nI (1 + w)) (nI (loR w)) (nI (hiR w)) mem) (fun r5 m5 => some ((), m5)) = some ((), m') ∧ PM m' T (if inN T (en T e) (loR w) (hiR w) = true then (true, setR S w (nu T (en T e)), en T (en T e)) else (false, S, en T e)).2.2 (if inN T (en T e) (loR w) (hiR w) = true then (true, setR S w (nu T (en T e)), en T (en T e)) else (false, S, en T e)).2.1 (if inN T (en T e) (loR w) (hiR w) = true then (true, setR S w (nu T (en T e)), en T (en T e)) else (false, S, en T e)).1 ∧ Fz pM mem m' := by
    intro w hw hs
    obtain ⟨m', r1, r2, r3⟩ := rotaM (f := f) hf hT he hs hw hP
    rw [r1, bd_ok]
    refine ⟨m', rfl, ?_, r3⟩
    by_cases c : inN T (en T e) (loR w) (hiR w) = true
    · rw [if_pos c] at r2 ⊢
      exact r2
    · rw [if_neg c] at r2 ⊢
      exact r2
  by_cases c9 : named T e 9 = true
  · have er : rNm T e = 0 := by unfold rNm; rw [if_pos c9]
    rw [if_pos c9, er, if_pos (by omega)]
    exact go 0 (by omega) (named_so c9)
  rw [if_neg c9]
  by_cases c10 : named T e 10 = true
  · have er : rNm T e = 1 := by unfold rNm; rw [if_neg c9, if_pos c10]
    rw [if_pos c10, er, if_pos (by omega)]
    exact go 1 (by omega) (named_so c10)
  rw [if_neg c10]
  by_cases c11 : named T e 11 = true
  · have er : rNm T e = 2 := by unfold rNm; rw [if_neg c9, if_neg c10, if_pos c11]
    rw [if_pos c11, er, if_pos (by omega)]
    exact go 2 (by omega) (named_so c11)
  rw [if_neg c11]
  have er : rNm T e = 3 := by unfold rNm; rw [if_neg c9, if_neg c10, if_neg c11]
  rw [er, if_neg (by omega)]
  exact ⟨_, rfl, set11 false hP, fz11s⟩
