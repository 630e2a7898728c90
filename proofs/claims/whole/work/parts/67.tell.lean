/-! palace: the whole text told, both sides. -/
def aTell (T : TT) : Nat → PS → Nat → Nat → Bool × PS × Nat × Nat
  | 0, S, e, it => (false, S, e, it)
  | d + 1, S, e, it => if (aItem T S e).1 = true then (if so T (aItem T S e).2.2 = 0 then (true, (aItem T S e).2.1, (aItem T S e).2.2, it) else if so T (aItem T S e).2.2 = 4 then aTell T d (aItem T S e).2.1 (en T (aItem T S e).2.2) (it + 1) else (false, (aItem T S e).2.1, (aItem T S e).2.2, it)) else (false, (aItem T S e).2.1, (aItem T S e).2.2, it)
def ansT (T : TT) (r : Bool × PS × Nat × Nat) : Int32 := if r.1 = true then nI r.2.2.2 else -1 - nI (bg T r.2.2.1)
theorem aTell_ok {T : TT} (hT : okT T) : ∀ d S e it, it + d = 121 → e ≤ T.2 → IV S → (aTell T d S e it).2.2.1 ≤ T.2 ∧ (aTell T d S e it).2.2.2 ≤ 121 ∧ IV (aTell T d S e it).2.1 ∧ mi (aTell T d S e it).2.1 = mi S
  | 0, S, e, it, h, he, hi => ⟨he, by show it ≤ 121; omega, hi, rfl⟩
  | d + 1, S, e, it, h, he, hi => by
    obtain ⟨q1, q2, q3, q4, q5⟩ := aItem_ok hT he hi
    rw [aTell]
    by_cases c : (aItem T S e).1 = true
    · rw [if_pos c]
      by_cases c0 : so T (aItem T S e).2.2 = 0
      · rw [if_pos c0]
        exact ⟨q2, by show it ≤ 121; omega, q3, q4⟩
      rw [if_neg c0]
      by_cases c4 : so T (aItem T S e).2.2 = 4
      · rw [if_pos c4]
        obtain ⟨r1, r2, r3, r4⟩ := aTell_ok hT d _ (en T (aItem T S e).2.2) (it + 1) (by omega) (en_le q2) q3
        exact ⟨r1, r2, r3, r4.trans q4⟩
      · rw [if_neg c4]
        exact ⟨q2, by show it ≤ 121; omega, q3, q4⟩
    · rw [if_neg c]
      exact ⟨q2, by show it ≤ 121; omega, q3, q4⟩
theorem tellC_lp {f : Nat} {T : TT} (hf : 2000 ≤ f) (hT : okT T) : ∀ (d it n e : Nat) (S : PS) (mem : Mem), it + d = 121 → d < n → e ≤ T.2 → IV S → PC mem T e S →
    ∃ m', dT_tell_11 f n 2 (nI it) mem = some (ansT T (aTell T d S e it), m') ∧ RC m' 2 (aTell T d S e it).2.1 ∧ Fz psZ mem m'
  | 0, it, n, e, S, mem, h, hn, he, hi, hP => by
    obtain ⟨n, rfl⟩ : ∃ k, n = k + 1 := ⟨n - 1, by omega⟩
    have e' : it = 121 := by omega
    subst e'
    rw [dT_tell_11, if_pos (show (120 : Int32) < nI 121 by decide), hP.2.1.1]
    exact ⟨mem, rfl, hP.2.2, Fz_rfl _ _⟩
  | d + 1, it, n, e, S, mem, h, hn, he, hi, hP => by
    obtain ⟨n, rfl⟩ : ∃ k, n = k + 1 := ⟨n - 1, by omega⟩
    obtain ⟨q1, q2, q3, q4, q5⟩ := aItem_ok hT he hi
    obtain ⟨m1, r1, r2, r3⟩ := itemP (f := f) hf hT he hi hP
    have hs : so T (aItem T S e).2.2 ≤ 4 := sc_le T _
    have k0 : nI (so T (aItem T S e).2.2) = 0 ↔ so T (aItem T S e).2.2 = 0 := nb_zero (by omega)
    have k4 : nI (so T (aItem T S e).2.2) = 4 ↔ so T (aItem T S e).2.2 = 4 := nb_inj (b := 4) (by omega) (by omega)
    rw [dT_tell_11, if_neg (show ¬ (120 : Int32) < nI it by rw [show (120 : Int32) = nI 120 from rfl, nb_lt (by omega) (by omega)]; omega), r1, bd_ok, if_b2, r2.2.1.1, r2.2.1.2.2.1, add1, aTell]
    by_cases c : (aItem T S e).1 = true
    · rw [if_pos c, if_pos c]
      by_cases c0 : so T (aItem T S e).2.2 = 0
      · rw [if_pos (k0.mpr c0), if_pos c0]
        exact ⟨m1, rfl, r2.2.2, r3⟩
      rw [if_neg (fun z => c0 (k0.mp z)), if_neg c0]
      by_cases c4 : so T (aItem T S e).2.2 = 4
      · rw [if_pos (k4.mpr c4), if_pos c4]
        obtain ⟨m2, s1, s2, s3⟩ := nextP (f := f) hf hT q2 q3 r2
        obtain ⟨m3, t1, t2, t3⟩ := tellC_lp hf hT d (it + 1) n (en T (aItem T S e).2.2) _ m2 (by omega) (by omega) (en_le q2) q3 s2
        rw [s1, bd_ok]
        exact ⟨m3, t1, t2, Fz_tr r3 (Fz_tr s3 t3)⟩
      · rw [if_neg (fun z => c4 (k4.mp z)), if_neg c4]
        exact ⟨m1, rfl, r2.2.2, r3⟩
    · rw [if_neg c, if_neg c]
      exact ⟨m1, rfl, r2.2.2, r3⟩
def rfT (t _i j : Nat) : Bool := decide (t = 12 ∧ j ≠ 18 ∨ t = 13)
theorem rfT_p {mem m : Mem} (h : Fz pM mem m) : Fz rfT mem m := Fz_mo h (fun t i j q => by
  have := of_decide_eq_true q
  exact decide_eq_true (by omega))
theorem rfT_s {mem : Mem} {j : Nat} {v : Int32} (h : j ≠ 18) : Fz rfT mem (sI mem 12 0 j v) := Fz_sI (decide_eq_true (Or.inl ⟨rfl, h⟩))
theorem rfT_13 {mem m : Mem} (h : Fz (rowZ 13) mem m) : Fz rfT mem m := Fz_mo h (fun t i j q => by
  have : t = 13 := of_decide_eq_true q
  exact decide_eq_true (by omega))
theorem fin0 {f e : Nat} {mem : Mem} {T : TT} {S S0 : PS} {g : Bool} {x : Int32} (hf : 2000 ≤ f) (hP : PM mem T e S g) (h0 : IV S0) (hk : RK 22 mem S0) :
    ∃ m', dM_palace_91 f x 0 mem = some (-1 - nI (bg T e), m') ∧ RM m' S0 ∧ gI m' 12 0 5 = 0 ∧ Fz rfT mem m' := by
  have e11 : gI (sI (sI mem 12 0 11 0) 12 0 5 0) 12 0 11 = 0 := by rw [gI_sI, if_neg (by omega), gI_sI, if_pos ⟨rfl, rfl, rfl⟩]
  have fx : Fz rfT mem (sI (sI mem 12 0 11 0) 12 0 5 0) := Fz_tr (rfT_s (by omega)) (rfT_s (by omega))
  obtain ⟨m', r1, r2, r3⟩ := back_22 (f := f) (mem := sI (sI mem 12 0 11 0) 12 0 5 0) hf h0 (RK_fz hk fx (fun _ => rfl))
  unfold dM_palace_91
  rw [zbl0, e11, if_pos rfl, r1, bd_ok]
  refine ⟨m', ?_, r2, ?_, Fz_tr fx (rfT_13 r3)⟩
  · rw [(r3 12 0 7 rfl).1, gI_sI, if_neg (by omega), gI_sI, if_neg (by omega), hP.2.1.1]
  · rw [(r3 12 0 5 rfl).1, gI_sI, if_pos ⟨rfl, rfl, rfl⟩]
theorem fin1 {f e : Nat} {mem : Mem} {T : TT} {S : PS} {g : Bool} {x : Int32} (hP : PM mem T e S g) :
    ∃ m', dM_palace_91 f x 1 mem = some (x, m') ∧ RM m' S ∧ gI m' 12 0 5 = 0 ∧ Fz rfT mem m' := by
  have e11 : gI (sI (sI mem 12 0 11 1) 12 0 5 0) 12 0 11 = 1 := by rw [gI_sI, if_neg (by omega), gI_sI, if_pos ⟨rfl, rfl, rfl⟩]
  have fx : Fz rfT mem (sI (sI mem 12 0 11 1) 12 0 5 0) := Fz_tr (rfT_s (by omega)) (rfT_s (by omega))
  unfold dM_palace_91
  rw [zbl1, e11, if_neg (by decide)]
  exact ⟨_, rfl, RM_12 (RM_12 hP.2.2.1 11 1) 5 0, by rw [gI_sI, if_pos ⟨rfl, rfl, rfl⟩], fx⟩
theorem tellM_lp {f : Nat} {T : TT} {S0 : PS} (hf : 2000 ≤ f) (hT : okT T) (h0 : IV S0) : ∀ (d it n e : Nat) (S : PS) (mem : Mem), it + d = 121 → d + 1 < n → 1 ≤ it → 2 * (it - 1) ≤ e → e ≤ T.2 → IV S → TpM mem T → gI mem 12 0 8 = nI e → RM mem S → gI mem 12 0 11 = 1 → RK 22 mem S0 →
    ∃ m', dM_palace_23 f n (nI (it - 1)) 1 mem = some (ansT T (aTell T d S e it), m') ∧ RM m' (if (aTell T d S e it).1 = true then (aTell T d S e it).2.1 else S0) ∧ gI m' 12 0 5 = 0 ∧ Fz rfT mem m'
  | 0, it, n, e, S, mem, h, hn, hit, h2, he, hi, hT2, h8, hM, h11, hk => absurd hT.1 (by omega)
  | d + 1, it, n, e, S, mem, h, hn, hit, h2, he, hi, hT2, h8, hM, h11, hk => by
    obtain ⟨n, rfl⟩ : ∃ k, n = k + 1 + 1 := ⟨n - 2, by omega⟩
    obtain ⟨q1, q2, q3, q4, q5⟩ := aItem_ok hT he hi
    obtain ⟨m1, a1, a2, a3, a4⟩ := adv_ok (f := f) hf hT he hT2 h8
    have P1 : PM m1 T e S true := ⟨a3, a2, RM_a6 hM a4, (a4 12 0 11 rfl).1.trans h11⟩
    obtain ⟨m2, r1, r2, r3⟩ := itemM (f := f) hf hT he hi P1
    have fx : Fz rfT mem m2 := Fz_tr (rfT_p (pM_a a4)) (rfT_p r3)
    have hk2 : RK 22 m2 S0 := RK_fz hk fx (fun _ => rfl)
    have hs : so T (aItem T S e).2.2 ≤ 4 := sc_le T _
    have eit : nI (it - 1) + 1 = nI it := by rw [add1, show it - 1 + 1 = it by omega]
    rw [dM_palace_23, if_neg (by decide), a1, bd_ok, r1, bd_ok, r2.2.2.2, r2.2.1.2.1, eit, aTell, if_b2]
    -- the end, with a fault
    have bad : ∀ x, ∃ m', dM_palace_91 f x 0 m2 = some (-1 - nI (bg T (aItem T S e).2.2), m') ∧ RM m' S0 ∧ gI m' 12 0 5 = 0 ∧ Fz rfT mem m' := fun x => by
      obtain ⟨m', u1, u2, u3, u4⟩ := fin0 (f := f) (x := x) hf r2 h0 hk2
      exact ⟨m', u1, u2, u3, Fz_tr fx u4⟩
    by_cases c : (aItem T S e).1 = true
    · rw [if_pos c, if_pos c]
      rw [c] at r2
      have stop : ∀ x, dM_palace_23 f (n + 1) x 0 m2 = (if nI (rsN (so T (aItem T S e).2.2)) = 0 then dM_palace_91 f x 1 m2 else dM_palace_91 f x 0 m2) := fun x => by
        rw [dM_palace_23, if_pos rfl, r2.2.2.2, if_neg (by decide), r2.2.1.2.1]
      by_cases c3 : so T (aItem T S e).2.2 = 1 ∨ so T (aItem T S e).2.2 = 4
      · rw [if_pos (rs3.mpr c3)]
        by_cases c4 : so T (aItem T S e).2.2 = 4
        · have n0 : ¬ so T (aItem T S e).2.2 = 0 := by omega
          rw [if_pos (r2.2.1.2.2.2.2.2.1 c4), if_neg n0, if_pos c4]
          have hge := bg_ge T (aItem T S e).2.2
          have hgt := en_gt (e := (aItem T S e).2.2) hT (by omega)
          have hq5 := q5 c
          obtain ⟨m', t1, t2, t3, t4⟩ := tellM_lp hf hT h0 d (it + 1) (n + 1) (en T (aItem T S e).2.2) _ m2 (by omega) (by omega) (by omega) (by omega) (en_le q2) q3 r2.1 (r2.2.1.2.2.1 (by omega)) r2.2.2.1 (r2.2.2.2.trans rfl) hk2
          exact ⟨m', t1, t2, t3, Fz_tr fx t4⟩
        · have c1 : so T (aItem T S e).2.2 = 1 := by omega
          have n0 : ¬ so T (aItem T S e).2.2 = 0 := by omega
          rw [if_neg (r2.2.1.2.2.2.2.2.2 c1), if_neg n0, if_neg c4, stop, if_neg (fun z => n0 (rs0.mp z))]
          exact bad _
      · have n4 : ¬ so T (aItem T S e).2.2 = 4 := by omega
        rw [if_neg (fun z => c3 (rs3.mp z)), stop]
        by_cases c0 : so T (aItem T S e).2.2 = 0
        · rw [if_pos (rs0.mpr c0), if_pos c0]
          obtain ⟨m', u1, u2, u3, u4⟩ := fin1 (f := f) (x := nI it) r2
          exact ⟨m', u1, u2, u3, Fz_tr fx u4⟩
        · rw [if_neg (fun z => c0 (rs0.mp z)), if_neg c0, if_neg n4]
          exact bad _
    · rw [if_neg c, if_neg c]
      have c' : (aItem T S e).1 = false := Bool.eq_false_iff.mpr c
      rw [dM_palace_23, if_pos rfl, r2.2.2.2, c', if_pos (show nI (b2 false) = 0 from rfl)]
      exact bad _
def paZ (t i j : Nat) : Bool := decide (t = 1 ∧ i ≠ 1 ∨ t = 2 ∧ i ≠ 1 ∨ t = 4 ∧ i / 10 ≠ 1 ∨ t = 5 ∨ t = 12 ∧ j ≠ 18 ∨ t = 13 ∨ t = 22)
def pcZ (t i j : Nat) : Bool := decide (t = 1 ∧ i ≠ 1 ∨ t = 2 ∧ i ≠ 1 ∨ t = 4 ∧ i / 10 ≠ 1 ∨ t = 5)
theorem pa_pc {mem m : Mem} (h : Fz pcZ mem m) : Fz paZ mem m := Fz_mo h (fun t i j q => by
  have := of_decide_eq_true q
  exact decide_eq_true (by omega))
theorem pa_ps {mem m : Mem} (h : Fz psZ mem m) : Fz pcZ mem m := Fz_mo h (fun t i j q => by
  unfold psZ at q
  rw [Bool.or_eq_true] at q
  rcases q with q | q
  · have := of_decide_eq_true q
    exact decide_eq_true (by omega)
  · have := of_decide_eq_true q
    exact decide_eq_true (by omega))
theorem pa_p {p : Nat} (hp : p ≠ 1) {mem m : Mem} (h : Fz (palZ p) mem m) : Fz pcZ mem m := Fz_mo h (fun t i j q => by
  have := of_decide_eq_true q
  exact decide_eq_true (by omega))
theorem pa_22 {mem m : Mem} (h : Fz (rowZ 22) mem m) : Fz paZ mem m := Fz_mo h (fun t i j q => by
  have := of_decide_eq_true q
  exact decide_eq_true (by omega))
theorem pa_rf {mem m : Mem} (h : Fz rfT mem m) : Fz paZ mem m := Fz_mo h (fun t i j q => by
  have := of_decide_eq_true q
  exact decide_eq_true (by omega))
theorem neg_ans {b : Nat} (h : b ≤ 200) : (-1 : Int32) - nI b < 0 := by
  have e : ((-1 : Int32) - nI b).toInt = (-1 : Int) - (b : Int) := by
    rw [Int32.toInt_sub, nI_toInt (by omega), show (-1 : Int32).toInt = -1 by decide]
    exact Int.bmod_eq_of_le (by omega) (by omega)
  rw [Int32.lt_iff_toInt_lt, e, show (0 : Int32).toInt = 0 by decide]
  omega
theorem ca_palace {f : Nat} {mem : Mem} (hf : 2000 ≤ f) (hI : INV mem) : CA (dW_palace f) (dM_palace f) mem := by
  obtain ⟨S, hC, hM, hi, hm, hS, hTP, hF, hK⟩ := hI
  obtain ⟨N, t1, t2, t3, t4⟩ := hTP
  have hT : okT ((fun j => (gI mem 6 0 j).toNatClampNeg), N) := ⟨t1, fun j hj => by
    obtain ⟨b, g1, g2, g3⟩ := t4 j hj
    show (gI mem 6 0 j).toNatClampNeg ≤ 255
    rw [g2, nI_clamp (by omega)]
    exact g1⟩
  have hTC : TpC mem ((fun j => (gI mem 6 0 j).toNatClampNeg), N) := ⟨t2, fun j hj => by
    obtain ⟨b, g1, g2, g3⟩ := t4 j hj
    show gI mem 6 0 j = nI (gI mem 6 0 j).toNatClampNeg
    rw [g2, nI_clamp (by omega)]⟩
  have hTM : TpM mem ((fun j => (gI mem 6 0 j).toNatClampNeg), N) := ⟨t3, fun j hj => by
    obtain ⟨b, g1, g2, g3⟩ := t4 j hj
    show gI mem 16 0 j = nI (gI mem 6 0 j).toNatClampNeg
    rw [g2, nI_clamp (by omega), g3]⟩
  generalize hTT : ((fun j => (gI mem 6 0 j).toNatClampNeg), N) = T at hT hTC hTM
  obtain ⟨w1, w2, w3, w4⟩ := aTell_ok hT 120 S 0 1 (by omega) (by omega) hi
  have hbl := bg_le w1
  have hN := hT.1
  -- the class
  obtain ⟨m1, r1, r2, r3⟩ := bec_ok (f := f) (p := 2) (q := 0) hf (by omega) hi hC
  have hC1 : RC m1 0 S := RC_fz hC hi.2.2.2.2.2.2.2.1 r3 (fun t i j q => by
    have := of_decide_eq_true q
    exact decide_eq_false (by omega))
  have f1 : Fz q5 m1 (sI m1 5 0 3 0) := q5_s (by omega)
  have hTC1 : TpC (sI m1 5 0 3 0) T := TpC_fz ⟨(r3 5 0 1 (by rfl)).1.trans hTC.1, fun j hj => (r3 6 0 j (by rfl)).1.trans (hTC.2 j hj)⟩ f1
  obtain ⟨m2, n1, n2, n3, n4⟩ := next_ok (f := f) (e := 0) hf hT (by omega) hTC1 (by rw [gI_sI, if_pos ⟨rfl, rfl, rfl⟩]; rfl)
  have hP : PC m2 T 0 S := ⟨n3, n2, RC_q5 (RC_q5 r2 hi f1) hi n4⟩
  obtain ⟨m3, u1, u2, u3⟩ := tellC_lp (f := f) hf hT 120 1 f 0 S m2 (by omega) (by omega) (by omega) hi hP
  have hC3 : RC m3 0 S := RC_fz (RC_q5 (RC_q5 hC1 hi f1) hi n4) hi.2.2.2.2.2.2.2.1 u3 (fun t i j q => by
    have := of_decide_eq_true q
    unfold psZ q5 palZ
    rw [decide_eq_false (by omega), decide_eq_false (by omega)]
    rfl)
  have fA : Fz pcZ mem m3 := Fz_tr (pa_p (by omega) r3) (Fz_tr (pa_ps (ps_q f1)) (Fz_tr (pa_ps (ps_q n4)) (pa_ps u3)))
  -- the class's end: a memory m4 with the palace that comes of it
  obtain ⟨m4, hA, hC4, h45, fB⟩ : ∃ m4, dW_palace f mem = some (ansT T (aTell T 120 S 0 1), m4) ∧ RC m4 0 (if (aTell T 120 S 0 1).1 = true then (aTell T 120 S 0 1).2.1 else S) ∧ gI m4 5 0 1 = 0 ∧ Fz pcZ m3 m4 := by
    have h0 : dW_palace f mem = bd (dT_tell f 2 m1) (fun r2 m2 => if r2 < 0 then (bd (dT_clear f m2) (fun r3 m3 => some (r2, m3))) else (bd (dP_become f 0 2 m2) (fun r4 m4 => bd (dT_clear f m4) (fun r5 m5 => some (r2, m5))))) := by
      unfold dW_palace
      rw [r1, bd_ok]
    have h1 : dT_tell f 2 m1 = some (ansT T (aTell T 120 S 0 1), m3) := by
      unfold dT_tell
      rw [n1, bd_ok]
      exact u1
    rw [h0, h1, bd_ok]
    have cl : ∀ m, Fz pcZ m (sI m 5 0 1 0) := fun m => Fz_sI rfl
    have cl5 : ∀ m p S', RC m p S' → RC (sI m 5 0 1 0) p S' := fun m p S' h => ⟨h.1, h.2.1, h.2.2.1, fun w hw k hk => h.2.2.2 w hw k hk⟩
    unfold ansT dT_clear
    by_cases c : (aTell T 120 S 0 1).1 = true
    · rw [if_pos c, if_neg (nI_pos (by omega)), if_pos c]
      obtain ⟨m5, s1, s2, s3⟩ := bec_ok (f := f) (p := 0) (q := 2) hf (by omega) w3 u2
      rw [s1, bd_ok, bd_ok]
      exact ⟨_, rfl, cl5 _ _ _ s2, by rw [gI_sI, if_pos ⟨rfl, rfl, rfl⟩], Fz_tr (pa_p (by omega) s3) (cl _)⟩
    · rw [if_neg c, if_pos (neg_ans (by omega)), if_neg c, bd_ok]
      exact ⟨_, rfl, cl5 _ _ _ hC3, by rw [gI_sI, if_pos ⟨rfl, rfl, rfl⟩], cl _⟩
  -- the reference
  have fC := Fz_tr fA fB
  have hM4 : RM m4 S := RK_fz (t := 13) hM fC (fun _ => rfl)
  have hTM4 : TpM m4 T := ⟨(fC 12 0 5 rfl).1.trans hTM.1, fun j hj => (fC 16 0 j rfl).1.trans (hTM.2 j hj)⟩
  obtain ⟨m5, k1, k2, k3⟩ := keep_22 (f := f) hf hi hM4
  have hM5 : RM m5 S := RM_t hM4 (by decide) k3
  have fD : Fz rfT m5 (sI (sI m5 12 0 8 0) 12 0 11 1) := Fz_tr (rfT_s (by omega)) (rfT_s (by omega))
  have hTM5 : TpM (sI (sI m5 12 0 8 0) 12 0 11 1) T := ⟨by rw [gI_sI, if_neg (by omega), gI_sI, if_neg (by omega), (k3 12 0 5 rfl).1]; exact hTM4.1, fun j hj => by rw [gI_sI, if_neg (by omega), gI_sI, if_neg (by omega), (k3 16 0 j rfl).1]; exact hTM4.2 j hj⟩
  obtain ⟨m6, v1, v2, v3, v4⟩ := tellM_lp (f := f) hf hT hi 120 1 f 0 S (sI (sI m5 12 0 8 0) 12 0 11 1) (by omega) (by omega) (by omega) (by omega) (by omega) hi hTM5 (by rw [gI_sI, if_neg (by omega), gI_sI, if_pos ⟨rfl, rfl, rfl⟩]; rfl) (RM_12 (RM_12 hM5 8 0) 11 1) (by rw [gI_sI, if_pos ⟨rfl, rfl, rfl⟩]) (RK_fz k2 fD (fun _ => rfl))
  have fE : Fz paZ m4 m6 := Fz_tr (pa_22 k3) (Fz_tr (pa_rf fD) (pa_rf v4))
  have fM : Fz paZ mem m6 := Fz_tr (pa_pc fC) fE
  have hi' : IV (if (aTell T 120 S 0 1).1 = true then (aTell T 120 S 0 1).2.1 else S) := by
    split
    · exact w3
    · exact hi
  have hm' : mi (if (aTell T 120 S 0 1).1 = true then (aTell T 120 S 0 1).2.1 else S) ≤ 99999 := by
    split
    · omega
    · exact hm
  have d22 : ∀ {p t i j : Nat}, palZ p t i j = true → rowZ 22 t i j = false := fun q => by
    have := notPal q
    exact decide_eq_false (by omega)
  have dT : ∀ {p t i j : Nat}, palZ p t i j = true → rfT t i j = false := fun q => by
    have := notPal q
    exact decide_eq_false (by omega)
  refine ans_ca (m1 := m4) (m2 := m6) hA ?_ ⟨_, RC_fz (RC_fz (RC_fz hC4 hi'.2.2.2.2.2.2.2.1 k3 (fun _ _ _ q => d22 q)) hi'.2.2.2.2.2.2.2.1 fD (fun _ _ _ q => dT q)) hi'.2.2.2.2.2.2.2.1 v4 (fun _ _ _ q => dT q), v2, hi', hm', fun s hs => SH1_fz (hS s hs) fM hs (fun _ => rfl) (fun _ => rfl) rfl rfl (fun _ _ => rfl), ⟨0, by omega, ?_, v3, fun j hj => absurd hj (by omega)⟩, FD_fz' hF fM (fun _ => rfl) (fun _ => rfl), KP_fz hK fM rfl rfl (fun t i j q => ?_) (fun _ => rfl)⟩
  · unfold dM_palace
    rw [k1, bd_ok]
    exact v1
  · rw [(v4 5 0 1 rfl).1, (fD 5 0 1 rfl).1, (k3 5 0 1 rfl).1, h45]
    rfl
  · have := of_decide_eq_true q
    exact decide_eq_false (by omega)
