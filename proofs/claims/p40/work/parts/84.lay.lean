/-! The law's lay: rota, walls, minutes gone; the class's palace and the law's row are one. -/
theorem RC_13 {mem m : Mem} {p : Nat} {S : PS} (h : RC mem p S) (hi : IV S) (fx : Fz (rowZ 13) mem m) : RC m p S := RC_fz h hi.2.2.2.2.2.2.2.1 fx (fun t i j q => by
  have := notPal q
  exact decide_eq_false (by omega))
theorem b7 (w : Nat) : (7 : Int32) + (6 : Int32) * nI w = nI (6 + 6 * w + 1) := (a7 w).trans (congrArg nI (by omega))
theorem b8 (w : Nat) : (8 : Int32) + (6 : Int32) * nI w = nI (6 + 6 * w + 2) := (a8 w).trans (congrArg nI (by omega))
theorem b9 (w : Nat) : (9 : Int32) + (6 : Int32) * nI w = nI (6 + 6 * w + 3) := (a9 w).trans (congrArg nI (by omega))
theorem b10 (w : Nat) : (10 : Int32) + (6 : Int32) * nI w = nI (6 + 6 * w + 4) := (a10 w).trans (congrArg nI (by omega))
theorem b11 (w : Nat) : (11 : Int32) + (6 : Int32) * nI w = nI (6 + 6 * w + 5) := (a11 w).trans (congrArg nI (by omega))
theorem RM_newW {mem : Mem} {S : PS} (h : RM mem S) {a b c : Nat} : RM (sI (sI (sI (sI (sI (sI (sI mem 13 0 (6 + 6 * ct S) (nI a)) 13 0 (6 + 6 * ct S + 1) (nI b)) 13 0 (6 + 6 * ct S + 2) (nI c)) 13 0 (6 + 6 * ct S + 3) 0) 13 0 (6 + 6 * ct S + 4) 0) 13 0 (6 + 6 * ct S + 5) 0) 13 0 5 (nI (ct S + 1))) (newW S a b c 0) := by
  obtain ⟨h1, h2, h3, h4⟩ := h
  refine ⟨?_, fun j hj => ?_, ?_, fun w hw k hk => ?_⟩
  · simp only [gI_sI]
    rw [if_neg (by omega), if_neg (by omega), if_neg (by omega), if_neg (by omega), if_neg (by omega), if_neg (by omega), if_neg (by omega)]
    exact h1
  · simp only [gI_sI]
    rw [if_neg (by omega), if_neg (by omega), if_neg (by omega), if_neg (by omega), if_neg (by omega), if_neg (by omega), if_neg (by omega)]
    exact h2 j hj
  · simp only [gI_sI]
    rw [if_pos ⟨trivial, trivial, trivial⟩]
    rfl
  · have hw' : w < ct S + 1 := hw
    simp only [gI_sI]
    show _ = nI (if w = ct S then (if k = 0 then a else if k = 1 then b else if k = 2 then c else if k = 3 then 0 else 0) else wa S w k)
    rw [if_neg (by omega)]
    by_cases ew : w = ct S
    · subst ew
      have hkk : k = 0 ∨ k = 1 ∨ k = 2 ∨ k = 3 ∨ k = 4 ∨ k = 5 := by omega
      rcases hkk with rfl | rfl | rfl | rfl | rfl | rfl
      · rw [if_neg (by omega), if_neg (by omega), if_neg (by omega), if_neg (by omega), if_neg (by omega), if_pos ⟨trivial, trivial, rfl⟩, if_pos rfl, if_pos rfl]
      · rw [if_neg (by omega), if_neg (by omega), if_neg (by omega), if_neg (by omega), if_pos ⟨trivial, trivial, rfl⟩, if_pos rfl, if_neg (by omega), if_pos rfl]
      · rw [if_neg (by omega), if_neg (by omega), if_neg (by omega), if_pos ⟨trivial, trivial, rfl⟩, if_pos rfl, if_neg (by omega), if_neg (by omega), if_pos rfl]
      · rw [if_neg (by omega), if_neg (by omega), if_pos ⟨trivial, trivial, rfl⟩, if_pos rfl, if_neg (by omega), if_neg (by omega), if_neg (by omega), if_pos rfl]
        rfl
      · rw [if_neg (by omega), if_pos ⟨trivial, trivial, rfl⟩, if_pos rfl, if_neg (by omega), if_neg (by omega), if_neg (by omega), if_neg (by omega)]
        rfl
      · rw [if_pos ⟨trivial, trivial, rfl⟩, if_pos rfl, if_neg (by omega), if_neg (by omega), if_neg (by omega), if_neg (by omega)]
        rfl
    · rw [if_neg (by omega), if_neg (by omega), if_neg (by omega), if_neg (by omega), if_neg (by omega), if_neg (by omega), if_neg ew]
      exact h4 w (by omega) k hk
/-- the class's palace and the law's row hold S -/
def LaS (mem : Mem) (S : PS) : Prop := RC mem 0 S ∧ RM mem S ∧ IV S
theorem wallL_ok {f a b c : Nat} {mem : Mem} {S : PS} (h : LaS mem S) (hc : ct S < 10) (ha : a ≤ 5) (hb : b ≤ 9) (hcc : c ≤ 9) : ∃ m', dL_wall f (nI a) (nI b) (nI c) mem = some (1, m') ∧ LaS m' (newW S a b c 0) := by
  obtain ⟨hC, hM, hi⟩ := h
  obtain ⟨m1, k1, k2, k3⟩ := K_wall (f := f) hC hi hc ha hb hcc
  have hM1 := RM_F hM k3
  have hi' := IV_newW hi hc ha hb hcc (d := 0) (by omega)
  have e5 : gI (sI (sI (sI (sI (sI (sI m1 13 0 (6 + 6 * ct S) (nI a)) 13 0 (6 + 6 * ct S + 1) (nI b)) 13 0 (6 + 6 * ct S + 2) (nI c)) 13 0 (6 + 6 * ct S + 3) 0) 13 0 (6 + 6 * ct S + 4) 0) 13 0 (6 + 6 * ct S + 5) 0) 13 0 5 + 1 = nI (ct S + 1) := by
    simp only [gI_sI]
    rw [if_neg (by omega), if_neg (by omega), if_neg (by omega), if_neg (by omega), if_neg (by omega), if_neg (by omega), hM1.2.2.1, add1]
  refine ⟨_, ?_, ?_, RM_newW hM1 (a := a) (b := b) (c := c), hi'⟩
  · unfold dL_wall
    rw [k1, bd_ok, hM.2.2.1, if_pos rfl, a6, b7, b8, b9, b10, b11, ck_in _ (by omega) (by omega), ck_in _ (by omega) (by omega), ck_in _ (by omega) (by omega), ck_in _ (by omega) (by omega), ck_in _ (by omega) (by omega), ck_in _ (by omega) (by omega), nI_clamp (by omega), nI_clamp (by omega), nI_clamp (by omega), nI_clamp (by omega), nI_clamp (by omega), nI_clamp (by omega), e5]
  · exact RC_13 k2 hi' (Fz_tr (Fz_tr (Fz_tr (Fz_tr (Fz_tr (Fz_tr (Fz_sI rfl) (Fz_sI rfl)) (Fz_sI rfl)) (Fz_sI rfl)) (Fz_sI rfl)) (Fz_sI rfl)) (Fz_sI rfl))
/-- set() and the law's own note of it -/
theorem setL_ok {f w k v : Nat} {mem : Mem} {S : PS} (h : LaS mem S) (hw : w < ct S) (h1 : 1 ≤ k) (ho : okW k v) : ∃ m1, dW_set f (nI w) (nI k) (nI v) mem = some (nI (wa S w k), m1) ∧ LaS (sI m1 13 0 (6 + 6 * w + k) (nI v)) (setW S w k v) := by
  obtain ⟨hC, hM, hi⟩ := h
  obtain ⟨m1, k1, k2, k3⟩ := K_set (f := f) hC hi hw h1 ho
  have hi' := IV_setW hi (w := w) ho
  exact ⟨m1, k1, RC_13 k2 hi' (Fz_sI rfl), RM_put (RM_F hM k3) (by unfold okW at ho; omega) v, hi'⟩
theorem okW4 {v : Nat} (h : v < 65536) : okW 4 v := by unfold okW; omega
theorem okW5 {v : Nat} (h : v ≤ 99) : okW 5 v := by unfold okW; omega
theorem lay223 {LL f kd b m : Nat} {xs : Nat → Int32} {mem : Mem} {S : PS} (h : LaS mem S) (hc : ct S < 10) (hkd : kd ≤ 5) (hb : b ≤ 9) (hm1 : 1 ≤ m) (hm : m ≤ 10) (h0 : mi S = 0) (K : Int32 → Int32 → Int32 → Mem → Option (Int32 × Mem)) (x3 x4 x6 s4 : Int32) :
    ∃ m' S', dL_lay_223 LL xs f K x3 x4 (nI (ct S)) x6 (nI kd) (nI b) s4 (nI m) mem = K x3 x4 (nI (ct S + 1)) m' ∧ LaS m' S' ∧ ct S' = ct S + 1 ∧ mi S' = 0 := by
  obtain ⟨c, hcm, ec⟩ := mod_ok (f := f) (mem := mem) s4 hm1 (by omega)
  obtain ⟨m1, w1, w2⟩ := wallL_ok (f := f) (a := kd) (b := b) (c := c) h hc hkd hb (by omega)
  obtain ⟨sd, hsd, esd⟩ := and_ok (x6 >>> ((10 : Int32) &&& 31)) 3 (by omega)
  have esd' : (x6 >>> ((10 : Int32) &&& 31)) &&& (3 : Int32) = nI sd := esd
  have hlt : ct S < ct (newW S kd b c 0) := Nat.lt_succ_self _
  have n3 : ∀ k, 3 ≤ k → wa (newW S kd b c 0) (ct S) k = 0 := fun k hk => by
    show (if ct S = ct S then (if k = 0 then kd else if k = 1 then b else if k = 2 then c else if k = 3 then 0 else 0) else wa S (ct S) k) = 0
    rw [if_pos rfl, if_neg (by omega), if_neg (by omega), if_neg (by omega)]
    split <;> rfl
  obtain ⟨m2, s1, s2⟩ := setL_ok (f := f) (w := ct S) (k := 3) (v := sd) w2 hlt (by omega) (okW3 hsd)
  unfold dL_lay_223
  rw [ec, bd_ok, w1, bd_ok, if_neg (by decide), esd', show dW_set f (nI (ct S)) 3 (nI sd) m1 = _ from s1, bd_ok, n3 3 (by omega), if_pos (show nI 0 = 0 from rfl), b9, ck_in _ (by omega) (by omega), nI_clamp (by omega)]
  by_cases c12 : 0 < (x6 >>> ((12 : Int32) &&& 31)) &&& (3 : Int32)
  · rw [if_pos c12, add1]
    exact ⟨_, _, rfl, s2, rfl, h0⟩
  · obtain ⟨fl, hfl, efl⟩ := mod_ok (f := f) (m := 65536) (mem := sI m2 13 0 (6 + 6 * ct S + 3) (nI sd)) (x6 * (31 : Int32)) (by omega) (by omega)
    obtain ⟨ti, hti, eti⟩ := mod_ok (f := f) (m := 9) (mem := sI m2 13 0 (6 + 6 * ct S + 3) (nI sd)) (x6 >>> ((8 : Int32) &&& 31)) (by omega) (by omega)
    obtain ⟨m3, t1, t2⟩ := setL_ok (f := f) (w := ct S) (k := 4) (v := fl) s2 hlt (by omega) (okW4 hfl)
    have z4 : wa (setW (newW S kd b c 0) (ct S) 3 sd) (ct S) 4 = 0 := (if_neg (by omega)).trans (n3 4 (by omega))
    rw [z4] at t1
    -- the law notes file and tired behind both calls
    have hi2 := s2.2.2
    obtain ⟨m3', q1, q2, q3⟩ := K_set (f := f) (w := ct S) (k := 4) (v := fl) s2.1 hi2 hlt (by omega) (okW4 hfl)
    have hi3 := IV_setW hi2 (w := ct S) (okW4 hfl)
    have z5 : wa (setW (setW (newW S kd b c 0) (ct S) 3 sd) (ct S) 4 fl) (ct S) 5 = 0 := (if_neg (by omega)).trans ((if_neg (by omega)).trans (n3 5 (by omega)))
    obtain ⟨m4, u1, u2, u3⟩ := K_set (f := f) (w := ct S) (k := 5) (v := ti) q2 hi3 hlt (by omega) (okW5 (by omega))
    have hi4 := IV_setW hi3 (w := ct S) (okW5 (v := ti) (by omega))
    have z4' : wa (setW (newW S kd b c 0) (ct S) 3 sd) (ct S) 4 = 0 := z4
    rw [z4'] at q1
    rw [z5] at u1
    have hM4 : RM m4 (setW (newW S kd b c 0) (ct S) 3 sd) := RM_F (RM_F s2.2.1 q3) u3
    have hM6 := RM_put (RM_put hM4 (w := ct S) (k := 4) (by omega) fl) (w := ct S) (k := 5) (by omega) ti
    rw [if_neg c12, show dL_mod f (x6 * (31 : Int32)) 65536 _ = _ from efl, bd_ok, show dL_mod f (x6 >>> ((8 : Int32) &&& 31)) 9 _ = _ from eti, bd_ok, show dW_set f (nI (ct S)) 4 (nI fl) _ = _ from q1, bd_ok, if_pos (show nI 0 = 0 from rfl), show dW_set f (nI (ct S)) 5 (nI ti) m3' = _ from u1, bd_ok, if_pos (show nI 0 = 0 from rfl), b10, b11, ck_in _ (by omega) (by omega), ck_in _ (by omega) (by omega), nI_clamp (by omega), nI_clamp (by omega), add1]
    exact ⟨_, _, rfl, ⟨RC_13 u2 hi4 (Fz_tr (Fz_sI rfl) (Fz_sI rfl)), hM6, hi4⟩, rfl, h0⟩
theorem lay199 {LL f kd m : Nat} {xs : Nat → Int32} {mem : Mem} {S : PS} (h : LaS mem S) (hc : ct S < 10) (hkd : kd ≤ 5) (hm1 : 1 ≤ m) (hm : m ≤ 10) (h0 : mi S = 0) (K : Int32 → Int32 → Int32 → Mem → Option (Int32 × Mem)) (x3 x4 x6 s3 : Int32) :
    ∃ m' S', dL_lay_199 LL xs f K x3 x4 (nI (ct S)) x6 (nI kd) s3 (nI m) mem = K x3 x4 (nI (ct S + 1)) m' ∧ LaS m' S' ∧ ct S' = ct S + 1 ∧ mi S' = 0 := by
  obtain ⟨b, hb, eb⟩ := mod_ok (f := f) (mem := mem) s3 hm1 (by omega)
  unfold dL_lay_199
  rw [eb, bd_ok]
  split
  · exact lay223 (m := 3) h hc hkd (by omega) (by omega) (by omega) h0 K x3 x4 x6 _
  · exact lay223 (m := 10) h hc hkd (by omega) (by omega) (by omega) h0 K x3 x4 x6 _
theorem lay376 {LL f N : Nat} {xs : Nat → Int32} {S : PS} (hf : 2000 ≤ f) (hi : IV S) (h0 : mi S = 0) (hN : N < 40) : ∀ (d i n : Nat) (mem : Mem), i + d = N → d < n → RC mem 0 S → RM mem (itM S i) →
    ∃ m' S', dL_lay_376 LL xs f n (nI N) (nI i) mem = some (1, m') ∧ LaS m' S' ∧ ct S' = ct S ∧ mi S' ≤ 39
  | 0, i, n, mem, e, hn, hC, hM => by
    obtain ⟨n, rfl⟩ : ∃ k, n = k + 1 := ⟨n - 1, by omega⟩
    have e' : i = N := by omega
    subst e'
    rw [dL_lay_376, if_neg (nlt_n (by omega))]
    have hct : ∀ j, ct (itM S j) = ct S := fun j => by
      induction j with
      | zero => rfl
      | succ j ih => rw [itM, (minS_f _).1, ih]
    by_cases c0 : i = 0
    · subst c0
      rw [if_pos (show nI 0 = 0 from rfl)]
      exact ⟨mem, S, rfl, ⟨hC, hM, hi⟩, rfl, by omega⟩
    · obtain ⟨m1, k1, k2, k3⟩ := K_pass (f := f) (N := i) hf hC hi (by omega) (by omega) (by omega)
      rw [if_neg (by rw [nb_zero (by omega)]; exact c0), k1, bd_ok, h0, Nat.zero_add, if_pos rfl]
      exact ⟨m1, itM S i, rfl, ⟨k2, RM_F hM k3, IV_itM hi i (by omega)⟩, hct i, by rw [itM_f]; omega⟩
  | d + 1, i, n, mem, e, hn, hC, hM => by
    obtain ⟨n, rfl⟩ : ∃ k, n = k + 1 := ⟨n - 1, by omega⟩
    have hmi := itM_f S i
    obtain ⟨m1, r1, r2, r3⟩ := minL_ok (f := f) hf hM (IV_itM hi i (by omega)) (by omega)
    rw [dL_lay_376, if_pos (lt_n (by omega) (by omega)), r1, bd_ok, add1]
    exact lay376 hf hi h0 hN d (i + 1) n m1 (by omega) (by omega) (RC_13 hC hi r3) r2
theorem lay143 {LL f W : Nat} {xs : Nat → Int32} (hf : 2000 ≤ f) (hL : LL ≤ 260) (hW : W ≤ 10) (x3 : Int32) : ∀ (d w n : Nat) (mem : Mem) (S : PS), w + d = W → d < n → LaS mem S → ct S = w → mi S = 0 →
    ∃ m' S', dL_lay_143 LL xs f n x3 (nI W) (nI w) mem = some (1, m') ∧ LaS m' S' ∧ ct S' = W ∧ mi S' ≤ 39
  | 0, w, n, mem, S, e, hn, h, hc, h0 => by
    obtain ⟨n, rfl⟩ : ∃ k, n = k + 1 := ⟨n - 1, by omega⟩
    have e' : w = W := by omega
    subst e'
    obtain ⟨N, hN, eN⟩ := mod_ok (f := f) (m := 40) (mem := mem) (x3 >>> ((20 : Int32) &&& 31)) (by omega) (by omega)
    rw [dL_lay_143, if_neg (nlt_n (by omega)), show dL_mod f (x3 >>> ((20 : Int32) &&& 31)) 40 mem = _ from eN, bd_ok]
    obtain ⟨m', S', q1, q2, q3, q4⟩ := lay376 (LL := LL) (xs := xs) (f := f) hf h.2.2 h0 hN N 0 f mem (by omega) (by omega) h.1 h.2.1
    exact ⟨m', S', q1, q2, by omega, q4⟩
  | d + 1, w, n, mem, S, e, hn, h, hc, h0 => by
    obtain ⟨n, rfl⟩ : ∃ k, n = k + 1 := ⟨n - 1, by omega⟩
    subst hc
    have e5 : nI (ct S) % 5 = nI (ct S % 5) := nb_mod (b := 5) (by omega) (by omega)
    have e1 : (1 : Int32) + nI (ct S % 5) = nI (1 + ct S % 5) := nb_add 1 _
    obtain ⟨v, hv⟩ := at_ok (LL := LL) (f := f) (k := 1 + ct S % 5) (xs := xs) (mem := mem) hL (by omega)
    obtain ⟨kd, hkd, ekd⟩ := mod_ok (f := f) (m := 6) (mem := mem) (v >>> ((15 : Int32) * (nI (ct S) / (5 : Int32)) &&& 31)) (by omega) (by omega)
    rw [dL_lay_143, if_pos (lt_n (by omega) (by omega)), if_neg (by decide), e5, e1, hv, bd_ok, if_neg (by decide), show dL_mod f (v >>> ((15 : Int32) * (nI (ct S) / (5 : Int32)) &&& 31)) 6 mem = _ from ekd, bd_ok]
    have fin : ∀ m, 1 ≤ m → m ≤ 10 → ∀ s3, ∃ m' S', dL_lay_199 LL xs f (fun x3_ x4_ x5_ mem_ => dL_lay_143 LL xs f n x3_ x4_ x5_ mem_) x3 (nI W) (nI (ct S)) (v >>> ((15 : Int32) * (nI (ct S) / (5 : Int32)) &&& 31)) (nI kd) s3 (nI m) mem = some (1, m') ∧ LaS m' S' ∧ ct S' = W ∧ mi S' ≤ 39 := by
      intro m hm1 hm s3
      obtain ⟨m1, S1, q1, q2, q3, q4⟩ := lay199 (LL := LL) (xs := xs) (f := f) (kd := kd) (m := m) h (by omega) (by omega) hm1 hm h0 (fun x3_ x4_ x5_ mem_ => dL_lay_143 LL xs f n x3_ x4_ x5_ mem_) x3 (nI W) (v >>> ((15 : Int32) * (nI (ct S) / (5 : Int32)) &&& 31)) s3
      rw [q1]
      exact lay143 hf hL hW x3 d (ct S + 1) n m1 S1 (by omega) (by omega) q2 q3 q4
    split
    · exact fin 3 (by omega) (by omega) _
    · exact fin 10 (by omega) (by omega) _
/-- a new object's palace -/
def S00 : PS := (0, fun j => [15, 2, 0, 5].getD j 0, 0, fun _ _ => 0)
theorem IV_00 : IV S00 := ⟨by decide, by decide, by decide, by decide, by decide, by decide, by decide, by decide, fun w hw => absurd hw (Nat.not_lt_zero w)⟩
def Rr (a b c d : Nat) : PS := (0, fun j => if j = 0 then a else if j = 1 then b else if j = 2 then c else d, 0, fun _ _ => 0)
theorem ckl {α : Type} {k : Nat} (A : Option α) (hk : k < 66) : ck (OfNat.ofNat k : Int32) 66 A = A := ck_in (n := 66) (k := k) A hk (by omega)
theorem lay50 {LL f a m : Nat} {xs : Nat → Int32} {mem : Mem} (hf : 2000 ≤ f) (hL : LL ≤ 260) (ha1 : 1 ≤ a) (ha : a ≤ 60) (hm1 : 1 ≤ m) (hm : m ≤ 12) (hC : RC mem 0 S00) (h0 : ∀ j, j < 66 → gI mem 13 0 j = if j = 1 then nI a else 0) (x3 s2 : Int32) :
    ∃ m' S', dL_lay_50 LL xs f x3 2 s2 (nI m) mem = some (1, m') ∧ LaS m' S' ∧ 1 ≤ ct S' ∧ mi S' ≤ 39 := by
  obtain ⟨b, hb, eb⟩ := mod_ok (f := f) (mem := mem) s2 hm1 (by omega)
  obtain ⟨c, hc, ec⟩ := and_ok (x3 >>> ((9 : Int32) &&& 31)) 3 (by omega)
  have ec' : (x3 >>> ((9 : Int32) &&& 31)) &&& (3 : Int32) = nI c := ec
  have t2 : (2 : Int32).toNatClampNeg = 2 := by decide
  obtain ⟨d, hd, ed⟩ := mod_ok (f := f) (m := 20) (mem := sI (sI mem 13 0 2 (nI b)) 13 0 3 (nI c)) (x3 >>> ((11 : Int32) &&& 31)) (by omega) (by omega)
  have e1 : (1 : Int32) + nI d = nI (1 + d) := nb_add 1 d
  have c2 : ∀ A : Option (Int32 × Mem), ck (2 : Int32) 66 A = A := fun A => ck_in (n := 66) (k := 2) A (by omega) (by omega)
  have hM : RM (sI (sI (sI mem 13 0 2 (nI b)) 13 0 3 (nI c)) 13 0 4 (nI (1 + d))) (Rr a b c (1 + d)) := by
    refine ⟨?_, fun j hj => ?_, ?_, fun w hw => absurd hw (Nat.not_lt_zero w)⟩
    · simp only [gI_sI]
      rw [if_neg (by omega), if_neg (by omega), if_neg (by omega), h0 0 (by omega)]
      rfl
    · simp only [gI_sI]
      have hjj : j = 0 ∨ j = 1 ∨ j = 2 ∨ j = 3 := by omega
      rcases hjj with rfl | rfl | rfl | rfl
      · rw [if_neg (by omega), if_neg (by omega), if_neg (by omega), h0 (1 + 0) (by omega)]
        rfl
      · rfl
      · rfl
      · rfl
    · simp only [gI_sI]
      rw [if_neg (by omega), if_neg (by omega), if_neg (by omega), h0 5 (by omega)]
      rfl
  have hC1 : RC (sI (sI (sI mem 13 0 2 (nI b)) 13 0 3 (nI c)) 13 0 4 (nI (1 + d))) 0 S00 := RC_13 hC IV_00 (Fz_tr (Fz_tr (Fz_sI rfl) (Fz_sI rfl)) (Fz_sI rfl))
  have o0 : okR 0 a := Or.inl ⟨rfl, ha1, ha⟩
  have o1 : okR 1 b := Or.inr (Or.inl ⟨rfl, by omega⟩)
  have o2 : okR 2 c := Or.inr (Or.inr (Or.inl ⟨rfl, hc⟩))
  have o3 : okR 3 (1 + d) := Or.inr (Or.inr (Or.inr ⟨rfl, by omega, by omega⟩))
  obtain ⟨m1, p1, p2, p3⟩ := K_rota (f := f) hC1 o0
  obtain ⟨m2, q1, q2, q3⟩ := K_rota (f := f) p2 o1
  obtain ⟨m3, r1, r2, r3⟩ := K_rota (f := f) q2 o2
  obtain ⟨m4, s1, s2', s3⟩ := K_rota (f := f) r2 o3
  have hM1 := RM_F hM p3
  have hM2 := RM_F hM1 q3
  have hM3 := RM_F hM2 r3
  have hM4 := RM_F hM3 s3
  have hi4 := IV_setR (IV_setR (IV_setR (IV_setR IV_00 o0) o1) o2) o3
  have hLS : LaS m4 (setR (setR (setR (setR S00 0 a) 1 b) 2 c) 3 (1 + d)) := by
    refine ⟨s2', ⟨hM4.1, fun j hj => ?_, hM4.2.2.1, fun w hw => absurd hw (Nat.not_lt_zero w)⟩, hi4⟩
    rw [hM4.2.1 j hj]
    have hjj : j = 0 ∨ j = 1 ∨ j = 2 ∨ j = 3 := by omega
    rcases hjj with rfl | rfl | rfl | rfl <;> rfl
  obtain ⟨w, hw, ew⟩ := mod_ok (f := f) (m := 10) (mem := m4) (x3 >>> ((16 : Int32) &&& 31)) (by omega) (by omega)
  have e1w : (1 : Int32) + nI w = nI (1 + w) := nb_add 1 w
  obtain ⟨m', S', z1, z2, z3, z4⟩ := lay143 (LL := LL) (f := f) (W := 1 + w) (xs := xs) hf hL (by omega) x3 (1 + w) 0 f m4 _ (by omega) (by omega) hLS rfl rfl
  refine ⟨m', S', ?_, z2, by omega, z4⟩
  unfold dL_lay_50
  have g1 : gI (sI (sI (sI mem 13 0 2 (nI b)) 13 0 3 (nI c)) 13 0 4 (nI (1 + d))) 13 0 1 = nI a := hM.2.1 0 (by omega)
  have g2 : gI m1 13 0 2 = nI b := hM1.2.1 1 (by omega)
  have g3 : gI m2 13 0 3 = nI c := hM2.2.1 2 (by omega)
  have g4 : gI m3 13 0 4 = nI (1 + d) := hM3.2.1 3 (by omega)
  rw [eb, bd_ok, c2, ec', t2, show dL_mod f (x3 >>> ((11 : Int32) &&& 31)) 20 _ = _ from ed, bd_ok, e1, g1, show dW_rota f 0 (nI a) _ = _ from p1, bd_ok, if_pos (show nI (ro S00 0) = (15 : Int32) from rfl), g2, show dW_rota f 1 (nI b) m1 = _ from q1, bd_ok, if_pos (show nI (ro (setR S00 0 a) 1) = (2 : Int32) from rfl), g3, show dW_rota f 2 (nI c) m2 = _ from r1, bd_ok, if_pos (show nI (ro (setR (setR S00 0 a) 1 b) 2) = 0 from rfl), g4, show dW_rota f 3 (nI (1 + d)) m3 = _ from s1, bd_ok, if_pos (show nI (ro (setR (setR (setR S00 0 a) 1 b) 2 c) 3) = (5 : Int32) from rfl), show dL_mod f (x3 >>> ((16 : Int32) &&& 31)) 10 m4 = _ from ew, bd_ok, e1w]
  exact z1
theorem lay25 {LL f m : Nat} {xs : Nat → Int32} {mem : Mem} (hf : 2000 ≤ f) (hL : LL ≤ 260) (hm1 : 1 ≤ m) (hm : m ≤ 60) (hC : RC mem 0 S00) (h0 : ∀ j, j < 66 → gI mem 13 0 j = 0) (x3 : Int32) :
    ∃ m' S', dL_lay_25 LL xs f x3 1 1 x3 (nI m) mem = some (1, m') ∧ LaS m' S' ∧ 1 ≤ ct S' ∧ mi S' ≤ 39 := by
  obtain ⟨a, ha, ea⟩ := mod_ok (f := f) (mem := mem) x3 hm1 (by omega)
  have t1 : (1 : Int32).toNatClampNeg = 1 := by decide
  have e1 : (1 : Int32) + nI a = nI (1 + a) := nb_add 1 a
  have c1 : ∀ A : Option (Int32 × Mem), ck (1 : Int32) 66 A = A := fun A => ck_in (n := 66) (k := 1) A (by omega) (by omega)
  have hC1 : RC (sI mem 13 0 1 (nI (1 + a))) 0 S00 := RC_13 hC IV_00 (Fz_sI rfl)
  have h1 : ∀ j, j < 66 → gI (sI mem 13 0 1 (nI (1 + a))) 13 0 j = if j = 1 then nI (1 + a) else 0 := fun j hj => by
    rw [gI_sI]
    by_cases e : j = 1
    · rw [if_pos ⟨rfl, rfl, e⟩, if_pos e]
    · rw [if_neg (fun z => e z.2.2), if_neg e]
      exact h0 j hj
  unfold dL_lay_25
  rw [ea, bd_ok, c1, e1, t1]
  split
  · exact lay50 (m := 12) hf hL (by omega) (by omega) (by omega) (by omega) hC1 h1 x3 _
  · exact lay50 (m := 3) hf hL (by omega) (by omega) (by omega) (by omega) hC1 h1 x3 _
theorem lay_ok {LL f : Nat} {xs : Nat → Int32} {mem : Mem} (hf : 2000 ≤ f) (hL : LL ≤ 260) (hC : RC mem 0 S00) (h0 : ∀ j, j < 66 → gI mem 13 0 j = 0) :
    ∃ m' S', dL_lay LL xs f mem = some (1, m') ∧ LaS m' S' ∧ 1 ≤ ct S' ∧ mi S' ≤ 39 := by
  obtain ⟨v, hv⟩ := at_ok (LL := LL) (f := f) (k := 0) (xs := xs) (mem := mem) hL (by omega)
  unfold dL_lay
  rw [show dL_at LL xs f 0 mem = _ from hv, bd_ok]
  split
  · exact lay25 (m := 60) hf hL (by omega) (by omega) hC h0 v
  · exact lay25 (m := 9) hf hL (by omega) (by omega) hC h0 v
