/-! The law's four steps; the law. -/
theorem cO_0 (p : Option (Nat → Bool)) : cO p 0 = 0 := by cases p <;> rfl
section STEPS
variable {LL f r n0 : Nat} {xs : Nat → Int32} {T : PS}
theorem st220 {mem : Mem} (hf : 2000 ≤ f) (h : WS mem T T) (hT : IV T) (hm : mi T ≤ 39) (hc1 : 1 ≤ ct T) (hr : r ≤ 9) (hn1 : 1 ≤ n0) (hn : n0 ≤ 12) (k44 : K3) (v : Int32) (step : Nat) :
    ∃ m', dL_law_220 LL xs f k44 (nI (ct T)) (nI (mi T)) (nI step) v (nI r) (nI n0) (oN (fsR T r n0)) mem = k44 (nI (ct T)) (nI (mi T)) (nI (step + 1)) m' ∧ WS m' T T := by
  have hct : ct T ≤ 10 := hT.2.2.2.2.2.2.2.1
  obtain ⟨a, ha, ea⟩ := mod_fn (v >>> ((9 : Int32) &&& 31)) (m := 40) (by omega) (by omega)
  obtain ⟨w, hw, ew⟩ := mod_fn (v >>> ((14 : Int32) &&& 31)) (m := ct T) hc1 (by omega)
  have e1 : (1 : Int32) + nI a = nI (1 + a) := nb_add 1 a
  obtain ⟨N, hNd⟩ : ∃ N, N = 1 + a := ⟨_, rfl⟩
  rw [← hNd] at e1
  have hN1 : 1 ≤ N := by omega
  have hN : N ≤ 40 := by omega
  have q1 := W_quiet (f := f) hf h.1 hT hr hN1 (N := N) (by omega)
  obtain ⟨m1, w1, w2⟩ := KC_WS h hT (K_worst (f := f) hf h.1 hT hr hN1 (N := N) (by omega))
  obtain ⟨m2, c1, c2⟩ := KC_WS w2 hT (K_cover (f := f) hf w2.1 hT hr hN1 (N := N) (by omega))
  have sh := W_shift (f := f) hf c2.1 hT hr hN1 (N := N) (by omega)
  obtain ⟨m3, s1, s2⟩ := KC_WS c2 hT (K_side (f := f) hf c2.1 hT hw hr hN1 (N := N) (by omega))
  have hwo : ∀ w, woR T (nearS T r) N = some w → w < 10 := fun w hw => by have := woR_lt hT hw; omega
  have hco : ∀ b, coR T (nearS T r) N = some b → b < 1024 ∧ nearS T r &&& b = b := fun b hb => by
    obtain ⟨p1, p2, -, -⟩ := coR_p hT (nearS_lt hT r) hb
    have := nearS_lt hT r
    exact ⟨by omega, p1⟩
  obtain ⟨m4, n', z0, z1, z2⟩ := h312 (LL := LL) (xs := xs) (f := f) (r := r) (n0 := n0) (N := N) (T := T) hf hT hm hr hN hn1 hn hwo hco k44 (nI (ct T)) (nI step) v (oN (fsR T r n0)) (nI (quS T (nearS T r) (ro T 0) N)) (nI (shR T (nearS T r) N)) (nI (siR T w (nearS T r) N)) 60 0 f m3 (by omega) (by omega) s2
  rw [Nat.zero_min, cO_0, cO_0] at z1
  obtain ⟨m5, y1, y2⟩ := hour_end (LL := LL) (xs := xs) (r := r) (n0 := n0) (N := N) hf z2 hT hn1 hn hN z0 k44 (nI step) v (nI (shR T (nearS T r) N)) (nI (siR T w (nearS T r) N)) (nI (rnF (mtF T (nearS T r)) 60))
  obtain ⟨m6, x1, x2⟩ := c556 (LL := LL) (xs := xs) (r := r) (N := N) hf hT hm hr hN k44 (nI step) v (nI (shR T (nearS T r) N)) (nI (siR T w (nearS T r) N)) (ct T) 0 f m5 (by omega) (by omega) y2
  obtain ⟨m7, wd, u0, u1, u2⟩ := s651 (LL := LL) (xs := xs) hf hT hm hr hN1 hN hw k44 (nI step) v ew x2
  obtain ⟨m', t1, t2⟩ := t942 (LL := LL) (xs := xs) hf hT hm hr u0 k44 (nI (mi T)) step 16 0 f m7 (by omega) (by omega) u2
  refine ⟨m', ?_, t2⟩
  unfold dL_law_220
  rw [show dL_mod f (v >>> ((9 : Int32) &&& 31)) 40 mem = _ from ea f mem, bd_ok, e1, q1, bd_ok, w1, bd_ok, c1, bd_ok, sh, bd_ok, ew, bd_ok, s1, bd_ok]
  exact z1.trans (y1.trans (x1.trans (u1.trans t1)))
theorem st156 {mem : Mem} (hf : 2000 ≤ f) (h : WS mem T T) (hT : IV T) (hm : mi T ≤ 39) (hc1 : 1 ≤ ct T) (hr : r ≤ 9) (hn1 : 1 ≤ n0) (hn : n0 ≤ 12) (k44 : K3) (v : Int32) (step : Nat) (x11 : Int32) (o : Option Nat) (ho : (whS (fun i => fsR T i n0) 10).2 = o) (hx : ∀ p, o = some p → x11 = oN (fsR T p n0)) :
    ∃ m', dL_law_134 LL xs f k44 (nI (ct T)) (nI (mi T)) (nI step) v (nI r) (nI n0) (oN (fsR T r n0)) (oN o) x11 mem = k44 (nI (ct T)) (nI (mi T)) (nI (step + 1)) m' ∧ WS m' T T := by
  have E := st220 (LL := LL) (xs := xs) (f := f) hf h hT hm hc1 hr hn1 hn k44 v step
  have hg : ∀ i k, (fun i => fsR T i n0) i = some k → k ≤ 240 := fun i k hk => fsR_le hn1 hk
  obtain ⟨a1, a2⟩ := whS_p (fun i => fsR T i n0) hg 10
  have hno : ∀ q : Option Nat, (∀ k, q = some k → k ≤ 240) → (oN q = (-1000000004 : Int32) ↔ q = none) := fun q hq => oN_no (fun k hk => by have := hq k hk; omega)
  have hs := hno (fsR T r n0) (fun k hk => fsR_le hn1 hk)
  -- whatever safe() tells, 134 comes to 156
  have E134 : dL_law_134 LL xs f k44 (nI (ct T)) (nI (mi T)) (nI step) v (nI r) (nI n0) (oN (fsR T r n0)) (oN o) x11 mem = dL_law_156 LL xs f k44 (nI (ct T)) (nI (mi T)) (nI step) v (nI r) (nI n0) (oN (fsR T r n0)) (oN o) x11 mem := by
    unfold dL_law_134
    cases hf0 : fsR T r n0 with
    | none => rw [if_pos (show oN none = (-1000000004 : Int32) from rfl)]
    | some k =>
      have hk := fsR_le hn1 hf0
      rw [hf0] at hs
      rw [if_neg (fun z => by have := hs.mp z; cases this), if_neg (show ¬ oN (some k) < 0 from nI_pos (by omega)), if_neg (fun z => by
        have := (nb_lt (a := 240) (b := k) (by omega) (by omega)).mp z
        omega)]
  rw [E134]
  unfold dL_law_156
  cases o with
  | none =>
    obtain ⟨b1, b2⟩ := a2 ho
    have hn0 : fsR T r n0 = none := b2 r (by omega)
    rw [if_pos (show oN none = (-1000000004 : Int32) from rfl), if_pos (hs.mpr hn0)]
    exact E
  | some p =>
    obtain ⟨b1, b2, b3⟩ := a1 p ho
    have b2' : fsR T p n0 = some (whS (fun i => fsR T i n0) 10).1 := b2
    have hk0 := fsR_le hn1 b2'
    have ex := hx p rfl
    rw [b2'] at ex
    have ex' : x11 = nI (whS (fun i => fsR T i n0) 10).1 := ex
    rw [if_neg (fun z => by have := (hno (some p) (fun k hk => by cases hk; omega)).mp z; cases this), if_neg (show ¬ oN (some p) < 0 from nI_pos (by omega)), if_neg (fun z => by
      have := (nb_lt (a := 9) (b := p) (by omega) (by omega)).mp z
      omega), ex', if_neg (nI_pos (by omega))]
    cases hf0 : fsR T r n0 with
    | none =>
      rw [if_pos (show oN none = (-1000000004 : Int32) from rfl)]
      rw [hf0] at E
      exact E
    | some k =>
      have hk := fsR_le hn1 hf0
      obtain ⟨d1, d2⟩ := b3 r (by omega) k hf0
      rw [hf0] at hs E
      have k1 : ¬ oN (some k) < nI (whS (fun i => fsR T i n0) 10).1 := fun z => by
        have := (nb_lt (a := k) (by omega) (by omega)).mp z
        omega
      rw [if_neg (fun z => by have := hs.mp z; cases this), if_neg k1]
      by_cases c : nI (whS (fun i => fsR T i n0) 10).1 = oN (some k)
      · have c' : (whS (fun i => fsR T i n0) 10).1 = k := (nb_inj (by omega) (by omega)).mp c
        have := d2 c'.symm
        rw [if_pos c, if_neg (fun z => by
          have := (nb_lt (a := r) (b := p) (by omega) (by omega)).mp z
          omega)]
        exact E
      · rw [if_neg c]
        exact E
theorem st78 {m : Nat} {mem : Mem} (hf : 2000 ≤ f) (h : WS mem T T) (hT : IV T) (hm : mi T ≤ 39) (hc1 : 1 ≤ ct T) (hm1 : 1 ≤ m) (hm10 : m ≤ 10) (k44 : K3) (v : Int32) (step : Nat) :
    ∃ m', dL_law_78 LL xs f k44 (nI (ct T)) (nI (mi T)) (nI step) v v (nI m) mem = k44 (nI (ct T)) (nI (mi T)) (nI (step + 1)) m' ∧ WS m' T T := by
  obtain ⟨r, hr, er⟩ := mod_fn v (m := m) hm1 (by omega)
  obtain ⟨a, ha, ea⟩ := mod_fn (v >>> ((5 : Int32) &&& 31)) (m := 12) (by omega) (by omega)
  have e1 : (1 : Int32) + nI a = nI (1 + a) := nb_add 1 a
  obtain ⟨m1, s1, s2⟩ := KC_WS h hT (K_safe (f := f) (r := r) (N := 1 + a) hf h.1 hT (by omega) (by omega) (by omega))
  obtain ⟨m2, w1, w2⟩ := KC_WS s2 hT (K_where (f := f) (N := 1 + a) hf s2.1 hT (by omega) (by omega))
  unfold dL_law_78
  rw [er, bd_ok, show dL_mod f (v >>> ((5 : Int32) &&& 31)) 12 mem = _ from ea f mem, bd_ok, e1, s1, bd_ok, w1, bd_ok]
  have hb := (whS_b (fun r => fsR T r (1 + a)) 10).2
  cases ho : (whS (fun r => fsR T r (1 + a)) 10).2 with
  | none =>
    rw [if_pos (show oN none = (-1000000004 : Int32) from rfl)]
    exact st156 (r := r) (n0 := 1 + a) hf w2 hT hm hc1 (by omega) (by omega) (by omega) k44 v step _ none ho (fun p hp => by cases hp)
  | some p =>
    have hp := hb p ho
    obtain ⟨m3, t1, t2⟩ := KC_WS w2 hT (K_safe (f := f) (r := p) (N := 1 + a) hf w2.1 hT (by omega) (by omega) (by omega))
    have np : ¬ oN (some p) = (-1000000004 : Int32) := fun z => by
      have := (oN_no (o := some p) (fun k hk => by cases hk; omega)).mp z
      cases this
    rw [if_neg np, show dW_safe f (oN (some p)) (nI (1 + a)) m2 = _ from t1, bd_ok]
    exact st156 (r := r) (n0 := 1 + a) hf t2 hT hm hc1 (by omega) (by omega) (by omega) k44 v step _ (some p) ho (fun q hq => by cases hq; rfl)
theorem st44 (hf : 2000 ≤ f) (hL : LL ≤ 260) (hT : IV T) (hm : mi T ≤ 39) (hc1 : 1 ≤ ct T) : ∀ (d i n : Nat) (mem : Mem), i + d = 4 → d < n → WS mem T T →
    ∃ m', dL_law_44 LL xs f n (nI (ct T)) (nI (mi T)) (nI i) mem = some (1, m')
  | 0, i, n, mem, e, hn, h => by
    obtain ⟨n, rfl⟩ : ∃ k, n = k + 1 := ⟨n - 1, by omega⟩
    have e' : i = 4 := by omega
    subst e'
    rw [dL_law_44, if_neg (show ¬ nI 4 < (4 : Int32) by decide)]
    exact ⟨mem, rfl⟩
  | d + 1, i, n, mem, e, hn, h => by
    obtain ⟨n, rfl⟩ : ∃ k, n = k + 1 := ⟨n - 1, by omega⟩
    have e6 : (6 : Int32) + nI i = nI (6 + i) := nb_add 6 i
    obtain ⟨v, hv⟩ := at_ok (LL := LL) (f := f) (k := 6 + i) (xs := xs) (mem := mem) hL (by omega)
    rw [dL_law_44, if_pos (show nI i < (4 : Int32) from lt_n (c := 4) (by omega) (by omega)), e6, hv, bd_ok]
    have fin : ∀ m, 1 ≤ m → m ≤ 10 → ∃ m', dL_law_78 LL xs f (fun x3_ x4_ x5_ mem_ => dL_law_44 LL xs f n x3_ x4_ x5_ mem_) (nI (ct T)) (nI (mi T)) (nI i) v v (nI m) mem = some (1, m') := by
      intro m h1 h2
      obtain ⟨m1, q1, q2⟩ := st78 (LL := LL) (xs := xs) (f := f) (m := m) hf h hT hm hc1 h1 h2 (fun x3_ x4_ x5_ mem_ => dL_law_44 LL xs f n x3_ x4_ x5_ mem_) v i
      obtain ⟨m', z⟩ := st44 hf hL hT hm hc1 d (i + 1) n m1 (by omega) (by omega) q2
      exact ⟨m', q1.trans z⟩
    split
    · exact fin 3 (by omega) (by omega)
    · exact fin 10 (by omega) (by omega)
end STEPS
/-- THE LAW answers 1 -/
theorem law_ok {LL f : Nat} {xs : Nat → Int32} {mem : Mem} (hf : 2000 ≤ f) (hL : LL ≤ 260) (hC : RC mem 0 S00) (h0 : ∀ j, j < 66 → gI mem 13 0 j = 0) : ∃ m', dL_law_13 LL xs f mem = some (1, m') := by
  obtain ⟨m1, T, l1, ⟨l2, l3, hT⟩, hc1, hm⟩ := lay_ok (LL := LL) (f := f) (xs := xs) hf hL hC h0
  obtain ⟨m2, i1, i2⟩ := K_image (f := f) hf l2 hT l3
  obtain ⟨m', z⟩ := st44 (LL := LL) (xs := xs) hf hL hT hm hc1 4 0 f m2 (by omega) (by omega) i2
  refine ⟨m', ?_⟩
  unfold dL_law_13
  rw [l1, bd_ok, if_neg (by decide), i1, bd_ok, if_pos rfl, i2.2.2.2.2.2.1, i2.2.2.2.1]
  exact z
