/-! The SHIFT, the SIDE in which a room is unheard in fewest. -/
theorem shR_p (T : PS) (near N : Nat) : 1 ≤ shR T near N ∧ shR T near N ≤ 60 ∧ ∀ v, 1 ≤ v → v ≤ 60 → quS T near (shR T near N) N ≤ quS T near v N ∧ (quS T near v N = quS T near (shR T near N) N → shR T near N ≤ v) := by
  obtain ⟨⟨i, h1, h2, h3⟩, h4⟩ := amS_p (fun v => quS T near v N) 1 (F0 := N + 1) 1 (fun x => by have := quS_le T near x N; show quS T near x N < N + 1; omega) 59
  have e : shR T near N = 1 + i := h2
  have e3 : quS T near (1 + i) N = (amS (fun v => quS T near v N) 1 (N + 1) 1 60).1 := h3
  refine ⟨by omega, by omega, fun v hv1 hv => ?_⟩
  obtain ⟨g1, g2⟩ := h4 (v - 1) (by omega)
  rw [show 1 + (v - 1) = v by omega] at g1 g2
  have g1' : (amS (fun v => quS T near v N) 1 (N + 1) 1 60).1 ≤ quS T near v N := g1
  have g2' : quS T near v N = (amS (fun v => quS T near v N) 1 (N + 1) 1 60).1 → shR T near N ≤ v := g2
  rw [e, e3]
  refine ⟨g1', fun z => ?_⟩
  have := g2' z
  omega
theorem siR_p (T : PS) (w near N : Nat) : siR T w near N ≤ 3 ∧ ∀ v, v ≤ 3 → quS (setW T w 3 (siR T w near N)) near (ro T 0) N ≤ quS (setW T w 3 v) near (ro T 0) N ∧ (quS (setW T w 3 v) near (ro T 0) N = quS (setW T w 3 (siR T w near N)) near (ro T 0) N → siR T w near N ≤ v) := by
  obtain ⟨⟨i, h1, h2, h3⟩, h4⟩ := amS_p (fun v => quS (setW T w 3 v) near (ro T 0) N) 0 (F0 := N + 1) 0 (fun x => by have := quS_le (setW T w 3 x) near (ro T 0) N; show quS (setW T w 3 x) near (ro T 0) N < N + 1; omega) 3
  rw [Nat.zero_add] at h2 h3
  have e : siR T w near N = i := h2
  have e3 : quS (setW T w 3 i) near (ro T 0) N = (amS (fun v => quS (setW T w 3 v) near (ro T 0) N) 0 (N + 1) 0 4).1 := h3
  refine ⟨by omega, fun v hv => ?_⟩
  obtain ⟨g1, g2⟩ := h4 v (by omega)
  rw [Nat.zero_add] at g1 g2
  have g1' : (amS (fun v => quS (setW T w 3 v) near (ro T 0) N) 0 (N + 1) 0 4).1 ≤ quS (setW T w 3 v) near (ro T 0) N := g1
  have g2' : quS (setW T w 3 v) near (ro T 0) N = (amS (fun v => quS (setW T w 3 v) near (ro T 0) N) 0 (N + 1) 0 4).1 → siR T w near N ≤ v := g2
  rw [e, e3]
  refine ⟨g1', fun z => ?_⟩
  have := g2' z
  omega
theorem beR_p {T : PS} (hT : IV T) (hm : mi T ≤ 39) (words : Nat) : beR T words ≤ 9 ∧ ∀ v, v ≤ 9 → spkH T (nearS T (beR T words)) words 16 ≤ spkH T (nearS T v) words 16 ∧ (spkH T (nearS T v) words 16 = spkH T (nearS T (beR T words)) words 16 → beR T words ≤ v) := by
  obtain ⟨⟨i, h1, h2, h3⟩, h4⟩ := amS_p (fun r => spkH T (nearS T r) words 16) 0 (F0 := 161) 0 (fun x => by have := spkH_le hT (nearS T x) words (by omega) 16 (by omega); show spkH T (nearS T x) words 16 < 161; omega) 9
  rw [Nat.zero_add] at h2 h3
  have e : beR T words = i := h2
  have e3 : spkH T (nearS T i) words 16 = (amS (fun r => spkH T (nearS T r) words 16) 0 161 0 10).1 := h3
  refine ⟨by omega, fun v hv => ?_⟩
  obtain ⟨g1, g2⟩ := h4 v (by omega)
  rw [Nat.zero_add] at g1 g2
  have g1' : (amS (fun r => spkH T (nearS T r) words 16) 0 161 0 10).1 ≤ spkH T (nearS T v) words 16 := g1
  have g2' : spkH T (nearS T v) words 16 = (amS (fun r => spkH T (nearS T r) words 16) 0 161 0 10).1 → beR T words ≤ v := g2
  rw [e, e3]
  refine ⟨g1', fun z => ?_⟩
  have := g2' z
  omega
section FEWEST
variable {LL f r N w : Nat} {xs : Nat → Int32} {T : PS}
theorem okR0 {u : Nat} (h1 : 1 ≤ u) (h : u ≤ 60) : okR 0 u := Or.inl ⟨rfl, h1, h⟩
theorem q_setR {u : Nat} {mem : Mem} (hf : 2000 ≤ f) (h : WS mem (setR T 0 u) T) (hT : IV T) (hr : r ≤ 9) (hN1 : 1 ≤ N) (hN : N ≤ 40) (h1 : 1 ≤ u) (hu : u ≤ 60) : dW_quiet f (nI r) (nI N) mem = some (nI (quS T (nearS T r) u N), mem) := by
  have Q := W_quiet (f := f) hf h.1 (IV_setR hT (okR0 h1 hu)) hr hN1 (N := N) (by omega)
  rw [nearS_setR, quS_setR] at Q
  exact Q
theorem rota_go {u v : Nat} {mem : Mem} (h : WS mem (setR T 0 u) T) (hT : IV T) (h1 : 1 ≤ v) (hv : v ≤ 60) : ∃ m, dW_rota f 0 (nI v) mem = some (nI u, m) ∧ WS m (setR T 0 v) T := by
  obtain ⟨m, k1, k2⟩ := KC_WS h hT (K_rota (f := f) h.1 (okR0 h1 hv))
  rw [setR_setR] at k2
  exact ⟨m, k1, k2⟩
theorem q_setW {v : Nat} {mem : Mem} (hf : 2000 ≤ f) (h : WS mem (setW T w 3 v) T) (hT : IV T) (hr : r ≤ 9) (hN1 : 1 ≤ N) (hN : N ≤ 40) (hv : v ≤ 3) : dW_quiet f (nI r) (nI N) mem = some (nI (quS (setW T w 3 v) (nearS T r) (ro T 0) N), mem) := by
  have Q := W_quiet (f := f) hf h.1 (IV_setW hT (w := w) (okW3 hv)) hr hN1 (N := N) (by omega)
  rw [nearS_side] at Q
  exact Q
theorem side_go {u v : Nat} {mem : Mem} (h : WS mem (setW T w 3 u) T) (hT : IV T) (hw : w < ct T) (hu : u ≤ 3) (hv : v ≤ 3) : ∃ m, dW_set f (nI w) 3 (nI v) mem = some (nI u, m) ∧ WS m (setW T w 3 v) T := by
  obtain ⟨m, k1, k2⟩ := KC_WS h hT (K_set (f := f) (w := w) (k := 3) h.1 (IV_setW hT (w := w) (okW3 hu)) hw (by omega) (okW3 hv))
  rw [setW_setW] at k2
  have e : wa (setW T w 3 u) w 3 = u := if_pos ⟨rfl, rfl⟩
  rw [e] at k1
  exact ⟨m, k1, k2⟩
theorem s834 (hf : 2000 ≤ f) (hT : IV T) (hm : mi T ≤ 39) (hr : r ≤ 9) (hN1 : 1 ≤ N) (hN : N ≤ 40) (hw : w < ct T) (k44 : K3) (x5 x6 : Int32) : ∀ (d i n u : Nat) (mem : Mem), i + d = 4 → d < n → u ≤ 3 → WS mem (setW T w 3 u) T →
    ∃ m' wd, wd < 65536 ∧ dL_law_834 LL xs f k44 n (nI (ct T)) (nI (mi T)) x5 x6 (nI r) (nI N) (nI (siR T w (nearS T r) N)) (nI (quS (setW T w 3 (siR T w (nearS T r) N)) (nearS T r) (ro T 0) N)) (nI w) (nI i) mem = dL_law_942 LL xs f k44 f (nI (ct T)) (nI (mi T)) x5 (nI r) (nI wd) (nI (spkL T (nearS T r) wd 16)) (nI (beR T wd)) 0 0 0 m' ∧ WS m' T T
  | 0, i, n, u, mem, e, hn, hu, h => by
    obtain ⟨n, rfl⟩ : ∃ k, n = k + 1 := ⟨n - 1, by omega⟩
    have e' : i = 4 := by omega
    subst e'
    obtain ⟨m1, u1, u2⟩ := K_undo (f := f) hf h hT
    obtain ⟨wd, hwd, ewd⟩ := mod_fn (x6 * (29 : Int32)) (m := 65536) (by omega) (by omega)
    obtain ⟨m2, l1, l2⟩ := KC_WS u2 hT (K_lost (f := f) (r := r) (k := wd) hf u2.1 hT (by omega) hr hwd)
    obtain ⟨m3, b1, b2⟩ := KC_WS l2 hT (K_best (f := f) (k := wd) hf l2.1 hT (by omega) hwd)
    refine ⟨m3, wd, hwd, ?_, b2⟩
    rw [dL_law_834, if_neg (show ¬ nI 4 < (4 : Int32) by decide), u1, bd_ok, if_pos rfl, show dL_mod f (x6 * (29 : Int32)) 65536 m1 = _ from ewd f m1, bd_ok, l1, bd_ok, b1, bd_ok]
  | d + 1, i, n, u, mem, e, hn, hu, h => by
    obtain ⟨n, rfl⟩ : ∃ k, n = k + 1 := ⟨n - 1, by omega⟩
    obtain ⟨m1, s1, s2⟩ := side_go (f := f) h hT hw hu (v := i) (by omega)
    obtain ⟨g0, g⟩ := siR_p T w (nearS T r) N
    obtain ⟨g1, g2⟩ := g i (by omega)
    have hq1 := quS_le (setW T w 3 i) (nearS T r) (ro T 0) N
    have hq2 := quS_le (setW T w 3 (siR T w (nearS T r) N)) (nearS T r) (ro T 0) N
    have ih := s834 hf hT hm hr hN1 hN hw k44 x5 x6 d (i + 1) n i m1 (by omega) (by omega) (by omega) s2
    rw [dL_law_834, if_pos (show nI i < (4 : Int32) from lt_n (c := 4) (by omega) (by omega)), s1, bd_ok, if_neg (nI_pos (by omega)), q_setW hf s2 hT hr hN1 hN (by omega), bd_ok, if_neg (by rw [nb_lt (by omega) (by omega)]; omega), add1]
    have kk : nI i < nI (siR T w (nearS T r) N) ↔ i < siR T w (nearS T r) N := nb_lt (by omega) (by omega)
    by_cases c : i < siR T w (nearS T r) N
    · rw [if_pos (kk.mpr c), if_neg (fun z => by have := g2 ((nb_inj (by omega) (by omega)).mp z); omega)]
      exact ih
    · rw [if_neg (fun z => c (kk.mp z))]
      exact ih
theorem s692 (hf : 2000 ≤ f) (hT : IV T) (hm : mi T ≤ 39) (hr : r ≤ 9) (hN1 : 1 ≤ N) (hN : N ≤ 40) (hw : w < ct T) (k44 : K3) (x5 x6 : Int32) (hwm : ∀ (f : Nat) (mem : Mem), dL_mod f (x6 >>> ((14 : Int32) &&& 31)) (nI (ct T)) mem = some (nI w, mem)) : ∀ (d i n u : Nat) (mem : Mem), i + d = 6 → d < n → 1 ≤ u → u ≤ 60 → WS mem (setR T 0 u) T →
    ∃ m' wd, wd < 65536 ∧ dL_law_692 LL xs f k44 n (nI (ct T)) (nI (mi T)) x5 x6 (nI r) (nI N) (nI (shR T (nearS T r) N)) (nI (siR T w (nearS T r) N)) (nI (quS T (nearS T r) (shR T (nearS T r) N) N)) (nI i) mem = dL_law_942 LL xs f k44 f (nI (ct T)) (nI (mi T)) x5 (nI r) (nI wd) (nI (spkL T (nearS T r) wd 16)) (nI (beR T wd)) 0 0 0 m' ∧ WS m' T T
  | 0, i, n, u, mem, e, hn, hu1, hu, h => by
    obtain ⟨n, rfl⟩ : ∃ k, n = k + 1 := ⟨n - 1, by omega⟩
    have e' : i = 6 := by omega
    subst e'
    have hct : ct T ≤ 10 := hT.2.2.2.2.2.2.2.1
    obtain ⟨v0, v1, v2, v3, v4, v5⟩ := hT.2.2.2.2.2.2.2.2 w hw
    obtain ⟨m1, u1, u2⟩ := K_undo (f := f) hf h hT
    obtain ⟨g0, g⟩ := siR_p T w (nearS T r) N
    obtain ⟨m2, s1, s2⟩ := side_go (f := f) (w := w) (u := wa T w 3) (v := siR T w (nearS T r) N) (by rw [setW_id]; exact u2) hT hw v3 g0
    have k3 : ¬ (3 : Int32) < nI (siR T w (nearS T r) N) := fun z => by
      have := (nb_lt (a := 3) (by omega) (by omega)).mp z
      omega
    obtain ⟨m', wd, q0, q1, q2⟩ := s834 (LL := LL) (xs := xs) hf hT hm hr hN1 hN hw k44 x5 x6 4 0 f _ m2 (by omega) (by omega) g0 s2
    refine ⟨m', wd, q0, ?_, q2⟩
    rw [dL_law_692, if_neg (show ¬ nI 6 < (6 : Int32) by decide), hwm, bd_ok, u1, bd_ok, if_pos rfl, if_neg (nI_pos (by omega)), if_neg k3, s1, bd_ok, a9, ck_in _ (by omega) (by omega), nI_clamp (by omega), r_9 s2.2.2.2 hw, if_pos rfl, q_setW hf s2 hT hr hN1 hN g0, bd_ok]
    exact q1
  | d + 1, i, n, u, mem, e, hn, hu1, hu, h => by
    obtain ⟨n, rfl⟩ : ∃ k, n = k + 1 := ⟨n - 1, by omega⟩
    obtain ⟨a, ha, ea⟩ := mod_fn (x6 >>> (((3 : Int32) * nI i) &&& 31)) (m := 60) (by omega) (by omega)
    have e1 : (1 : Int32) + nI a = nI (1 + a) := nb_add 1 a
    obtain ⟨m1, s1, s2⟩ := rota_go (f := f) h hT (v := 1 + a) (by omega) (by omega)
    obtain ⟨g0, g0', g⟩ := shR_p T (nearS T r) N
    obtain ⟨g1, g2⟩ := g (1 + a) (by omega) (by omega)
    have hq1 := quS_le T (nearS T r) (1 + a) N
    have hq2 := quS_le T (nearS T r) (shR T (nearS T r) N) N
    have ih := s692 hf hT hm hr hN1 hN hw k44 x5 x6 hwm d (i + 1) n (1 + a) m1 (by omega) (by omega) (by omega) (by omega) s2
    have k1 : ¬ nI u < (1 : Int32) := fun z => by
      have := (nb_lt (b := 1) (by omega) (by omega)).mp z
      omega
    rw [dL_law_692, if_pos (show nI i < (6 : Int32) from lt_n (c := 6) (by omega) (by omega)), show dL_mod f (x6 >>> (((3 : Int32) * nI i) &&& 31)) 60 mem = _ from ea f mem, bd_ok, e1, s1, bd_ok, if_neg k1, q_setR hf s2 hT hr hN1 hN (by omega) (by omega), bd_ok, if_neg (by rw [nb_lt (by omega) (by omega)]; omega), add1]
    have kk : nI (1 + a) < nI (shR T (nearS T r) N) ↔ 1 + a < shR T (nearS T r) N := nb_lt (by omega) (by omega)
    by_cases c : 1 + a < shR T (nearS T r) N
    · rw [if_pos (kk.mpr c), if_neg (fun z => by have := g2 ((nb_inj (by omega) (by omega)).mp z); omega)]
      exact ih
    · rw [if_neg (fun z => c (kk.mp z))]
      exact ih
theorem s651 {mem : Mem} (hf : 2000 ≤ f) (hT : IV T) (hm : mi T ≤ 39) (hr : r ≤ 9) (hN1 : 1 ≤ N) (hN : N ≤ 40) (hw : w < ct T) (k44 : K3) (x5 x6 : Int32) (hwm : ∀ (f : Nat) (mem : Mem), dL_mod f (x6 >>> ((14 : Int32) &&& 31)) (nI (ct T)) mem = some (nI w, mem)) (h : WS mem T T) :
    ∃ m' wd, wd < 65536 ∧ dL_law_651 LL xs f k44 (nI (ct T)) (nI (mi T)) x5 x6 (nI r) (nI N) (nI (shR T (nearS T r) N)) (nI (siR T w (nearS T r) N)) mem = dL_law_942 LL xs f k44 f (nI (ct T)) (nI (mi T)) x5 (nI r) (nI wd) (nI (spkL T (nearS T r) wd 16)) (nI (beR T wd)) 0 0 0 m' ∧ WS m' T T := by
  obtain ⟨g0, g0', g⟩ := shR_p T (nearS T r) N
  obtain ⟨m1, s1, s2⟩ := rota_go (f := f) (u := ro T 0) (v := shR T (nearS T r) N) (by rw [setR_id]; exact h) hT g0 g0'
  have k1 : ¬ nI (shR T (nearS T r) N) < (1 : Int32) := fun z => by
    have := (nb_lt (b := 1) (by omega) (by omega)).mp z
    omega
  have k60 : ¬ (60 : Int32) < nI (shR T (nearS T r) N) := fun z => by
    have := (nb_lt (a := 60) (by omega) (by omega)).mp z
    omega
  have e1 : gI m1 13 0 1 = nI (ro T 0) := s2.2.2.2.2.1 0 (by omega)
  obtain ⟨m', wd, q0, q1, q2⟩ := s692 (LL := LL) (xs := xs) hf hT hm hr hN1 hN hw k44 x5 x6 hwm 6 0 f _ m1 (by omega) (by omega) g0 g0' s2
  refine ⟨m', wd, q0, ?_, q2⟩
  unfold dL_law_651
  rw [if_neg k1, if_neg k60, s1, bd_ok, e1, if_pos rfl, q_setR hf s2 hT hr hN1 hN g0 g0', bd_ok]
  exact q1
end FEWEST
