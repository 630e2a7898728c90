/-! Behind the hour; a cover with one left out. -/
abbrev K10 : Type := Int32 → Int32 → Int32 → Int32 → Int32 → Int32 → Int32 → Int32 → Int32 → Int32 → Mem → Option (Int32 × Mem)
section COVER
variable {LL f r n0 N : Nat} {xs : Nat → Int32} {T : PS}
theorem e533 {S : PS} {mem : Mem} (hf : 2000 ≤ f) (h : WS mem S T) (hT : IV T) (k44 : K3) (x5 x6 x7 x12 x15 x16 x17 : Int32) :
    ∃ m', dL_law_533 LL xs f k44 (nI (ct T)) (nI (mi T)) x5 x6 x7 x12 x15 x16 x17 mem = dL_law_556 LL xs f k44 f (nI (ct T)) (nI (mi T)) x5 x6 x7 x12 x15 x16 x17 0 m' ∧ WS m' T T := by
  obtain ⟨m1, u1, u2⟩ := K_undo (f := f) hf h hT
  refine ⟨m1, ?_, u2⟩
  unfold dL_law_533
  rw [u1, bd_ok, if_pos rfl, W_now0 u2.1, bd_ok, if_pos rfl]
theorem fsR_lt' {k : Nat} (hn1 : 1 ≤ n0) : fsR T r n0 = some k → k < 2 ^ 31 := fun h => by
  have := fsR_le hn1 h
  omega
theorem e496 {S : PS} {mem : Mem} (hf : 2000 ≤ f) (h : WS mem S T) (hT : IV T) (hn1 : 1 ≤ n0) (hn : n0 ≤ 12) (k44 : K3) (x5 x6 x12 x15 x16 x17 s0 : Int32) :
    ∃ m', dL_law_496 LL xs f k44 (nI (ct T)) (nI (mi T)) x5 x6 (nI r) (nI n0) (oN (fsR T r n0)) x12 x15 x16 x17 (oN (ffF (mtF T (nearS T r)) n0 60)) s0 s0 mem = dL_law_556 LL xs f k44 f (nI (ct T)) (nI (mi T)) x5 x6 (nI r) x12 x15 x16 x17 0 m' ∧ WS m' T T := by
  obtain ⟨a1, a2, a3⟩ := safe_first (S := T) (room := r) hn1 (mtF T (nearS T r)) rfl
  have E := e533 (LL := LL) (xs := xs) (f := f) hf h hT k44 x5 x6 (nI r) x12 x15 x16 x17
  have E526 : dL_law_526 LL xs f k44 (nI (ct T)) (nI (mi T)) x5 x6 (nI r) x12 x15 x16 x17 (oN none) mem = dL_law_533 LL xs f k44 (nI (ct T)) (nI (mi T)) x5 x6 (nI r) x12 x15 x16 x17 mem := by
    unfold dL_law_526
    rw [if_pos (show oN none = (-1000000004 : Int32) from rfl)]
  unfold dL_law_496
  rw [if_pos rfl]
  cases hs : fsR T r n0 with
  | none => 
    rw [if_pos (show oN none = (-1000000004 : Int32) from rfl), a3 hs, E526]
    exact E
  | some k =>
    have hk := fsR_le hn1 hs
    have ne : ¬ oN (some k) = (-1000000004 : Int32) := fun z => by
      have := (oN_no (o := some k) (fun q hq => by cases hq; omega)).mp z
      cases this
    have kk : (60 : Int32) < oN (some k) + nI n0 ↔ 60 < k + n0 := by
      show (60 : Int32) < nI k + nI n0 ↔ _
      rw [nb_add]
      exact nb_lt (a := 60) (by omega) (by omega)
    rw [if_neg ne]
    by_cases c : 60 < k + n0
    · rw [if_pos (kk.mpr c), a2 k hs c, E526]
      exact E
    · rw [if_neg (fun z => c (kk.mp z)), a1 k hs (by omega), if_pos rfl]
      exact E
/-- the answers, at T, of the step's calls -/
def woR (T : PS) (near N : Nat) : Option Nat := (woS (fun i => alS T near i N) (ct T)).2
theorem woR_lt (hT : IV T) {near w : Nat} (h : woR T near N = some w) : w < ct T := (woS_p _ _ _ h).1
theorem hour_end {mem : Mem} {n' : Nat} (hf : 2000 ≤ f) (h : WS mem (itM T 60) T) (hT : IV T) (hn1 : 1 ≤ n0) (hn : n0 ≤ 12) (hN : N ≤ 40) (hn' : 0 < n') (k44 : K3) (x5 x6 x16 x17 x21 : Int32) :
    ∃ m', dL_law_312 LL xs f k44 n' (nI (ct T)) (nI (mi T)) x5 x6 (nI r) (nI n0) (oN (fsR T r n0)) (nI N) (nI (quS T (nearS T r) (ro T 0) N)) (oN (woR T (nearS T r) N)) (oN (coR T (nearS T r) N)) x16 x17 (nI (cntB (mtF T (nearS T r)) N)) (nI (cO ((woR T (nearS T r) N).map (fun w => mtF T (nearS T r &&& (1023 ^^^ 2 ^ w)))) N)) (nI (cO ((coR T (nearS T r) N).map (fun b => mtF T b)) N)) x21 (oN (ffF (mtF T (nearS T r)) n0 60)) (nI 60) mem =
      dL_law_556 LL xs f k44 f (nI (ct T)) (nI (mi T)) x5 x6 (nI r) (nI N) (oN (coR T (nearS T r) N)) x16 x17 0 m' ∧ WS m' T T := by
  have hct : ct T ≤ 10 := hT.2.2.2.2.2.2.2.1
  obtain ⟨n, rfl⟩ : ∃ k, n' = k + 1 := ⟨n' - 1, by omega⟩
  have hq := quS_le T (nearS T r) (ro T 0) N
  have eq : cntB (mtF T (nearS T r)) N = quS T (nearS T r) (ro T 0) N := rfl
  rw [dL_law_312, if_neg (show ¬ nI 60 < (60 : Int32) by decide), eq, if_pos rfl]
  have E469 : ∃ m', dL_law_469 LL xs f k44 (nI (ct T)) (nI (mi T)) x5 x6 (nI r) (nI n0) (oN (fsR T r n0)) (nI N) (oN (coR T (nearS T r) N)) x16 x17 (nI (quS T (nearS T r) (ro T 0) N)) (nI (cO ((coR T (nearS T r) N).map (fun b => mtF T b)) N)) (oN (ffF (mtF T (nearS T r)) n0 60)) mem = dL_law_556 LL xs f k44 f (nI (ct T)) (nI (mi T)) x5 x6 (nI r) (nI N) (oN (coR T (nearS T r) N)) x16 x17 0 m' ∧ WS m' T T := by
    have kp : (0 : Int32) < nI (quS T (nearS T r) (ro T 0) N) ↔ 0 < quS T (nearS T r) (ro T 0) N := nb_lt (a := 0) (by omega) (by omega)
    unfold dL_law_469
    cases hc : coR T (nearS T r) N with
    | none =>
      have hne : ¬ quS T (nearS T r) (ro T 0) N = 0 := fun z => by
        unfold coR covB at hc
        rw [if_pos (decide_eq_true z)] at hc
        cases hc
      rw [if_pos (show nI (cO (Option.map (fun b => mtF T b) none) N) = 0 from rfl), if_pos (show oN none = (-1000000004 : Int32) from rfl)]
      unfold dL_law_486
      rw [if_pos (kp.mpr (by omega))]
      exact e496 hf h hT hn1 hn k44 x5 x6 _ _ x16 x17 1
    | some b =>
      obtain ⟨s1, s2, s3, s4⟩ := coR_p hT (nearS_lt hT r) hc
      have hz : quS T (nearS T r) (ro T 0) N = 0 := by
        unfold coR at hc
        by_cases z : covB T (nearS T r) N = true
        · exact of_decide_eq_true z
        · rw [if_neg z] at hc
          cases hc
      have hb0 : cO (Option.map (fun b => mtF T b) (some b)) N = 0 := of_decide_eq_true s3
      have ne : ¬ oN (some b) = (-1000000004 : Int32) := fun z => by
        have := nearS_lt hT r
        have := (oN_no (o := some b) (fun q hq => by cases hq; omega)).mp z
        cases this
      rw [hb0, if_pos (show nI 0 = 0 from rfl), if_neg ne]
      unfold dL_law_486
      rw [if_neg (fun z => by have := kp.mp z; omega)]
      exact e496 hf h hT hn1 hn k44 x5 x6 _ _ x16 x17 0
  cases hw : woR T (nearS T r) N with
  | none =>
    rw [if_pos (show oN none < 0 by decide)]
    exact E469
  | some w =>
    obtain ⟨p1, p2, p3⟩ := woS_p _ _ _ hw
    have hal := alone_sum hT (nearS T r) w N (by omega)
    have hq2 := quS_le T (nearS T r &&& (1023 ^^^ 2 ^ w)) (ro T 0) N
    have p2' : alS T (nearS T r) w N = _ := p2
    have lt : nI (quS T (nearS T r) (ro T 0) N) < nI (cO (Option.map (fun w => mtF T (nearS T r &&& (1023 ^^^ 2 ^ w))) (some w)) N) := by
      show nI (quS T (nearS T r) (ro T 0) N) < nI (quS T (nearS T r &&& (1023 ^^^ 2 ^ w)) (ro T 0) N)
      rw [nb_lt (by omega) (by omega), hal]
      omega
    rw [if_neg (show ¬ oN (some w) < 0 from nI_pos (by omega)), if_pos lt]
    exact E469
theorem near_wout {near b w : Nat} (h : near &&& b = b) : near &&& wout b w = wout b w := by
  unfold wout
  rw [← Nat.and_assoc, h]
theorem c586 {b w : Nat} (hf : 2000 ≤ f) (hT : IV T) (hm : mi T ≤ 39) (hr : r ≤ 9) (hN : N ≤ 40) (hc : coR T (nearS T r) N = some b) (hw : w < ct T) (hbit : b.testBit w = true) (k44 : K3) (k556 : K10) (x5 x6 x16 x17 : Int32) : ∀ (d k n : Nat) (mem : Mem), k + d = N → d < n → WS mem (itM T k) T →
    ∃ m', dL_law_586 LL xs f k44 k556 n (nI (ct T)) (nI (mi T)) x5 x6 (nI r) (nI N) (nI b) x16 x17 (nI w) (nI (cntB (mtF T (wout b w)) k)) (nI k) mem = k556 (nI (ct T)) (nI (mi T)) x5 x6 (nI r) (nI N) (nI b) x16 x17 (nI (w + 1)) m' ∧ WS m' T T
  | 0, k, n, mem, e, hn, h => by
    obtain ⟨n, rfl⟩ : ∃ k, n = k + 1 := ⟨n - 1, by omega⟩
    have hct : ct T ≤ 10 := hT.2.2.2.2.2.2.2.1
    have e' : k = N := by omega
    subst e'
    obtain ⟨s1, s2, s3, s4⟩ := coR_p hT (nearS_lt hT r) hc
    have h4 := s4 w (by omega) hbit
    have hne : ¬ cntB (mtF T (wout b w)) k = 0 := of_decide_eq_false h4
    have hle := cntB_le (mtF T (wout b w)) k
    obtain ⟨m1, u1, u2⟩ := K_undo (f := f) hf h hT
    rw [dL_law_586, if_neg (nlt_n (by omega)), if_neg (by rw [nb_zero (by omega)]; exact hne), u1, bd_ok, if_pos rfl, add1]
    exact ⟨m1, rfl, u2⟩
  | d + 1, k, n, mem, e, hn, h => by
    obtain ⟨n, rfl⟩ : ∃ k, n = k + 1 := ⟨n - 1, by omega⟩
    have hct : ct T ≤ 10 := hT.2.2.2.2.2.2.2.1
    obtain ⟨s1, s2, s3, s4⟩ := coR_p hT (nearS_lt hT r) hc
    have hnl := nearS_lt hT r
    have hwl := wout_le b w
    have U := un_it (walls := wout b w) hf h hT hm (by omega) hr (by omega)
    rw [near_wout s1] at U
    obtain ⟨m1, p1, p2⟩ := pass_it hf h hT hm (by omega)
    have e614 : ∀ (K : Int32 → Int32 → Int32 → Int32 → Int32 → Int32 → Int32 → Int32 → Int32 → Int32 → Int32 → Int32 → Mem → Option (Int32 × Mem)) (x24 : Int32), dL_law_614 LL xs f k44 k556 K (nI (ct T)) (nI (mi T)) x5 x6 (nI r) (nI N) (nI b) x16 x17 (nI w) x24 (nI k) mem = K (nI (ct T)) (nI (mi T)) x5 x6 (nI r) (nI N) (nI b) x16 x17 (nI w) x24 (nI (k + 1)) m1 := by
      intro K x24
      unfold dL_law_614
      rw [p1, bd_ok, if_neg (nI_pos (by omega)), add1]
    obtain ⟨m', q1, q2⟩ := c586 hf hT hm hr hN hc hw hbit k44 k556 x5 x6 x16 x17 d (k + 1) n m1 (by omega) (by omega) p2
    refine ⟨m', ?_, q2⟩
    rw [dL_law_586, if_pos (lt_n (by omega) (by omega)), wout_nI (by omega) (by omega), U, bd_ok, if_b2, add1]
    rw [cntB] at q1
    by_cases c : muteS T (wout b w) (ro T 0) (mi T + k) = true
    · have c' : mtF T (wout b w) k = true := c
      rw [if_pos c'] at q1
      rw [if_pos c]
      exact (e614 _ _).trans q1
    · have c' : ¬ mtF T (wout b w) k = true := c
      rw [if_neg c', Nat.add_zero] at q1
      rw [if_neg c]
      exact (e614 _ _).trans q1
theorem c556 (hf : 2000 ≤ f) (hT : IV T) (hm : mi T ≤ 39) (hr : r ≤ 9) (hN : N ≤ 40) (k44 : K3) (x5 x6 x16 x17 : Int32) : ∀ (d w n : Nat) (mem : Mem), w + d = ct T → d < n → WS mem T T →
    ∃ m', dL_law_556 LL xs f k44 n (nI (ct T)) (nI (mi T)) x5 x6 (nI r) (nI N) (oN (coR T (nearS T r) N)) x16 x17 (nI w) mem = dL_law_651 LL xs f k44 (nI (ct T)) (nI (mi T)) x5 x6 (nI r) (nI N) x16 x17 m' ∧ WS m' T T
  | 0, w, n, mem, e, hn, h => by
    obtain ⟨n, rfl⟩ : ∃ k, n = k + 1 := ⟨n - 1, by omega⟩
    have hct : ct T ≤ 10 := hT.2.2.2.2.2.2.2.1
    have e' : w = ct T := by omega
    rw [dL_law_556, e', if_neg (nlt_n (by omega))]
    exact ⟨mem, rfl, h⟩
  | d + 1, w, n, mem, e, hn, h => by
    obtain ⟨n, rfl⟩ : ∃ k, n = k + 1 := ⟨n - 1, by omega⟩
    have hct : ct T ≤ 10 := hT.2.2.2.2.2.2.2.1
    have hnl := nearS_lt hT r
    rw [dL_law_556, if_pos (lt_n (by omega) (by omega))]
    cases hc : coR T (nearS T r) N with
    | none =>
      rw [if_pos (show oN none < 0 by decide)]
      exact ⟨mem, rfl, h⟩
    | some b =>
      obtain ⟨s1, s2, s3, s4⟩ := coR_p hT hnl hc
      have ih := fun m hm' => c556 hf hT hm hr hN k44 x5 x6 x16 x17 d (w + 1) n m (by omega) (by omega) hm'
      rw [hc] at ih
      have kb : ((oN (some b)) >>> (nI w &&& 31)) &&& (1 : Int32) = nI (if b.testBit w then 1 else 0) := nb_has (by omega) (by omega)
      rw [if_neg (show ¬ oN (some b) < 0 from nI_pos (by omega)), kb, add1]
      cases ht : b.testBit w with
      | false =>
        rw [if_pos (by decide)]
        exact ih mem h
      | true =>
        rw [if_neg (by decide)]
        obtain ⟨m1, q1, q2⟩ := c586 (LL := LL) (xs := xs) hf hT hm hr hN hc (by omega) ht k44 (fun x3_ x4_ x5_ x6_ x7_ x12_ x15_ x16_ x17_ x23_ mem_ => dL_law_556 LL xs f k44 n x3_ x4_ x5_ x6_ x7_ x12_ x15_ x16_ x17_ x23_ mem_) x5 x6 x16 x17 N 0 f mem (by omega) (by omega) h
        obtain ⟨m', z1, z2⟩ := ih m1 q2
        exact ⟨m', q1.trans z1, z2⟩
end COVER
