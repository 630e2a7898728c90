/-! The law's speech, word by word. -/
theorem say_duty (S : PS) (nr word : Nat) : setB (hitB S nr word) (ct S) &&& dutyS S (ro S 0) (mi S) = setB (hitB S nr word) (ct S) := by
  apply Nat.eq_of_testBit_eq
  intro i
  rw [Nat.testBit_and, setB_bit, duty_bit]
  by_cases c : i < ct S
  · rw [decide_eq_true c, Bool.true_and, Bool.true_and]
    unfold hitB
    cases onF S (ro S 0) i (mi S) with
    | true => rw [Bool.and_true]
    | false => simp
  · rw [decide_eq_false c]
    rfl
section TALK
variable {LL f r wd : Nat} {xs : Nat → Int32} {T : PS}
theorem t1104 {S : PS} {mem : Mem} (hf : 2000 ≤ f) (h : WS mem S T) (hT : IV T) (hm : mi T ≤ 39) (k44 : K3) (x4 : Int32) (step : Nat) :
    ∃ m', dL_law_1104 LL xs f k44 (nI (ct T)) x4 (nI step) mem = k44 (nI (ct T)) x4 (nI (step + 1)) m' ∧ WS m' T T := by
  obtain ⟨m1, u1, u2⟩ := K_undo (f := f) hf h hT
  refine ⟨m1, ?_, u2⟩
  unfold dL_law_1104
  rw [u1, bd_ok, if_pos rfl, isSo_ok hf u2.1 u2.2.2.2 hT (by omega), bd_ok, if_neg (by decide), add1]
theorem t942 (hf : 2000 ≤ f) (hT : IV T) (hm : mi T ≤ 39) (hr : r ≤ 9) (hwd : wd < 65536) (k44 : K3) (x4 : Int32) (step : Nat) : ∀ (d k n : Nat) (mem : Mem), k + d = 16 → d < n → WS mem (spkS T (nearS T r) wd k) T →
    ∃ m', dL_law_942 LL xs f k44 n (nI (ct T)) x4 (nI step) (nI r) (nI wd) (nI (spkL T (nearS T r) wd 16)) (nI (beR T wd)) (nI (spkH T (nearS T r) wd k)) (nI (spkL T (nearS T r) wd k)) (nI k) mem = k44 (nI (ct T)) x4 (nI (step + 1)) m' ∧ WS m' T T
  | 0, k, n, mem, e, hn, h => by
    obtain ⟨n, rfl⟩ : ∃ k, n = k + 1 := ⟨n - 1, by omega⟩
    have e' : k = 16 := by omega
    subst e'
    obtain ⟨b0, b⟩ := beR_p hT hm wd
    obtain ⟨b1, b2⟩ := b r hr
    have hh1 := spkH_le hT (nearS T r) wd (by omega) 16 (by omega)
    have hh2 := spkH_le hT (nearS T (beR T wd)) wd (by omega) 16 (by omega)
    obtain ⟨m1, u1, u2⟩ := K_undo (f := f) hf h hT
    obtain ⟨m2, s1, s2⟩ := KC_WS u2 hT (K_speak (f := f) (r := r) (k := wd) hf u2.1 hT (by omega) hr hwd)
    obtain ⟨m3, v1, v2⟩ := K_undo (f := f) hf s2 hT
    obtain ⟨m4, t1, t2⟩ := KC_WS v2 hT (K_speak (f := f) (r := beR T wd) (k := wd) hf v2.1 hT (by omega) b0 hwd)
    obtain ⟨m', z1, z2⟩ := t1104 (LL := LL) (xs := xs) (f := f) hf t2 hT hm k44 x4 step
    have k1 : ¬ nI (spkH T (nearS T r) wd 16) < nI (spkH T (nearS T (beR T wd)) wd 16) := by
      rw [nb_lt (by omega) (by omega)]
      omega
    have k2 : nI (spkH T (nearS T (beR T wd)) wd 16) = nI (spkH T (nearS T r) wd 16) ↔ spkH T (nearS T (beR T wd)) wd 16 = spkH T (nearS T r) wd 16 := nb_inj (by omega) (by omega)
    refine ⟨m', ?_, z2⟩
    rw [dL_law_942, if_neg (show ¬ nI 16 < (16 : Int32) by decide), if_pos rfl, u1, bd_ok, if_pos rfl, s1, bd_ok, if_pos rfl, v1, bd_ok, if_pos rfl, t1, bd_ok, if_neg k1]
    by_cases c : spkH T (nearS T (beR T wd)) wd 16 = spkH T (nearS T r) wd 16
    · rw [if_pos (k2.mpr c), if_neg (by rw [nb_lt (by omega) (by omega)]; have := b2 c.symm; omega)]
      exact z1
    · rw [if_neg (fun z => c (k2.mp z))]
      exact z1
  | d + 1, k, n, mem, e, hn, h => by
    obtain ⟨n, rfl⟩ : ∃ k, n = k + 1 := ⟨n - 1, by omega⟩
    obtain ⟨g1, g2, g3, g4, g5⟩ := spk_inv hT (nearS T r) wd k (by omega) (by omega)
    have hnr : nearS (spkS T (nearS T r) wd k) r = nearS T r := nearS_congr g3 g5 r
    have hH := spkH_le hT (nearS T r) wd (by omega) k (by omega)
    have hW := spkW_lt hT (nearS T r) wd k (by omega) (by omega)
    rw [dL_law_942, if_pos (show nI k < (16 : Int32) from lt_n (c := 16) (by omega) (by omega)), nb_has (by omega) (by omega), add1]
    cases ht : wd.testBit k with
    | false =>
      rw [if_pos (by decide)]
      have ih := t942 hf hT hm hr hwd k44 x4 step d (k + 1) n mem (by omega) (by omega) (by rw [spkS, spk1, if_neg (by rw [ht]; decide)]; exact h)
      rw [spkH, if_neg (by rw [ht]; decide), spkL.eq_2 T (nearS T r) wd k, if_neg (by rw [ht]; decide)] at ih
      exact ih
    | true =>
      have D := W_duty (f := f) hf h.1 g1 (t := mi (spkS T (nearS T r) wd k)) (by omega)
      obtain ⟨m1, s1, s2⟩ := KC_WS h hT (K_say (f := f) (r := r) (k := k) hf h.1 g1 hr (by omega))
      rw [hnr] at s1 s2
      have s1' : dW_say f (nI r) (nI k) mem = some (nI (spkW T (nearS T r) wd k), m1) := s1
      have hsd : spkW T (nearS T r) wd k &&& dutyS (spkS T (nearS T r) wd k) (ro (spkS T (nearS T r) wd k) 0) (mi (spkS T (nearS T r) wd k)) = spkW T (nearS T r) wd k := say_duty (spkS T (nearS T r) wd k) (nearS T r) k
      have hi' : IV (sayS (spkS T (nearS T r) wd k) (nearS T r) k (ct (spkS T (nearS T r) wd k))) := IV_say g1 _ (by omega) _
      have hmi : mi (sayS (spkS T (nearS T r) wd k) (nearS T r) k (ct (spkS T (nearS T r) wd k))) = mi (spkS T (nearS T r) wd k) := rfl
      obtain ⟨m2, p1, p2⟩ := KC_WS s2 hT (K_pass (f := f) (N := 1) hf s2.1 hi' (by omega) (by omega) (by omega))
      have hw1 : spkS T (nearS T r) wd (k + 1) = itM (sayS (spkS T (nearS T r) wd k) (nearS T r) k (ct (spkS T (nearS T r) wd k))) 1 := by
        rw [spkS, spk1, if_pos ht]
        rfl
      rw [← hw1] at p2
      have ih := t942 hf hT hm hr hwd k44 x4 step d (k + 1) n m2 (by omega) (by omega) p2
      have e1019 : ∀ (K : Int32 → Int32 → Int32 → Int32 → Int32 → Int32 → Int32 → Int32 → Int32 → Int32 → Mem → Option (Int32 × Mem)) (x3 x4 x5 x25 x26 x27 x28 x29 : Int32), dL_law_1019 LL xs f k44 K x3 x4 x5 (nI r) x25 x26 x27 x28 x29 (nI k) m1 = K x3 x4 x5 (nI r) x25 x26 x27 x28 x29 (nI (k + 1)) m2 := by
        intro K x3 x4 x5 x25 x26 x27 x28 x29
        unfold dL_law_1019
        rw [show dW_pass f 1 m1 = _ from p1, bd_ok, if_neg (nI_pos (by omega)), add1]
      rw [if_neg (by decide), W_now0 h.1, bd_ok, D, bd_ok, s1', bd_ok, if_pos ((sub_z (by omega)).mpr hsd), ones_lp (by omega) hf, bd_ok, nb_add]
      rw [spkH, if_pos ht, spkL.eq_2 T (nearS T r) wd k, if_pos ht] at ih
      have k0 : nI (spkW T (nearS T r) wd k) = 0 ↔ spkW T (nearS T r) wd k = 0 := nb_zero (by omega)
      by_cases c0 : spkW T (nearS T r) wd k = 0
      · rw [if_pos (k0.mpr c0), nb_bit (by omega), nb_or]
        rw [if_pos c0] at ih
        obtain ⟨m', z1, z2⟩ := ih
        exact ⟨m', (e1019 _ _ _ _ _ _ _ _ _).trans z1, z2⟩
      · rw [if_neg (fun z => c0 (k0.mp z))]
        rw [if_neg c0] at ih
        obtain ⟨m', z1, z2⟩ := ih
        exact ⟨m', (e1019 _ _ _ _ _ _ _ _ _).trans z1, z2⟩
end TALK
