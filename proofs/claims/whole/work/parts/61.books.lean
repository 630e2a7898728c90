/-! lays, book, read. -/
def okL (v : Int64) : Prop := ¬ lg_cmp v 0 < 0 ∧ ¬ 0 < lg_cmp v 65535
theorem lay_v {v : Int64} (h : okL v) : ∃ k, k ≤ 65535 ∧ v.toInt32 = nI k := by
  obtain ⟨h1, h2⟩ := h
  have h0 : (0 : Int) ≤ v.toInt := by
    by_cases c : (0 : Int) ≤ v.toInt
    · exact c
    · have hlt : v < 0 := Int64.lt_iff_toInt_lt.mpr (by rw [show (0 : Int64).toInt = 0 by decide]; omega)
      have e : lg_cmp v 0 = -1 := by
        unfold lg_cmp
        have g1 : ¬ v > 0 := fun z => by
          have := Int64.lt_iff_toInt_lt.mp z
          rw [show (0 : Int64).toInt = 0 by decide] at this
          omega
        have g2 : ¬ v = 0 := fun z => by
          rw [z] at c
          exact c (by decide)
        rw [if_neg g1, if_neg g2]
      rw [e] at h1
      exact absurd (by decide) h1
  have h3 : v.toInt ≤ 65535 := by
    by_cases c : v.toInt ≤ 65535
    · exact c
    · have hgt : v > 65535 := Int64.lt_iff_toInt_lt.mpr (by rw [show (65535 : Int64).toInt = 65535 by decide]; omega)
      have e : lg_cmp v 65535 = 1 := by
        unfold lg_cmp
        rw [if_pos hgt]
      rw [e] at h2
      exact absurd (by decide) h2
  refine ⟨v.toInt.toNat, by omega, ?_⟩
  apply Int32.toInt_inj.mp
  rw [nI_toInt (by omega), Int64.toInt_toInt32]
  rw [show ((v.toInt.toNat : Nat) : Int) = v.toInt by omega]
  exact Int.bmod_eq_of_le (by omega) (by omega)
theorem okL_dec (v : Int64) : okL v ∨ ¬ okL v := Classical.em _
noncomputable def lyS (S : PS) (vs : Nat → Int64) : Nat → PS × Nat
  | 0 => (S, 0)
  | i + 1 => (fun (d : Decidable (okL (vs i))) => if okL (vs i) then (setW (lyS S vs i).1 i 4 (vs i).toInt32.toNatClampNeg, (lyS S vs i).2 + 1) else lyS S vs i) (Classical.propDecidable _)
theorem lyS_t {S : PS} {vs : Nat → Int64} {i k : Nat} (h : okL (vs i)) (hk : k ≤ 65535) (e : (vs i).toInt32 = nI k) : lyS S vs (i + 1) = (setW (lyS S vs i).1 i 4 k, (lyS S vs i).2 + 1) := by
  rw [lyS, e, nI_clamp (by omega)]
  exact if_pos h
theorem lyS_f {S : PS} {vs : Nat → Int64} {i : Nat} (h : ¬ okL (vs i)) : lyS S vs (i + 1) = lyS S vs i := by
  rw [lyS]
  exact if_neg h
theorem lyS_p {S : PS} (hi : IV S) (vs : Nat → Int64) : ∀ i, IV (lyS S vs i).1 ∧ ct (lyS S vs i).1 = ct S ∧ mi (lyS S vs i).1 = mi S
  | 0 => ⟨hi, rfl, rfl⟩
  | i + 1 => by
    obtain ⟨h1, h2, h3⟩ := lyS_p hi vs i
    rcases okL_dec (vs i) with c | c
    · obtain ⟨k, hk, e⟩ := lay_v c
      rw [lyS_t c hk e]
      exact ⟨IV_setW h1 (by unfold okW; omega), h2, h3⟩
    · rw [lyS_f c]
      exact ⟨h1, h2, h3⟩
theorem if_lay {α : Sort _} {v : Int64} {A B C : α} (h : okL v) : (if lg_cmp v 0 < 0 then A else if 0 < lg_cmp v 65535 then B else C) = C := by rw [if_neg h.1, if_neg h.2]
theorem if_nlay {α : Sort _} {v : Int64} {A C : α} (h : ¬ okL v) : (if lg_cmp v 0 < 0 then A else if 0 < lg_cmp v 65535 then A else C) = A := by
  by_cases c1 : lg_cmp v 0 < 0
  · rw [if_pos c1]
  · rw [if_neg c1]
    by_cases c2 : 0 < lg_cmp v 65535
    · rw [if_pos c2]
    · exact absurd ⟨c1, c2⟩ h
theorem layC_lp {f s z L : Nat} {vs : Nat → Int64} {S : PS} (hi : IV S) (hz : z ≤ 40) (hL : L ≤ z ∧ L ≤ ct S ∧ (L = z ∨ L = ct S)) : ∀ (d i n : Nat) (mem : Mem), i + d = L → d < n → RC mem 0 (lyS S vs i).1 → gI mem 8 s 1 = nI z → (∀ j, j < 40 → gL mem 9 s j = vs j) →
    ∃ m', dW_lays_40 f n s (nI (lyS S vs i).2) (nI i) mem = some (nI (lyS S vs L).2, m') ∧ RC m' 0 (lyS S vs L).1 ∧ Fz (palZ 0) mem m'
  | 0, i, n, mem, e, hn, h, h8, h9 => by
    obtain ⟨n, rfl⟩ : ∃ k, n = k + 1 := ⟨n - 1, by omega⟩
    have hct : ct S ≤ 10 := hi.2.2.2.2.2.2.2.1
    have e' : i = L := by omega
    subst e'
    have h2 : gI mem 1 0 2 = nI (ct S) := h.2.2.1.trans (by rw [(lyS_p hi vs i).2.1])
    refine ⟨mem, ?_, h, Fz_rfl _ _⟩
    rw [dW_lays_40, h8, h2]
    rcases hL.2.2 with c | c
    · rw [if_neg (by rw [c]; exact nlt_n (by omega))]
    · by_cases c2 : nI i < nI z
      · rw [if_pos c2, if_neg (by rw [c]; exact nlt_n (by omega))]
      · rw [if_neg c2]
  | d + 1, i, n, mem, e, hn, h, h8, h9 => by
    obtain ⟨n, rfl⟩ : ∃ k, n = k + 1 := ⟨n - 1, by omega⟩
    have hct : ct S ≤ 10 := hi.2.2.2.2.2.2.2.1
    obtain ⟨q1, q2, q3⟩ := lyS_p hi vs i
    have h2 : gI mem 1 0 2 = nI (ct S) := h.2.2.1.trans (by rw [q2])
    rw [dW_lays_40, h8, h2, if_pos (lt_n (by omega) (by omega)), if_pos (lt_n (by omega) (by omega)), ck_in _ (by omega) (by omega), nI_clamp (by omega), h9 i (by omega), add1, add1]
    rcases okL_dec (vs i) with c | c
    · obtain ⟨k, hk, ek⟩ := lay_v c
      have R := repl_ok (f := f) (k := 4) (v := nI k) h q1 (w := i) (by omega) (by omega)
      rw [if_lay c, ek, show dP_replace f 0 (nI i) 4 (nI k) mem = _ from R, bd_ok]
      have ih := layC_lp (f := f) (s := s) (vs := vs) hi hz hL d (i + 1) n (sI mem 4 (10 * 0 + i) 4 (nI k)) (by omega) (by omega) (by rw [lyS_t c hk ek]; exact RC_put h i 4 k) h8 h9
      rw [lyS_t c hk ek] at ih
      obtain ⟨m', r1, r2, r3⟩ := ih
      exact ⟨m', r1, r2, Fz_tr (Fz_sI (palZ4 (by omega))) r3⟩
    · rw [if_nlay c]
      have ih := layC_lp (f := f) (s := s) (vs := vs) hi hz hL d (i + 1) n mem (by omega) (by omega) (by rw [lyS_f c]; exact h) h8 h9
      rw [lyS_f c] at ih
      exact ih
theorem layM_lp {f s z L : Nat} {vs : Nat → Int64} {S : PS} (hi : IV S) (hs : s < 4) (hz : z ≤ 40) (hL : L ≤ z ∧ L ≤ ct S ∧ (L = z ∨ L = ct S)) : ∀ (d i n : Nat) (mem : Mem), i + d = L → d < n → RM mem (lyS S vs i).1 → gI mem 18 0 s = nI z → (∀ j, j < 40 → gL mem 19 0 (40 * s + j) = vs j) →
    ∃ m', dM_lays_21 f n (nI s) (nI (lyS S vs i).2) (nI i) mem = some (nI (lyS S vs L).2, m') ∧ RM m' (lyS S vs L).1 ∧ Fz (rowZ 13) mem m'
  | 0, i, n, mem, e, hn, h, h8, h9 => by
    obtain ⟨n, rfl⟩ : ∃ k, n = k + 1 := ⟨n - 1, by omega⟩
    have hct : ct S ≤ 10 := hi.2.2.2.2.2.2.2.1
    have e' : i = L := by omega
    subst e'
    have h2 : gI mem 13 0 5 = nI (ct S) := h.2.2.1.trans (by rw [(lyS_p hi vs i).2.1])
    refine ⟨mem, ?_, h, Fz_rfl _ _⟩
    rw [dM_lays_21, ck_in _ hs (by omega), nI_clamp (by omega), h8, h2]
    rcases hL.2.2 with c | c
    · rw [if_neg (by rw [c]; exact nlt_n (by omega))]
    · by_cases c2 : nI i < nI z
      · rw [if_pos c2, if_neg (by rw [c]; exact nlt_n (by omega))]
      · rw [if_neg c2]
  | d + 1, i, n, mem, e, hn, h, h8, h9 => by
    obtain ⟨n, rfl⟩ : ∃ k, n = k + 1 := ⟨n - 1, by omega⟩
    have hct : ct S ≤ 10 := hi.2.2.2.2.2.2.2.1
    obtain ⟨q1, q2, q3⟩ := lyS_p hi vs i
    have h2 : gI mem 13 0 5 = nI (ct S) := h.2.2.1.trans (by rw [q2])
    rw [dM_lays_21, ck_in _ hs (by omega), nI_clamp (by omega), h8, h2, if_pos (lt_n (by omega) (by omega)), if_pos (lt_n (by omega) (by omega)), at40, ck_in _ (by omega) (by omega), nI_clamp (by omega), h9 i (by omega), add1, add1]
    rcases okL_dec (vs i) with c | c
    · obtain ⟨k, hk, ek⟩ := lay_v c
      have R := puts_n (f := f) (mem := mem) (k := 4) (v := k) q1 (w := i) (by omega) (by omega)
      rw [if_lay c, ek, show dM_puts f (nI i) 4 (nI k) mem = _ from R, bd_ok]
      have ih := layM_lp (f := f) (s := s) (vs := vs) hi hs hz hL d (i + 1) n (sI mem 13 0 (6 + 6 * i + 4) (nI k)) (by omega) (by omega) (by rw [lyS_t c hk ek]; exact RM_put h (by omega) k) h8 h9
      rw [lyS_t c hk ek] at ih
      obtain ⟨m', r1, r2, r3⟩ := ih
      exact ⟨m', r1, r2, Fz_tr (Fz_sI rfl) r3⟩
    · rw [if_nlay c]
      have ih := layM_lp (f := f) (s := s) (vs := vs) hi hs hz hL d (i + 1) n mem (by omega) (by omega) (by rw [lyS_f c]; exact h) h8 h9
      rw [lyS_f c] at ih
      exact ih
theorem badM {f s b : Nat} {mem : Mem} (hs : s ≤ 3) (hb : b < 100) (h : gI mem 17 0 s = nI b) : dM_badSheet f (nI s) mem = some (if b = 0 then (-1000000006 : Int32) else 0, mem) := by
  have kb : nI b = 0 ↔ b = 0 := nb_zero (by omega)
  have e : inb (nI s) 0 3 = true := (inb_0 (n := 3) (by omega) (by omega)).trans (decide_eq_true hs)
  unfold dM_badSheet
  rw [M_isSheet, bd_ok, e, ifz_t, ck_in _ (by omega) (by omega), nI_clamp (by omega), h]
  by_cases c : b = 0
  · rw [if_pos (kb.mpr c), if_pos c]
  · rw [if_neg (fun q => c (kb.mp q)), if_neg c]
theorem badM_f {f : Nat} {mem : Mem} {x : Int32} (h : inb x 0 3 = false) : dM_badSheet f x mem = some ((-1000000001 : Int32), mem) := by
  unfold dM_badSheet
  rw [M_isSheet, bd_ok, h, ifz_f]
theorem ca_lays {f : Nat} {mem : Mem} (hf : 2000 ≤ f) (hI : INV mem) (a1 : Int32) : CA (dW_lays f a1) (dM_lays f a1) mem := by
  have hI' := hI
  obtain ⟨S, hC, hM, hi, hm, hR⟩ := hI'
  have hct : ct S ≤ 10 := hi.2.2.2.2.2.2.2.1
  cases h1 : inb a1 0 3 with
  | false => exact find_B (f := f) hI (by unfold dW_lays; rw [W_isSheet, bd_ok, h1, ifz_f]) (fun m fx => by unfold dM_lays; rw [badM_f h1, bd_ok, if_neg (by decide)])
  | true =>
  obtain ⟨s, -, hs, rfl⟩ := inb_t (a := 0) (n := 3) rfl (by omega) (by omega) h1
  obtain ⟨b, z, hb, hz, e1, e2, e3, e4, e5⟩ := hR.1 s (by omega)
  by_cases c : b = 0
  · exact find_M (f := f) hI (by unfold dW_lays; rw [W_isSheet, bd_ok, h1, ifz_t, ck_in _ (by omega) (by omega), nI_clamp (by omega), miss_ok (by omega) e1, bd_ok, decide_eq_true c, ifz_t]) (fun m fx => by unfold dM_lays; rw [badM hs (by omega) ((fx 17 0 s rfl).1.trans e2), bd_ok, if_pos c, if_neg (by decide)])
  · obtain ⟨L, hL⟩ : ∃ L, L ≤ z ∧ L ≤ ct S ∧ (L = z ∨ L = ct S) := by
      by_cases q : z ≤ ct S
      · exact ⟨z, by omega, q, Or.inl rfl⟩
      · exact ⟨ct S, by omega, by omega, Or.inr rfl⟩
    obtain ⟨m1, r1, r2, r3⟩ := layC_lp (f := f) (s := s) (vs := fun j => gL mem 9 s j) hi hz hL L 0 f mem (by omega) (by omega) hC e3 (fun _ _ => rfl)
    have f1 := fz0 r3
    have hM1 := RM_cl hM f1
    obtain ⟨q1, q2, q3⟩ := lyS_p hi (fun j => gL mem 9 s j) L
    obtain ⟨m2, s1, s2, s3⟩ := layM_lp (f := f) (s := s) (vs := fun j => gL mem 9 s j) hi (by omega) hz hL L 0 f m1 (by omega) (by omega) hM1 ((r3 18 0 s (by rfl)).1.trans e4) (fun j hj => ((r3 19 0 _ (by rfl)).2).trans (e5 j hj).symm)
    have q17 : gI m1 17 0 s = nI b := (r3 17 0 s (by rfl)).1.trans e2
    refine ans_ca (r := nI (lyS S (fun j => gL mem 9 s j) L).2) (m1 := m1) (m2 := m2) ?_ ?_ (INV_mv hR r2 f1 s2 (fz13 s3) q1 (by omega))
    · unfold dW_lays
      rw [W_isSheet, bd_ok, h1, ifz_t, ck_in _ (by omega) (by omega), nI_clamp (by omega), miss_ok (by omega) e1, bd_ok, decide_eq_false c, ifz_f]
      exact r1
    · unfold dM_lays
      rw [badM hs (by omega) q17, bd_ok, if_neg c, if_pos rfl]
      exact s1
def onL (S : PS) (w j : Nat) : Int64 := if onF S (ro S 0) w (mi S + j) = true then 1 else 0
theorem bookC_lp {f s b z w : Nat} {S : PS} (hf : 2000 ≤ f) (hi : IV S) (hb : b < 100) (hz : z ≤ 40) (hw : w < ct S) : ∀ (d i n : Nat) (mem : Mem), i + d = z → d < n → RC mem 0 S → gI mem 8 s 0 = nI b → gI mem 8 s 1 = nI z → (∀ j, j < i → gL mem 9 s j = onL S w j) →
    ∃ m', dW_book_53 f n (nI w) s (nI i) mem = some (nI z, m') ∧ (∀ j, j < z → gL m' 9 s j = onL S w j) ∧ (∀ j, z ≤ j → gL m' 9 s j = gL mem 9 s j) ∧ Fz (n9 s) mem m'
  | 0, i, n, mem, e, hn, h, h0, h1, h9 => by
    obtain ⟨n, rfl⟩ : ∃ k, n = k + 1 := ⟨n - 1, by omega⟩
    have e' : i = z := by omega
    subst e'
    rw [dW_book_53, h1, if_neg (nlt_n (by omega))]
    exact ⟨mem, rfl, h9, fun _ _ => rfl, Fz_rfl _ _⟩
  | d + 1, i, n, mem, e, hn, h, h0, h1, h9 => by
    obtain ⟨n, rfl⟩ : ∃ k, n = k + 1 := ⟨n - 1, by omega⟩
    have hm : mi S ≤ 200000 := hi.1
    rw [dW_book_53, h1, if_pos (lt_n (by omega) (by omega)), h.1, nb_add, dutyOf_ok hf h hi hw (by omega), bd_ok, if_b2, putC_ok hb h0 (by omega), bd_ok, putC_ok hb h0 (by omega), bd_ok, nar_0, nar_1, add1]
    have go : ∀ v, onL S w i = v → ∃ m', dW_book_53 f n (nI w) s (nI (i + 1)) (sL mem 9 s i v) = some (nI z, m') ∧ (∀ j, j < z → gL m' 9 s j = onL S w j) ∧ (∀ j, z ≤ j → gL m' 9 s j = gL mem 9 s j) ∧ Fz (n9 s) mem m' := by
      intro v hv
      have f1 : Fz (n9 s) mem (sL mem 9 s i v) := Fz_sL (decide_eq_true ⟨rfl, rfl⟩)
      obtain ⟨m', r1, r2, r3, r4⟩ := bookC_lp hf hi hb hz hw d (i + 1) n (sL mem 9 s i v) (by omega) (by omega) (RC_fz h hi.2.2.2.2.2.2.2.1 f1 (fun t i' j q => by
        have := notPal q
        exact decide_eq_false (by omega))) h0 h1 (fun j hj => by
        rw [gL_sL]
        by_cases c : j = i
        · rw [if_pos ⟨rfl, rfl, c⟩, c, hv]
        · rw [if_neg (fun q => c q.2.2)]
          exact h9 j (by omega))
      exact ⟨m', r1, r2, fun j hj => (r3 j hj).trans (by rw [gL_sL, if_neg (by omega)]), Fz_tr f1 r4⟩
    by_cases c : onF S (ro S 0) w (mi S + i) = true
    · rw [if_pos c]
      exact go 1 (if_pos c)
    · rw [if_neg c]
      exact go 0 (if_neg c)
theorem bookM_lp {f s z w : Nat} {S : PS} (hi : IV S) (hs : s < 4) (hz : z ≤ 40) (hw : w < ct S) : ∀ (d i n : Nat) (mem : Mem), i + d = z → d < n → RM mem S → gI mem 18 0 s = nI z → (∀ j, j < i → gL mem 19 0 (40 * s + j) = onL S w j) →
    ∃ m', dM_book_34 f n (nI s) (nI w) (nI i) mem = some (nI z, m') ∧ (∀ j, j < z → gL m' 19 0 (40 * s + j) = onL S w j) ∧ (∀ j, z ≤ j → gL m' 19 0 (40 * s + j) = gL mem 19 0 (40 * s + j)) ∧ Fz (n19 s) mem m'
  | 0, i, n, mem, e, hn, h, h1, h9 => by
    obtain ⟨n, rfl⟩ : ∃ k, n = k + 1 := ⟨n - 1, by omega⟩
    have e' : i = z := by omega
    subst e'
    rw [dM_book_34, ck_in _ hs (by omega), nI_clamp (by omega), h1, if_neg (nlt_n (by omega)), ck_in _ hs (by omega)]
    exact ⟨mem, rfl, h9, fun _ _ => rfl, Fz_rfl _ _⟩
  | d + 1, i, n, mem, e, hn, h, h1, h9 => by
    obtain ⟨n, rfl⟩ : ∃ k, n = k + 1 := ⟨n - 1, by omega⟩
    have hm : mi S ≤ 200000 := hi.1
    rw [dM_book_34, ck_in _ hs (by omega), nI_clamp (by omega), h1, if_pos (lt_n (by omega) (by omega)), h.1, nb_add, isOn_ok h hi hw (by omega), bd_ok, if_b2, at40, ck_in _ (by omega) (by omega), ck_in _ (by omega) (by omega), nI_clamp (by omega), add1]
    have go : ∀ v, onL S w i = v → ∃ m', dM_book_34 f n (nI s) (nI w) (nI (i + 1)) (sL mem 19 0 (40 * s + i) v) = some (nI z, m') ∧ (∀ j, j < z → gL m' 19 0 (40 * s + j) = onL S w j) ∧ (∀ j, z ≤ j → gL m' 19 0 (40 * s + j) = gL mem 19 0 (40 * s + j)) ∧ Fz (n19 s) mem m' := by
      intro v hv
      have f1 : Fz (n19 s) mem (sL mem 19 0 (40 * s + i) v) := Fz_sL (n19_at (by omega) 0)
      obtain ⟨m', r1, r2, r3, r4⟩ := bookM_lp (f := f) hi hs hz hw d (i + 1) n (sL mem 19 0 (40 * s + i) v) (by omega) (by omega) (RK_fz (t := 13) h f1 (fun j => decide_eq_false (by omega))) h1 (fun j hj => by
        rw [gL_sL]
        by_cases c : j = i
        · rw [if_pos ⟨rfl, rfl, by omega⟩, c, hv]
        · rw [if_neg (by omega)]
          exact h9 j (by omega))
      exact ⟨m', r1, r2, fun j hj => (r3 j hj).trans (by rw [gL_sL, if_neg (by omega)]), Fz_tr f1 r4⟩
    by_cases c : onF S (ro S 0) w (mi S + i) = true
    · rw [if_pos c]
      exact go 1 (if_pos c)
    · rw [if_neg c]
      exact go 0 (if_neg c)
theorem ca_book {f : Nat} {mem : Mem} (hf : 2000 ≤ f) (hI : INV mem) (a1 a2 : Int32) : CA (dW_book f a1 a2) (dM_book f a1 a2) mem := by
  have hI' := hI
  obtain ⟨S, hC, hM, hi, hm, hR⟩ := hI'
  have hct : ct S ≤ 10 := hi.2.2.2.2.2.2.2.1
  cases h1 : inb a1 0 3 with
  | false => exact find_B (f := f) hI (by unfold dW_book; rw [W_isSheet, bd_ok, h1, ifz_f]) (fun m fx => by unfold dM_book; rw [badM_f h1, bd_ok, if_neg (by decide)])
  | true =>
  obtain ⟨s, -, hs, rfl⟩ := inb_t (a := 0) (n := 3) rfl (by omega) (by omega) h1
  obtain ⟨b, z, hb, hz, e1, e2, e3, e4, e5⟩ := hR.1 s (by omega)
  by_cases c : b = 0
  · exact find_M (f := f) hI (by unfold dW_book; rw [W_isSheet, bd_ok, h1, ifz_t, ck_in _ (by omega) (by omega), nI_clamp (by omega), miss_ok (by omega) e1, bd_ok, decide_eq_true c, ifz_t]) (fun m fx => by unfold dM_book; rw [badM hs (by omega) ((fx 17 0 s rfl).1.trans e2), bd_ok, if_pos c, if_neg (by decide)])
  cases h2 : isW S a2 with
  | false => exact find_B (f := f) hI (by unfold dW_book; rw [W_isSheet, bd_ok, h1, ifz_t, ck_in _ (by omega) (by omega), nI_clamp (by omega), miss_ok (by omega) e1, bd_ok, decide_eq_false c, ifz_f, W_isWall hC, bd_ok, h2, ifz_f]) (fun m fx => by unfold dM_book; rw [badM hs (by omega) ((fx 17 0 s rfl).1.trans e2), bd_ok, if_neg c, if_pos rfl, M_isOne (RM_10 hM fx), bd_ok, h2, ifz_f])
  | true =>
    obtain ⟨w, hw, rfl⟩ := isW_t hi h2
    obtain ⟨m1, r1, r2, r3, r4⟩ := bookC_lp (f := f) (s := s) (b := b) (z := z) (w := w) hf hi (by omega) hz hw z 0 f mem (by omega) (by omega) hC e1 e3 (fun j hj => absurd hj (by omega))
    have hM1 : RM m1 S := RK_fz (t := 13) hM r4 (fun j => decide_eq_false (by omega))
    have q17 : gI m1 17 0 s = nI b := (r4 17 0 s (decide_eq_false (by omega))).1.trans e2
    have q18 : gI m1 18 0 s = nI z := (r4 18 0 s (decide_eq_false (by omega))).1.trans e4
    obtain ⟨m2, s1, s2, s3, s4⟩ := bookM_lp (f := f) (s := s) (z := z) (w := w) hi (by omega) hz hw z 0 f m1 (by omega) (by omega) hM1 q18 (fun j hj => absurd hj (by omega))
    have k8 : ∀ t i j, t ≠ 19 → gI m2 t i j = gI m1 t i j ∧ gL m2 t i j = gL m1 t i j := fun t i j ht => s4 t i j (decide_eq_false (by omega))
    have k9 : ∀ t i j, t ≠ 9 → gI m1 t i j = gI mem t i j ∧ gL m1 t i j = gL mem t i j := fun t i j ht => r4 t i j (decide_eq_false (by omega))
    refine ans_ca (r := nI z) (m1 := m1) (m2 := m2) ?_ ?_ (INV_sh hC hM hi hm hR (Fz_tr (n9_B r4) (n19_B s4)) ⟨b, z, hb, hz, ?_, ?_, ?_, ?_, fun j hj => ?_⟩)
    · unfold dW_book
      rw [W_isSheet, bd_ok, h1, ifz_t, ck_in _ (by omega) (by omega), nI_clamp (by omega), miss_ok (by omega) e1, bd_ok, decide_eq_false c, ifz_f, W_isWall hC, bd_ok, h2, ifz_t]
      exact r1
    · unfold dM_book
      rw [badM hs (by omega) q17, bd_ok, if_neg c, if_pos rfl, M_isOne hM1, bd_ok, h2, ifz_t]
      exact s1
    · rw [(k8 8 s 0 (by omega)).1, (k9 8 s 0 (by omega)).1, e1]
    · rw [(k8 17 0 s (by omega)).1, q17]
    · rw [(k8 8 s 1 (by omega)).1, (k9 8 s 1 (by omega)).1, e3]
    · rw [(k8 18 0 s (by omega)).1, q18]
    · rw [(k8 9 s j (by omega)).2]
      by_cases cj : j < z
      · rw [r2 j cj, s2 j cj]
      · rw [r3 j (by omega), s3 j (by omega), (k9 19 0 _ (by omega)).2, e5 j hj]
theorem cmp_0 (x y : Int64) : lg_cmp x y = 0 ↔ x = y := by
  unfold lg_cmp
  by_cases c : x > y
  · rw [if_pos c]
    constructor
    · intro h
      exact absurd h (by decide)
    · rintro rfl
      exact absurd c Int64.lt_irrefl
  · rw [if_neg c]
    by_cases d : x = y
    · rw [if_pos d]
      exact ⟨fun _ => d, fun _ => rfl⟩
    · rw [if_neg d]
      exact ⟨fun h => absurd h (by decide), fun h => absurd h d⟩
/-- whether a sheet is the book of a kind and a side -/
def dueL (S : PS) (kind side j : Nat) : Int64 := if lisF S kind side ((mi S + j) / ro S 0 % 4) ((mi S + j) % ro S 0) = true then 1 else 0
def soB (S : PS) (vs : Nat → Int64) (kind side : Nat) : Nat → Bool
  | 0 => true
  | n + 1 => soB S vs kind side n && decide (vs n = dueL S kind side n)
theorem soB_f (S : PS) (vs : Nat → Int64) (kind side : Nat) : ∀ d n, soB S vs kind side n = false → soB S vs kind side (n + d) = false
  | 0, n, h => h
  | d + 1, n, h => by
    show soB S vs kind side (n + d + 1) = false
    rw [soB, soB_f S vs kind side d n h]
    rfl
theorem soC_lp {f s z kind side : Nat} {mem : Mem} {S : PS} (hC : RC mem 0 S) (hi : IV S) (hz : z ≤ 40) (hk : kind ≤ 5) (hs : side ≤ 3) (h8 : gI mem 8 s 1 = nI z) : ∀ (d i n : Nat), i + d = z → d < n → soB S (gL mem 9 s) kind side i = true →
    dW_isBookOf_3 f n s (nI kind) (nI side) (nI i) mem = some (nI (b2 (soB S (gL mem 9 s) kind side z)), mem)
  | 0, i, n, e, hn, h => by
    obtain ⟨n, rfl⟩ : ∃ k, n = k + 1 := ⟨n - 1, by omega⟩
    have e' : i = z := by omega
    subst e'
    rw [dW_isBookOf_3, h8, if_neg (nlt_n (by omega)), h]
    rfl
  | d + 1, i, n, e, hn, h => by
    obtain ⟨n, rfl⟩ : ∃ k, n = k + 1 := ⟨n - 1, by omega⟩
    have hm : mi S ≤ 200000 := hi.1
    have i2 := hi.2.1
    have i3 := hi.2.2.1
    have hmod : (mi S + i) % ro S 0 < ro S 0 := Nat.mod_lt _ (by omega)
    rw [dW_isBookOf_3, h8, if_pos (lt_n (by omega) (by omega)), hC.1, hC.2.1 0 (by omega), nb_add, quarter_ok i2 i3 (by omega), bd_ok, rest_ok i2 i3 (by omega), bd_ok, listens_ok hC hi hk hs (by omega) (by omega), bd_ok, ck_in _ (by omega) (by omega), nI_clamp (by omega), if_b2]
    unfold dW_isBookOf_77
    rw [show (0 : Int32).toInt64 = 0 by decide, show (1 : Int32).toInt64 = 1 by decide, add1]
    have go : ∀ v, dueL S kind side i = v → (if lg_cmp (gL mem 9 s i) v = 0 then dW_isBookOf_3 f n s (nI kind) (nI side) (nI (i + 1)) mem else some ((0 : Int32), mem)) = some (nI (b2 (soB S (gL mem 9 s) kind side z)), mem) := by
      intro v hv
      by_cases c : gL mem 9 s i = v
      · rw [if_pos ((cmp_0 _ _).mpr c)]
        exact soC_lp hC hi hz hk hs h8 d (i + 1) n (by omega) (by omega) (by rw [soB, h, decide_eq_true (c.trans hv.symm)]; rfl)
      · rw [if_neg (fun q => c ((cmp_0 _ _).mp q))]
        have h1 : soB S (gL mem 9 s) kind side (i + 1) = false := by
          rw [soB, h, decide_eq_false (fun q => c (q.trans hv))]
          rfl
        have := soB_f S (gL mem 9 s) kind side d (i + 1) h1
        rw [show i + 1 + d = z by omega] at this
        rw [this]
        rfl
    by_cases c : lisF S kind side ((mi S + i) / ro S 0 % 4) ((mi S + i) % ro S 0) = true
    · rw [if_pos c]
      exact go 1 (if_pos c)
    · rw [if_neg c]
      exact go 0 (if_neg c)
theorem soM_lp {f s z w kind side : Nat} {mem : Mem} {S T : PS} (hM : RM mem T) (hi : IV T) (hw : w < ct T) (hT : mi T = mi S ∧ ro T = ro S ∧ wa T w 0 = kind ∧ wa T w 3 = side) (hs : s < 4) (hz : z ≤ 40) (h18 : gI mem 18 0 s = nI z) : ∀ (d i n : Nat), i + d = z → d < n →
    dM_isSo_5 f n (nI s) (nI w) (nI (b2 (soB S (fun j => gL mem 19 0 (40 * s + j)) kind side i))) (nI i) mem = some (nI (b2 (soB S (fun j => gL mem 19 0 (40 * s + j)) kind side z)), mem)
  | 0, i, n, e, hn => by
    obtain ⟨n, rfl⟩ : ∃ k, n = k + 1 := ⟨n - 1, by omega⟩
    have e' : i = z := by omega
    subst e'
    rw [dM_isSo_5, ck_in _ hs (by omega), nI_clamp (by omega), h18, if_neg (nlt_n (by omega)), zb_b]
  | d + 1, i, n, e, hn => by
    obtain ⟨n, rfl⟩ : ∃ k, n = k + 1 := ⟨n - 1, by omega⟩
    have hm : mi T ≤ 200000 := hi.1
    rw [dM_isSo_5, ck_in _ hs (by omega), nI_clamp (by omega), h18, if_pos (lt_n (by omega) (by omega))]
    cases hu : soB S (fun j => gL mem 19 0 (40 * s + j)) kind side i with
    | false =>
      have := soB_f S (fun j => gL mem 19 0 (40 * s + j)) kind side (d + 1) i hu
      rw [show i + (d + 1) = z by omega] at this
      rw [ifz_f, zb_b, this]
    | true =>
      have on : onF T (ro T 0) w (mi T + i) = lisF S kind side ((mi S + i) / ro S 0 % 4) ((mi S + i) % ro S 0) := by
        unfold onF lisF
        rw [hT.1, hT.2.1, hT.2.2.1, hT.2.2.2]
      rw [ifz_t, at40, ck_in _ (by omega) (by omega), nI_clamp (by omega), hM.1, nb_add, isOn_ok hM hi hw (by omega), bd_ok, on, if_b2]
      unfold dM_isSo_54
      rw [add1]
      have go : ∀ v, dueL S kind side i = v → (if lg_cmp (gL mem 19 0 (40 * s + i)) v = 0 then dM_isSo_5 f n (nI s) (nI w) 1 (nI (i + 1)) mem else dM_isSo_5 f n (nI s) (nI w) 0 (nI (i + 1)) mem) = some (nI (b2 (soB S (fun j => gL mem 19 0 (40 * s + j)) kind side z)), mem) := by
        intro v hv
        have ih := soM_lp (f := f) (S := S) hM hi hw hT hs hz h18 d (i + 1) n (by omega) (by omega)
        rw [soB, hu, Bool.true_and] at ih
        by_cases c : gL mem 19 0 (40 * s + i) = v
        · rw [decide_eq_true (c.trans hv.symm)] at ih
          rw [if_pos ((cmp_0 _ _).mpr c)]
          exact ih
        · rw [decide_eq_false (fun q => c (q.trans hv))] at ih
          rw [if_neg (fun q => c ((cmp_0 _ _).mp q))]
          exact ih
      by_cases c : lisF S kind side ((mi S + i) / ro S 0 % 4) ((mi S + i) % ro S 0) = true
      · rw [if_pos c]
        exact go 1 (if_pos c)
      · rw [if_neg c]
        exact go 0 (if_neg c)
theorem soB_congr {S : PS} {vs us : Nat → Int64} {kind side : Nat} : ∀ n, (∀ j, j < n → vs j = us j) → soB S vs kind side n = soB S us kind side n
  | 0, _ => rfl
  | n + 1, h => by rw [soB, soB, soB_congr n (fun j hj => h j (by omega)), h n (by omega)]
def cnS (S : PS) (vs : Nat → Int64) (z : Nat) : Nat → Nat := smS (fun k => if soB S vs (k / 4) (k % 4) z = true then 1 else 0)
theorem readC_in {f s z kind : Nat} {mem : Mem} {S : PS} (hf : 2000 ≤ f) (hC : RC mem 0 S) (hi : IV S) (hz : z ≤ 40) (hk : kind ≤ 5) (h8 : gI mem 8 s 1 = nI z) (K : Nat → Int32 → Int32 → Mem → Option (Int32 × Mem)) :
    dW_read_66 f K f s (nI (cnS S (gL mem 9 s) z (4 * kind))) (nI kind) 0 mem = K s (nI (cnS S (gL mem 9 s) z (4 * kind + 4))) (nI (kind + 1)) mem := by
  refine lp (fun n (x : Int32 × Int32) => dW_read_66 f K n s x.1 (nI kind) x.2 mem) (fun i => (nI (cnS S (gL mem 9 s) z (4 * kind + i)), nI i)) (c := 4) (fun n => ?_) (fun n i hc => ?_) 4 0 f (by omega) (by omega)
  · show dW_read_66 f K (n + 1) s _ (nI kind) _ mem = _
    rw [dW_read_66, if_neg (show ¬ nI 4 < (4 : Int32) by decide), add1]
  · show dW_read_66 f K (n + 1) s _ (nI kind) _ mem = dW_read_66 f K n s _ (nI kind) _ mem
    have hs := soC_lp (f := f) hC hi hz hk (show i ≤ 3 by omega) h8 z 0 f (by omega) (by omega) rfl
    have e : cnS S (gL mem 9 s) z (4 * kind + (i + 1)) = cnS S (gL mem 9 s) z (4 * kind + i) + (if soB S (gL mem 9 s) kind i z = true then 1 else 0) := by
      show smS _ (4 * kind + i + 1) = _
      rw [smS, show (4 * kind + i) / 4 = kind by omega, show (4 * kind + i) % 4 = i by omega]
      rfl
    rw [dW_read_66, if_pos (show nI i < (4 : Int32) from lt_n (c := 4) hc (by omega))]
    unfold dW_isBookOf
    rw [show dW_isBookOf_3 f f s (nI kind) (nI i) 0 mem = _ from hs, bd_ok, if_b2, add0, add1, add1, e]
    by_cases c : soB S (gL mem 9 s) kind i z = true
    · rw [if_pos c, if_pos c]
    · rw [if_neg c, if_neg c]
      rfl
theorem readC_ok {f s z : Nat} {mem : Mem} {S : PS} (hf : 2000 ≤ f) (hC : RC mem 0 S) (hi : IV S) (hz : z ≤ 40) (h8 : gI mem 8 s 1 = nI z) : dW_read_56 f f s 0 0 mem = some (nI (cnS S (gL mem 9 s) z 24), mem) := by
  refine lp (fun n (x : Int32 × Int32) => dW_read_56 f n s x.1 x.2 mem) (fun i => (nI (cnS S (gL mem 9 s) z (4 * i)), nI i)) (c := 6) (fun n => ?_) (fun n i hc => ?_) 6 0 f (by omega) (by omega)
  · show dW_read_56 f (n + 1) s _ _ mem = _
    rw [dW_read_56, if_neg (show ¬ nI 6 < (6 : Int32) by decide)]
  · show dW_read_56 f (n + 1) s _ _ mem = dW_read_56 f n s _ _ mem
    rw [dW_read_56, if_pos (show nI i < (6 : Int32) from lt_n (c := 6) hc (by omega))]
    exact readC_in hf hC hi hz (by omega) h8 _
theorem setW2 (S : PS) (w u v u' v' : Nat) : setW (setW (setW (setW S w 0 u) w 3 v) w 0 u') w 3 v' = setW (setW S w 0 u') w 3 v' := by
  refine ps_ext rfl rfl rfl fun w' k' => ?_
  show (if w' = w ∧ k' = 3 then v' else if w' = w ∧ k' = 0 then u' else if w' = w ∧ k' = 3 then v else if w' = w ∧ k' = 0 then u else wa S w' k') = (if w' = w ∧ k' = 3 then v' else if w' = w ∧ k' = 0 then u' else wa S w' k')
  by_cases c1 : w' = w ∧ k' = 3
  · rw [if_pos c1, if_pos c1]
  · rw [if_neg c1, if_neg c1, if_neg c1]
    by_cases c2 : w' = w ∧ k' = 0
    · rw [if_pos c2, if_pos c2]
    · rw [if_neg c2, if_neg c2, if_neg c2]
theorem okW0 {v : Nat} (h : v ≤ 5) : okW 0 v := Or.inl ⟨rfl, h⟩
theorem readM_lp {f s z w : Nat} {vs : Nat → Int64} {S : PS} (hf : 2000 ≤ f) (hi : IV S) (hw : w < ct S) (hs : s < 4) (hz : z ≤ 40) : ∀ (d i n u v : Nat) (mem : Mem), i + d = 24 → d < n → u ≤ 5 → v ≤ 3 → RM mem (setW (setW S w 0 u) w 3 v) → gI mem 18 0 s = nI z → (∀ j, j < 40 → gL mem 19 0 (40 * s + j) = vs j) →
    ∃ m', dM_read_53 f n (nI s) (nI w) (nI (wa S w 0)) (nI (wa S w 3)) (nI (cnS S vs z i)) (nI i) mem = some (nI (cnS S vs z 24), m') ∧ RM m' S ∧ Fz (rowZ 13) mem m'
  | 0, i, n, u, v, mem, e, hn, hu, hv, h, h18, h19 => by
    obtain ⟨n, rfl⟩ : ∃ k, n = k + 1 := ⟨n - 1, by omega⟩
    have e' : i = 24 := by omega
    subst e'
    have P0 := puts_n (f := f) (mem := mem) (k := 0) (v := wa S w 0) hi hw (by omega)
    have P3 := puts_n (f := f) (mem := sI mem 13 0 (6 + 6 * w + 0) (nI (wa S w 0))) (k := 3) (v := wa S w 3) hi hw (by omega)
    rw [dM_read_53, if_neg (show ¬ nI 24 < (24 : Int32) by decide), show dM_puts f (nI w) 0 (nI (wa S w 0)) mem = _ from P0, bd_ok, show dM_puts f (nI w) 3 (nI (wa S w 3)) (sI mem 13 0 (6 + 6 * w + 0) (nI (wa S w 0))) = _ from P3, bd_ok]
    refine ⟨_, rfl, ?_, Fz_tr (Fz_sI rfl) (Fz_sI rfl)⟩
    have := RM_put (RM_put h (w := w) (k := 0) (by omega) (wa S w 0)) (w := w) (k := 3) (by omega) (wa S w 3)
    rw [setW2] at this
    have e2 : setW (setW S w 0 (wa S w 0)) w 3 (wa S w 3) = S := by rw [setW_id, setW_id]
    rw [e2] at this
    exact this
  | d + 1, i, n, u, v, mem, e, hn, hu, hv, h, h18, h19 => by
    obtain ⟨n, rfl⟩ : ∃ k, n = k + 1 := ⟨n - 1, by omega⟩
    have P0 := puts_n (f := f) (mem := mem) (k := 0) (v := i / 4) hi hw (by omega)
    have P3 := puts_n (f := f) (mem := sI mem 13 0 (6 + 6 * w + 0) (nI (i / 4))) (k := 3) (v := i % 4) hi hw (by omega)
    have q4 : nI i / 4 = nI (i / 4) := nb_div (b := 4) (by omega) (by omega)
    have r4 : nI i % 4 = nI (i % 4) := nb_mod (b := 4) (by omega) (by omega)
    have h1 := RM_put (RM_put h (w := w) (k := 0) (by omega) (i / 4)) (w := w) (k := 3) (by omega) (i % 4)
    rw [setW2] at h1
    have hi1 : IV (setW (setW S w 0 (i / 4)) w 3 (i % 4)) := IV_setW (IV_setW hi (okW0 (by omega))) (okW3 (by omega))
    have T0 : wa (setW (setW S w 0 (i / 4)) w 3 (i % 4)) w 0 = i / 4 := by
      show (if w = w ∧ 0 = 3 then i % 4 else if w = w ∧ 0 = 0 then i / 4 else wa S w 0) = i / 4
      rw [if_neg (fun q => by omega), if_pos ⟨rfl, rfl⟩]
    have T3 : wa (setW (setW S w 0 (i / 4)) w 3 (i % 4)) w 3 = i % 4 := if_pos ⟨rfl, rfl⟩
    have SO := soM_lp (f := f) (S := S) (kind := i / 4) (side := i % 4) (z := z) h1 hi1 hw ⟨rfl, rfl, T0, T3⟩ hs hz h18 z 0 f (by omega) (by omega)
    have ec : soB S (fun j => gL (sI (sI mem 13 0 (6 + 6 * w + 0) (nI (i / 4))) 13 0 (6 + 6 * w + 3) (nI (i % 4))) 19 0 (40 * s + j)) (i / 4) (i % 4) z = soB S vs (i / 4) (i % 4) z := soB_congr z (fun j hj => h19 j (by omega))
    rw [ec] at SO
    rw [dM_read_53, if_pos (show nI i < (24 : Int32) from lt_n (c := 24) (by omega) (by omega)), if_neg (by decide), q4, show dM_puts f (nI w) 0 (nI (i / 4)) mem = _ from P0, bd_ok, if_neg (by decide), r4, show dM_puts f (nI w) 3 (nI (i % 4)) (sI mem 13 0 (6 + 6 * w + 0) (nI (i / 4))) = _ from P3, bd_ok]
    unfold dM_isSo
    rw [show dM_isSo_5 f f (nI s) (nI w) 1 0 (sI (sI mem 13 0 (6 + 6 * w + 0) (nI (i / 4))) 13 0 (6 + 6 * w + 3) (nI (i % 4))) = _ from SO, bd_ok, if_b2, add0, add1, add1]
    have ih := readM_lp (f := f) (vs := vs) hf hi hw hs hz d (i + 1) n (i / 4) (i % 4) (sI (sI mem 13 0 (6 + 6 * w + 0) (nI (i / 4))) 13 0 (6 + 6 * w + 3) (nI (i % 4))) (by omega) (by omega) (by omega) (by omega) h1 h18 h19
    have e1 : cnS S vs z (i + 1) = cnS S vs z i + (if soB S vs (i / 4) (i % 4) z = true then 1 else 0) := rfl
    rw [e1] at ih
    obtain ⟨m', t1, t2, t3⟩ := ih
    refine ⟨m', ?_, t2, Fz_tr (Fz_tr (Fz_sI rfl) (Fz_sI rfl)) t3⟩
    by_cases c : soB S vs (i / 4) (i % 4) z = true
    · rw [if_pos c] at t1
      rw [if_pos c]
      exact t1
    · rw [if_neg c] at t1
      rw [if_neg c]
      exact t1
theorem cnS_congr {S : PS} {vs us : Nat → Int64} {z : Nat} (h : ∀ j, j < z → vs j = us j) : ∀ n, cnS S vs z n = cnS S us z n
  | 0 => rfl
  | n + 1 => by
    have := cnS_congr (S := S) h n
    unfold cnS at this ⊢
    rw [smS, smS, this, soB_congr z h]
theorem ca_read {f : Nat} {mem : Mem} (hf : 2000 ≤ f) (hI : INV mem) (a1 a2 : Int32) : CA (dW_read f a1 a2) (dM_read f a1 a2) mem := by
  have hI' := hI
  obtain ⟨S, hC, hM, hi, hm, hR⟩ := hI'
  have hct : ct S ≤ 10 := hi.2.2.2.2.2.2.2.1
  cases h1 : inb a1 0 3 with
  | false => exact find_B (f := f) hI (by unfold dW_read; rw [W_isSheet, bd_ok, h1, ifz_f]) (fun m fx => by unfold dM_read; rw [badM_f h1, bd_ok, if_neg (by decide)])
  | true =>
  obtain ⟨s, -, hs, rfl⟩ := inb_t (a := 0) (n := 3) rfl (by omega) (by omega) h1
  obtain ⟨b, z, hb, hz, e1, e2, e3, e4, e5⟩ := hR.1 s (by omega)
  by_cases c : b = 0
  · exact find_M (f := f) hI (by unfold dW_read; rw [W_isSheet, bd_ok, h1, ifz_t, ck_in _ (by omega) (by omega), nI_clamp (by omega), miss_ok (by omega) e1, bd_ok, decide_eq_true c, ifz_t]) (fun m fx => by unfold dM_read; rw [badM hs (by omega) ((fx 17 0 s rfl).1.trans e2), bd_ok, if_pos c, if_neg (by decide)])
  cases h2 : isW S a2 with
  | false => exact find_B (f := f) hI (by unfold dW_read; rw [W_isSheet, bd_ok, h1, ifz_t, ck_in _ (by omega) (by omega), nI_clamp (by omega), miss_ok (by omega) e1, bd_ok, decide_eq_false c, ifz_f, W_isWall hC, bd_ok, h2, ifz_f]) (fun m fx => by unfold dM_read; rw [badM hs (by omega) ((fx 17 0 s rfl).1.trans e2), bd_ok, if_neg c, if_pos rfl, M_isOne (RM_10 hM fx), bd_ok, h2, ifz_f])
  | true =>
    obtain ⟨w, hw, rfl⟩ := isW_t hi h2
    obtain ⟨v0, v1, v2, v3, v4, v5⟩ := hi.2.2.2.2.2.2.2.2 w hw
    obtain ⟨m2, s1, s2, s3⟩ := readM_lp (f := f) (s := s) (z := z) (w := w) (vs := gL mem 9 s) hf hi hw (by omega) hz 24 0 f (wa S w 0) (wa S w 3) mem (by omega) (by omega) v0 v3 (by rw [show setW (setW S w 0 (wa S w 0)) w 3 (wa S w 3) = S by rw [setW_id, setW_id]]; exact hM) e4 (fun j hj => (e5 j hj).symm)
    refine ans_ca (r := nI (cnS S (gL mem 9 s) z 24)) (m1 := mem) (m2 := m2) ?_ ?_ (INV_mv hR hC (Fz_rfl _ _) s2 (fz13 s3) hi hm)
    · unfold dW_read
      rw [W_isSheet, bd_ok, h1, ifz_t, ck_in _ (by omega) (by omega), nI_clamp (by omega), miss_ok (by omega) e1, bd_ok, decide_eq_false c, ifz_f, W_isWall hC, bd_ok, h2, ifz_t]
      exact readC_ok hf hC hi hz e3
    · unfold dM_read
      rw [badM hs (by omega) e2, bd_ok, if_neg c, if_pos rfl, M_isOne hM, bd_ok, h2, ifz_t, show dM_its f (nI w) 0 mem = _ from its_n (k := 0) hM hi hw (by omega), bd_ok, show dM_its f (nI w) 3 mem = _ from its_n (k := 3) hM hi hw (by omega), bd_ok]
      exact s1
