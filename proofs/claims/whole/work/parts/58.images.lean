/-! image, undo, tear, count, status, feed, wipe. -/
def imZ (t _i j : Nat) : Bool := decide (t = 0 ∧ j = 2 ∨ t = 1 ∨ t = 2 ∨ t = 4 ∨ t = 12 ∧ j = 18 ∨ t = 13 ∨ t = 21)
theorem im_pal {p t i j : Nat} (h : palZ p t i j = true) : imZ t i j = true := by
  have := notPal h
  exact decide_eq_true (by omega)
theorem TP_fz' {P : Nat → Nat → Nat → Bool} {mem mem' : Mem} (h : TP mem) (fx : Fz P mem mem') (h5 : P 5 0 1 = false) (h12 : P 12 0 5 = false) (h6 : ∀ j, P 6 0 j = false) (h16 : ∀ j, P 16 0 j = false) : TP mem' := by
  obtain ⟨n, h1, h2, h3, h4⟩ := h
  refine ⟨n, h1, ?_, ?_, fun j hj => ?_⟩
  · rw [(fx _ _ _ h5).1, h2]
  · rw [(fx _ _ _ h12).1, h3]
  · obtain ⟨b, g1, g2, g3⟩ := h4 j hj
    refine ⟨b, g1, ?_, ?_⟩
    · rw [(fx _ _ _ (h6 j)).1, g2]
    · rw [(fx _ _ _ (h16 j)).1, g3]
theorem FD_fz' {P : Nat → Nat → Nat → Bool} {mem mem' : Mem} (h : FD mem) (fx : Fz P mem mem') (h10 : ∀ j, P 10 0 j = false) (h14 : ∀ j, P 14 0 j = false) : FD mem' := fun k hk => by
  rw [(fx _ _ _ (h10 k)).1, (fx _ _ _ (h14 k)).1, h k hk]
theorem SH_im {mem m : Mem} (h : SH mem) (fx : Fz imZ mem m) : SH m := fun s hs => SH1_fz (h s hs) fx hs (fun _ => rfl) (fun _ => rfl) rfl rfl (fun _ _ => rfl)
theorem TP_im {mem m : Mem} (h : TP mem) (fx : Fz imZ mem m) : TP m := TP_fz' h fx rfl rfl (fun _ => rfl) (fun _ => rfl)
theorem FD_im {mem m : Mem} (h : FD mem) (fx : Fz imZ mem m) : FD m := FD_fz' h fx (fun _ => rfl) (fun _ => rfl)
theorem pal01 {t i j : Nat} (h : palZ 0 t i j = true) : palZ 1 t i j = false := by
  have h1 := of_decide_eq_true h
  exact decide_eq_false (by omega)
theorem RC_flag {mem : Mem} {p : Nat} {S : PS} (h : RC mem p S) (v : Int32) : RC (sI mem 0 0 2 v) p S := ⟨h.1, h.2.1, h.2.2.1, fun w hw k hk => by rw [gI_sI, if_neg (by omega)]; exact h.2.2.2 w hw k hk⟩
theorem RK_flag {t j : Nat} {mem : Mem} {S : PS} (ht : t ≠ 12) (h : RK t mem S) (v : Int32) : RK t (sI mem 12 0 j v) S := by
  have e : ∀ j', gI (sI mem 12 0 j v) t 0 j' = gI mem t 0 j' := fun j' => by rw [gI_sI, if_neg (fun z => ht z.1)]
  obtain ⟨h1, h2, h3, h4⟩ := h
  exact ⟨(e _).trans h1, fun j hj => (e _).trans (h2 j hj), (e _).trans h3, fun w hw k hk => (e _).trans (h4 w hw k hk)⟩
theorem ca_image {f : Nat} {mem : Mem} (hf : 2000 ≤ f) (hI : INV mem) : CA (dW_image f) (dM_image f) mem := by
  obtain ⟨S, hC, hM, hi, hm, hS, hT, hF, hK⟩ := hI
  have hct : ct S ≤ 10 := hi.2.2.2.2.2.2.2.1
  obtain ⟨m1, r1, r2, r3⟩ := bec_ok (f := f) (p := 1) (q := 0) hf (by omega) hi hC
  have hC1 : RC m1 0 S := RC_fz hC hct r3 (fun _ _ _ q => pal01 q)
  have hM1 : RM (sI m1 0 0 2 1) S := RK_fz (t := 13) (P := fun t _ _ => decide (t = 0)) (RK_fz (t := 13) hM r3 (fun j => decide_eq_false (by omega))) (Fz_sI rfl) (fun j => rfl)
  obtain ⟨m2, s1, s2, s3⟩ := keep_21 (f := f) hf hi hM1
  have fx : Fz imZ mem (sI m2 12 0 18 1) := Fz_tr (Fz_mo r3 (fun _ _ _ => im_pal)) (Fz_tr (Fz_sI rfl) (Fz_tr (Fz_mo s3 (fun t _ _ q => by
    have : t = 21 := of_decide_eq_true q
    exact decide_eq_true (by omega))) (Fz_sI rfl)))
  have fx2 : Fz (rowZ 21) (sI m1 0 0 2 1) m2 := s3
  have d21 : ∀ {p t i j : Nat}, palZ p t i j = true → rowZ 21 t i j = false := fun q => by
    have := notPal q
    exact decide_eq_false (by omega)
  have d12 : ∀ {p t i j : Nat}, palZ p t i j = true → rowZ 12 t i j = false := fun q => by
    have := notPal q
    exact decide_eq_false (by omega)
  have f12 : Fz (rowZ 12) m2 (sI m2 12 0 18 1) := Fz_sI rfl
  refine ans_ca (r := 1) (m1 := sI m1 0 0 2 1) (m2 := sI m2 12 0 18 1) (by unfold dW_image; rw [r1, bd_ok]) (by unfold dM_image; rw [s1, bd_ok]) ⟨S, ?_, ?_, hi, hm, SH_im hS fx, TP_im hT fx, FD_im hF fx, Or.inr ⟨?_, ?_, S, ?_, ?_, hi, hm⟩⟩
  · exact RC_fz (RC_fz (RC_flag hC1 1) hct s3 (fun _ _ _ q => d21 q)) hct f12 (fun _ _ _ q => d12 q)
  · exact RK_flag (t := 13) (by omega) (RK_fz (t := 13) hM1 s3 (fun j => rfl)) 1
  · rw [(f12 0 0 2 rfl).1, (s3 0 0 2 rfl).1, gI_sI, if_pos ⟨rfl, rfl, rfl⟩]
  · rw [gI_sI, if_pos ⟨rfl, rfl, rfl⟩]
  · exact RC_fz (RC_fz (RC_flag r2 1) hct s3 (fun _ _ _ q => d21 q)) hct f12 (fun _ _ _ q => d12 q)
  · exact RK_flag (by omega) s2 1
theorem ca_undo {f : Nat} {mem : Mem} (hf : 2000 ≤ f) (hI : INV mem) : CA (dW_undo f) (dM_undo f) mem := by
  have hI' := hI
  obtain ⟨S, hC, hM, hi, hm, hR⟩ := hI'
  obtain ⟨hS, hT, hF, hK⟩ := hR
  rcases hK with ⟨a, b⟩ | ⟨a, b, T, c1, c2, c3, c4⟩
  · refine find_N (f := f) hI ?_ (fun m fx => ?_)
    · unfold dW_undo
      rw [a, if_pos rfl]
    · unfold dM_undo
      rw [(fx 12 0 18 rfl).1, b, if_pos rfl]
  · obtain ⟨m1, r1, r2, r3⟩ := bec_ok (f := f) (p := 0) (q := 1) hf (by omega) c3 c1
    have f0 := fz0 r3
    have b1 : gI m1 12 0 18 = 1 := (r3 12 0 18 (by rfl)).1.trans b
    have c21 : RK 21 m1 T := RK_fz c2 r3 (fun j => by rfl)
    obtain ⟨m2, s1, s2, s3⟩ := back_21 (f := f) hf c3 c21
    refine ans_ca (r := nI (ct T)) (m1 := m1) (m2 := m2) ?_ ?_ (INV_mv ⟨hS, hT, hF, Or.inr ⟨a, b, T, c1, c2, c3, c4⟩⟩ r2 f0 s2 (fz13 s3) c3 c4)
    · unfold dW_undo
      rw [a, if_neg (by decide), r1, bd_ok, r2.2.2.1]
    · unfold dM_undo
      rw [b1, if_neg (by decide), s1, bd_ok, s2.2.2.1]
theorem ca_tear {f : Nat} {mem : Mem} (hI : INV mem) : CA (dW_tear f) (dM_tear f) mem := by
  obtain ⟨S, hC, hM, hi, hm, hS, hT, hF, hK⟩ := hI
  have hct : ct S ≤ 10 := hi.2.2.2.2.2.2.2.1
  have fx : Fz imZ mem (sI (sI mem 0 0 2 0) 12 0 18 0) := Fz_tr (Fz_sI rfl) (Fz_sI rfl)
  have f12 : Fz (rowZ 12) (sI mem 0 0 2 0) (sI (sI mem 0 0 2 0) 12 0 18 0) := Fz_sI rfl
  have d12 : ∀ {p t i j : Nat}, palZ p t i j = true → rowZ 12 t i j = false := fun q => by
    have := notPal q
    exact decide_eq_false (by omega)
  have hI2 : INV (sI (sI mem 0 0 2 0) 12 0 18 0) := by
    refine ⟨S, ?_, ?_, hi, hm, SH_im hS fx, TP_im hT fx, FD_im hF fx, Or.inl ⟨?_, ?_⟩⟩
    · exact RC_fz (RC_flag hC 0) hct f12 (fun _ _ _ q => d12 q)
    · refine RK_flag (t := 13) (by omega) ?_ 0
      exact RK_fz (t := 13) (P := fun t _ _ => decide (t = 0)) hM (Fz_sI rfl) (fun j => rfl)
    · rw [gI_sI, if_neg (by omega), gI_sI, if_pos ⟨rfl, rfl, rfl⟩]
    · rw [gI_sI, if_pos ⟨rfl, rfl, rfl⟩]
  have e18 : gI (sI mem 0 0 2 0) 12 0 18 = gI mem 12 0 18 := by rw [gI_sI, if_neg (by omega)]
  rcases hK with ⟨a, b⟩ | ⟨a, b, -⟩
  · refine ans_ca (r := 0) (m1 := sI mem 0 0 2 0) ?_ ?_ hI2
    · unfold dW_tear
      rw [a, if_pos rfl]
    · unfold dM_tear
      rw [e18, b, if_pos rfl]
  · refine ans_ca (r := 1) (m1 := sI mem 0 0 2 0) ?_ ?_ hI2
    · unfold dW_tear
      rw [a, if_neg (by decide)]
    · unfold dM_tear
      rw [e18, b, if_neg (by decide)]
theorem wordsEC_ok {f p : Nat} {mem : Mem} {S : PS} (hf : 2000 ≤ f) (hC : RC mem p S) (hi : IV S) : dP_wordsCountedEach f p mem = some (nI (smS (fun w => bcN (wa S w 4)) (ct S)), mem) := by
  have hct : ct S ≤ 10 := hi.2.2.2.2.2.2.2.1
  refine lp (fun n (x : Int32 × Int32) => dP_wordsCountedEach_4 f n p x.1 x.2 mem) (fun i => (nI (smS (fun w => bcN (wa S w 4)) i), nI i)) (c := ct S) (fun n => ?_) (fun n i hc => ?_) (ct S) 0 f (by omega) (by omega)
  · show dP_wordsCountedEach_4 f (n + 1) _ _ _ mem = _
    rw [dP_wordsCountedEach_4, hC.2.2.1, if_neg (nlt_n (by omega))]
  · show dP_wordsCountedEach_4 f (n + 1) _ _ _ mem = dP_wordsCountedEach_4 f n _ _ _ mem
    obtain ⟨v0, v1, v2, v3, v4, v5⟩ := hi.2.2.2.2.2.2.2.2 i hc
    rw [dP_wordsCountedEach_4, hC.2.2.1, if_pos (lt_n hc (by omega)), ck_in _ (by omega) (by omega), nI_clamp (by omega), hC.2.2.2 i hc 4 (by omega), bcC_ok (by omega), bd_ok, nb_add, add1]
    rfl
theorem wordsEM_ok {f : Nat} {mem : Mem} {S : PS} (hf : 2000 ≤ f) (hM : RM mem S) (hi : IV S) : dM_count_46 f f 0 0 mem = some (nI (smS (fun w => bcN (wa S w 4)) (ct S)), mem) := by
  have hct : ct S ≤ 10 := hi.2.2.2.2.2.2.2.1
  refine lp (fun n (x : Int32 × Int32) => dM_count_46 f n x.1 x.2 mem) (fun i => (nI (smS (fun w => bcN (wa S w 4)) i), nI i)) (c := ct S) (fun n => ?_) (fun n i hc => ?_) (ct S) 0 f (by omega) (by omega)
  · show dM_count_46 f (n + 1) _ _ mem = _
    rw [dM_count_46, hM.2.2.1, if_neg (nlt_n (by omega))]
  · show dM_count_46 f (n + 1) _ _ mem = dM_count_46 f n _ _ mem
    obtain ⟨v0, v1, v2, v3, v4, v5⟩ := hi.2.2.2.2.2.2.2.2 i hc
    rw [dM_count_46, hM.2.2.1, if_pos (lt_n hc (by omega)), show dM_its f (nI i) 4 mem = _ from its_n (k := 4) hM hi hc (by omega), bd_ok, bitsM_ok hf (by omega), bd_ok, nb_add, add1]
    rfl
theorem wakeC_ok {f p : Nat} {mem : Mem} {S : PS} (hf : 2000 ≤ f) (hC : RC mem p S) (hi : IV S) : dP_howManyAwake f p mem = some (nI (smS (fun w => if wakeB S w = true then 1 else 0) (ct S)), mem) := by
  have hct : ct S ≤ 10 := hi.2.2.2.2.2.2.2.1
  refine lp (fun n (x : Int32 × Int32) => dP_howManyAwake_4 f n p x.1 x.2 mem) (fun i => (nI (smS (fun w => if wakeB S w = true then 1 else 0) i), nI i)) (c := ct S) (fun n => ?_) (fun n i hc => ?_) (ct S) 0 f (by omega) (by omega)
  · show dP_howManyAwake_4 f (n + 1) _ _ _ mem = _
    rw [dP_howManyAwake_4, hC.2.2.1, if_neg (nlt_n (by omega))]
  · show dP_howManyAwake_4 f (n + 1) _ _ _ mem = dP_howManyAwake_4 f n _ _ _ mem
    rw [dP_howManyAwake_4, hC.2.2.1, if_pos (lt_n hc (by omega)), ck_in _ (by omega) (by omega), nI_clamp (by omega), awakeC_ok hC hi hc, bd_ok, add0, add1, add1, if_b2, smS]
    cases wakeB S i with
    | false => simp
    | true => simp
theorem wakeM_ok {f : Nat} {mem : Mem} {S : PS} (hf : 2000 ≤ f) (hM : RM mem S) (hi : IV S) : dM_count_78 f f 0 0 mem = some (nI (smS (fun w => if wakeB S w = true then 1 else 0) (ct S)), mem) := by
  have hct : ct S ≤ 10 := hi.2.2.2.2.2.2.2.1
  refine lp (fun n (x : Int32 × Int32) => dM_count_78 f n x.1 x.2 mem) (fun i => (nI (smS (fun w => if wakeB S w = true then 1 else 0) i), nI i)) (c := ct S) (fun n => ?_) (fun n i hc => ?_) (ct S) 0 f (by omega) (by omega)
  · show dM_count_78 f (n + 1) _ _ mem = _
    rw [dM_count_78, hM.2.2.1, if_neg (nlt_n (by omega))]
  · show dM_count_78 f (n + 1) _ _ mem = dM_count_78 f n _ _ mem
    rw [dM_count_78, hM.2.2.1, if_pos (lt_n hc (by omega)), awakeM_ok hM hi hc, bd_ok, add0, add1, add1, if_b2, smS]
    cases wakeB S i with
    | false => simp
    | true => simp
theorem ca_count {f : Nat} {mem : Mem} (hf : 2000 ≤ f) (hI : INV mem) (a1 : Int32) : CA (dW_count f a1) (dM_count f a1) mem := by
  have hI' := hI
  obtain ⟨S, hC, hM, hi, hm, hR⟩ := hI'
  by_cases c0 : a1 = 0
  · exact ans_ca (r := nI (ct S)) (m1 := mem) (m2 := mem) (by unfold dW_count; rw [if_pos c0, hC.2.2.1]) (by unfold dM_count; rw [if_pos c0, hM.2.2.1]) hI
  by_cases c1 : a1 = 1
  · obtain ⟨n, t1, t2, t3, t4⟩ := hR.2.1
    exact ans_ca (r := nI n) (m1 := mem) (m2 := mem) (by unfold dW_count; rw [if_neg c0, if_pos c1, t2]) (by unfold dM_count; rw [if_neg c0, if_pos c1, t3]) hI
  by_cases c2 : a1 = 2
  · exact ans_ca (by unfold dW_count; rw [if_neg c0, if_neg c1, if_pos c2, wordsEC_ok hf hC hi, bd_ok]) (by unfold dM_count; rw [if_neg c0, if_neg c1, if_pos c2]; exact wordsEM_ok hf hM hi) hI
  by_cases c3 : a1 = 3
  · exact ans_ca (by unfold dW_count; rw [if_neg c0, if_neg c1, if_neg c2, if_pos c3, wakeC_ok hf hC hi, bd_ok]) (by unfold dM_count; rw [if_neg c0, if_neg c1, if_neg c2, if_pos c3]; exact wakeM_ok hf hM hi) hI
  exact find_B (f := f) hI (by unfold dW_count; rw [if_neg c0, if_neg c1, if_neg c2, if_neg c3]) (fun m fx => by unfold dM_count; rw [if_neg c0, if_neg c1, if_neg c2, if_neg c3])
def smI (g : Nat → Int32) : Nat → Int32
  | 0 => 0
  | n + 1 => smI g n + g n
theorem smI_congr {g h : Nat → Int32} : ∀ n, (∀ k, k < n → g k = h k) → smI g n = smI h n
  | 0, _ => rfl
  | n + 1, e => by rw [smI, smI, smI_congr n (fun k hk => e k (by omega)), e n (by omega)]
theorem statC_ok {f : Nat} {mem : Mem} (hf : 2000 ≤ f) : dW_status_33 f f 0 0 mem = some (smI (fun k => gI mem 10 0 k) 7, mem) := by
  refine lp (fun n (x : Int32 × Int32) => dW_status_33 f n x.1 x.2 mem) (fun i => (smI (fun k => gI mem 10 0 k) i, nI i)) (c := 7) (fun n => ?_) (fun n i hc => ?_) 7 0 f (by omega) (by omega)
  · show dW_status_33 f (n + 1) _ _ mem = _
    rw [dW_status_33, if_neg (show ¬ nI 7 < (7 : Int32) by decide)]
  · show dW_status_33 f (n + 1) _ _ mem = dW_status_33 f n _ _ mem
    rw [dW_status_33, if_pos (show nI i < (7 : Int32) from lt_n (c := 7) hc (by omega)), ck_in _ hc (by omega), nI_clamp (by omega), add1]
    rfl
theorem statM_ok {f : Nat} {mem : Mem} (hf : 2000 ≤ f) (x1 : Int32) : dM_status_21 f f x1 0 0 mem = if x1 < 0 then some (smI (fun k => gI mem 14 0 k) 7, mem) else ck x1 7 (some (gI mem 14 0 x1.toNatClampNeg, mem)) := by
  refine lp (fun n (x : Int32 × Int32) => dM_status_21 f n x1 x.1 x.2 mem) (fun i => (smI (fun k => gI mem 14 0 k) i, nI i)) (c := 7) (fun n => ?_) (fun n i hc => ?_) 7 0 f (by omega) (by omega)
  · show dM_status_21 f (n + 1) _ _ _ mem = _
    rw [dM_status_21, if_neg (show ¬ nI 7 < (7 : Int32) by decide)]
    by_cases c : x1 < 0
    · rw [if_pos c, if_pos c]
    · rw [if_neg c, if_neg c, if_neg c]
  · show dM_status_21 f (n + 1) _ _ _ mem = dM_status_21 f n _ _ _ mem
    rw [dM_status_21, if_pos (show nI i < (7 : Int32) from lt_n (c := 7) hc (by omega)), ck_in _ hc (by omega), nI_clamp (by omega), add1]
    rfl
theorem inb_m1 (x : Int32) : inb x (-1) 6 = (decide (x = -1) || inb x 0 6) := by
  unfold inb
  have e1 : (-1 : Int32) ≤ x ↔ (-1 : Int) ≤ x.toInt := Int32.le_iff_toInt_le
  have e0 : (0 : Int32) ≤ x ↔ (0 : Int) ≤ x.toInt := Int32.le_iff_toInt_le
  have ee : x = -1 ↔ x.toInt = (-1 : Int) := Int32.toInt_inj.symm
  by_cases c : x = -1
  · subst c
    decide
  · rw [decide_eq_false c, Bool.false_or]
    have : (-1 : Int32) ≤ x ↔ (0 : Int32) ≤ x := by
      rw [e1, e0]
      rw [ee] at c
      omega
    rw [decide_eq_decide.mpr this]
theorem ca_status {f : Nat} {mem : Mem} (hf : 2000 ≤ f) (hI : INV mem) (a1 : Int32) : CA (dW_status f a1) (dM_status f a1) mem := by
  have hI' := hI
  obtain ⟨S, hC, hM, hi, hm, hR⟩ := hI'
  have hF := hR.2.2.1
  cases h1 : inb a1 0 6 with
  | true =>
    have h2 : inb a1 (-1) 6 = true := by rw [inb_m1, h1, Bool.or_true]
    obtain ⟨k, -, hk, rfl⟩ := inb_t (a := 0) (n := 6) rfl (by omega) (by omega) h1
    refine ans_ca (r := gI mem 10 0 k) (m1 := mem) (m2 := mem) ?_ ?_ hI
    · unfold dW_status
      rw [W_in, bd_ok, h1, ifz_t, ck_in _ (by omega) (by omega), nI_clamp (by omega)]
    · unfold dM_status
      rw [M_in, bd_ok, h2, ifz_t, statM_ok hf, if_neg (nI_pos (by omega)), ck_in _ (by omega) (by omega), nI_clamp (by omega), hF k (by omega)]
  | false =>
    by_cases c : a1 = -1
    · have h2 : inb a1 (-1) 6 = true := by rw [inb_m1, decide_eq_true c]; rfl
      refine ans_ca (r := smI (fun k => gI mem 10 0 k) 7) (m1 := mem) (m2 := mem) ?_ ?_ hI
      · unfold dW_status
        rw [W_in, bd_ok, h1, ifz_f, if_pos c, statC_ok hf]
      · unfold dM_status
        rw [M_in, bd_ok, h2, ifz_t, statM_ok hf, if_pos (by rw [c]; decide), smI_congr 7 (fun k hk => hF k hk)]
    · have h2 : inb a1 (-1) 6 = false := by rw [inb_m1, decide_eq_false c, h1]; rfl
      exact find_B (f := f) hI (by unfold dW_status; rw [W_in, bd_ok, h1, ifz_f, if_neg c]) (fun m fx => by unfold dM_status; rw [M_in, bd_ok, h2, ifz_f])
def tpC (t _i j : Nat) : Bool := decide (t = 5 ∧ j = 1 ∨ t = 6)
def tpM (t _i j : Nat) : Bool := decide (t = 12 ∧ j = 5 ∨ t = 16)
def tpB (t _i j : Nat) : Bool := decide (t = 5 ∨ t = 6 ∨ t = 12 ∧ j ≠ 18 ∨ t = 16)
theorem and255 (x : Int32) : ∃ b, b ≤ 255 ∧ x &&& 255 = nI b := by
  have e : x = nI x.toBitVec.toNat := by
    apply Int32.toBitVec_inj.mp
    show x.toBitVec = BitVec.ofNat 32 x.toBitVec.toNat
    rw [BitVec.ofNat_toNat, BitVec.setWidth_eq]
  refine ⟨x.toBitVec.toNat &&& 255, Nat.and_le_right, ?_⟩
  rw [e]
  exact (nb_and _ 255).trans (by rw [← e])
def bytF (x : Int32) (i : Nat) : Int32 := (x >>> (((8 : Int32) * nI i) &&& 31)) &&& 255
theorem dec1 (i : Nat) : nI (i + 1) + (-1) = nI i := by
  have e : nI (i + 1) + (-1) = nI (i + 1) - 1 := (Int32.sub_eq_add_neg _ _).symm
  rw [e, sub1 (by omega)]
  rfl
theorem appC {f s : Nat} {v : Int32} {mem : Mem} (hs : s < 120) (h : gI mem 5 0 1 = nI s) : dT_append f v mem = some ((), sI (sI mem 6 0 s v) 5 0 1 (nI (s + 1))) := by
  unfold dT_append
  have e : gI (sI mem 6 0 s v) 5 0 1 = nI s := by rw [gI_sI, if_neg (by omega), h]
  rw [h, if_pos (show nI s < (120 : Int32) from lt_n (c := 120) hs (by omega)), ck_in _ hs (by omega), nI_clamp (by omega), e, add1]
theorem feedC_lp {f : Nat} {x : Int32} : ∀ (j s n : Nat) (mem : Mem), gI mem 5 0 1 = nI s → s + j + 1 ≤ 120 → j + 1 < n →
    ∃ m', dW_feed_41 f n x (nI j) mem = some (nI (s + j + 1), m') ∧ gI m' 5 0 1 = nI (s + j + 1) ∧ (∀ k, k < s → gI m' 6 0 k = gI mem 6 0 k) ∧ (∀ k, k ≤ j → gI m' 6 0 (s + k) = bytF x (j - k)) ∧ Fz tpC mem m'
  | 0, s, n, mem, h, hs, hn => by
    obtain ⟨n, rfl⟩ : ∃ k, n = k + 1 + 1 := ⟨n - 2, by omega⟩
    have e5 : gI (sI (sI mem 6 0 s (bytF x 0)) 5 0 1 (nI (s + 1))) 5 0 1 = nI (s + 1) := by rw [gI_sI, if_pos ⟨rfl, rfl, rfl⟩]
    rw [dW_feed_41, if_neg (nI_pos (by omega))]
    show ∃ m', bd (dT_append f (bytF x 0) mem) _ = _ ∧ _
    rw [appC (by omega) h, bd_ok, show nI 0 + (-1) = (-1 : Int32) by decide, dW_feed_41, if_pos (by decide), e5]
    refine ⟨_, rfl, e5, fun k hk => ?_, fun k hk => ?_, Fz_tr (Fz_sI rfl) (Fz_sI rfl)⟩
    · rw [gI_sI, if_neg (by omega), gI_sI, if_neg (by omega)]
    · have : k = 0 := by omega
      subst this
      rw [gI_sI, if_neg (by omega), gI_sI, if_pos ⟨rfl, rfl, rfl⟩]
  | j + 1, s, n, mem, h, hs, hn => by
    obtain ⟨n, rfl⟩ : ∃ k, n = k + 1 := ⟨n - 1, by omega⟩
    have e5 : gI (sI (sI mem 6 0 s (bytF x (j + 1))) 5 0 1 (nI (s + 1))) 5 0 1 = nI (s + 1) := by rw [gI_sI, if_pos ⟨rfl, rfl, rfl⟩]
    obtain ⟨m', r1, r2, r3, r4, r5⟩ := feedC_lp (f := f) (x := x) j (s + 1) n _ e5 (by omega) (by omega)
    rw [dW_feed_41, if_neg (nI_pos (by omega))]
    show ∃ m', bd (dT_append f (bytF x (j + 1)) mem) _ = _ ∧ _
    rw [appC (by omega) h, bd_ok, dec1, r1, show s + 1 + j + 1 = s + (j + 1) + 1 by omega]
    refine ⟨m', rfl, by rw [r2, show s + 1 + j + 1 = s + (j + 1) + 1 by omega], fun k hk => ?_, fun k hk => ?_, Fz_tr (Fz_tr (Fz_sI rfl) (Fz_sI rfl)) r5⟩
    · rw [r3 k (by omega), gI_sI, if_neg (by omega), gI_sI, if_neg (by omega)]
    · by_cases c : k = 0
      · subst c
        rw [r3 (s + 0) (by omega), gI_sI, if_neg (by omega), gI_sI, if_pos ⟨rfl, rfl, rfl⟩]
        rfl
      · have := r4 (k - 1) (by omega)
        rw [show s + 1 + (k - 1) = s + k by omega, show j - (k - 1) = j + 1 - k by omega] at this
        exact this
theorem feedM_lp {f : Nat} {x : Int32} : ∀ (j s n : Nat) (mem : Mem), gI mem 12 0 5 = nI s → s + j + 1 ≤ 120 → j + 1 < n →
    ∃ m', dM_feed_38 f n x (nI j) mem = some (nI (s + j + 1), m') ∧ gI m' 12 0 5 = nI (s + j + 1) ∧ (∀ k, k < s → gI m' 16 0 k = gI mem 16 0 k) ∧ (∀ k, k ≤ j → gI m' 16 0 (s + k) = bytF x (j - k)) ∧ Fz tpM mem m'
  | 0, s, n, mem, h, hs, hn => by
    obtain ⟨n, rfl⟩ : ∃ k, n = k + 1 + 1 := ⟨n - 2, by omega⟩
    have e4 : gI (sI mem 16 0 s (bytF x 0)) 12 0 5 = nI s := by rw [gI_sI, if_neg (by omega), h]
    have e5 : gI (sI (sI mem 16 0 s (bytF x 0)) 12 0 5 (nI (s + 1))) 12 0 5 = nI (s + 1) := by rw [gI_sI, if_pos ⟨rfl, rfl, rfl⟩]
    rw [dM_feed_38, if_neg (nI_pos (by omega)), h, ck_in _ (by omega) (by omega), nI_clamp (by omega), show nI 0 + (-1) = (-1 : Int32) by decide]
    show ∃ m', dM_feed_38 f (n + 1) x (-1) (sI (sI mem 16 0 s (bytF x 0)) 12 0 5 (gI (sI mem 16 0 s (bytF x 0)) 12 0 5 + 1)) = _ ∧ _
    rw [e4, add1, dM_feed_38, if_pos (by decide), e5]
    refine ⟨_, rfl, e5, fun k hk => ?_, fun k hk => ?_, Fz_tr (Fz_sI rfl) (Fz_sI rfl)⟩
    · rw [gI_sI, if_neg (by omega), gI_sI, if_neg (by omega)]
    · have : k = 0 := by omega
      subst this
      rw [gI_sI, if_neg (by omega), gI_sI, if_pos ⟨rfl, rfl, rfl⟩]
  | j + 1, s, n, mem, h, hs, hn => by
    obtain ⟨n, rfl⟩ : ∃ k, n = k + 1 := ⟨n - 1, by omega⟩
    have e4 : gI (sI mem 16 0 s (bytF x (j + 1))) 12 0 5 = nI s := by rw [gI_sI, if_neg (by omega), h]
    have e5 : gI (sI (sI mem 16 0 s (bytF x (j + 1))) 12 0 5 (nI (s + 1))) 12 0 5 = nI (s + 1) := by rw [gI_sI, if_pos ⟨rfl, rfl, rfl⟩]
    obtain ⟨m', r1, r2, r3, r4, r5⟩ := feedM_lp (f := f) (x := x) j (s + 1) n _ e5 (by omega) (by omega)
    rw [dM_feed_38, if_neg (nI_pos (by omega)), h, ck_in _ (by omega) (by omega), nI_clamp (by omega), dec1]
    show ∃ m', dM_feed_38 f n x (nI j) (sI (sI mem 16 0 s (bytF x (j + 1))) 12 0 5 (gI (sI mem 16 0 s (bytF x (j + 1))) 12 0 5 + 1)) = _ ∧ _
    rw [e4, add1, r1, show s + 1 + j + 1 = s + (j + 1) + 1 by omega]
    refine ⟨m', rfl, by rw [r2, show s + 1 + j + 1 = s + (j + 1) + 1 by omega], fun k hk => ?_, fun k hk => ?_, Fz_tr (Fz_tr (Fz_sI rfl) (Fz_sI rfl)) r5⟩
    · rw [r3 k (by omega), gI_sI, if_neg (by omega), gI_sI, if_neg (by omega)]
    · by_cases c : k = 0
      · subst c
        rw [r3 (s + 0) (by omega), gI_sI, if_neg (by omega), gI_sI, if_pos ⟨rfl, rfl, rfl⟩]
        rfl
      · have := r4 (k - 1) (by omega)
        rw [show s + 1 + (k - 1) = s + k by omega, show j - (k - 1) = j + 1 - k by omega] at this
        exact this
theorem INV_tp {mem m : Mem} {S : PS} (hC : RC mem 0 S) (hM : RM mem S) (hi : IV S) (hm : mi S ≤ 99999) (hR : RS mem) (fx : Fz tpB mem m) (hT : TP m) : INV m := by
  have dp : ∀ {p t i j : Nat}, palZ p t i j = true → tpB t i j = false := fun q => by
    have := notPal q
    exact decide_eq_false (by omega)
  refine ⟨S, RC_fz hC hi.2.2.2.2.2.2.2.1 fx (fun _ _ _ q => dp q), RK_fz (t := 13) hM fx (fun _ => rfl), hi, hm, fun s hs => SH1_fz (hR.1 s hs) fx hs (fun _ => rfl) (fun _ => rfl) rfl rfl (fun _ _ => rfl), hT, FD_fz' hR.2.2.1 fx (fun _ => rfl) (fun _ => rfl), KP_fz hR.2.2.2 fx rfl rfl (fun _ _ _ q => dp q) (fun _ => rfl)⟩
theorem tpC_B {mem m : Mem} (h : Fz tpC mem m) : Fz tpB mem m := Fz_mo h (fun t i j q => by
  have := of_decide_eq_true q
  exact decide_eq_true (by omega))
theorem tpM_B {mem m : Mem} (h : Fz tpM mem m) : Fz tpB mem m := Fz_mo h (fun t i j q => by
  have := of_decide_eq_true q
  exact decide_eq_true (by omega))
theorem ca_feed {f : Nat} {mem : Mem} (hf : 2000 ≤ f) (hI : INV mem) (a1 a2 : Int32) : CA (dW_feed f a1 a2) (dM_feed f a1 a2) mem := by
  have hI' := hI
  obtain ⟨S, hC, hM, hi, hm, hR⟩ := hI'
  obtain ⟨s, t1, t2, t3, t4⟩ := hR.2.1
  cases h2 : inb a2 1 4 with
  | false => exact find_B (f := f) hI (by unfold dW_feed; rw [W_in, bd_ok, h2, ifz_f]) (fun m fx => by unfold dM_feed; rw [M_in, bd_ok, h2, ifz_f])
  | true =>
    obtain ⟨N, hN1, hN, rfl⟩ := inb_t (a := 1) (n := 4) rfl (by omega) (by omega) h2
    have cC : (120 : Int32) - nI N < nI s ↔ 120 < s + N := by
      rw [show (120 : Int32) - nI N = nI (120 - N) from nb_sub (a := 120) (by omega), nb_lt (by omega) (by omega)]
      omega
    have cM : (120 : Int32) < nI s + nI N ↔ 120 < s + N := by
      rw [nb_add]
      exact nb_lt (a := 120) (by omega) (by omega)
    by_cases c : 120 < s + N
    · exact find_F (f := f) hI (by unfold dW_feed; rw [W_in, bd_ok, h2, ifz_t, t2, if_pos (cC.mpr c)]) (fun m fx => by unfold dM_feed; rw [M_in, bd_ok, h2, ifz_t, (fx 12 0 5 rfl).1, t3, if_pos (cM.mpr c)])
    · obtain ⟨m1, r1, r2, r3, r4, r5⟩ := feedC_lp (f := f) (x := a1) (N - 1) s f mem t2 (by omega) (by omega)
      have u3 : gI m1 12 0 5 = nI s := (r5 12 0 5 rfl).1.trans t3
      obtain ⟨m2, s1, s2, s3, s4, s5⟩ := feedM_lp (f := f) (x := a1) (N - 1) s f m1 u3 (by omega) (by omega)
      refine ans_ca (m1 := m1) (m2 := m2) (by unfold dW_feed; rw [W_in, bd_ok, h2, ifz_t, t2, if_neg (fun z => c (cC.mp z)), sub1 hN1]; exact r1) (by unfold dM_feed; rw [M_in, bd_ok, h2, ifz_t, u3, if_neg (fun z => c (cM.mp z)), sub1 hN1]; exact s1) (INV_tp hC hM hi hm hR (Fz_tr (tpC_B r5) (tpM_B s5)) ⟨s + (N - 1) + 1, by omega, ?_, s2, fun j hj => ?_⟩)
      · rw [(s5 5 0 1 rfl).1, r2]
      · rw [(s5 6 0 j rfl).1]
        by_cases cj : j < s
        · obtain ⟨b, g1, g2, g3⟩ := t4 j cj
          refine ⟨b, g1, by rw [r3 j cj, g2], ?_⟩
          rw [s3 j cj, (r5 16 0 j rfl).1, g3]
        · have e : j = s + (j - s) := by omega
          obtain ⟨b, hb, hbe⟩ := and255 (a1 >>> (((8 : Int32) * nI (N - 1 - (j - s))) &&& 31))
          refine ⟨b, hb, ?_, ?_⟩
          · rw [e, r4 (j - s) (by omega)]
            exact hbe
          · rw [e, s4 (j - s) (by omega)]
            exact hbe
theorem ca_wipe {f : Nat} {mem : Mem} (hI : INV mem) : CA (dW_wipe f) (dM_wipe f) mem := by
  obtain ⟨S, hC, hM, hi, hm, hR⟩ := hI
  obtain ⟨s, t1, t2, t3, t4⟩ := hR.2.1
  refine ans_ca (r := nI s) (m1 := sI mem 5 0 1 0) (m2 := sI (sI mem 5 0 1 0) 12 0 5 0) ?_ ?_ (INV_tp hC hM hi hm hR (Fz_tr (Fz_sI rfl) (Fz_sI rfl)) ⟨0, by omega, ?_, ?_, fun j hj => absurd hj (by omega)⟩)
  · unfold dW_wipe dT_clear
    rw [bd_ok, t2]
  · unfold dM_wipe
    rw [gI_sI, if_neg (by omega), t3]
  · rw [gI_sI, if_neg (by omega), gI_sI, if_pos ⟨rfl, rfl, rfl⟩]
    rfl
  · rw [gI_sI, if_pos ⟨rfl, rfl, rfl⟩]
    rfl
