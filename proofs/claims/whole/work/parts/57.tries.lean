/-! shift, side, lost, best. -/
def amS (g : Nat → Nat) (o F0 B0 : Nat) : Nat → Nat × Nat
  | 0 => (F0, B0)
  | j + 1 => if g (o + j) < (amS g o F0 B0 j).1 then (g (o + j), o + j) else amS g o F0 B0 j
theorem amS_s (g : Nat → Nat) (o F0 B0 j : Nat) : amS g o F0 B0 (j + 1) = if g (o + j) < (amS g o F0 B0 j).1 then (g (o + j), o + j) else amS g o F0 B0 j := rfl
theorem amS_b (g : Nat → Nat) (o : Nat) {F0 B0 : Nat} (h : B0 ≤ o) : ∀ j, (amS g o F0 B0 j).1 ≤ F0 ∧ (amS g o F0 B0 j).2 ≤ o + j
  | 0 => ⟨Nat.le_refl _, h⟩
  | j + 1 => by
    obtain ⟨h1, h2⟩ := amS_b g o (F0 := F0) h j
    rw [amS]
    split
    · exact ⟨by show g (o + j) ≤ F0; omega, by show o + j ≤ _; omega⟩
    · exact ⟨h1, by omega⟩
theorem quS_le (S : PS) (near b N : Nat) : quS S near b N ≤ N := cntB_le _ _
theorem quS_setR (S : PS) (v near b N : Nat) : quS (setR S 0 v) near b N = quS S near b N := rfl
theorem nearS_setR (S : PS) (v room : Nat) : nearS (setR S 0 v) room = nearS S room := nearS_congr (S := S) (T := setR S 0 v) rfl (fun _ _ _ _ => rfl) room
theorem setR_setR (S : PS) (u v : Nat) : setR (setR S 0 u) 0 v = setR S 0 v := by
  refine ps_ext rfl (funext fun j => ?_) rfl fun _ _ => rfl
  show (if j = 0 then v else if j = 0 then u else ro S j) = if j = 0 then v else ro S j
  split <;> rfl
theorem setR_id (S : PS) : setR S 0 (ro S 0) = S := by
  refine ps_ext rfl (funext fun j => ?_) rfl fun _ _ => rfl
  show (if j = 0 then ro S 0 else ro S j) = ro S j
  split
  · rename_i h
    rw [h]
  · rfl
theorem shiftM_lp {f room N : Nat} {S : PS} (hf : 2000 ≤ f) (hi : IV S) (hr : room ≤ 9) (hN : N ≤ 60) : ∀ (d j n u : Nat) (mem : Mem), j + d = 60 → d < n → 1 ≤ u → u ≤ 60 → RM mem (setR S 0 u) →
    ∃ m', dM_shift_42 f n (nI room) (nI N) (nI (ro S 0)) (nI (amS (fun v => quS S (nearS S room) v N) 1 (N + 1) 1 j).2) (nI (amS (fun v => quS S (nearS S room) v N) 1 (N + 1) 1 j).1) (nI (1 + j)) mem = some (nI (amS (fun v => quS S (nearS S room) v N) 1 (N + 1) 1 60).2, m') ∧ RM m' S ∧ Fz (rowZ 13) mem m'
  | 0, j, n, u, mem, e, hn, hu1, hu, h => by
    obtain ⟨n, rfl⟩ : ∃ k, n = k + 1 := ⟨n - 1, by omega⟩
    have e' : j = 60 := by omega
    subst e'
    rw [dM_shift_42, if_pos (show (60 : Int32) < nI (1 + 60) by decide)]
    refine ⟨_, rfl, ?_, Fz_sI rfl⟩
    have := RM_setR h (k := 0) (by omega) (ro S 0)
    rw [setR_setR, setR_id] at this
    exact this
  | d + 1, j, n, u, mem, e, hn, hu1, hu, h => by
    obtain ⟨n, rfl⟩ : ∃ k, n = k + 1 := ⟨n - 1, by omega⟩
    have h1 : RM (sI mem 13 0 1 (nI (1 + j))) (setR S 0 (1 + j)) := by
      have := RM_setR h (k := 0) (by omega) (1 + j)
      rw [setR_setR] at this
      exact this
    have hi1 : IV (setR S 0 (1 + j)) := IV_setR hi (Or.inl ⟨rfl, by omega, by omega⟩)
    have U := unIn_ok (f := f) (walls := 1023) (N := N) hf h1 hi1 hr (by omega) (by omega)
    rw [near_all hi1, nearS_setR, quS_setR] at U
    have U' : dM_unheardIn f (nI room) (nI N) 1023 (sI mem 13 0 1 (nI (1 + j))) = some (nI (quS S (nearS S room) (1 + j) N), sI mem 13 0 1 (nI (1 + j))) := U
    have b := amS_b (fun v => quS S (nearS S room) v N) 1 (F0 := N + 1) (B0 := 1) (by omega) j
    have q := quS_le S (nearS S room) (1 + j) N
    have kk : nI (quS S (nearS S room) (1 + j) N) < nI (amS (fun v => quS S (nearS S room) v N) 1 (N + 1) 1 j).1 ↔ quS S (nearS S room) (1 + j) N < (amS (fun v => quS S (nearS S room) v N) 1 (N + 1) 1 j).1 := nb_lt (by omega) (by omega)
    rw [dM_shift_42, if_neg (show ¬ (60 : Int32) < nI (1 + j) by rw [show (60 : Int32) = nI 60 from rfl, nb_lt (by omega) (by omega)]; omega), U', bd_ok]
    unfold dM_shift_82
    have ih := shiftM_lp hf hi hr hN d (j + 1) n (1 + j) (sI mem 13 0 1 (nI (1 + j))) (by omega) (by omega) (by omega) (by omega) h1
    rw [amS_s _ _ _ _ j] at ih
    rw [add1]
    by_cases c : quS S (nearS S room) (1 + j) N < (amS (fun v => quS S (nearS S room) v N) 1 (N + 1) 1 j).1
    · rw [if_pos c] at ih
      rw [if_pos (kk.mpr c), if_pos (kk.mpr c)]
      obtain ⟨m', t1, t2, t3⟩ := ih
      exact ⟨m', t1, t2, Fz_tr (Fz_sI rfl) t3⟩
    · rw [if_neg c] at ih
      rw [if_neg (fun z => c (kk.mp z)), if_neg (fun z => c (kk.mp z))]
      obtain ⟨m', t1, t2, t3⟩ := ih
      exact ⟨m', t1, t2, Fz_tr (Fz_sI rfl) t3⟩
theorem shiftC_ok {f near N : Nat} {mem : Mem} {S : PS} (hf : 2000 ≤ f) (hC : RC mem 0 S) (hi : IV S) (hn : near < 1024) (hN : N ≤ 60) : dW_shift_48 f f (nI N) (nI near) (nI (N + 1)) 1 1 mem = some (nI (amS (fun v => quS S near v N) 1 (N + 1) 1 60).2, mem) := by
  refine lp (fun n (x : Int32 × Int32 × Int32) => dW_shift_48 f n (nI N) (nI near) x.1 x.2.1 x.2.2 mem) (fun j => (nI (amS (fun v => quS S near v N) 1 (N + 1) 1 j).1, nI (amS (fun v => quS S near v N) 1 (N + 1) 1 j).2, nI (1 + j))) (c := 60) (fun n => ?_) (fun n j hc => ?_) 60 0 f (by omega) (by omega)
  · show dW_shift_48 f (n + 1) _ _ _ _ _ mem = _
    rw [dW_shift_48, show stc 3 (0 : Int32).toNatClampNeg = 60 by decide, if_pos (show (60 : Int32) < nI (1 + 60) by decide)]
    rfl
  · show dW_shift_48 f (n + 1) _ _ _ _ _ mem = dW_shift_48 f n _ _ _ _ _ mem
    have b := amS_b (fun v => quS S near v N) 1 (F0 := N + 1) (B0 := 1) (by omega) j
    have q := quS_le S near (1 + j) N
    have kk : nI (quS S near (1 + j) N) < nI (amS (fun v => quS S near v N) 1 (N + 1) 1 j).1 ↔ quS S near (1 + j) N < (amS (fun v => quS S near v N) 1 (N + 1) 1 j).1 := nb_lt (by omega) (by omega)
    rw [dW_shift_48, show stc 3 (0 : Int32).toNatClampNeg = 60 by decide, if_neg (show ¬ (60 : Int32) < nI (1 + j) by rw [show (60 : Int32) = nI 60 from rfl, nb_lt (by omega) (by omega)]; omega), silent_ok hf hC hi hn (by omega) (by omega) (by omega), bd_ok, add1, amS]
    show ck 0 4 (if nI (quS S near (1 + j) N) < nI (amS (fun v => quS S near v N) 1 (N + 1) 1 j).1 then _ else _) = _
    rw [show (0 : Int32) = nI 0 from rfl, ck_in _ (by omega) (by omega)]
    by_cases c : quS S near (1 + j) N < (amS (fun v => quS S near v N) 1 (N + 1) 1 j).1
    · rw [if_pos (kk.mpr c), if_pos c]
      rfl
    · rw [if_neg (fun z => c (kk.mp z)), if_neg c]
      rfl
theorem ca_shift {f : Nat} {mem : Mem} (hf : 2000 ≤ f) (hI : INV mem) (a1 a2 : Int32) : CA (dW_shift f a1 a2) (dM_shift f a1 a2) mem := by
  have hI' := hI
  obtain ⟨S, hC, hM, hi, hm, hR⟩ := hI'
  cases h1 : inb a1 0 9 with
  | false => exact find_B (f := f) hI (by unfold dW_shift; rw [W_isRoom, bd_ok, h1, ifz_f]) (fun m fx => by unfold dM_shift; rw [M_isRoom, bd_ok, h1, ifz_f])
  | true =>
  cases h2 : inb a2 1 60 with
  | false => exact find_B (f := f) hI (by unfold dW_shift; rw [W_isRoom, bd_ok, h1, ifz_t, W_in, bd_ok, h2, ifz_f]) (fun m fx => by unfold dM_shift; rw [M_isRoom, bd_ok, h1, ifz_t, M_in, bd_ok, h2, ifz_f])
  | true =>
    obtain ⟨r, -, hr, rfl⟩ := inb_t (a := 0) (n := 9) rfl (by omega) (by omega) h1
    obtain ⟨N, -, hN, rfl⟩ := inb_t (a := 1) (n := 60) rfl (by omega) (by omega) h2
    have hM' : RM mem (setR S 0 (ro S 0)) := by rw [setR_id]; exact hM
    obtain ⟨m2, t1, t2, t3⟩ := shiftM_lp (f := f) hf hi hr hN 60 0 f (ro S 0) mem (by omega) (by omega) hi.2.1 hi.2.2.1 hM'
    have r0 : gI mem 13 0 1 = nI (ro S 0) := hM.2.1 0 (by omega)
    refine ans_ca (m1 := mem) (m2 := m2) (r := nI (amS (fun v => quS S (nearS S r) v N) 1 (N + 1) 1 60).2) ?_ ?_ (INV_mv hR hC (Fz_rfl _ _) t2 (fz13 t3) hi hm)
    · unfold dW_shift
      rw [W_isRoom, bd_ok, h1, ifz_t, W_in, bd_ok, h2, ifz_t, near_ok hf hC hi hr, bd_ok, show stc 2 (0 : Int32).toNatClampNeg = 1 by decide, add1, shiftC_ok hf hC hi (nearS_lt hi r) hN]
      rfl
    · unfold dM_shift
      rw [M_isRoom, bd_ok, h1, ifz_t, M_in, bd_ok, h2, ifz_t, r0, add1]
      exact t1
theorem inR_c3 {S T : PS} (hw : ∀ w k, k < 3 → wa T w k = wa S w k) (set : Nat) : ∀ n, inR T set n = inR S set n
  | 0 => rfl
  | n + 1 => by
    rw [inR, inR, inR_c3 hw set n]
    unfold stepR atS bothS
    rw [hw n 0 (by decide), hw n 1 (by decide), hw n 2 (by decide)]
theorem outR_c3 {S T : PS} (hc : ct T = ct S) (hw : ∀ w k, k < 3 → wa T w k = wa S w k) (set : Nat) : ∀ n, outR T set n = outR S set n
  | 0 => rfl
  | n + 1 => by rw [outR, outR, outR_c3 hc hw set n, inR_c3 hw, hc]
theorem nearS_side (S : PS) (w v room : Nat) : nearS (setW S w 3 v) room = nearS S room := by
  have hw : ∀ w' k, k < 3 → wa (setW S w 3 v) w' k = wa S w' k := fun w' k hk => if_neg (fun z => by omega)
  have hr : reachS (setW S w 3 v) room = reachS S room := outR_c3 (S := S) (T := setW S w 3 v) rfl hw _ 10
  unfold nearS
  rw [hr]
  refine setB_congr fun i _ => ?_
  unfold atS
  rw [hw i 1 (by decide), hw i 2 (by decide)]
theorem setW_setW (S : PS) (w k u v : Nat) : setW (setW S w k u) w k v = setW S w k v := by
  refine ps_ext rfl rfl rfl fun w' k' => ?_
  show (if w' = w ∧ k' = k then v else if w' = w ∧ k' = k then u else wa S w' k') = if w' = w ∧ k' = k then v else wa S w' k'
  split <;> rfl
theorem setW_id (S : PS) (w k : Nat) : setW S w k (wa S w k) = S := by
  refine ps_ext rfl rfl rfl fun w' k' => ?_
  show (if w' = w ∧ k' = k then wa S w k else wa S w' k') = wa S w' k'
  split
  · rename_i h
    rw [h.1, h.2]
  · rfl
theorem okW3 {v : Nat} (h : v ≤ 3) : okW 3 v := Or.inr (Or.inr (Or.inr (Or.inl ⟨rfl, h⟩)))
theorem sideC_lp {f near N w : Nat} {S : PS} (hf : 2000 ≤ f) (hi : IV S) (hn : near < 1024) (hN : N ≤ 240) (hw : w < ct S) : ∀ (d j n u : Nat) (mem : Mem), j + d = 4 → d < n → u ≤ 3 → RC mem 2 (setW S w 3 u) →
    ∃ m', dW_side_65 f n (nI w) (nI N) (nI near) (nI (amS (fun v => quS (setW S w 3 v) near (ro S 0) N) 0 (N + 1) 0 j).1) (nI (amS (fun v => quS (setW S w 3 v) near (ro S 0) N) 0 (N + 1) 0 j).2) (nI j) mem = some (nI (amS (fun v => quS (setW S w 3 v) near (ro S 0) N) 0 (N + 1) 0 4).2, m') ∧ Fz (palZ 2) mem m'
  | 0, j, n, u, mem, e, hnn, hu, h => by
    obtain ⟨n, rfl⟩ : ∃ k, n = k + 1 := ⟨n - 1, by omega⟩
    have e' : j = 4 := by omega
    subst e'
    rw [dW_side_65, if_neg (show ¬ nI 4 < (4 : Int32) by decide)]
    exact ⟨mem, rfl, Fz_rfl _ _⟩
  | d + 1, j, n, u, mem, e, hnn, hu, h => by
    obtain ⟨n, rfl⟩ : ∃ k, n = k + 1 := ⟨n - 1, by omega⟩
    have hct : ct S ≤ 10 := hi.2.2.2.2.2.2.2.1
    have hiu := IV_setW hi (w := w) (okW3 hu)
    have hij := IV_setW hi (w := w) (okW3 (v := j) (by omega))
    have h1 : RC (sI mem 4 (10 * 2 + w) 3 (nI j)) 2 (setW S w 3 j) := by
      have := RC_put h w 3 j
      rw [setW_setW] at this
      exact this
    have R := repl_ok (f := f) (k := 3) (v := nI j) h hiu hw (by omega)
    have b := amS_b (fun v => quS (setW S w 3 v) near (ro S 0) N) 0 (F0 := N + 1) (B0 := 0) (by omega) j
    have q := quS_le (setW S w 3 j) near (ro S 0) N
    have Q := silent_ok (f := f) (N := N) (b := ro S 0) hf h1 hij hn hN hi.2.1 hi.2.2.1
    have hr0 : gI (sI mem 4 (10 * 2 + w) 3 (nI j)) 2 2 0 = nI (ro S 0) := h1.2.1 0 (by omega)
    have kk : nI (quS (setW S w 3 j) near (ro S 0) N) < nI (amS (fun v => quS (setW S w 3 v) near (ro S 0) N) 0 (N + 1) 0 j).1 ↔ quS (setW S w 3 j) near (ro S 0) N < (amS (fun v => quS (setW S w 3 v) near (ro S 0) N) 0 (N + 1) 0 j).1 := nb_lt (by omega) (by omega)
    have ih := sideC_lp hf hi hn hN hw d (j + 1) n j _ (by omega) (by omega) (by omega) h1
    rw [amS_s _ _ _ _ j, Nat.zero_add] at ih
    rw [dW_side_65, if_pos (show nI j < (4 : Int32) from lt_n (c := 4) (by omega) (by omega)), show dP_replace f 2 (nI w) 3 (nI j) mem = _ from R, bd_ok, hr0, Q, bd_ok, add1]
    show ∃ m', (if nI (quS (setW S w 3 j) near (ro S 0) N) < nI (amS (fun v => quS (setW S w 3 v) near (ro S 0) N) 0 (N + 1) 0 j).1 then _ else _) = _ ∧ _
    have fr : Fz (palZ 2) mem (sI mem 4 (10 * 2 + w) 3 (nI j)) := Fz_sI (palZ4 (by omega))
    by_cases c : quS (setW S w 3 j) near (ro S 0) N < (amS (fun v => quS (setW S w 3 v) near (ro S 0) N) 0 (N + 1) 0 j).1
    · rw [if_pos c] at ih
      rw [if_pos (kk.mpr c)]
      obtain ⟨m', t1, t2⟩ := ih
      exact ⟨m', t1, Fz_tr fr t2⟩
    · rw [if_neg c] at ih
      rw [if_neg (fun z => c (kk.mp z))]
      obtain ⟨m', t1, t2⟩ := ih
      exact ⟨m', t1, Fz_tr fr t2⟩
theorem puts_n {f w k v : Nat} {mem : Mem} {S : PS} (hi : IV S) (hw : w < ct S) (hk : k < 6) : dM_puts f (nI w) (nI k) (nI v) mem = some ((), sI mem 13 0 (6 + 6 * w + k) (nI v)) := by
  have hct : ct S ≤ 10 := hi.2.2.2.2.2.2.2.1
  exact putsW (by omega) hk
theorem sideM_lp {f room N w : Nat} {S : PS} (hf : 2000 ≤ f) (hi : IV S) (hr : room ≤ 9) (hN : N ≤ 240) (hw : w < ct S) : ∀ (d j n u : Nat) (mem : Mem), j + d = 4 → d < n → u ≤ 3 → RM mem (setW S w 3 u) →
    ∃ m', dM_side_52 f n (nI w) (nI room) (nI N) (nI (wa S w 3)) (nI (amS (fun v => quS (setW S w 3 v) (nearS S room) (ro S 0) N) 0 (N + 1) 0 j).2) (nI (amS (fun v => quS (setW S w 3 v) (nearS S room) (ro S 0) N) 0 (N + 1) 0 j).1) (nI j) mem = some (nI (amS (fun v => quS (setW S w 3 v) (nearS S room) (ro S 0) N) 0 (N + 1) 0 4).2, m') ∧ RM m' S ∧ Fz (rowZ 13) mem m'
  | 0, j, n, u, mem, e, hnn, hu, h => by
    obtain ⟨n, rfl⟩ : ∃ k, n = k + 1 := ⟨n - 1, by omega⟩
    have e' : j = 4 := by omega
    subst e'
    have P := puts_n (f := f) (mem := mem) (k := 3) (v := wa S w 3) hi hw (by omega)
    rw [dM_side_52, if_neg (show ¬ nI 4 < (4 : Int32) by decide), show dM_puts f (nI w) 3 (nI (wa S w 3)) mem = _ from P, bd_ok]
    refine ⟨_, rfl, ?_, Fz_sI rfl⟩
    have := RM_put h (w := w) (k := 3) (by omega) (wa S w 3)
    rw [setW_setW, setW_id] at this
    exact this
  | d + 1, j, n, u, mem, e, hnn, hu, h => by
    obtain ⟨n, rfl⟩ : ∃ k, n = k + 1 := ⟨n - 1, by omega⟩
    have hij := IV_setW hi (w := w) (okW3 (v := j) (by omega))
    have P := puts_n (f := f) (mem := mem) (k := 3) (v := j) hi hw (by omega)
    have h1 : RM (sI mem 13 0 (6 + 6 * w + 3) (nI j)) (setW S w 3 j) := by
      have := RM_put h (w := w) (k := 3) (by omega) j
      rw [setW_setW] at this
      exact this
    have U := unIn_ok (f := f) (walls := 1023) (N := N) hf h1 hij hr (by omega) (by omega)
    rw [near_all hij, nearS_side] at U
    have U' : dM_unheardIn f (nI room) (nI N) 1023 (sI mem 13 0 (6 + 6 * w + 3) (nI j)) = some (nI (quS (setW S w 3 j) (nearS S room) (ro S 0) N), sI mem 13 0 (6 + 6 * w + 3) (nI j)) := U
    have b := amS_b (fun v => quS (setW S w 3 v) (nearS S room) (ro S 0) N) 0 (F0 := N + 1) (B0 := 0) (by omega) j
    have q := quS_le (setW S w 3 j) (nearS S room) (ro S 0) N
    have kk : nI (quS (setW S w 3 j) (nearS S room) (ro S 0) N) < nI (amS (fun v => quS (setW S w 3 v) (nearS S room) (ro S 0) N) 0 (N + 1) 0 j).1 ↔ quS (setW S w 3 j) (nearS S room) (ro S 0) N < (amS (fun v => quS (setW S w 3 v) (nearS S room) (ro S 0) N) 0 (N + 1) 0 j).1 := nb_lt (by omega) (by omega)
    have ih := sideM_lp hf hi hr hN hw d (j + 1) n j _ (by omega) (by omega) (by omega) h1
    rw [amS_s _ _ _ _ j, Nat.zero_add] at ih
    rw [dM_side_52, if_pos (show nI j < (4 : Int32) from lt_n (c := 4) (by omega) (by omega)), show dM_puts f (nI w) 3 (nI j) mem = _ from P, bd_ok, U', bd_ok]
    unfold dM_side_91
    rw [add1]
    by_cases c : quS (setW S w 3 j) (nearS S room) (ro S 0) N < (amS (fun v => quS (setW S w 3 v) (nearS S room) (ro S 0) N) 0 (N + 1) 0 j).1
    · rw [if_pos c] at ih
      rw [if_pos (kk.mpr c), if_pos (kk.mpr c)]
      obtain ⟨m', t1, t2, t3⟩ := ih
      exact ⟨m', t1, t2, Fz_tr (Fz_sI rfl) t3⟩
    · rw [if_neg c] at ih
      rw [if_neg (fun z => c (kk.mp z)), if_neg (fun z => c (kk.mp z))]
      obtain ⟨m', t1, t2, t3⟩ := ih
      exact ⟨m', t1, t2, Fz_tr (Fz_sI rfl) t3⟩
theorem pal_dj {t i j : Nat} (h : palZ 0 t i j = true) : palL 2 t i j = false := by
  have h1 := of_decide_eq_true h
  unfold palL palZ
  rw [decide_eq_false (by omega), decide_eq_false (by omega)]
  rfl
theorem RC_L2 {mem m : Mem} {S : PS} (h : RC mem 0 S) (hi : IV S) (fx : Fz (palL 2) mem m) : RC m 0 S := RC_fz h hi.2.2.2.2.2.2.2.1 fx (fun _ _ _ q => pal_dj q)
theorem ca_side {f : Nat} {mem : Mem} (hf : 2000 ≤ f) (hI : INV mem) (a1 a2 a3 : Int32) : CA (dW_side f a1 a2 a3) (dM_side f a1 a2 a3) mem := by
  have hI' := hI
  obtain ⟨S, hC, hM, hi, hm, hR⟩ := hI'
  cases h1 : isW S a1 with
  | false => exact find_B (f := f) hI (by unfold dW_side; rw [W_isWall hC, bd_ok, h1, ifz_f]) (fun m fx => by unfold dM_side; rw [M_isOne (RM_10 hM fx), bd_ok, h1, ifz_f])
  | true =>
  cases h2 : inb a2 0 9 with
  | false => exact find_B (f := f) hI (by unfold dW_side; rw [W_isWall hC, bd_ok, h1, ifz_t, W_isRoom, bd_ok, h2, ifz_f]) (fun m fx => by unfold dM_side; rw [M_isOne (RM_10 hM fx), bd_ok, h1, ifz_t, M_isRoom, bd_ok, h2, ifz_f])
  | true =>
  cases h3 : inb a3 1 240 with
  | false => exact find_B (f := f) hI (by unfold dW_side; rw [W_isWall hC, bd_ok, h1, ifz_t, W_isRoom, bd_ok, h2, ifz_t, W_in, bd_ok, h3, ifz_f]) (fun m fx => by unfold dM_side; rw [M_isOne (RM_10 hM fx), bd_ok, h1, ifz_t, M_isRoom, bd_ok, h2, ifz_t, M_in, bd_ok, h3, ifz_f])
  | true =>
    obtain ⟨w, hw, rfl⟩ := isW_t hi h1
    obtain ⟨r, -, hr, rfl⟩ := inb_t (a := 0) (n := 9) rfl (by omega) (by omega) h2
    obtain ⟨N, -, hN, rfl⟩ := inb_t (a := 1) (n := 240) rfl (by omega) (by omega) h3
    obtain ⟨v0, v1, v2, v3, v4, v5⟩ := hi.2.2.2.2.2.2.2.2 w hw
    obtain ⟨m1, r1, r2, r3⟩ := bec_ok (f := f) (p := 2) (q := 0) hf (by omega) hi hC
    obtain ⟨m2, s1, s2⟩ := sideC_lp (f := f) (N := N) hf hi (nearS_lt hi r) hN hw 4 0 f (wa S w 3) m1 (by omega) (by omega) v3 (by rw [setW_id]; exact r2)
    have fc : Fz (palL 2) mem m2 := Fz_tr (Fz_mo r3 (fun _ _ _ => palL_of)) (Fz_mo s2 (fun _ _ _ => palL_of))
    have hM2 := RM_cl hM (fzL2 fc)
    obtain ⟨m3, t1, t2, t3⟩ := sideM_lp (f := f) (N := N) hf hi hr hN hw 4 0 f (wa S w 3) m2 (by omega) (by omega) v3 (by rw [setW_id]; exact hM2)
    have I3 := its_n (f := f) (k := 3) hM2 hi hw (by omega)
    refine ans_ca (m1 := m2) (m2 := m3) (r := nI (amS (fun v => quS (setW S w 3 v) (nearS S r) (ro S 0) N) 0 (N + 1) 0 4).2) ?_ ?_ (INV_mv hR (RC_L2 hC hi fc) (fzL2 fc) t2 (fz13 t3) hi hm)
    · unfold dW_side
      rw [W_isWall hC, bd_ok, h1, ifz_t, W_isRoom, bd_ok, h2, ifz_t, W_in, bd_ok, h3, ifz_t, near_ok hf hC hi hr, bd_ok, r1, bd_ok, add1]
      exact s1
    · unfold dM_side
      rw [M_isOne hM2, bd_ok, h1, ifz_t, M_isRoom, bd_ok, h2, ifz_t, M_in, bd_ok, h3, ifz_t, show dM_its f (nI w) 3 m2 = _ from I3, bd_ok, add1]
      exact t1
theorem fzt {t : Nat} {mem m : Mem} (h : Fz (rowZ t) mem m) (ht : t = 13 ∨ t = 15 ∨ t = 20 ∨ t = 22) : Fz rfZ mem m := Fz_mo h (fun t' _ _ q => by
  have : t' = t := of_decide_eq_true q
  exact decide_eq_true (by omega))
theorem RK_L {t : Nat} {mem m : Mem} {S : PS} (h : RK t mem S) (ht : t ≠ 13 ∧ t ≠ 12) (fx : Fz rowL mem m) : RK t m S := RK_fz h fx (fun j => decide_eq_false (by omega))
theorem RK_13 {t : Nat} {mem m : Mem} {S : PS} (h : RK t mem S) (ht : t ≠ 13) (fx : Fz (rowZ 13) mem m) : RK t m S := RK_fz h fx (fun j => decide_eq_false (by omega))
theorem RM_t {t : Nat} {mem m : Mem} {S : PS} (h : RM mem S) (ht : t ≠ 13) (fx : Fz (rowZ t) mem m) : RM m S := RK_fz (t := 13) h fx (fun j => decide_eq_false (by omega))
theorem ca_lost {f : Nat} {mem : Mem} (hf : 2000 ≤ f) (hI : INV mem) (a1 a2 : Int32) : CA (dW_lost f a1 a2) (dM_lost f a1 a2) mem := by
  have hI' := hI
  obtain ⟨S, hC, hM, hi, hm, hR⟩ := hI'
  cases h1 : inb a1 0 9 with
  | false => exact find_B (f := f) hI (by unfold dW_lost; rw [W_isRoom, bd_ok, h1, ifz_f]) (fun m fx => by unfold dM_lost; rw [M_isRoom, bd_ok, h1, ifz_f])
  | true =>
  cases h2 : inb a2 0 65535 with
  | false => exact find_B (f := f) hI (by unfold dW_lost; rw [W_isRoom, bd_ok, h1, ifz_t, W_isSet, bd_ok, h2, ifz_f]) (fun m fx => by unfold dM_lost; rw [M_isRoom, bd_ok, h1, ifz_t, M_in, bd_ok, h2, ifz_f])
  | true =>
    obtain ⟨r, -, hr, rfl⟩ := inb_t (a := 0) (n := 9) rfl (by omega) (by omega) h1
    obtain ⟨k, -, hk, rfl⟩ := inb_t (a := 0) (n := 65535) rfl (by omega) (by omega) h2
    obtain ⟨m1, r1, r2, r3⟩ := bec_ok (f := f) (p := 2) (q := 0) hf (by omega) hi hC
    obtain ⟨m2, s1, s2, s3, s4⟩ := utterAll_ok (f := f) (words := k) hf (by omega) r2 hi (by omega) hr (by omega)
    have fc : Fz (palL 2) mem m2 := Fz_tr (Fz_mo r3 (fun _ _ _ => palL_of)) s4
    have hM2 := RM_cl hM (fzL2 fc)
    obtain ⟨m3, t1, t2, t3⟩ := keep_15 (f := f) hf hi hM2
    obtain ⟨m4, u1, u2, u3, u4⟩ := speaksM_ok (f := f) (words := k) hf (RM_t hM2 (by decide) t3) hi (by omega) hr (by omega)
    obtain ⟨m5, w1, w2, w3⟩ := back_15 (f := f) hf hi (RK_L t2 (by decide) u4)
    have hh := spkH_le hi (nearS S r) k (by omega) 16 (by omega)
    have e5 : gI m5 12 0 2 = nI (spkL S (nearS S r) k 16) := (w3 12 0 2 rfl).1.trans u3
    refine ans_ca (m1 := m2) (m2 := m5) (r := nI (spkL S (nearS S r) k 16)) ?_ ?_ (INV_mv hR (RC_L2 hC hi fc) (fzL2 fc) w2 (Fz_tr (fzt t3 (by decide)) (Fz_tr (fzRL u4) (fz13 w3))) hi hm)
    · unfold dW_lost
      rw [W_isRoom, bd_ok, h1, ifz_t, W_isSet, bd_ok, h2, ifz_t, r1, bd_ok, s1, bd_ok, s3]
    · unfold dM_lost
      rw [M_isRoom, bd_ok, h1, ifz_t, M_in, bd_ok, h2, ifz_t, t1, bd_ok, u1, bd_ok, w1, bd_ok, if_neg (nI_pos (by omega)), e5]
theorem bestC_lp {f words : Nat} {S : PS} (hf : 2000 ≤ f) (hi : IV S) (hm : mi S ≤ 99999) (hwo : words < 65536) : ∀ (d j n : Nat) (mem : Mem), j + d = 10 → d < n → RC mem 0 S →
    ∃ m', dW_best_23 f n (nI words) (nI (amS (fun r => spkH S (nearS S r) words 16) 0 161 0 j).1) (nI (amS (fun r => spkH S (nearS S r) words 16) 0 161 0 j).2) (nI j) mem = some (nI (amS (fun r => spkH S (nearS S r) words 16) 0 161 0 10).2, m') ∧ RC m' 0 S ∧ Fz (palL 2) mem m'
  | 0, j, n, mem, e, hnn, h => by
    obtain ⟨n, rfl⟩ : ∃ k, n = k + 1 := ⟨n - 1, by omega⟩
    have e' : j = 10 := by omega
    subst e'
    rw [dW_best_23, if_neg (show ¬ nI 10 < (10 : Int32) by decide)]
    exact ⟨mem, rfl, h, Fz_rfl _ _⟩
  | d + 1, j, n, mem, e, hnn, h => by
    obtain ⟨n, rfl⟩ : ∃ k, n = k + 1 := ⟨n - 1, by omega⟩
    obtain ⟨m1, r1, r2, r3⟩ := bec_ok (f := f) (p := 2) (q := 0) hf (by omega) hi h
    obtain ⟨m2, s1, s2, s3, s4⟩ := utterAll_ok (f := f) (room := j) (words := words) hf (by omega) r2 hi (by omega) (by omega) hwo
    have fc : Fz (palL 2) mem m2 := Fz_tr (Fz_mo r3 (fun _ _ _ => palL_of)) s4
    have b := amS_b (fun r => spkH S (nearS S r) words 16) 0 (F0 := 161) (B0 := 0) (by omega) j
    have hh := spkH_le hi (nearS S j) words (by omega) 16 (by omega)
    have kk : nI (spkH S (nearS S j) words 16) < nI (amS (fun r => spkH S (nearS S r) words 16) 0 161 0 j).1 ↔ spkH S (nearS S j) words 16 < (amS (fun r => spkH S (nearS S r) words 16) 0 161 0 j).1 := nb_lt (by omega) (by omega)
    have ih := bestC_lp hf hi hm hwo d (j + 1) n m2 (by omega) (by omega) (RC_L2 h hi fc)
    rw [amS_s _ _ _ _ j, Nat.zero_add] at ih
    rw [dW_best_23, if_pos (show nI j < (10 : Int32) from lt_n (c := 10) (by omega) (by omega)), r1, bd_ok, s1, bd_ok, add1]
    by_cases c : spkH S (nearS S j) words 16 < (amS (fun r => spkH S (nearS S r) words 16) 0 161 0 j).1
    · rw [if_pos c] at ih
      rw [if_pos (kk.mpr c)]
      obtain ⟨m', t1, t2, t3⟩ := ih
      exact ⟨m', t1, t2, Fz_tr fc t3⟩
    · rw [if_neg c] at ih
      rw [if_neg (fun z => c (kk.mp z))]
      obtain ⟨m', t1, t2, t3⟩ := ih
      exact ⟨m', t1, t2, Fz_tr fc t3⟩
def rowB2 (t _i j : Nat) : Bool := decide (t = 13 ∨ t = 12 ∧ j = 2)
theorem bestM_lp {f words : Nat} {S : PS} (hf : 2000 ≤ f) (hi : IV S) (hm : mi S ≤ 99999) (hwo : words < 65536) : ∀ (d j n : Nat) (mem : Mem), j + d = 10 → d < n → RM mem S → RK 15 mem S →
    ∃ m', dM_best_33 f n (nI words) (nI (amS (fun r => spkH S (nearS S r) words 16) 0 161 0 j).2) (if j = 0 then -1 else nI (amS (fun r => spkH S (nearS S r) words 16) 0 161 0 j).1) (nI j) mem = some (nI (amS (fun r => spkH S (nearS S r) words 16) 0 161 0 10).2, m') ∧ RM m' S ∧ Fz rfZ mem m'
  | 0, j, n, mem, e, hnn, h, h15 => by
    obtain ⟨n, rfl⟩ : ∃ k, n = k + 1 := ⟨n - 1, by omega⟩
    have e' : j = 10 := by omega
    subst e'
    rw [dM_best_33, if_neg (show ¬ nI 10 < (10 : Int32) by decide)]
    exact ⟨mem, rfl, h, Fz_rfl _ _⟩
  | d + 1, j, n, mem, e, hnn, h, h15 => by
    obtain ⟨n, rfl⟩ : ∃ k, n = k + 1 := ⟨n - 1, by omega⟩
    obtain ⟨m1, u1, u2, u3, u4⟩ := speaksM_ok (f := f) (room := j) (words := words) hf h hi (by omega) (by omega) hwo
    obtain ⟨m2, w1, w2, w3⟩ := back_15 (f := f) hf hi (RK_L h15 (by decide) u4)
    have fc : Fz rfZ mem m2 := Fz_tr (fzRL u4) (fz13 w3)
    have b := amS_b (fun r => spkH S (nearS S r) words 16) 0 (F0 := 161) (B0 := 0) (by omega) j
    have hh := spkH_le hi (nearS S j) words (by omega) 16 (by omega)
    have kk : nI (spkH S (nearS S j) words 16) < nI (amS (fun r => spkH S (nearS S r) words 16) 0 161 0 j).1 ↔ spkH S (nearS S j) words 16 < (amS (fun r => spkH S (nearS S r) words 16) 0 161 0 j).1 := nb_lt (by omega) (by omega)
    have ih := bestM_lp hf hi hm hwo d (j + 1) n m2 (by omega) (by omega) w2 (RK_13 (RK_L h15 (by decide) u4) (by decide) w3)
    rw [amS_s _ _ _ _ j, Nat.zero_add, if_neg (show ¬ j + 1 = 0 by omega)] at ih
    rw [dM_best_33, if_pos (show nI j < (10 : Int32) from lt_n (c := 10) (by omega) (by omega)), u1, bd_ok, w1, bd_ok]
    unfold dM_best_74
    rw [add1]
    by_cases c : spkH S (nearS S j) words 16 < (amS (fun r => spkH S (nearS S r) words 16) 0 161 0 j).1
    · rw [if_pos c] at ih
      obtain ⟨m', t1, t2, t3⟩ := ih
      by_cases cj : j = 0
      · rw [if_pos cj, if_pos (by decide), if_pos rfl]
        exact ⟨m', t1, t2, Fz_tr fc t3⟩
      · rw [if_neg cj, if_neg (nI_pos (by omega)), if_pos (kk.mpr c), if_pos rfl]
        exact ⟨m', t1, t2, Fz_tr fc t3⟩
    · rw [if_neg c] at ih
      have cj : ¬ j = 0 := by
        rintro rfl
        exact c (by show _ < 161; omega)
      have hne : (amS (fun r => spkH S (nearS S r) words 16) 0 161 0 j).2 ≠ j := by
        obtain ⟨j', rfl⟩ : ∃ j', j = j' + 1 := ⟨j - 1, by omega⟩
        have b' := amS_b (fun r => spkH S (nearS S r) words 16) 0 (F0 := 161) (B0 := 0) (by omega) j'
        rw [amS]
        split
        · show 0 + j' ≠ j' + 1
          omega
        · omega
      rw [if_neg cj, if_neg (nI_pos (by omega)), if_neg (fun z => c (kk.mp z)), if_neg (fun z => hne ((nb_inj (by omega) (by omega)).mp z))]
      obtain ⟨m', t1, t2, t3⟩ := ih
      exact ⟨m', t1, t2, Fz_tr fc t3⟩
theorem ca_best {f : Nat} {mem : Mem} (hf : 2000 ≤ f) (hI : INV mem) (a2 : Int32) : CA (dW_best f a2) (dM_best f a2) mem := by
  have hI' := hI
  obtain ⟨S, hC, hM, hi, hm, hR⟩ := hI'
  cases h2 : inb a2 0 65535 with
  | false => exact find_B (f := f) hI (by unfold dW_best; rw [W_isSet, bd_ok, h2, ifz_f]) (fun m fx => by unfold dM_best; rw [M_in, bd_ok, h2, ifz_f])
  | true =>
    obtain ⟨k, -, hk, rfl⟩ := inb_t (a := 0) (n := 65535) rfl (by omega) (by omega) h2
    obtain ⟨m1, r1, r2, r3⟩ := bestC_lp (f := f) (words := k) hf hi hm (by omega) 10 0 f mem (by omega) (by omega) hC
    have hM1 := RM_cl hM (fzL2 r3)
    obtain ⟨m2, t1, t2, t3⟩ := keep_15 (f := f) hf hi hM1
    obtain ⟨m3, u1, u2, u3⟩ := bestM_lp (f := f) (words := k) hf hi hm (by omega) 10 0 f m2 (by omega) (by omega) (RM_t hM1 (by decide) t3) t2
    refine ans_ca (m1 := m1) (m2 := m3) (r := nI (amS (fun r => spkH S (nearS S r) k 16) 0 161 0 10).2) ?_ ?_ (INV_mv hR r2 (fzL2 r3) u2 (Fz_tr (fzt t3 (by decide)) u3) hi hm)
    · unfold dW_best
      rw [W_isSet, bd_ok, h2, ifz_t]
      exact r1
    · unfold dM_best
      rw [M_in, bd_ok, h2, ifz_t, t1, bd_ok]
      exact u1
