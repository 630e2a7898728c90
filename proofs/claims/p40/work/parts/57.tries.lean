/-! shift, side, lost, best. -/
def amS (g : Nat → Nat) (o F0 B0 : Nat) : Nat → Nat × Nat
  | 0 => (F0, B0)
  | j + 1 => if g (o + j) < (amS g o F0 B0 j).1 then (g (o + j), o + j) else amS g o F0 B0 j
theorem amS_s (g : Nat → Nat) (o F0 B0 j : Nat) : amS g o F0 B0 (j + 1) = if g (o + j) < (amS g o F0 B0 j).1 then (g (o + j), o + j) else amS g o F0 B0 j := rfl
theorem amS_b (g : Nat → Nat) (o : Nat) {F0 B0 : Nat} (h : B0 ≤ o) : ∀ j, (amS g o F0 B0 j).1 ≤ F0 ∧ (amS g o F0 B0 j).2 ≤ o + j
  | 0 => ⟨Nat.le_refl _, h⟩
  | j + 1 => by
    obtain ⟨h1, h2⟩ := amS_b g o (F0 := F0) h j
    rw [amS]
    split
    · exact ⟨by show g (o + j) ≤ F0; omega, by show o + j ≤ _; omega⟩
    · exact ⟨h1, by omega⟩
theorem quS_le (S : PS) (near b N : Nat) : quS S near b N ≤ N := cntB_le _ _
theorem quS_setR (S : PS) (v near b N : Nat) : quS (setR S 0 v) near b N = quS S near b N := rfl
theorem nearS_setR (S : PS) (v room : Nat) : nearS (setR S 0 v) room = nearS S room := nearS_congr (S := S) (T := setR S 0 v) rfl (fun _ _ _ _ => rfl) room
theorem setR_setR (S : PS) (u v : Nat) : setR (setR S 0 u) 0 v = setR S 0 v := by
  refine ps_ext rfl (funext fun j => ?_) rfl fun _ _ => rfl
  show (if j = 0 then v else if j = 0 then u else ro S j) = if j = 0 then v else ro S j
  split <;> rfl
theorem setR_id (S : PS) : setR S 0 (ro S 0) = S := by
  refine ps_ext rfl (funext fun j => ?_) rfl fun _ _ => rfl
  show (if j = 0 then ro S 0 else ro S j) = ro S j
  split
  · rename_i h
    rw [h]
  · rfl
theorem shiftC_ok {f near N : Nat} {mem : Mem} {S : PS} (hf : 2000 ≤ f) (hC : RC mem 0 S) (hi : IV S) (hn : near < 1024) (hN : N ≤ 60) : dW_shift_48 f f (nI N) (nI near) (nI (N + 1)) 1 1 mem = some (nI (amS (fun v => quS S near v N) 1 (N + 1) 1 60).2, mem) := by
  refine lp (fun n (x : Int32 × Int32 × Int32) => dW_shift_48 f n (nI N) (nI near) x.1 x.2.1 x.2.2 mem) (fun j => (nI (amS (fun v => quS S near v N) 1 (N + 1) 1 j).1, nI (amS (fun v => quS S near v N) 1 (N + 1) 1 j).2, nI (1 + j))) (c := 60) (fun n => ?_) (fun n j hc => ?_) 60 0 f (by omega) (by omega)
  · show dW_shift_48 f (n + 1) _ _ _ _ _ mem = _
    rw [dW_shift_48, show stc 2 (0 : Int32).toNatClampNeg = 60 by decide, if_pos (show (60 : Int32) < nI (1 + 60) by decide)]
    rfl
  · show dW_shift_48 f (n + 1) _ _ _ _ _ mem = dW_shift_48 f n _ _ _ _ _ mem
    have b := amS_b (fun v => quS S near v N) 1 (F0 := N + 1) (B0 := 1) (by omega) j
    have q := quS_le S near (1 + j) N
    have kk : nI (quS S near (1 + j) N) < nI (amS (fun v => quS S near v N) 1 (N + 1) 1 j).1 ↔ quS S near (1 + j) N < (amS (fun v => quS S near v N) 1 (N + 1) 1 j).1 := nb_lt (by omega) (by omega)
    rw [dW_shift_48, show stc 2 (0 : Int32).toNatClampNeg = 60 by decide, if_neg (show ¬ (60 : Int32) < nI (1 + j) by rw [show (60 : Int32) = nI 60 from rfl, nb_lt (by omega) (by omega)]; omega), silent_ok hf hC hi hn (by omega) (by omega) (by omega), bd_ok, add1, amS]
    show ck 0 4 (if nI (quS S near (1 + j) N) < nI (amS (fun v => quS S near v N) 1 (N + 1) 1 j).1 then _ else _) = _
    rw [show (0 : Int32) = nI 0 from rfl, ck_in _ (by omega) (by omega)]
    by_cases c : quS S near (1 + j) N < (amS (fun v => quS S near v N) 1 (N + 1) 1 j).1
    · rw [if_pos (kk.mpr c), if_pos c]
      rfl
    · rw [if_neg (fun z => c (kk.mp z)), if_neg c]
      rfl
theorem inR_c3 {S T : PS} (hw : ∀ w k, k < 3 → wa T w k = wa S w k) (set : Nat) : ∀ n, inR T set n = inR S set n
  | 0 => rfl
  | n + 1 => by
    rw [inR, inR, inR_c3 hw set n]
    unfold stepR atS bothS
    rw [hw n 0 (by decide), hw n 1 (by decide), hw n 2 (by decide)]
theorem outR_c3 {S T : PS} (hc : ct T = ct S) (hw : ∀ w k, k < 3 → wa T w k = wa S w k) (set : Nat) : ∀ n, outR T set n = outR S set n
  | 0 => rfl
  | n + 1 => by rw [outR, outR, outR_c3 hc hw set n, inR_c3 hw, hc]
theorem nearS_side (S : PS) (w v room : Nat) : nearS (setW S w 3 v) room = nearS S room := by
  have hw : ∀ w' k, k < 3 → wa (setW S w 3 v) w' k = wa S w' k := fun w' k hk => if_neg (fun z => by omega)
  have hr : reachS (setW S w 3 v) room = reachS S room := outR_c3 (S := S) (T := setW S w 3 v) rfl hw _ 10
  unfold nearS
  rw [hr]
  refine setB_congr fun i _ => ?_
  unfold atS
  rw [hw i 1 (by decide), hw i 2 (by decide)]
theorem setW_setW (S : PS) (w k u v : Nat) : setW (setW S w k u) w k v = setW S w k v := by
  refine ps_ext rfl rfl rfl fun w' k' => ?_
  show (if w' = w ∧ k' = k then v else if w' = w ∧ k' = k then u else wa S w' k') = if w' = w ∧ k' = k then v else wa S w' k'
  split <;> rfl
theorem setW_id (S : PS) (w k : Nat) : setW S w k (wa S w k) = S := by
  refine ps_ext rfl rfl rfl fun w' k' => ?_
  show (if w' = w ∧ k' = k then wa S w k else wa S w' k') = wa S w' k'
  split
  · rename_i h
    rw [h.1, h.2]
  · rfl
theorem okW3 {v : Nat} (h : v ≤ 3) : okW 3 v := Or.inr (Or.inr (Or.inr (Or.inl ⟨rfl, h⟩)))
theorem sideC_lp {f near N w : Nat} {S : PS} (hf : 2000 ≤ f) (hi : IV S) (hn : near < 1024) (hN : N ≤ 240) (hw : w < ct S) : ∀ (d j n u : Nat) (mem : Mem), j + d = 4 → d < n → u ≤ 3 → RC mem 2 (setW S w 3 u) →
    ∃ m', dW_side_65 f n (nI w) (nI N) (nI near) (nI (amS (fun v => quS (setW S w 3 v) near (ro S 0) N) 0 (N + 1) 0 j).1) (nI (amS (fun v => quS (setW S w 3 v) near (ro S 0) N) 0 (N + 1) 0 j).2) (nI j) mem = some (nI (amS (fun v => quS (setW S w 3 v) near (ro S 0) N) 0 (N + 1) 0 4).2, m') ∧ Fz (palZ 2) mem m'
  | 0, j, n, u, mem, e, hnn, hu, h => by
    obtain ⟨n, rfl⟩ : ∃ k, n = k + 1 := ⟨n - 1, by omega⟩
    have e' : j = 4 := by omega
    subst e'
    rw [dW_side_65, if_neg (show ¬ nI 4 < (4 : Int32) by decide)]
    exact ⟨mem, rfl, Fz_rfl _ _⟩
  | d + 1, j, n, u, mem, e, hnn, hu, h => by
    obtain ⟨n, rfl⟩ : ∃ k, n = k + 1 := ⟨n - 1, by omega⟩
    have hct : ct S ≤ 10 := hi.2.2.2.2.2.2.2.1
    have hiu := IV_setW hi (w := w) (okW3 hu)
    have hij := IV_setW hi (w := w) (okW3 (v := j) (by omega))
    have h1 : RC (sI mem 4 (10 * 2 + w) 3 (nI j)) 2 (setW S w 3 j) := by
      have := RC_put h w 3 j
      rw [setW_setW] at this
      exact this
    have R := repl_ok (f := f) (k := 3) (v := nI j) h hiu hw (by omega)
    have b := amS_b (fun v => quS (setW S w 3 v) near (ro S 0) N) 0 (F0 := N + 1) (B0 := 0) (by omega) j
    have q := quS_le (setW S w 3 j) near (ro S 0) N
    have Q := silent_ok (f := f) (N := N) (b := ro S 0) hf h1 hij hn hN hi.2.1 hi.2.2.1
    have hr0 : gI (sI mem 4 (10 * 2 + w) 3 (nI j)) 2 2 0 = nI (ro S 0) := h1.2.1 0 (by omega)
    have kk : nI (quS (setW S w 3 j) near (ro S 0) N) < nI (amS (fun v => quS (setW S w 3 v) near (ro S 0) N) 0 (N + 1) 0 j).1 ↔ quS (setW S w 3 j) near (ro S 0) N < (amS (fun v => quS (setW S w 3 v) near (ro S 0) N) 0 (N + 1) 0 j).1 := nb_lt (by omega) (by omega)
    have ih := sideC_lp hf hi hn hN hw d (j + 1) n j _ (by omega) (by omega) (by omega) h1
    rw [amS_s _ _ _ _ j, Nat.zero_add] at ih
    rw [dW_side_65, if_pos (show nI j < (4 : Int32) from lt_n (c := 4) (by omega) (by omega)), show dP_replace f 2 (nI w) 3 (nI j) mem = _ from R, bd_ok, hr0, Q, bd_ok, add1]
    show ∃ m', (if nI (quS (setW S w 3 j) near (ro S 0) N) < nI (amS (fun v => quS (setW S w 3 v) near (ro S 0) N) 0 (N + 1) 0 j).1 then _ else _) = _ ∧ _
    have fr : Fz (palZ 2) mem (sI mem 4 (10 * 2 + w) 3 (nI j)) := Fz_sI (palZ4 (by omega))
    by_cases c : quS (setW S w 3 j) near (ro S 0) N < (amS (fun v => quS (setW S w 3 v) near (ro S 0) N) 0 (N + 1) 0 j).1
    · rw [if_pos c] at ih
      rw [if_pos (kk.mpr c)]
      obtain ⟨m', t1, t2⟩ := ih
      exact ⟨m', t1, Fz_tr fr t2⟩
    · rw [if_neg c] at ih
      rw [if_neg (fun z => c (kk.mp z))]
      obtain ⟨m', t1, t2⟩ := ih
      exact ⟨m', t1, Fz_tr fr t2⟩
theorem pal_dj {t i j : Nat} (h : palZ 0 t i j = true) : palL 2 t i j = false := by
  have h1 := of_decide_eq_true h
  unfold palL palZ
  rw [decide_eq_false (by omega), decide_eq_false (by omega)]
  rfl
theorem RC_L2 {mem m : Mem} {S : PS} (h : RC mem 0 S) (hi : IV S) (fx : Fz (palL 2) mem m) : RC m 0 S := RC_fz h hi.2.2.2.2.2.2.2.1 fx (fun _ _ _ q => pal_dj q)
theorem RK_L {t : Nat} {mem m : Mem} {S : PS} (h : RK t mem S) (ht : t ≠ 13 ∧ t ≠ 12) (fx : Fz rowL mem m) : RK t m S := RK_fz h fx (fun j => decide_eq_false (by omega))
theorem RK_13 {t : Nat} {mem m : Mem} {S : PS} (h : RK t mem S) (ht : t ≠ 13) (fx : Fz (rowZ 13) mem m) : RK t m S := RK_fz h fx (fun j => decide_eq_false (by omega))
theorem RM_t {t : Nat} {mem m : Mem} {S : PS} (h : RM mem S) (ht : t ≠ 13) (fx : Fz (rowZ t) mem m) : RM m S := RK_fz (t := 13) h fx (fun j => decide_eq_false (by omega))
theorem bestC_lp {f words : Nat} {S : PS} (hf : 2000 ≤ f) (hi : IV S) (hm : mi S ≤ 99999) (hwo : words < 65536) : ∀ (d j n : Nat) (mem : Mem), j + d = 10 → d < n → RC mem 0 S →
    ∃ m', dW_best_23 f n (nI words) (nI (amS (fun r => spkH S (nearS S r) words 16) 0 161 0 j).1) (nI (amS (fun r => spkH S (nearS S r) words 16) 0 161 0 j).2) (nI j) mem = some (nI (amS (fun r => spkH S (nearS S r) words 16) 0 161 0 10).2, m') ∧ RC m' 0 S ∧ Fz (palL 2) mem m'
  | 0, j, n, mem, e, hnn, h => by
    obtain ⟨n, rfl⟩ : ∃ k, n = k + 1 := ⟨n - 1, by omega⟩
    have e' : j = 10 := by omega
    subst e'
    rw [dW_best_23, if_neg (show ¬ nI 10 < (10 : Int32) by decide)]
    exact ⟨mem, rfl, h, Fz_rfl _ _⟩
  | d + 1, j, n, mem, e, hnn, h => by
    obtain ⟨n, rfl⟩ : ∃ k, n = k + 1 := ⟨n - 1, by omega⟩
    obtain ⟨m1, r1, r2, r3⟩ := bec_ok (f := f) (p := 2) (q := 0) hf (by omega) hi h
    obtain ⟨m2, s1, s2, s3, s4⟩ := utterAll_ok (f := f) (room := j) (words := words) hf (by omega) r2 hi (by omega) (by omega) hwo
    have fc : Fz (palL 2) mem m2 := Fz_tr (Fz_mo r3 (fun _ _ _ => palL_of)) s4
    have b := amS_b (fun r => spkH S (nearS S r) words 16) 0 (F0 := 161) (B0 := 0) (by omega) j
    have hh := spkH_le hi (nearS S j) words (by omega) 16 (by omega)
    have kk : nI (spkH S (nearS S j) words 16) < nI (amS (fun r => spkH S (nearS S r) words 16) 0 161 0 j).1 ↔ spkH S (nearS S j) words 16 < (amS (fun r => spkH S (nearS S r) words 16) 0 161 0 j).1 := nb_lt (by omega) (by omega)
    have ih := bestC_lp hf hi hm hwo d (j + 1) n m2 (by omega) (by omega) (RC_L2 h hi fc)
    rw [amS_s _ _ _ _ j, Nat.zero_add] at ih
    rw [dW_best_23, if_pos (show nI j < (10 : Int32) from lt_n (c := 10) (by omega) (by omega)), r1, bd_ok, s1, bd_ok, add1]
    by_cases c : spkH S (nearS S j) words 16 < (amS (fun r => spkH S (nearS S r) words 16) 0 161 0 j).1
    · rw [if_pos c] at ih
      rw [if_pos (kk.mpr c)]
      obtain ⟨m', t1, t2, t3⟩ := ih
      exact ⟨m', t1, t2, Fz_tr fc t3⟩
    · rw [if_neg c] at ih
      rw [if_neg (fun z => c (kk.mp z))]
      obtain ⟨m', t1, t2, t3⟩ := ih
      exact ⟨m', t1, t2, Fz_tr fc t3⟩
def rowB2 (t _i j : Nat) : Bool := decide (t = 13 ∨ t = 12 ∧ j = 2)
