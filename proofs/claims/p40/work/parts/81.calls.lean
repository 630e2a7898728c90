/-! The class's calls as the law makes them: what they answer, what they leave of the object. -/
def clF (t i j : Nat) : Bool := clZ t i j || decide (t = 10)
theorem clF_z {t i j : Nat} (h : clZ t i j = true) : clF t i j = true := by unfold clF; rw [h]; rfl
theorem clF_10 (i j : Nat) : clF 10 i j = true := by unfold clF; rw [decide_eq_true rfl, Bool.or_true]
theorem fzF {mem m : Mem} (h : Fz clZ mem m) : Fz clF mem m := Fz_mo h (fun _ _ _ q => clF_z q)
theorem clF_13 (j : Nat) : clF 13 0 j = false := by unfold clF; rw [cl_13]; rfl
theorem clF_1 {t i j : Nat} (h : palZ 1 t i j = true) : clF t i j = false := by
  cases c : clF t i j with
  | false => rfl
  | true =>
    have hp := notPal h
    unfold clF at c
    rw [Bool.or_eq_true] at c
    rcases c with c | c
    · rcases clZ_no c with ⟨a, b⟩ | a
      · rw [h] at b
        cases b
      · omega
    · have := of_decide_eq_true c
      omega
theorem clF_0 : clF 0 0 2 = false := by decide
theorem RM_F {mem m : Mem} {S : PS} (h : RM mem S) (fx : Fz clF mem m) : RM m S := RK_fz (t := 13) h fx clF_13
theorem RC1_F {mem m : Mem} {T : PS} (h : RC mem 1 T) (hT : IV T) (fx : Fz clF mem m) : RC m 1 T := RC_fz h hT.2.2.2.2.2.2.2.1 fx (fun _ _ _ q => clF_1 q)
/-- a call answers r and leaves the palace S' -/
def KC (A : Mem → Option (Int32 × Mem)) (mem : Mem) (r : Int32) (S' : PS) : Prop := ∃ m, A mem = some (r, m) ∧ RC m 0 S' ∧ Fz clF mem m
abbrev NO : Int32 := -1000000004
def oN : Option Nat → Int32
  | none => NO
  | some k => nI k
theorem find_none {f : Nat} {mem : Mem} {S : PS} (hC : RC mem 0 S) (hi : IV S) : KC (fun m => bd (dW_finding f NO m) (fun r7 m7 => some (r7, m7))) mem NO S := by
  refine ⟨sI mem 10 0 3 (gI mem 10 0 3 + 1), ?_, ?_, Fz_sI (clF_10 _ _)⟩
  · show bd (dW_finding f NO mem) _ = _
    rw [W_find (k := 3) (by omega) (by decide), bd_ok]
  · have fx : Fz (rowZ 10) mem (sI mem 10 0 3 (gI mem 10 0 3 + 1)) := Fz_sI rfl
    exact RC_fz hC hi.2.2.2.2.2.2.2.1 fx (fun t i j q => by
      have := notPal q
      exact decide_eq_false (by omega))
theorem in9 {k : Nat} (h : k ≤ 9) : inb (nI k) 0 9 = true := (inb_0 (k := k) (n := 9) (by omega) (by omega)).trans (decide_eq_true h)
theorem in15 {k : Nat} (h : k ≤ 15) : inb (nI k) 0 15 = true := (inb_0 (k := k) (n := 15) (by omega) (by omega)).trans (decide_eq_true h)
theorem in16 {k : Nat} (h : k ≤ 65535) : inb (nI k) 0 65535 = true := (inb_0 (k := k) (n := 65535) (by omega) (by omega)).trans (decide_eq_true h)
theorem in99 {k : Nat} (h : k ≤ 99999) : inb (nI k) 0 99999 = true := (inb_0 (k := k) (n := 99999) (by omega) (by omega)).trans (decide_eq_true h)
theorem in5 {k : Nat} (h : k ≤ 5) : inb (nI k) 0 5 = true := (inb_0 (k := k) (n := 5) (by omega) (by omega)).trans (decide_eq_true h)
theorem in1_30 {k : Nat} (h1 : 1 ≤ k) (h : k ≤ 30) : inb (nI k) 1 30 = true := (inb_n (k := k) (a := 1) (n := 30) (by omega) (by omega) (by omega)).trans (by rw [decide_eq_true h1, decide_eq_true h]; rfl)
theorem in1_60 {k : Nat} (h1 : 1 ≤ k) (h : k ≤ 60) : inb (nI k) 1 60 = true := (inb_n (k := k) (a := 1) (n := 60) (by omega) (by omega) (by omega)).trans (by rw [decide_eq_true h1, decide_eq_true h]; rfl)
theorem in1_240 {k : Nat} (h1 : 1 ≤ k) (h : k ≤ 240) : inb (nI k) 1 240 = true := (inb_n (k := k) (a := 1) (n := 240) (by omega) (by omega) (by omega)).trans (by rw [decide_eq_true h1, decide_eq_true h]; rfl)
theorem isW_n {S : PS} (hi : IV S) {w : Nat} (h : w < ct S) : isW S (nI w) = true := by
  have hct : ct S ≤ 10 := hi.2.2.2.2.2.2.2.1
  unfold isW
  rw [sub1 (by omega)]
  exact (inb_0 (k := w) (n := ct S - 1) (by omega) (by omega)).trans (decide_eq_true (by omega))
theorem K_safe {f r N : Nat} {mem : Mem} {S : PS} (hf : 2000 ≤ f) (hC : RC mem 0 S) (hi : IV S) (hr : r ≤ 9) (hN1 : 1 ≤ N) (hN : N ≤ 30) : KC (dW_safe f (nI r) (nI N)) mem (oN (fsR S r N)) S := by
  obtain ⟨m1, r1, r2, r3, r4⟩ := fore_ok (f := f) (N := 240 + N) hf hC hi (by omega)
  have e2 : (240 : Int32) + nI N = nI (240 + N) := nb_add 240 N
  have ho := oI_neg (fsR_lt S r hN)
  have f1 := fzF (fz11 r4)
  have hA : dW_safe f (nI r) (nI N) mem = if oI (fsR S r N) < 0 then (bd (dW_finding f (-1000000004 : Int32) m1) (fun r7 m7 => some (r7, m7))) else (some (oI (fsR S r N), m1)) := by
    unfold dW_safe
    rw [W_isRoom, bd_ok, in9 hr, ifz_t, W_in, bd_ok, in1_30 hN1 hN, ifz_t, e2, r1, bd_ok, firstC_ok hf r2 hi hr hN1 hN r3, bd_ok]
  cases hg : fsR S r N with
  | none =>
    obtain ⟨m, t1, t2, t3⟩ := find_none (f := f) r2 hi
    refine ⟨m, ?_, t2, Fz_tr f1 t3⟩
    rw [hA, hg, if_pos (by decide)]
    exact t1
  | some k =>
    refine ⟨m1, ?_, r2, f1⟩
    rw [hA, hg, if_neg (show ¬ oI (some k) < 0 from nI_pos (fsR_lt S r hN k hg))]
    rfl
theorem K_where {f N : Nat} {mem : Mem} {S : PS} (hf : 2000 ≤ f) (hC : RC mem 0 S) (hi : IV S) (hN1 : 1 ≤ N) (hN : N ≤ 30) : KC (dW_where f (nI N)) mem (oN (whS (fun r => fsR S r N) 10).2) S := by
  obtain ⟨m1, r1, r2, r3, r4⟩ := fore_ok (f := f) (N := 240 + N) hf hC hi (by omega)
  have e2 : (240 : Int32) + nI N = nI (240 + N) := nb_add 240 N
  have f1 := fzF (fz11 r4)
  have hA : dW_where f (nI N) mem = _ := (by unfold dW_where; rw [W_in, bd_ok, in1_30 hN1 hN, ifz_t, e2, r1, bd_ok] : dW_where f (nI N) mem = dW_where_35 f f (nI N) 241 (-1) 0 m1).trans (whereC_lp hf r2 hi hN1 hN r3)
  have hb := (whS_b (fun r => fsR S r N) 10).2
  cases hg : (whS (fun r => fsR S r N) 10).2 with
  | none =>
    obtain ⟨m, t1, t2, t3⟩ := find_none (f := f) r2 hi
    refine ⟨m, ?_, t2, Fz_tr f1 t3⟩
    rw [hA, hg, if_pos (by decide)]
    exact t1
  | some k =>
    refine ⟨m1, ?_, r2, f1⟩
    have := hb k hg
    rw [hA, hg, if_neg (show ¬ oI (some k) < 0 from nI_pos (n := k) (by omega))]
    rfl
theorem W_quiet {f r N : Nat} {mem : Mem} {S : PS} (hf : 2000 ≤ f) (hC : RC mem 0 S) (hi : IV S) (hr : r ≤ 9) (hN1 : 1 ≤ N) (hN : N ≤ 240) : dW_quiet f (nI r) (nI N) mem = some (nI (quS S (nearS S r) (ro S 0) N), mem) := by
  unfold dW_quiet
  rw [W_isRoom, bd_ok, in9 hr, ifz_t, W_in, bd_ok, in1_240 hN1 hN, ifz_t, near_ok hf hC hi hr, bd_ok, hC.2.1 0 (by omega), silent_ok hf hC hi (nearS_lt hi r) hN hi.2.1 hi.2.2.1, bd_ok]
  rfl
theorem K_worst {f r N : Nat} {mem : Mem} {S : PS} (hf : 2000 ≤ f) (hC : RC mem 0 S) (hi : IV S) (hr : r ≤ 9) (hN1 : 1 ≤ N) (hN : N ≤ 240) : KC (dW_worst f (nI r) (nI N)) mem (oN (woS (fun i => alS S (nearS S r) i N) (ct S)).2) S := by
  have hct : ct S ≤ 10 := hi.2.2.2.2.2.2.2.1
  obtain ⟨m1, r1, r2, r3, r4⟩ := fore_ok (f := f) (N := N) hf hC hi (by omega)
  have f1 := fzF (fz11 r4)
  have hnl := nearS_lt hi r
  have hg : ∀ i, alS S (nearS S r) i N ≤ 240 := fun i => Nat.le_trans (cntB_le _ _) hN
  have hb := woS_b (fun i => alS S (nearS S r) i N) hg
  have hA : dW_worst f (nI r) (nI N) mem = if oI (woS (fun i => alS S (nearS S r) i N) (ct S)).2 < 0 then (bd (dW_finding f (-1000000004 : Int32) m1) (fun r7 m7 => some (r7, m7))) else (some (oI (woS (fun i => alS S (nearS S r) i N) (ct S)).2, m1)) := by
    unfold dW_worst
    rw [W_isRoom, bd_ok, in9 hr, ifz_t, W_in, bd_ok, in1_240 hN1 hN, ifz_t, r1, bd_ok, near_ok hf r2 hi hr, bd_ok]
    refine lp (fun n (x : Int32 × Int32 × Int32) => dW_worst_48 f n (nI N) (nI (nearS S r)) x.1 x.2.1 x.2.2 m1) (fun i => (nI (woS (fun i => alS S (nearS S r) i N) i).1, oI (woS (fun i => alS S (nearS S r) i N) i).2, nI i)) (c := ct S) (fun n => ?_) (fun n i hc => ?_) (ct S) 0 f (by omega) (by omega)
    · show dW_worst_48 f (n + 1) _ _ _ _ _ m1 = _
      rw [dW_worst_48, r2.2.2.1, if_neg (nlt_n (by omega))]
    · show dW_worst_48 f (n + 1) _ _ _ _ _ m1 = dW_worst_48 f n _ _ _ _ _ m1
      rw [dW_worst_48, r2.2.2.1, if_pos (lt_n hc (by omega)), nb_bit (by omega), alC_ok hf hi hnl (by omega) hN r3, bd_ok, add1, woS]
      have kk : nI (woS (fun i => alS S (nearS S r) i N) i).1 < nI (alS S (nearS S r) i N) ↔ (woS (fun i => alS S (nearS S r) i N) i).1 < alS S (nearS S r) i N := nb_lt (by have := (hb i).1; omega) (by have := hg i; omega)
      by_cases c : (woS (fun i => alS S (nearS S r) i N) i).1 < alS S (nearS S r) i N
      · rw [if_pos (kk.mpr c), if_pos c]
        rfl
      · rw [if_neg (fun z => c (kk.mp z)), if_neg c]
  cases hw : (woS (fun i => alS S (nearS S r) i N) (ct S)).2 with
  | none =>
    obtain ⟨m, t1, t2, t3⟩ := find_none (f := f) r2 hi
    refine ⟨m, ?_, t2, Fz_tr f1 t3⟩
    rw [hA, hw, if_pos (by decide)]
    exact t1
  | some k =>
    refine ⟨m1, ?_, r2, f1⟩
    have := (hb (ct S)).2 k hw
    rw [hA, hw, if_neg (show ¬ oI (some k) < 0 from nI_pos (n := k) (by omega))]
    rfl
/-- the answer of cover -/
def coR (S : PS) (near N : Nat) : Option Nat := if covB S near N = true then some (wcS near (fun s => covB S s N) near) else none
theorem K_cover {f r N : Nat} {mem : Mem} {S : PS} (hf : 2000 ≤ f) (hC : RC mem 0 S) (hi : IV S) (hr : r ≤ 9) (hN1 : 1 ≤ N) (hN : N ≤ 60) : KC (dW_cover f (nI r) (nI N)) mem (oN (coR S (nearS S r) N)) S := by
  obtain ⟨m1, r1, r2, r3, r4⟩ := fore_ok (f := f) (N := N) hf hC hi (by omega)
  have f1 := fzF (fz11 r4)
  have hnl := nearS_lt hi r
  have hA : dW_cover f (nI r) (nI N) mem = if covB S (nearS S r) N = true then some (nI (wcS (nearS S r) (fun s => covB S s N) (nearS S r)), m1) else bd (dW_finding f (-1000000004 : Int32) m1) (fun r7 m7 => some (r7, m7)) := by
    unfold dW_cover
    rw [W_isRoom, bd_ok, in9 hr, ifz_t, W_in, bd_ok, in1_60 hN1 hN, ifz_t, r1, bd_ok, near_ok hf r2 hi hr, bd_ok, always_ok hf hi hnl (by omega) r3, bd_ok, if_b2, cover_C hf hi hnl (by omega) r3]
  unfold coR
  by_cases c : covB S (nearS S r) N = true
  · exact ⟨m1, by rw [hA, if_pos c, if_pos c]; rfl, r2, f1⟩
  · obtain ⟨m, t1, t2, t3⟩ := find_none (f := f) r2 hi
    refine ⟨m, ?_, t2, Fz_tr f1 t3⟩
    rw [hA, if_neg c, if_neg c]
    exact t1
/-- the answers of shift, side, best -/
def shR (S : PS) (near N : Nat) : Nat := (amS (fun v => quS S near v N) 1 (N + 1) 1 60).2
def siR (S : PS) (w near N : Nat) : Nat := (amS (fun v => quS (setW S w 3 v) near (ro S 0) N) 0 (N + 1) 0 4).2
def beR (S : PS) (words : Nat) : Nat := (amS (fun r => spkH S (nearS S r) words 16) 0 161 0 10).2
theorem W_shift {f r N : Nat} {mem : Mem} {S : PS} (hf : 2000 ≤ f) (hC : RC mem 0 S) (hi : IV S) (hr : r ≤ 9) (hN1 : 1 ≤ N) (hN : N ≤ 60) : dW_shift f (nI r) (nI N) mem = some (nI (shR S (nearS S r) N), mem) := by
  unfold dW_shift
  rw [W_isRoom, bd_ok, in9 hr, ifz_t, W_in, bd_ok, in1_60 hN1 hN, ifz_t, near_ok hf hC hi hr, bd_ok, show stc 1 (0 : Int32).toNatClampNeg = 1 by decide, add1, shiftC_ok hf hC hi (nearS_lt hi r) hN]
  rfl
theorem K_side {f w r N : Nat} {mem : Mem} {S : PS} (hf : 2000 ≤ f) (hC : RC mem 0 S) (hi : IV S) (hw : w < ct S) (hr : r ≤ 9) (hN1 : 1 ≤ N) (hN : N ≤ 240) : KC (dW_side f (nI w) (nI r) (nI N)) mem (nI (siR S w (nearS S r) N)) S := by
  obtain ⟨v0, v1, v2, v3, v4, v5⟩ := hi.2.2.2.2.2.2.2.2 w hw
  obtain ⟨m1, r1, r2, r3⟩ := bec_ok (f := f) (p := 2) (q := 0) hf (by omega) hi hC
  obtain ⟨m2, s1, s2⟩ := sideC_lp (f := f) (N := N) hf hi (nearS_lt hi r) hN hw 4 0 f (wa S w 3) m1 (by omega) (by omega) v3 (by rw [setW_id]; exact r2)
  have fc : Fz (palL 2) mem m2 := Fz_tr (Fz_mo r3 (fun _ _ _ => palL_of)) (Fz_mo s2 (fun _ _ _ => palL_of))
  refine ⟨m2, ?_, RC_L2 hC hi fc, fzF (fzL2 fc)⟩
  unfold dW_side
  rw [W_isWall hC, bd_ok, isW_n hi hw, ifz_t, W_isRoom, bd_ok, in9 hr, ifz_t, W_in, bd_ok, in1_240 hN1 hN, ifz_t, near_ok hf hC hi hr, bd_ok, r1, bd_ok, add1]
  exact s1
theorem K_lost {f r k : Nat} {mem : Mem} {S : PS} (hf : 2000 ≤ f) (hC : RC mem 0 S) (hi : IV S) (hm : mi S ≤ 99999) (hr : r ≤ 9) (hk : k < 65536) : KC (dW_lost f (nI r) (nI k)) mem (nI (spkL S (nearS S r) k 16)) S := by
  obtain ⟨m1, r1, r2, r3⟩ := bec_ok (f := f) (p := 2) (q := 0) hf (by omega) hi hC
  obtain ⟨m2, s1, s2, s3, s4⟩ := utterAll_ok (f := f) (words := k) hf (by omega) r2 hi (by omega) hr (by omega)
  have fc : Fz (palL 2) mem m2 := Fz_tr (Fz_mo r3 (fun _ _ _ => palL_of)) s4
  refine ⟨m2, ?_, RC_L2 hC hi fc, fzF (fzL2 fc)⟩
  unfold dW_lost
  rw [W_isRoom, bd_ok, in9 hr, ifz_t, W_isSet, bd_ok, in16 (by omega), ifz_t, r1, bd_ok, s1, bd_ok, s3]
theorem K_best {f k : Nat} {mem : Mem} {S : PS} (hf : 2000 ≤ f) (hC : RC mem 0 S) (hi : IV S) (hm : mi S ≤ 99999) (hk : k < 65536) : KC (dW_best f (nI k)) mem (nI (beR S k)) S := by
  obtain ⟨m1, r1, r2, r3⟩ := bestC_lp (f := f) (words := k) hf hi hm hk 10 0 f mem (by omega) (by omega) hC
  refine ⟨m1, ?_, r2, fzF (fzL2 r3)⟩
  unfold dW_best
  rw [W_isSet, bd_ok, in16 (by omega), ifz_t]
  exact r1
theorem K_say {f r k : Nat} {mem : Mem} {S : PS} (hf : 2000 ≤ f) (hC : RC mem 0 S) (hi : IV S) (hr : r ≤ 9) (hk : k < 16) : KC (dW_say f (nI r) (nI k)) mem (nI (setB (hitB S (nearS S r) k) (ct S))) (sayS S (nearS S r) k (ct S)) := by
  obtain ⟨m1, r1, r2, r3⟩ := utter_ok (f := f) (word := k) hf (by omega) hC hi (nearS_lt hi r) hk
  refine ⟨m1, ?_, r2, fzF (fz0 r3)⟩
  unfold dW_say
  rw [W_isRoom, bd_ok, in9 hr, ifz_t, W_isWord, bd_ok, in15 (by omega), ifz_t, near_ok hf hC hi hr, bd_ok, r1, bd_ok]
theorem K_pass {f N : Nat} {mem : Mem} {S : PS} (hf : 2000 ≤ f) (hC : RC mem 0 S) (hi : IV S) (hN1 : 1 ≤ N) (hN : N ≤ 240) (hm : mi S + N ≤ 99999) : KC (dW_pass f (nI N)) mem (nI (mi S + N)) (itM S N) := by
  obtain ⟨m1, r1, r2, r3⟩ := W_pass_lp (f := f) hf hi hN (by omega) N 0 f mem (by omega) (by omega) hC
  refine ⟨m1, ?_, r2, fzF (fz0 r3)⟩
  unfold dW_pass
  rw [W_in, bd_ok, in1_240 hN1 hN, ifz_t, hC.1, if_neg (fun z => by have := (late_C (a := mi S) (n := N) (by omega) (by omega)).mp z; omega)]
  exact r1
theorem K_speak {f r k : Nat} {mem : Mem} {S : PS} (hf : 2000 ≤ f) (hC : RC mem 0 S) (hi : IV S) (hm : mi S ≤ 90000) (hr : r ≤ 9) (hk : k < 65536) : KC (dW_speak f (nI r) (nI k)) mem (nI (spkH S (nearS S r) k 16)) (spkS S (nearS S r) k 16) := by
  have hb := bc_le 16 k (by omega) (by omega)
  obtain ⟨m1, r1, r2, -, r3⟩ := utterAll_ok (f := f) (words := k) hf (by omega) hC hi (by omega) hr hk
  refine ⟨m1, ?_, r2, fzF (fzL0 r3)⟩
  unfold dW_speak
  rw [W_isRoom, bd_ok, in9 hr, ifz_t, W_isSet, bd_ok, in16 (by omega), ifz_t, bcC_ok (by omega), bd_ok, hC.1, if_neg (fun z => by have := (late_C (a := mi S) (n := bcN k) (by omega) (by omega)).mp z; omega), r1, bd_ok]
theorem W_reach {f r : Nat} {mem : Mem} {S : PS} (hf : 2000 ≤ f) (hC : RC mem 0 S) (hi : IV S) (hr : r ≤ 9) : dW_reach f (nI r) mem = some (nI (reachS S r), mem) := by
  unfold dW_reach
  rw [W_isRoom, bd_ok, in9 hr, ifz_t, leaks_ok hf hC hi hr, bd_ok]
theorem W_duty {f t : Nat} {mem : Mem} {S : PS} (hf : 2000 ≤ f) (hC : RC mem 0 S) (hi : IV S) (ht : t ≤ 99999) : dW_duty f (nI t) mem = some (nI (dutyS S (ro S 0) t), mem) := by
  unfold dW_duty
  rw [W_in, bd_ok, in99 ht, ifz_t, hC.2.1 0 (by omega), onDuty_ok hf hC hi hi.2.1 hi.2.2.1 (by omega), bd_ok]
theorem W_now0 {f : Nat} {mem : Mem} {S : PS} (hC : RC mem 0 S) : dW_now f 0 mem = some (nI (mi S), mem) := by
  unfold dW_now
  rw [if_pos rfl, hC.1]
theorem W_nowR {f k : Nat} {mem : Mem} {S : PS} (hC : RC mem 0 S) (hk : k < 4) : dW_now f (nI (1 + k)) mem = some (nI (ro S k), mem) := by
  have hkk : k = 0 ∨ k = 1 ∨ k = 2 ∨ k = 3 := by omega
  unfold dW_now
  rcases hkk with rfl | rfl | rfl | rfl
  · exact congrArg (fun z => some (z, mem)) (hC.2.1 0 (by omega))
  · exact congrArg (fun z => some (z, mem)) (hC.2.1 1 (by omega))
  · exact congrArg (fun z => some (z, mem)) (hC.2.1 2 (by omega))
  · exact congrArg (fun z => some (z, mem)) (hC.2.1 3 (by omega))
theorem W_now5 {f : Nat} {mem : Mem} {S : PS} (hf : 2000 ≤ f) (hC : RC mem 0 S) (hi : IV S) : dW_now f 5 mem = some (nI (orS (fun w => wa S w 4) (ct S)), mem) := by
  unfold dW_now
  rw [wordsC_ok hf hC hi, bd_ok]
  rfl
theorem W_now6 {f : Nat} {mem : Mem} {S : PS} (hf : 2000 ≤ f) (hC : RC mem 0 S) (hi : IV S) : dW_now f 6 mem = some (nI (smS (fun w => wa S w 5) (ct S)), mem) := by
  unfold dW_now
  rw [tiredC_ok hf hC hi, bd_ok]
  rfl
theorem W_of {f w k : Nat} {mem : Mem} {S : PS} (hC : RC mem 0 S) (hi : IV S) (hw : w < ct S) (hk : k ≤ 5) : dW_of f (nI w) (nI k) mem = some (nI (wa S w k), mem) := by
  have hct : ct S ≤ 10 := hi.2.2.2.2.2.2.2.1
  unfold dW_of
  rw [W_isWall hC, bd_ok, isW_n hi hw, ifz_t, ck_in _ (by omega) (by omega), W_in, bd_ok, nI_clamp (by omega), in5 hk, ifz_t, ck_in _ (by omega) (by omega), nI_clamp (by omega), hC.2.2.2 w hw k (by omega)]
theorem W_of6 {f w : Nat} {mem : Mem} {S : PS} (hf : 2000 ≤ f) (hC : RC mem 0 S) (hi : IV S) (hw : w < ct S) : dW_of f (nI w) 6 mem = some (nI (b2 (onF S (ro S 0) w (mi S))), mem) := by
  have hct : ct S ≤ 10 := hi.2.2.2.2.2.2.2.1
  have hm := hi.1
  unfold dW_of
  rw [W_isWall hC, bd_ok, isW_n hi hw, ifz_t, ck_in _ (by omega) (by omega), W_in, bd_ok, show inb 6 0 5 = false by decide, ifz_f, if_pos rfl, hC.1, dutyOf_ok hf hC hi hw (by omega), bd_ok, if_b2]
  cases onF S (ro S 0) w (mi S) <;> rfl
theorem W_of7 {f w : Nat} {mem : Mem} {S : PS} (hC : RC mem 0 S) (hi : IV S) (hw : w < ct S) : dW_of f (nI w) 7 mem = some (nI (b2 (wakeB S w)), mem) := by
  have hct : ct S ≤ 10 := hi.2.2.2.2.2.2.2.1
  unfold dW_of
  rw [W_isWall hC, bd_ok, isW_n hi hw, ifz_t, ck_in _ (by omega) (by omega), W_in, bd_ok, show inb 7 0 5 = false by decide, ifz_f, if_neg (by decide), if_pos rfl, nI_clamp (by omega), awakeC_ok hC hi hw, bd_ok, if_b2]
  cases wakeB S w <;> rfl
theorem W_of8 {f w : Nat} {mem : Mem} {S : PS} (hC : RC mem 0 S) (hi : IV S) (hw : w < ct S) : dW_of f (nI w) 8 mem = some (nI (tirN (wa S w 0)), mem) := by
  have hct : ct S ≤ 10 := hi.2.2.2.2.2.2.2.1
  obtain ⟨v0, v1, v2, v3, v4, v5⟩ := hi.2.2.2.2.2.2.2.2 w hw
  unfold dW_of
  rw [W_isWall hC, bd_ok, isW_n hi hw, ifz_t, ck_in _ (by omega) (by omega), W_in, bd_ok, show inb 8 0 5 = false by decide, ifz_f, if_neg (by decide), if_neg (by decide), if_pos rfl, nI_clamp (by omega), hC.2.2.2 w hw 0 (by omega), tiresC_ok v0, bd_ok]
theorem W_count0 {f : Nat} {mem : Mem} {S : PS} (hC : RC mem 0 S) : dW_count f 0 mem = some (nI (ct S), mem) := by
  unfold dW_count
  rw [if_pos rfl, hC.2.2.1]
theorem W_count2 {f : Nat} {mem : Mem} {S : PS} (hf : 2000 ≤ f) (hC : RC mem 0 S) (hi : IV S) : dW_count f 2 mem = some (nI (smS (fun w => bcN (wa S w 4)) (ct S)), mem) := by
  unfold dW_count
  rw [if_neg (by decide), if_neg (by decide), if_pos rfl, wordsEC_ok hf hC hi, bd_ok]
theorem W_count3 {f : Nat} {mem : Mem} {S : PS} (hf : 2000 ≤ f) (hC : RC mem 0 S) (hi : IV S) : dW_count f 3 mem = some (nI (smS (fun w => if wakeB S w = true then 1 else 0) (ct S)), mem) := by
  unfold dW_count
  rw [if_neg (by decide), if_neg (by decide), if_neg (by decide), if_pos rfl, wakeC_ok hf hC hi, bd_ok]
theorem tbW_n {k v : Nat} (h1 : 1 ≤ k) (h : okW k v) : tbW (nI k) (nI v) = true := by
  have hk : k ≤ 5 := by unfold okW at h; omega
  have hkk : k = 1 ∨ k = 2 ∨ k = 3 ∨ k = 4 ∨ k = 5 := by omega
  unfold okW at h
  rcases hkk with rfl | rfl | rfl | rfl | rfl
  · exact in9 (by omega)
  · exact in9 (by omega)
  · exact (inb_0 (k := v) (n := 3) (by omega) (by omega)).trans (decide_eq_true (by omega))
  · exact in16 (by omega)
  · exact (inb_0 (k := v) (n := 99) (by omega) (by omega)).trans (decide_eq_true (by omega))
theorem K_set {f w k v : Nat} {mem : Mem} {S : PS} (hC : RC mem 0 S) (hi : IV S) (hw : w < ct S) (h1 : 1 ≤ k) (ho : okW k v) : KC (dW_set f (nI w) (nI k) (nI v)) mem (nI (wa S w k)) (setW S w k v) := by
  have hct : ct S ≤ 10 := hi.2.2.2.2.2.2.2.1
  have hk : k < 6 := by unfold okW at ho; omega
  refine ⟨sI mem 4 (10 * 0 + w) k (nI v), ?_, RC_put hC w k v, fzF (fz0 (Fz_sI (palZ4 (by omega))))⟩
  rw [W_set hC, isW_n hi hw, tbW_n h1 ho, Bool.and_self, if_pos rfl, repl_ok hC hi hw hk, bd_ok]
theorem tbR_n {k v : Nat} (h : okR k v) : tbR (nI k) (nI v) = true := by
  unfold okR at h
  rcases h with ⟨rfl, h1, h2⟩ | ⟨rfl, h2⟩ | ⟨rfl, h2⟩ | ⟨rfl, h1, h2⟩
  · exact in1_60 h1 h2
  · exact (inb_0 (k := v) (n := 60) (by omega) (by omega)).trans (decide_eq_true (by omega))
  · exact (inb_0 (k := v) (n := 3) (by omega) (by omega)).trans (decide_eq_true (by omega))
  · exact (inb_n (k := v) (a := 1) (n := 20) (by omega) (by omega) (by omega)).trans (by rw [decide_eq_true h1, decide_eq_true h2]; rfl)
theorem K_rota {f k v : Nat} {mem : Mem} {S : PS} (hC : RC mem 0 S) (ho : okR k v) : KC (dW_rota f (nI k) (nI v)) mem (nI (ro S k)) (setR S k v) := by
  have hk : k < 4 := by unfold okR at ho; omega
  refine ⟨sI mem 2 0 k (nI v), ?_, RC_setR hC k v, fzF (fz0 (Fz_sI (palZr 0 k)))⟩
  unfold dW_rota
  rw [W_mayBe, bd_ok, tbR_n ho, ifz_t, ck_in _ hk (by omega), ck_in _ hk (by omega), nI_clamp (by omega), hC.2.1 k hk]
theorem K_wall {f a b c : Nat} {mem : Mem} {S : PS} (hC : RC mem 0 S) (hi : IV S) (hc : ct S < 10) (ha : a ≤ 5) (hb : b ≤ 9) (hcc : c ≤ 9) : KC (dW_wall f (nI a) (nI b) (nI c)) mem (nI (ct S)) (newW S a b c 0) := by
  obtain ⟨m1, r1, r2, r3⟩ := build_ok (f := f) (a := a) (b := b) (c := c) (d := 0) hC (by omega)
  refine ⟨m1, ?_, r2, fzF (fz0 r3)⟩
  unfold dW_wall
  rw [W_isKind, bd_ok, in5 ha, ifz_t, W_isRoom, bd_ok, in9 hb, ifz_t, W_isRoom, bd_ok, in9 hcc, ifz_t, built_ok hC hi, bd_ok, decide_eq_false (by omega), ifz_f, show dP_build f 0 (nI a) (nI b) (nI c) 0 mem = _ from r1, bd_ok]
/-- what stands once an image is kept: S now, T kept and in the law's row -/
def WS (mem : Mem) (S T : PS) : Prop := RC mem 0 S ∧ RC mem 1 T ∧ gI mem 0 0 2 = 1 ∧ RM mem T
theorem WS_F {mem m : Mem} {S S' T : PS} (h : WS mem S T) (hT : IV T) (hC : RC m 0 S') (fx : Fz clF mem m) : WS m S' T :=
  ⟨hC, RC1_F h.2.1 hT fx, (fx 0 0 2 clF_0).1.trans h.2.2.1, RM_F h.2.2.2 fx⟩
theorem KC_WS {A : Mem → Option (Int32 × Mem)} {mem : Mem} {r : Int32} {S S' T : PS} (h : WS mem S T) (hT : IV T) (k : KC A mem r S') : ∃ m, A mem = some (r, m) ∧ WS m S' T := by
  obtain ⟨m, k1, k2, k3⟩ := k
  exact ⟨m, k1, WS_F h hT k2 k3⟩
theorem K_undo {f : Nat} {mem : Mem} {S T : PS} (hf : 2000 ≤ f) (h : WS mem S T) (hT : IV T) : ∃ m, dW_undo f mem = some (nI (ct T), m) ∧ WS m T T := by
  obtain ⟨m1, r1, r2, r3⟩ := bec_ok (f := f) (p := 0) (q := 1) hf (by omega) hT h.2.1
  refine ⟨m1, ?_, WS_F h hT r2 (fzF (fz0 r3))⟩
  unfold dW_undo
  rw [h.2.2.1, if_neg (by decide), r1, bd_ok, r2.2.2.1]
theorem K_image {f : Nat} {mem : Mem} {S : PS} (hf : 2000 ≤ f) (hC : RC mem 0 S) (hi : IV S) (hM : RM mem S) : ∃ m, dW_image f mem = some (1, m) ∧ WS m S S := by
  have hct : ct S ≤ 10 := hi.2.2.2.2.2.2.2.1
  obtain ⟨m1, r1, r2, r3⟩ := bec_ok (f := f) (p := 1) (q := 0) hf (by omega) hi hC
  have hC1 : RC m1 0 S := RC_fz hC hct r3 (fun _ _ _ q => pal01 q)
  refine ⟨sI m1 0 0 2 1, by unfold dW_image; rw [r1, bd_ok], RC_flag hC1 1, RC_flag r2 1, ?_, ?_⟩
  · rw [gI_sI, if_pos ⟨rfl, rfl, rfl⟩]
  · exact RK_fz (t := 13) (P := fun t _ _ => decide (t = 0)) (RK_fz (t := 13) hM r3 (fun j => decide_eq_false (by omega))) (Fz_sI rfl) (fun j => rfl)
