/-! THE TEXT: the reference's tokens. -/
theorem letM_ok {f i : Nat} {mem : Mem} {T : TT} (hT : okT T) : dM_isLetter f (bAt T i) mem = some (nI (b2 (decide (sc T i = 2))), mem) := by
  unfold dM_isLetter
  rw [M_in, bd_ok, zb_b]
  congr 4
  unfold bAt sc
  by_cases c : i < T.2
  · have hb := hT.2 i c
    have e : inb (nI (T.1 i)) 97 122 = (decide (97 ≤ T.1 i) && decide (T.1 i ≤ 122)) := inb_n (a := 97) (n := 122) (by omega) (by omega) (by omega)
    rw [if_pos c, if_pos c, e]
    by_cases c1 : T.1 i = 59
    · rw [c1]
      decide
    · rw [if_neg c1]
      by_cases c2 : 97 ≤ T.1 i ∧ T.1 i ≤ 122
      · rw [if_pos c2, decide_eq_true c2.1, decide_eq_true c2.2]
        rfl
      · rw [if_neg c2]
        have : (decide (97 ≤ T.1 i) && decide (T.1 i ≤ 122)) = false := by
          by_cases q : 97 ≤ T.1 i
          · rw [decide_eq_false (p := T.1 i ≤ 122) (by omega), Bool.and_false]
          · rw [decide_eq_false q]
            rfl
        rw [this]
        split <;> rfl
  · rw [if_neg c, if_neg c]
    decide
theorem digM_ok {f i : Nat} {mem : Mem} {T : TT} (hT : okT T) : dM_isDigit f (bAt T i) mem = some (nI (b2 (decide (sc T i = 3))), mem) := by
  unfold dM_isDigit
  rw [M_in, bd_ok, zb_b]
  congr 4
  unfold bAt sc
  by_cases c : i < T.2
  · have hb := hT.2 i c
    have e : inb (nI (T.1 i)) 48 57 = (decide (48 ≤ T.1 i) && decide (T.1 i ≤ 57)) := inb_n (a := 48) (n := 57) (by omega) (by omega) (by omega)
    rw [if_pos c, if_pos c, e]
    by_cases c1 : T.1 i = 59
    · rw [c1]
      decide
    · rw [if_neg c1]
      by_cases c2 : 97 ≤ T.1 i ∧ T.1 i ≤ 122
      · rw [if_pos c2, decide_eq_false (p := T.1 i ≤ 57) (by omega), Bool.and_false]
        rfl
      · rw [if_neg c2]
        by_cases c3 : 48 ≤ T.1 i ∧ T.1 i ≤ 57
        · rw [if_pos c3, decide_eq_true c3.1, decide_eq_true c3.2]
          rfl
        · rw [if_neg c3]
          by_cases q : 48 ≤ T.1 i
          · rw [decide_eq_false (p := T.1 i ≤ 57) (by omega), Bool.and_false]
            rfl
          · rw [decide_eq_false q]
            rfl
  · rw [if_neg c, if_neg c]
    decide
def a6 (t i j : Nat) : Bool := decide (t = 12 ∧ i = 0 ∧ 6 ≤ j ∧ j ≤ 10)
theorem TpM_fz {mem m : Mem} {T : TT} (h : TpM mem T) (fx : Fz a6 mem m) : TpM m T := ⟨(fx 12 0 5 rfl).1.trans h.1, fun j hj => (fx 16 0 j rfl).1.trans (h.2 j hj)⟩
theorem a6_s {j : Nat} {m : Mem} {v : Int32} (h : 6 ≤ j ∧ j ≤ 10) : Fz a6 m (sI m 12 0 j v) := Fz_sI (decide_eq_true ⟨rfl, rfl, h⟩)
theorem a6_L {m : Mem} {v : Int64} : Fz a6 m (sL m 12 0 9 v) := Fz_sL rfl
/-- letters as a number, 27 a place -/
def wvF (g : Nat → Nat) : Nat → Nat
  | 0 => 0
  | n + 1 => 27 * wvF g n + (g n - 96)
def wvL (g : Nat → Nat) (n : Nat) : Int64 := if n ≤ 12 then lN (wvF g n) else -1
def wo (T : TT) (e : Nat) : Int64 := wvL (fun i => T.1 (bg T e + i)) (en T e - bg T e)
def rsN (k : Nat) : Nat := if k = 0 then 0 else if k = 2 then 1 else if k = 3 then 2 else 3
def TM (mem : Mem) (T : TT) (e : Nat) : Prop := gI mem 12 0 7 = nI (bg T e) ∧ gI mem 12 0 6 = nI (rsN (so T e)) ∧ (so T e ≠ 1 → gI mem 12 0 8 = nI (en T e)) ∧ (so T e = 2 → gL mem 12 0 9 = wo T e) ∧ (so T e = 3 → gI mem 12 0 10 = nI (nu T e)) ∧ (so T e = 4 → gI mem 12 0 10 = 59) ∧ (so T e = 1 → gI mem 12 0 10 ≠ 59)
def advK (f : Nat) (m1 : Mem) : Option (Unit × Mem) := bd (dM_byteAt f (gI (sI m1 12 0 8 (gI m1 12 0 7)) 12 0 7) (sI m1 12 0 8 (gI m1 12 0 7))) (fun r2 m2 => if r2 < 0 then (dM_advance_83 f r2 (0 : Int32) m2) else (bd (dM_isLetter f r2 m2) (fun r3 m3 => if r3 = 0 then (bd (dM_isDigit f r2 m3) (fun r4 m4 => if r4 = 0 then (dM_advance_83 f r2 (3 : Int32) m4) else (dM_advance_83 f r2 (2 : Int32) m4))) else (dM_advance_83 f r2 (1 : Int32) m3))))
theorem blM_lp {f : Nat} {T : TT} (hT : okT T) : ∀ (d i n : Nat) (mem : Mem), T.2 < i + d → d < n → TpM mem T → gI mem 12 0 7 = nI i → i ≤ T.2 →
    ∃ m', dM_advance_8 f n mem = advK f m' ∧ gI m' 12 0 7 = nI (rn (blB T) i) ∧ TpM m' T ∧ Fz a6 mem m'
  | 0, i, n, mem, e, hn, h, h2, hi => absurd e (by omega)
  | d + 1, i, n, mem, e, hn, h, h2, hi => by
    obtain ⟨n, rfl⟩ : ∃ k, n = k + 1 := ⟨n - 1, by omega⟩
    have hN := hT.1
    rw [dM_advance_8]
    show ∃ m', bd (dM_byteAt f (gI mem 12 0 7) mem) (fun r1 m1 => if r1 = (32 : Int32) then (dM_advance_8 f n (sI m1 12 0 7 ((gI m1 12 0 7) + (1 : Int32)))) else advK f m1) = _ ∧ _
    rw [h2, byteM_ok hT h (by omega), bd_ok, h2, add1]
    by_cases c : i < T.2
    · have hb := hT.2 i c
      have k32 : nI (T.1 i) = 32 ↔ T.1 i = 32 := nb_inj (b := 32) (by omega) (by omega)
      unfold bAt
      rw [if_pos c]
      by_cases c2 : T.1 i = 32
      · have hp : blB T i = true := by
          unfold blB
          rw [decide_eq_true c, decide_eq_true c2]
          rfl
        rw [if_pos (k32.mpr c2), rn_t (blB_p T) hN hp]
        have fx : Fz a6 mem (sI mem 12 0 7 (nI (i + 1))) := a6_s (by omega)
        obtain ⟨m', r1, r2, r3, r4⟩ := blM_lp (f := f) hT d (i + 1) n _ (by omega) (by omega) (TpM_fz h fx) (by rw [gI_sI, if_pos ⟨rfl, rfl, rfl⟩]) (by omega)
        exact ⟨m', r1, r2, r3, Fz_tr fx r4⟩
      · have hp : blB T i = false := by
          unfold blB
          rw [decide_eq_false c2, Bool.and_false]
        rw [if_neg (fun z => c2 (k32.mp z)), rn_f hp]
        exact ⟨mem, rfl, h2, h, Fz_rfl _ _⟩
    · have hp : blB T i = false := by
        unfold blB
        rw [decide_eq_false c]
        rfl
      unfold bAt
      rw [if_neg c, if_neg (by decide), rn_f hp]
      exact ⟨mem, rfl, h2, h, Fz_rfl _ _⟩
theorem advK_ok {f b : Nat} {mem : Mem} {T : TT} (hT : okT T) (hb : b ≤ T.2) (h : TpM mem T) (h7 : gI mem 12 0 7 = nI b) : advK f mem = dM_advance_83 f (bAt T b) (nI (rsN (sc T b))) (sI mem 12 0 8 (nI b)) := by
  have hN := hT.1
  have fx : Fz a6 mem (sI mem 12 0 8 (nI b)) := a6_s (by omega)
  unfold advK
  rw [h7, gI_sI, if_neg (by omega), h7, byteM_ok hT (TpM_fz h fx) (by omega), bd_ok, letM_ok hT, bd_ok, digM_ok hT, bd_ok]
  by_cases c : b < T.2
  · have hbb := hT.2 b c
    have e : bAt T b = nI (T.1 b) := if_pos c
    have n0 : sc T b ≠ 0 := by
      unfold sc
      rw [if_pos c]
      split
      · omega
      · split
        · omega
        · split <;> omega
    rw [if_neg (by rw [e]; exact nI_pos (by omega)), if_b2, if_b2]
    by_cases c2 : sc T b = 2
    · rw [decide_eq_true c2, if_pos rfl, c2]
      rfl
    · rw [decide_eq_false c2, if_neg (by decide)]
      by_cases c3 : sc T b = 3
      · rw [decide_eq_true c3, if_pos rfl, c3]
        rfl
      · rw [decide_eq_false c3, if_neg (by decide)]
        have : rsN (sc T b) = 3 := by unfold rsN; rw [if_neg n0, if_neg c2, if_neg c3]
        rw [this]
        rfl
  · have e : bAt T b = -1 := if_neg c
    rw [if_pos (by rw [e]; decide), sc_ge c]
    rfl
theorem wv_step (g : Nat → Nat) {k : Nat} (hk : k < 12) (hg : 97 ≤ g k ∧ g k ≤ 122) : (27 : Int64) * wvL g k + (nI (g k)).toInt64 - 96 = wvL g (k + 1) := by
  unfold wvL
  rw [if_pos (by omega), if_pos (by omega), nI_l (by omega), wvF]
  have e1 : (27 : Int64) * lN (wvF g k) = lN (27 * wvF g k) := lN_mul 27 _
  have e2 : lN (27 * wvF g k + g k) - 96 = lN (27 * wvF g k + g k - 96) := lN_sub (b := 96) (by omega)
  rw [e1, lN_add, e2]
  congr 1
  omega
theorem sc2 {T : TT} {i : Nat} (h : sc T i = 2) : i < T.2 ∧ 97 ≤ T.1 i ∧ T.1 i ≤ 122 := by
  have c : i < T.2 := sc_lt (by omega)
  refine ⟨c, ?_⟩
  unfold sc at h
  rw [if_pos c] at h
  by_cases c1 : T.1 i = 59
  · rw [if_pos c1] at h
    cases h
  · rw [if_neg c1] at h
    by_cases c2 : 97 ≤ T.1 i ∧ T.1 i ≤ 122
    · exact c2
    · rw [if_neg c2] at h
      by_cases c3 : 48 ≤ T.1 i ∧ T.1 i ≤ 57
      · rw [if_pos c3] at h
        cases h
      · rw [if_neg c3] at h
        cases h
theorem sc3 {T : TT} {i : Nat} (h : sc T i = 3) : i < T.2 ∧ 48 ≤ T.1 i ∧ T.1 i ≤ 57 := by
  have c : i < T.2 := sc_lt (by omega)
  refine ⟨c, ?_⟩
  unfold sc at h
  rw [if_pos c] at h
  by_cases c1 : T.1 i = 59
  · rw [if_pos c1] at h
    cases h
  · rw [if_neg c1] at h
    by_cases c2 : 97 ≤ T.1 i ∧ T.1 i ≤ 122
    · rw [if_pos c2] at h
      cases h
    · rw [if_neg c2] at h
      by_cases c3 : 48 ≤ T.1 i ∧ T.1 i ≤ 57
      · exact c3
      · rw [if_neg c3] at h
        cases h
theorem runM_lp {f b : Nat} {T : TT} (hT : okT T) : ∀ (d i n : Nat) (mem : Mem), T.2 < i + d → d < n → TpM mem T → gI mem 12 0 6 = 1 → gI mem 12 0 7 = nI b → gI mem 12 0 8 = nI i → gL mem 12 0 9 = wvL (fun j => T.1 (b + j)) (i - b) → b ≤ i → i ≤ T.2 →
    ∃ m', dM_advance_126 f n mem = dM_advance_207 f f m' ∧ gI m' 12 0 6 = 1 ∧ gI m' 12 0 7 = nI b ∧ gI m' 12 0 8 = nI (rn (likeB T 2) i) ∧ gL m' 12 0 9 = wvL (fun j => T.1 (b + j)) (rn (likeB T 2) i - b) ∧ TpM m' T ∧ Fz a6 mem m'
  | 0, i, n, mem, e, hn, h, h6, h7, h8, h9, hb, hi => absurd e (by omega)
  | d + 1, i, n, mem, e, hn, h, h6, h7, h8, h9, hb, hi => by
    obtain ⟨n, rfl⟩ : ∃ k, n = k + 1 := ⟨n - 1, by omega⟩
    have hN := hT.1
    rw [dM_advance_126, h6, if_pos rfl, h8, byteM_ok hT h (by omega), bd_ok, letM_ok hT, bd_ok, if_b2]
    by_cases c2 : sc T i = 2
    · obtain ⟨g1, g2⟩ := sc2 c2
      have hp : likeB T 2 i = true := by
        unfold likeB
        rw [decide_eq_true g1, decide_eq_true c2]
        rfl
      rw [decide_eq_true c2, if_pos rfl, rn_t (likeB_p T 2) hN hp, h8, h7, nb_sub hb, byteM_ok hT h (by omega), bd_ok, h9]
      have e1 : bAt T i = nI (T.1 i) := if_pos g1
      have kl : nI (i - b) < 12 ↔ i - b < 12 := nb_lt (b := 12) (by omega) (by omega)
      have go : ∀ w, w = wvL (fun j => T.1 (b + j)) (i + 1 - b) → ∃ m', dM_advance_191 f (fun mem_ => dM_advance_126 f n mem_) w mem = dM_advance_207 f f m' ∧ gI m' 12 0 6 = 1 ∧ gI m' 12 0 7 = nI b ∧ gI m' 12 0 8 = nI (rn (likeB T 2) (i + 1)) ∧ gL m' 12 0 9 = wvL (fun j => T.1 (b + j)) (rn (likeB T 2) (i + 1) - b) ∧ TpM m' T ∧ Fz a6 mem m' := by
        intro w hw
        unfold dM_advance_191
        have e8 : gI (sL mem 12 0 9 w) 12 0 8 = nI i := h8
        rw [e8, add1]
        have fx : Fz a6 mem (sI (sL mem 12 0 9 w) 12 0 8 (nI (i + 1))) := Fz_tr a6_L (a6_s (by omega))
        obtain ⟨m', r1, r2, r3, r4, r5, r6, r7⟩ := runM_lp (f := f) (b := b) hT d (i + 1) n (sI (sL mem 12 0 9 w) 12 0 8 (nI (i + 1))) (by omega) (by omega) (TpM_fz h fx) (by rw [gI_sI, if_neg (by omega), gI_sL, h6]) (by rw [gI_sI, if_neg (by omega), gI_sL, h7]) (by rw [gI_sI, if_pos ⟨rfl, rfl, rfl⟩]) (by rw [gL_sI, gL_sL, if_pos ⟨rfl, rfl, rfl⟩, hw]) (by omega) (by omega)
        exact ⟨m', r1, r2, r3, r4, r5, r6, Fz_tr fx r7⟩
      by_cases cl : i - b < 12
      · rw [if_pos (kl.mpr cl), e1]
        refine go _ ?_
        have := wv_step (fun j => T.1 (b + j)) cl (by show 97 ≤ T.1 (b + (i - b)) ∧ T.1 (b + (i - b)) ≤ 122; rw [show b + (i - b) = i by omega]; exact g2)
        rw [show i - b + 1 = i + 1 - b by omega] at this
        rw [← this]
        show _ = (27 : Int64) * _ + (nI (T.1 (b + (i - b)))).toInt64 - 96
        rw [show b + (i - b) = i by omega]
      · rw [if_neg (fun z => cl (kl.mp z))]
        refine go _ ?_
        unfold wvL
        rw [if_neg (by omega)]
    · have hp : likeB T 2 i = false := by
        unfold likeB
        rw [decide_eq_false c2]
        rfl
      rw [decide_eq_false c2, if_neg (by decide), rn_f hp]
      exact ⟨mem, rfl, h6, h7, h8, h9, h, Fz_rfl _ _⟩
theorem numM_lp {f : Nat} {T : TT} (hT : okT T) : ∀ (d i n v : Nat) (mem : Mem), T.2 < i + d → d < n → TpM mem T → gI mem 12 0 6 = 2 → gI mem 12 0 8 = nI i → gI mem 12 0 10 = nI v → v ≤ 20000 → i ≤ T.2 →
    ∃ m', dM_advance_207 f n mem = some ((), m') ∧ gI m' 12 0 6 = 2 ∧ gI m' 12 0 7 = gI mem 12 0 7 ∧ gI m' 12 0 8 = nI (rn (likeB T 3) i) ∧ gI m' 12 0 10 = nI (nuF T (rn (likeB T 3) i - i) i v) ∧ TpM m' T ∧ Fz a6 mem m'
  | 0, i, n, v, mem, e, hn, h, h6, h8, h10, hv, hi => absurd e (by omega)
  | d + 1, i, n, v, mem, e, hn, h, h6, h8, h10, hv, hi => by
    obtain ⟨n, rfl⟩ : ∃ k, n = k + 1 := ⟨n - 1, by omega⟩
    have hN := hT.1
    rw [dM_advance_207, h6, if_pos rfl, h8, byteM_ok hT h (by omega), bd_ok, digM_ok hT, bd_ok, if_b2]
    by_cases c3 : sc T i = 3
    · obtain ⟨g1, g2⟩ := sc3 c3
      have hp : likeB T 3 i = true := by
        unfold likeB
        rw [decide_eq_true g1, decide_eq_true c3]
        rfl
      have hge := runE_ge (likeB T 3) 121 (i + 1)
      have hge' : i + 1 ≤ rn (likeB T 3) (i + 1) := hge
      rw [decide_eq_true c3, if_pos rfl, rn_t (likeB_p T 3) hN hp, h8, h10, byteM_ok hT h (by omega), bd_ok]
      have e1 : bAt T i = nI (T.1 i) := if_pos g1
      have kl : (999 : Int32) < nI v ↔ 999 < v := nb_lt (a := 999) (by omega) (by omega)
      rw [show rn (likeB T 3) (i + 1) - i = (rn (likeB T 3) (i + 1) - (i + 1)) + 1 by omega, nuF]
      have go : ∀ w, w ≤ 20000 → w = (if 999 < v then 10000 else 10 * v + (T.1 i - 48)) → ∃ m', dM_advance_265 f (fun mem_ => dM_advance_207 f n mem_) (nI w) mem = some ((), m') ∧ gI m' 12 0 6 = 2 ∧ gI m' 12 0 7 = gI mem 12 0 7 ∧ gI m' 12 0 8 = nI (rn (likeB T 3) (i + 1)) ∧ gI m' 12 0 10 = nI (nuF T (rn (likeB T 3) (i + 1) - (i + 1)) (i + 1) (if 999 < v then 10000 else 10 * v + (T.1 i - 48))) ∧ TpM m' T ∧ Fz a6 mem m' := by
        intro w hw1 hw
        rw [← hw]
        unfold dM_advance_265
        have e8 : gI (sI mem 12 0 10 (nI w)) 12 0 8 = nI i := by rw [gI_sI, if_neg (by omega), h8]
        rw [e8, add1]
        have fx : Fz a6 mem (sI (sI mem 12 0 10 (nI w)) 12 0 8 (nI (i + 1))) := Fz_tr (a6_s (by omega)) (a6_s (by omega))
        obtain ⟨m', r1, r2, r3, r4, r5, r6, r7⟩ := numM_lp (f := f) hT d (i + 1) n w (sI (sI mem 12 0 10 (nI w)) 12 0 8 (nI (i + 1))) (by omega) (by omega) (TpM_fz h fx) (by rw [gI_sI, if_neg (by omega), gI_sI, if_neg (by omega), h6]) (by rw [gI_sI, if_pos ⟨rfl, rfl, rfl⟩]) (by rw [gI_sI, if_neg (by omega), gI_sI, if_pos ⟨rfl, rfl, rfl⟩]) hw1 (by omega)
        exact ⟨m', r1, r2, r3.trans (by rw [gI_sI, if_neg (by omega), gI_sI, if_neg (by omega)]), r4, r5, r6, Fz_tr fx r7⟩
      by_cases cl : 999 < v
      · rw [if_pos (kl.mpr cl)]
        exact go 10000 (by omega) (by rw [if_pos cl])
      · rw [if_neg (fun z => cl (kl.mp z)), e1]
        have em : (10 : Int32) * nI v = nI (10 * v) := nb_mul 10 v
        have es : nI (10 * v + T.1 i) - 48 = nI (10 * v + T.1 i - 48) := nb_sub (b := 48) (by omega)
        rw [em, nb_add, es]
        exact go _ (by omega) (by rw [if_neg cl]; omega)
    · have hp : likeB T 3 i = false := by
        unfold likeB
        rw [decide_eq_false c3]
        rfl
      rw [decide_eq_false c3, if_neg (by decide), rn_f hp, Nat.sub_self, nuF]
      exact ⟨mem, rfl, h6, rfl, h8, h10, h, Fz_rfl _ _⟩
theorem adv_ok {f e : Nat} {mem : Mem} {T : TT} (hf : 2000 ≤ f) (hT : okT T) (he : e ≤ T.2) (h : TpM mem T) (h8 : gI mem 12 0 8 = nI e) :
    ∃ m', dM_advance f mem = some ((), m') ∧ TM m' T e ∧ TpM m' T ∧ Fz a6 mem m' := by
  have hN := hT.1
  have hbl := bg_le (T := T) he
  have hs : so T e ≤ 4 := sc_le T (bg T e)
  have f0 : Fz a6 mem (sI mem 12 0 7 (nI e)) := a6_s (by omega)
  unfold dM_advance
  rw [h8]
  obtain ⟨m1, r1, r2, r3, r4⟩ := blM_lp (f := f) hT 121 e f (sI mem 12 0 7 (nI e)) (by omega) (by omega) (TpM_fz h f0) (by rw [gI_sI, if_pos ⟨rfl, rfl, rfl⟩]) he
  have r2' : gI m1 12 0 7 = nI (bg T e) := r2
  rw [r1, advK_ok hT hbl r3 r2']
  obtain ⟨n, rfl⟩ : ∃ k, f = k + 1 := ⟨f - 1, by omega⟩
  unfold dM_advance_83
  show ∃ m', (if gI (sL (sI (sI m1 12 0 8 (nI (bg T e))) 12 0 6 (nI (rsN (so T e)))) 12 0 9 0) 12 0 6 = 2 then dM_advance_105 (n + 1) 0 (sL (sI (sI m1 12 0 8 (nI (bg T e))) 12 0 6 (nI (rsN (so T e)))) 12 0 9 0) else dM_advance_105 (n + 1) (bAt T (bg T e)) (sL (sI (sI m1 12 0 8 (nI (bg T e))) 12 0 6 (nI (rsN (so T e)))) 12 0 9 0)) = _ ∧ _
  have e6 : gI (sL (sI (sI m1 12 0 8 (nI (bg T e))) 12 0 6 (nI (rsN (so T e)))) 12 0 9 0) 12 0 6 = nI (rsN (so T e)) := by rw [gI_sL, gI_sI, if_pos ⟨rfl, rfl, rfl⟩]
  have e7 : gI (sL (sI (sI m1 12 0 8 (nI (bg T e))) 12 0 6 (nI (rsN (so T e)))) 12 0 9 0) 12 0 7 = nI (bg T e) := by rw [gI_sL, gI_sI, if_neg (by omega), gI_sI, if_neg (by omega), r2']
  have e8 : gI (sL (sI (sI m1 12 0 8 (nI (bg T e))) 12 0 6 (nI (rsN (so T e)))) 12 0 9 0) 12 0 8 = nI (bg T e) := by rw [gI_sL, gI_sI, if_neg (by omega), gI_sI, if_pos ⟨rfl, rfl, rfl⟩]
  have e9 : gL (sL (sI (sI m1 12 0 8 (nI (bg T e))) 12 0 6 (nI (rsN (so T e)))) 12 0 9 0) 12 0 9 = 0 := by rw [gL_sL, if_pos ⟨rfl, rfl, rfl⟩]
  have f1 : Fz a6 m1 (sL (sI (sI m1 12 0 8 (nI (bg T e))) 12 0 6 (nI (rsN (so T e)))) 12 0 9 0) := Fz_tr (a6_s (by omega)) (Fz_tr (a6_s (by omega)) a6_L)
  have t2 := TpM_fz r3 f1
  have fA := Fz_tr f0 (Fz_tr r4 f1)
  rw [e6]
  generalize sL (sI (sI m1 12 0 8 (nI (bg T e))) 12 0 6 (nI (rsN (so T e)))) 12 0 9 0 = m2 at e6 e7 e8 e9 t2 fA
  have kr : ∀ x, x < 2 ^ 31 → (nI (rsN (so T e)) = nI x ↔ rsN (so T e) = x) := fun x hx => nb_inj (by unfold rsN; split <;> (try split) <;> (try split) <;> omega) hx
  have hcase : so T e = 0 ∨ so T e = 1 ∨ so T e = 2 ∨ so T e = 3 ∨ so T e = 4 := by omega
  -- letters
  by_cases c2 : so T e = 2
  · have hr : rsN (so T e) = 1 := by rw [c2]; rfl
    rw [hr] at e6
    rw [hr, if_neg (by decide)]
    unfold dM_advance_105
    have fx : Fz a6 m2 (sI m2 12 0 10 (bAt T (bg T e))) := a6_s (by omega)
    have g6 : gI (sI m2 12 0 10 (bAt T (bg T e))) 12 0 6 = 1 := by rw [gI_sI, if_neg (by omega), e6]; rfl
    rw [g6, if_neg (by decide)]
    obtain ⟨m3, s1, s2, s3, s4, s5, s6, s7⟩ := runM_lp (f := n + 1) (b := bg T e) hT 121 (bg T e) (n + 1) (sI m2 12 0 10 (bAt T (bg T e))) (by omega) (by omega) (TpM_fz t2 fx) g6 (by rw [gI_sI, if_neg (by omega), e7]) (by rw [gI_sI, if_neg (by omega), e8]) (by rw [gL_sI, e9, Nat.sub_self]; rfl) (Nat.le_refl _) hbl
    have hen : rn (likeB T 2) (bg T e) = en T e := by unfold en; rw [if_pos (Or.inl c2), c2]
    rw [hen] at s4 s5
    refine ⟨m3, ?_, ⟨s3, by rw [s2, hr]; rfl, fun _ => s4, fun _ => s5, fun z => by omega, fun z => by omega, fun z => by omega⟩, s6, Fz_tr fA (Fz_tr fx s7)⟩
    rw [s1, dM_advance_207, s2, if_neg (by decide)]
  by_cases c3 : so T e = 3
  · have hr : rsN (so T e) = 2 := by rw [c3]; rfl
    rw [hr] at e6
    rw [hr, if_pos (by decide)]
    unfold dM_advance_105
    have fx : Fz a6 m2 (sI m2 12 0 10 0) := a6_s (by omega)
    have g6 : gI (sI m2 12 0 10 0) 12 0 6 = 2 := by rw [gI_sI, if_neg (by omega), e6]; rfl
    rw [g6, if_neg (by decide), dM_advance_126, g6, if_neg (by decide)]
    obtain ⟨m3, s1, s2, s3, s4, s5, s6, s7⟩ := numM_lp (f := n + 1) hT 121 (bg T e) (n + 1) 0 (sI m2 12 0 10 0) (by omega) (by omega) (TpM_fz t2 fx) g6 (by rw [gI_sI, if_neg (by omega), e8]) (by rw [gI_sI, if_pos ⟨rfl, rfl, rfl⟩]; rfl) (by omega) hbl
    have hen : rn (likeB T 3) (bg T e) = en T e := by unfold en; rw [if_pos (Or.inr c3), c3]
    rw [hen] at s4 s5
    exact ⟨m3, s1, ⟨s3.trans (by rw [gI_sI, if_neg (by omega), e7]), by rw [s2, hr]; rfl, fun _ => s4, fun z => by omega, fun _ => s5, fun z => by omega, fun z => by omega⟩, s6, Fz_tr fA (Fz_tr fx s7)⟩
  have fx : Fz a6 m2 (sI m2 12 0 10 (bAt T (bg T e))) := a6_s (by omega)
  by_cases c0 : so T e = 0
  · have hr : rsN (so T e) = 0 := by rw [c0]; rfl
    rw [hr] at e6
    rw [hr, if_neg (by decide)]
    unfold dM_advance_105
    have g6 : gI (sI m2 12 0 10 (bAt T (bg T e))) 12 0 6 = 0 := by rw [gI_sI, if_neg (by omega), e6]; rfl
    rw [g6, if_neg (by decide), dM_advance_126, g6, if_neg (by decide), dM_advance_207, g6, if_neg (by decide)]
    have hen : en T e = bg T e := by unfold en; rw [if_neg (by omega), if_neg (by omega)]
    exact ⟨_, rfl, ⟨by rw [gI_sI, if_neg (by omega), e7], by rw [g6, hr]; rfl, fun _ => by rw [gI_sI, if_neg (by omega), e8, hen], fun z => by omega, fun z => by omega, fun z => by omega, fun z => by omega⟩, TpM_fz t2 fx, Fz_tr fA fx⟩
  · have hr : rsN (so T e) = 3 := by unfold rsN; rw [if_neg c0, if_neg c2, if_neg c3]
    rw [hr] at e6
    rw [hr, if_neg (by decide)]
    unfold dM_advance_105
    have g6 : gI (sI m2 12 0 10 (bAt T (bg T e))) 12 0 6 = 3 := by rw [gI_sI, if_neg (by omega), e6]; rfl
    have g8 : gI (sI m2 12 0 10 (bAt T (bg T e))) 12 0 8 = nI (bg T e) := by rw [gI_sI, if_neg (by omega), e8]
    rw [g6, if_pos rfl, g8, add1]
    have fy : Fz a6 (sI m2 12 0 10 (bAt T (bg T e))) (sI (sI m2 12 0 10 (bAt T (bg T e))) 12 0 8 (nI (bg T e + 1))) := a6_s (by omega)
    have k6 : gI (sI (sI m2 12 0 10 (bAt T (bg T e))) 12 0 8 (nI (bg T e + 1))) 12 0 6 = 3 := by rw [gI_sI, if_neg (by omega), g6]
    rw [dM_advance_126, k6, if_neg (by decide), dM_advance_207, k6, if_neg (by decide)]
    have k10 : gI (sI (sI m2 12 0 10 (bAt T (bg T e))) 12 0 8 (nI (bg T e + 1))) 12 0 10 = bAt T (bg T e) := by rw [gI_sI, if_neg (by omega), gI_sI, if_pos ⟨rfl, rfl, rfl⟩]
    have hlt : bg T e < T.2 := sc_lt (T := T) (by show so T e ≠ 0; omega)
    have hbb := hT.2 _ hlt
    have hba : bAt T (bg T e) = nI (T.1 (bg T e)) := if_pos hlt
    have k59 : nI (T.1 (bg T e)) = 59 ↔ T.1 (bg T e) = 59 := nb_inj (b := 59) (by omega) (by omega)
    have s59 : so T e = 4 ↔ T.1 (bg T e) = 59 := by
      show sc T (bg T e) = 4 ↔ _
      unfold sc
      rw [if_pos hlt]
      by_cases q : T.1 (bg T e) = 59
      · rw [if_pos q]
        exact ⟨fun _ => q, fun _ => rfl⟩
      · rw [if_neg q]
        refine ⟨fun z => ?_, fun z => absurd z q⟩
        split at z
        · omega
        · split at z <;> omega
    refine ⟨_, rfl, ⟨by rw [gI_sI, if_neg (by omega), gI_sI, if_neg (by omega), e7], by rw [k6, hr]; rfl, fun z => ?_, fun z => by omega, fun z => by omega, fun z => ?_, fun z => ?_⟩, TpM_fz (TpM_fz t2 fx) fy, Fz_tr fA (Fz_tr fx fy)⟩
    · have c4 : so T e = 4 := by omega
      have hen : en T e = bg T e + 1 := by unfold en; rw [if_neg (by omega), if_pos c4]
      rw [gI_sI, if_pos ⟨rfl, rfl, rfl⟩, hen]
    · rw [k10, hba]
      exact k59.mpr (s59.mp z)
    · rw [k10, hba]
      intro q
      have := s59.mpr (k59.mp q)
      omega
