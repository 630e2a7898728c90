/-! THE TEXT: tokens of a tape; the class's next. -/
abbrev TT : Type := (Nat → Nat) × Nat
def runE (p : Nat → Bool) : Nat → Nat → Nat
  | 0, i => i
  | d + 1, i => if p i = true then runE p d (i + 1) else i
theorem runE_fu {p : Nat → Bool} {N : Nat} (hp : ∀ i, p i = true → i < N) : ∀ d i, N < i + d → runE p (d + 1) i = runE p d i
  | 0, i, h => by
    rw [runE, runE]
    have : ¬ p i = true := fun z => by
      have := hp i z
      omega
    rw [if_neg this]
  | d + 1, i, h => by
    rw [runE]
    show (if p i = true then runE p (d + 1) (i + 1) else i) = (if p i = true then runE p d (i + 1) else i)
    rw [runE_fu hp d (i + 1) (by omega)]
theorem runE_ge (p : Nat → Bool) : ∀ d i, i ≤ runE p d i
  | 0, i => Nat.le_refl _
  | d + 1, i => by
    rw [runE]
    split
    · have := runE_ge p d (i + 1)
      omega
    · exact Nat.le_refl _
theorem runE_le {p : Nat → Bool} {N : Nat} (hp : ∀ i, p i = true → i < N) : ∀ d i, i ≤ N → runE p d i ≤ N
  | 0, i, h => h
  | d + 1, i, h => by
    rw [runE]
    split
    · rename_i c
      exact runE_le hp d (i + 1) (hp i c)
    · exact h
theorem runE_in (p : Nat → Bool) : ∀ d i j, i ≤ j → j < runE p d i → p j = true
  | 0, i, j, h1, h2 => by
    rw [runE] at h2
    omega
  | d + 1, i, j, h1, h2 => by
    rw [runE] at h2
    by_cases c : p i = true
    · rw [if_pos c] at h2
      by_cases e : j = i
      · rw [e]; exact c
      · exact runE_in p d (i + 1) j (by omega) h2
    · rw [if_neg c] at h2
      omega
def rn (p : Nat → Bool) (i : Nat) : Nat := runE p 121 i
theorem rn_t {p : Nat → Bool} {N i : Nat} (hp : ∀ i, p i = true → i < N) (hN : N ≤ 120) (h : p i = true) : rn p i = rn p (i + 1) := by
  have := hp i h
  unfold rn
  rw [show (121 : Nat) = 120 + 1 from rfl, runE, if_pos h]
  exact (runE_fu hp 120 (i + 1) (by omega)).symm
theorem rn_f {p : Nat → Bool} {i : Nat} (h : p i = false) : rn p i = i := by
  unfold rn
  rw [show (121 : Nat) = 120 + 1 from rfl, runE, if_neg (by rw [h]; decide)]
/-- what a byte begins: 0 the end, 1 nothing, 2 letters, 3 a number, 4 the sign -/
def sc (T : TT) (i : Nat) : Nat := if i < T.2 then (if T.1 i = 59 then 4 else if 97 ≤ T.1 i ∧ T.1 i ≤ 122 then 2 else if 48 ≤ T.1 i ∧ T.1 i ≤ 57 then 3 else 1) else 0
def blB (T : TT) (i : Nat) : Bool := decide (i < T.2) && decide (T.1 i = 32)
def bg (T : TT) (e : Nat) : Nat := rn (blB T) e
def so (T : TT) (e : Nat) : Nat := sc T (bg T e)
def likeB (T : TT) (k i : Nat) : Bool := decide (sc T i = k) && decide (i < T.2)
def en (T : TT) (e : Nat) : Nat := if so T e = 2 ∨ so T e = 3 then rn (likeB T (so T e)) (bg T e) else if so T e = 4 then bg T e + 1 else bg T e
def okT (T : TT) : Prop := T.2 ≤ 120 ∧ ∀ j, j < T.2 → T.1 j ≤ 255
theorem blB_p (T : TT) : ∀ i, blB T i = true → i < T.2 := fun i h => by
  unfold blB at h
  rw [Bool.and_eq_true] at h
  exact of_decide_eq_true h.1
theorem likeB_p (T : TT) (k : Nat) : ∀ i, likeB T k i = true → i < T.2 := fun i h => by
  unfold likeB at h
  rw [Bool.and_eq_true] at h
  exact of_decide_eq_true h.2
theorem sc_lt {T : TT} {i : Nat} (h : sc T i ≠ 0) : i < T.2 := by
  unfold sc at h
  by_cases c : i < T.2
  · exact c
  · rw [if_neg c] at h
    exact absurd rfl h
theorem sc_ge {T : TT} {i : Nat} (h : ¬ i < T.2) : sc T i = 0 := if_neg h
theorem sc_le (T : TT) (i : Nat) : sc T i ≤ 4 := by
  unfold sc
  split
  · split
    · omega
    · split
      · omega
      · split <;> omega
  · omega
theorem bg_ge (T : TT) (e : Nat) : e ≤ bg T e := runE_ge _ _ _
theorem bg_le {T : TT} {e : Nat} (h : e ≤ T.2) : bg T e ≤ T.2 := runE_le (blB_p T) _ _ h
theorem en_ge (T : TT) (e : Nat) : bg T e ≤ en T e := by
  unfold en
  split
  · exact runE_ge _ _ _
  · split <;> omega
theorem en_le {T : TT} {e : Nat} (h : e ≤ T.2) : en T e ≤ T.2 := by
  have hb := bg_le h
  unfold en
  split
  · exact runE_le (likeB_p T _) _ _ hb
  · split
    · rename_i c
      have : so T e ≠ 0 := by omega
      have := sc_lt this
      omega
    · exact hb
/-- a token that is letters, a number or the sign has a byte -/
theorem en_gt {T : TT} {e : Nat} (hT : okT T) (h : so T e = 2 ∨ so T e = 3 ∨ so T e = 4) : bg T e + 1 ≤ en T e := by
  have hlt : bg T e < T.2 := sc_lt (T := T) (by show so T e ≠ 0; omega)
  unfold en
  split
  · have c : likeB T (so T e) (bg T e) = true := by
      unfold likeB
      rw [decide_eq_true hlt, decide_eq_true (show sc T (bg T e) = so T e from rfl)]
      rfl
    rw [rn_t (likeB_p T _) hT.1 c]
    exact runE_ge _ _ _
  · rw [if_pos (by omega)]
    omega
theorem en_like {T : TT} {e j : Nat} (h : so T e = 2 ∨ so T e = 3) (h1 : bg T e ≤ j) (h2 : j < en T e) : sc T j = so T e ∧ j < T.2 := by
  unfold en at h2
  rw [if_pos h] at h2
  have := runE_in _ _ _ j h1 h2
  unfold likeB at this
  rw [Bool.and_eq_true] at this
  exact ⟨of_decide_eq_true this.1, of_decide_eq_true this.2⟩
/-- the class's tape, and the reference's -/
def TpC (mem : Mem) (T : TT) : Prop := gI mem 5 0 1 = nI T.2 ∧ ∀ j, j < T.2 → gI mem 6 0 j = nI (T.1 j)
def TpM (mem : Mem) (T : TT) : Prop := gI mem 12 0 5 = nI T.2 ∧ ∀ j, j < T.2 → gI mem 16 0 j = nI (T.1 j)
def bAt (T : TT) (i : Nat) : Int32 := if i < T.2 then nI (T.1 i) else -1
theorem byteC_ok {f i : Nat} {mem : Mem} {T : TT} (hT : okT T) (h : TpC mem T) (hi : i < 2 ^ 31) : dT_byteAt f (nI i) mem = some (bAt T i, mem) := by
  have h1 := hT.1
  unfold dT_byteAt bAt
  rw [if_neg (nI_pos hi), h.1]
  by_cases c : i < T.2
  · rw [if_pos ((nb_lt hi (by omega)).mpr c), if_pos c, ck_in _ (by omega) hi, nI_clamp hi, h.2 i c]
  · rw [if_neg (fun z => c ((nb_lt hi (by omega)).mp z)), if_neg c]
theorem byteM_ok {f i : Nat} {mem : Mem} {T : TT} (hT : okT T) (h : TpM mem T) (hi : i < 2 ^ 31) : dM_byteAt f (nI i) mem = some (bAt T i, mem) := by
  have h1 := hT.1
  unfold dM_byteAt bAt
  rw [h.1]
  by_cases c : i < T.2
  · rw [if_pos ((nb_lt hi (by omega)).mpr c), if_pos c, ck_in _ (by omega) hi, nI_clamp hi, h.2 i c]
  · rw [if_neg (fun z => c ((nb_lt hi (by omega)).mp z)), if_neg c]
theorem sortC_ok {f i : Nat} {mem : Mem} {T : TT} (hT : okT T) : dT_sortOf f (bAt T i) mem = some (nI (sc T i), mem) := by
  unfold dT_sortOf bAt sc
  by_cases c : i < T.2
  · have hb := hT.2 i c
    simp only [c, if_true]
    have k59 : nI (T.1 i) = 59 ↔ T.1 i = 59 := nb_inj (b := 59) (by omega) (by omega)
    have k97 : nI (T.1 i) < 97 ↔ T.1 i < 97 := nb_lt (b := 97) (by omega) (by omega)
    have k122 : (122 : Int32) < nI (T.1 i) ↔ 122 < T.1 i := nb_lt (a := 122) (by omega) (by omega)
    have k48 : nI (T.1 i) < 48 ↔ T.1 i < 48 := nb_lt (b := 48) (by omega) (by omega)
    have k57 : (57 : Int32) < nI (T.1 i) ↔ 57 < T.1 i := nb_lt (a := 57) (by omega) (by omega)
    unfold dT_sortOf_28
    simp only [k59, k97, k122, k48, k57, if_neg (nI_pos (n := T.1 i) (by omega))]
    by_cases c1 : T.1 i = 59
    · simp [c1]
      rfl
    by_cases c2 : 97 ≤ T.1 i ∧ T.1 i ≤ 122
    · have a1 : ¬ T.1 i < 97 := by omega
      have a2 : ¬ 122 < T.1 i := by omega
      simp [c1, c2, a1, a2]
      rfl
    · by_cases c3 : 48 ≤ T.1 i ∧ T.1 i ≤ 57
      · have a1 : T.1 i < 97 := by omega
        have a2 : ¬ T.1 i < 48 := by omega
        have a3 : ¬ 57 < T.1 i := by omega
        simp only [c1, c2, c3, a1, a2, a3, if_true, if_false]
        rfl
      · simp only [c1, c2, c3, if_false]
        have a4 : (if T.1 i < 48 then some ((1 : Int32), mem) else if 57 < T.1 i then some ((1 : Int32), mem) else some ((3 : Int32), mem)) = some ((1 : Int32), mem) := by
          by_cases q : T.1 i < 48
          · rw [if_pos q]
          · rw [if_neg q, if_pos (by omega)]
        rw [a4]
        by_cases q : T.1 i < 97
        · rw [if_pos q]
          rfl
        · rw [if_neg q, if_pos (by omega)]
          rfl
  · simp only [c, if_false]
    rw [if_pos (by decide)]
    rfl
def q5 (t i j : Nat) : Bool := decide (t = 5 ∧ i = 0 ∧ 2 ≤ j)
theorem TpC_fz {mem m : Mem} {T : TT} (h : TpC mem T) (fx : Fz q5 mem m) : TpC m T := ⟨(fx 5 0 1 rfl).1.trans h.1, fun j hj => (fx 6 0 j rfl).1.trans (h.2 j hj)⟩
theorem q5_s {j : Nat} {m : Mem} {v : Int32} (h : 2 ≤ j) : Fz q5 m (sI m 5 0 j v) := Fz_sI (decide_eq_true ⟨rfl, rfl, h⟩)
theorem blC_lp {f : Nat} {T : TT} (hT : okT T) : ∀ (d i n : Nat) (mem : Mem), T.2 < i + d → d < n → TpC mem T → gI mem 5 0 2 = nI i → i ≤ T.2 →
    ∃ m', dT_next_8 f n mem = dT_next_45 f m' ∧ gI m' 5 0 2 = nI (rn (blB T) i) ∧ TpC m' T ∧ Fz q5 mem m'
  | 0, i, n, mem, e, hn, h, h2, hi => absurd e (by omega)
  | d + 1, i, n, mem, e, hn, h, h2, hi => by
    obtain ⟨n, rfl⟩ : ∃ k, n = k + 1 := ⟨n - 1, by omega⟩
    have hN := hT.1
    rw [dT_next_8, h2, h.1, byteC_ok hT h (by omega), bd_ok]
    by_cases c : i < T.2
    · have hb := hT.2 i c
      have k32 : nI (T.1 i) = 32 ↔ T.1 i = 32 := nb_inj (b := 32) (by omega) (by omega)
      rw [if_pos ((nb_lt (by omega) (by omega)).mpr c)]
      unfold bAt
      rw [if_pos c, h2, add1]
      by_cases c2 : T.1 i = 32
      · have hp : blB T i = true := by
          unfold blB
          rw [decide_eq_true c, decide_eq_true c2]
          rfl
        rw [if_pos (k32.mpr c2), rn_t (blB_p T) hN hp]
        have fx : Fz q5 mem (sI mem 5 0 2 (nI (i + 1))) := q5_s (by omega)
        obtain ⟨m', r1, r2, r3, r4⟩ := blC_lp (f := f) hT d (i + 1) n _ (by omega) (by omega) (TpC_fz h fx) (by rw [gI_sI, if_pos ⟨rfl, rfl, rfl⟩]) (by omega)
        exact ⟨m', r1, r2, r3, Fz_tr fx r4⟩
      · have hp : blB T i = false := by
          unfold blB
          rw [decide_eq_false c2, Bool.and_false]
        rw [if_neg (fun z => c2 (k32.mp z)), rn_f hp]
        exact ⟨mem, rfl, h2, h, Fz_rfl _ _⟩
    · have hp : blB T i = false := by
        unfold blB
        rw [decide_eq_false c]
        rfl
      rw [if_neg (fun z => c ((nb_lt (by omega) (by omega)).mp z)), rn_f hp]
      exact ⟨mem, rfl, h2, h, Fz_rfl _ _⟩
theorem runC_lp {f k : Nat} {T : TT} (hT : okT T) (hk : k = 2 ∨ k = 3) : ∀ (d i n : Nat) (mem : Mem), T.2 < i + d → d < n → TpC mem T → gI mem 5 0 3 = nI i → gI mem 5 0 4 = nI k → i ≤ T.2 →
    ∃ m', dT_next_85 f n mem = dT_next_146 f m' ∧ gI m' 5 0 3 = nI (rn (likeB T k) i) ∧ gI m' 5 0 2 = gI mem 5 0 2 ∧ gI m' 5 0 4 = nI k ∧ TpC m' T ∧ Fz q5 mem m'
  | 0, i, n, mem, e, hn, h, h3, h4, hi => absurd e (by omega)
  | d + 1, i, n, mem, e, hn, h, h3, h4, hi => by
    obtain ⟨n, rfl⟩ : ∃ k, n = k + 1 := ⟨n - 1, by omega⟩
    have hN := hT.1
    have hs := sc_le T i
    rw [dT_next_85, h3, h.1, byteC_ok hT h (by omega), bd_ok, sortC_ok hT, bd_ok, h4, h3, add1]
    have kk : nI (sc T i) = nI k ↔ sc T i = k := nb_inj (by omega) (by omega)
    by_cases c : i < T.2
    · rw [if_pos ((nb_lt (by omega) (by omega)).mpr c)]
      by_cases c2 : sc T i = k
      · have hp : likeB T k i = true := by
          unfold likeB
          rw [decide_eq_true c, decide_eq_true c2]
          rfl
        rw [if_pos (kk.mpr c2), rn_t (likeB_p T k) hN hp]
        have fx : Fz q5 mem (sI mem 5 0 3 (nI (i + 1))) := q5_s (by omega)
        obtain ⟨m', r1, r2, r3, r4, r5, r6⟩ := runC_lp (f := f) hT hk d (i + 1) n _ (by omega) (by omega) (TpC_fz h fx) (by rw [gI_sI, if_pos ⟨rfl, rfl, rfl⟩]) (by rw [gI_sI, if_neg (by omega), h4]) (by omega)
        exact ⟨m', r1, r2, r3.trans (by rw [gI_sI, if_neg (by omega)]), r4, r5, Fz_tr fx r6⟩
      · have hp : likeB T k i = false := by
          unfold likeB
          rw [decide_eq_false c2]
          rfl
        rw [if_neg (fun z => c2 (kk.mp z)), rn_f hp]
        exact ⟨mem, rfl, h3, rfl, h4, h, Fz_rfl _ _⟩
    · have hp : likeB T k i = false := by
        unfold likeB
        rw [decide_eq_false c, Bool.and_false]
      rw [if_neg (fun z => c ((nb_lt (by omega) (by omega)).mp z)), rn_f hp]
      exact ⟨mem, rfl, h3, rfl, h4, h, Fz_rfl _ _⟩
/-- the number of digits from i, as the reference counts -/
def nuF (T : TT) : Nat → Nat → Nat → Nat
  | 0, _, v => v
  | d + 1, i, v => nuF T d (i + 1) (if 999 < v then 10000 else 10 * v + (T.1 i - 48))
theorem nuF_le {T : TT} (hT : okT T) : ∀ d i v, v ≤ 20000 → (∀ j, i ≤ j → j < i + d → j < T.2) → nuF T d i v ≤ 20000
  | 0, _, v, h, _ => h
  | d + 1, i, v, h, hj => by
    rw [nuF]
    have := hT.2 i (hj i (Nat.le_refl _) (by omega))
    refine nuF_le hT d (i + 1) _ ?_ (fun j h1 h2 => hj j (by omega) (by omega))
    split <;> omega
def nu (T : TT) (e : Nat) : Nat := nuF T (en T e - bg T e) (bg T e) 0
theorem numC_lp {f : Nat} {mem : Mem} {T : TT} {E : Nat} (hT : okT T) (h : TpC mem T) (h3 : gI mem 5 0 3 = nI E) : ∀ (d i n v : Nat), i + d = E → d < n → v ≤ 20000 → (∀ j, i ≤ j → j < E → sc T j = 3 ∧ j < T.2) →
    dT_numberAtHand_7 f n (nI (min 1000 v)) (nI i) mem = some (nI (min 1000 (nuF T d i v)), mem)
  | 0, i, n, v, e, hn, hv, hj => by
    obtain ⟨n, rfl⟩ : ∃ k, n = k + 1 := ⟨n - 1, by omega⟩
    have e' : i = E := by omega
    subst e'
    have hN := hT.1
    rw [dT_numberAtHand_7, h3]
    by_cases c : nI i < nI i
    · exact absurd c (Int32.lt_irrefl)
    · rw [if_neg c, nuF]
  | d + 1, i, n, v, e, hn, hv, hj => by
    obtain ⟨n, rfl⟩ : ∃ k, n = k + 1 := ⟨n - 1, by omega⟩
    have hN := hT.1
    obtain ⟨j1, j2⟩ := hj i (Nat.le_refl _) (by omega)
    have hE : E ≤ T.2 := by
      have := (hj (E - 1) (by omega) (by omega)).2
      omega
    have hb : 48 ≤ T.1 i ∧ T.1 i ≤ 57 := by
      unfold sc at j1
      rw [if_pos j2] at j1
      by_cases c1 : T.1 i = 59
      · rw [if_pos c1] at j1
        cases j1
      · rw [if_neg c1] at j1
        by_cases c2 : 97 ≤ T.1 i ∧ T.1 i ≤ 122
        · rw [if_pos c2] at j1
          cases j1
        · rw [if_neg c2] at j1
          by_cases c3 : 48 ≤ T.1 i ∧ T.1 i ≤ 57
          · exact c3
          · rw [if_neg c3] at j1
            cases j1
    rw [dT_numberAtHand_7, h3, if_pos (lt_n (by omega) (by omega)), byteC_ok hT h (by omega), bd_ok, add1]
    unfold bAt
    rw [if_pos j2]
    have hmul : nI (min 1000 v) * 10 = nI (min 1000 v * 10) := nb_mul _ 10
    have hsub : nI (min 1000 v * 10 + T.1 i) - 48 = nI (min 1000 v * 10 + T.1 i - 48) := nb_sub (b := 48) (by omega)
    rw [hmul, nb_add, hsub]
    have hmin : (if nI (min 1000 v * 10 + T.1 i - 48) < (1000 : Int32) then nI (min 1000 v * 10 + T.1 i - 48) else (1000 : Int32)) = nI (min 1000 (if 999 < v then 10000 else 10 * v + (T.1 i - 48))) := by
      have k : nI (min 1000 v * 10 + T.1 i - 48) < (1000 : Int32) ↔ min 1000 v * 10 + T.1 i - 48 < 1000 := nb_lt (b := 1000) (by omega) (by omega)
      by_cases c : min 1000 v * 10 + T.1 i - 48 < 1000
      · rw [if_pos (k.mpr c), if_neg (by omega)]
        congr 1
        omega
      · rw [if_neg (fun z => c (k.mp z))]
        show nI 1000 = _
        congr 1
        split <;> omega
    rw [hmin, nuF]
    exact numC_lp hT h h3 d (i + 1) n _ (by omega) (by omega) (by split <;> omega) (fun j a b => hj j (by omega) b)
/-- the token at hand -/
def TC (mem : Mem) (T : TT) (e : Nat) : Prop := gI mem 5 0 2 = nI (bg T e) ∧ gI mem 5 0 3 = nI (en T e) ∧ gI mem 5 0 4 = nI (so T e) ∧ (so T e = 3 → gI mem 5 0 5 = nI (min 1000 (nu T e)))
theorem fin146 {f e : Nat} {mem : Mem} {T : TT} (hf : 2000 ≤ f) (hT : okT T) (he : e ≤ T.2) (h : TpC mem T) (h2 : gI mem 5 0 2 = nI (bg T e)) (h3 : gI mem 5 0 3 = nI (en T e)) (h4 : gI mem 5 0 4 = nI (so T e)) :
    ∃ m', dT_next_146 f mem = some ((), m') ∧ TC m' T e ∧ TpC m' T ∧ Fz q5 mem m' := by
  have hN := hT.1
  have hs := sc_le T (bg T e)
  have hge := en_ge T e
  have hle := en_le he
  have k3 : nI (so T e) = 3 ↔ so T e = 3 := nb_inj (b := 3) (by show sc T (bg T e) < _; omega) (by omega)
  have fx : ∀ v, Fz q5 mem (sI mem 5 0 5 v) := fun v => q5_s (by omega)
  have tc : ∀ v, (so T e = 3 → v = nI (min 1000 (nu T e))) → TC (sI mem 5 0 5 v) T e := fun v hv => ⟨by rw [gI_sI, if_neg (by omega), h2], by rw [gI_sI, if_neg (by omega), h3], by rw [gI_sI, if_neg (by omega), h4], fun c => by rw [gI_sI, if_pos ⟨rfl, rfl, rfl⟩, hv c]⟩
  unfold dT_next_146
  rw [h4]
  by_cases c : so T e = 3
  · have hnum := numC_lp (f := f) (E := en T e) hT h h3 (en T e - bg T e) (bg T e) f 0 (by omega) (by omega) (by omega) (fun j a b => by
      have := en_like (T := T) (e := e) (Or.inr c) a b
      rw [c] at this
      exact this)
    unfold dT_numberAtHand
    rw [if_pos (k3.mpr c), h2, show dT_numberAtHand_7 f f 0 (nI (bg T e)) mem = _ from hnum, bd_ok]
    exact ⟨_, rfl, tc _ (fun _ => rfl), TpC_fz h (fx _), fx _⟩
  · rw [if_neg (fun z => c (k3.mp z))]
    exact ⟨_, rfl, tc _ (fun z => absurd z c), TpC_fz h (fx _), fx _⟩
theorem next_ok {f e : Nat} {mem : Mem} {T : TT} (hf : 2000 ≤ f) (hT : okT T) (he : e ≤ T.2) (h : TpC mem T) (h3 : gI mem 5 0 3 = nI e) :
    ∃ m', dT_next f mem = some ((), m') ∧ TC m' T e ∧ TpC m' T ∧ Fz q5 mem m' := by
  have hN := hT.1
  have hbl := bg_le (T := T) he
  have hs := sc_le T (bg T e)
  have f0 : Fz q5 mem (sI mem 5 0 2 (nI e)) := q5_s (by omega)
  unfold dT_next
  rw [h3]
  obtain ⟨m1, r1, r2, r3, r4⟩ := blC_lp (f := f) hT 121 e f (sI mem 5 0 2 (nI e)) (by omega) (by omega) (TpC_fz h f0) (by rw [gI_sI, if_pos ⟨rfl, rfl, rfl⟩]) he
  rw [r1]
  have r2' : gI m1 5 0 2 = nI (bg T e) := r2
  have f1 : Fz q5 m1 (sI m1 5 0 3 (nI (bg T e))) := q5_s (by omega)
  have g2 : gI (sI m1 5 0 3 (nI (bg T e))) 5 0 2 = nI (bg T e) := by rw [gI_sI, if_neg (by omega), r2']
  unfold dT_next_45
  rw [r2', g2, byteC_ok hT (TpC_fz r3 f1) (by omega), bd_ok, sortC_ok hT, bd_ok]
  have f2 : Fz q5 (sI m1 5 0 3 (nI (bg T e))) (sI (sI m1 5 0 3 (nI (bg T e))) 5 0 4 (nI (so T e))) := q5_s (by omega)
  have t2 := TpC_fz (TpC_fz r3 f1) f2
  have e4 : gI (sI (sI m1 5 0 3 (nI (bg T e))) 5 0 4 (nI (so T e))) 5 0 4 = nI (so T e) := by rw [gI_sI, if_pos ⟨rfl, rfl, rfl⟩]
  have e3 : gI (sI (sI m1 5 0 3 (nI (bg T e))) 5 0 4 (nI (so T e))) 5 0 3 = nI (bg T e) := by rw [gI_sI, if_neg (by omega), gI_sI, if_pos ⟨rfl, rfl, rfl⟩]
  have e2 : gI (sI (sI m1 5 0 3 (nI (bg T e))) 5 0 4 (nI (so T e))) 5 0 2 = nI (bg T e) := by rw [gI_sI, if_neg (by omega), g2]
  have f012 := Fz_tr f0 (Fz_tr r4 (Fz_tr f1 f2))
  show ∃ m', (if gI (sI (sI m1 5 0 3 (nI (bg T e))) 5 0 4 (nI (so T e))) 5 0 4 = 2 then dT_next_85 f f (sI (sI m1 5 0 3 (nI (bg T e))) 5 0 4 (nI (so T e))) else if gI (sI (sI m1 5 0 3 (nI (bg T e))) 5 0 4 (nI (so T e))) 5 0 4 = 3 then dT_next_85 f f (sI (sI m1 5 0 3 (nI (bg T e))) 5 0 4 (nI (so T e))) else if gI (sI (sI m1 5 0 3 (nI (bg T e))) 5 0 4 (nI (so T e))) 5 0 4 = 4 then dT_next_146 f (sI (sI (sI m1 5 0 3 (nI (bg T e))) 5 0 4 (nI (so T e))) 5 0 3 (gI (sI (sI m1 5 0 3 (nI (bg T e))) 5 0 4 (nI (so T e))) 5 0 3 + 1)) else dT_next_146 f (sI (sI m1 5 0 3 (nI (bg T e))) 5 0 4 (nI (so T e)))) = _ ∧ _
  rw [e4, e3, add1]
  generalize sI (sI m1 5 0 3 (nI (bg T e))) 5 0 4 (nI (so T e)) = m2 at t2 e4 e3 e2 f012
  have hsl : so T e ≤ 4 := hs
  have k2 : nI (so T e) = 2 ↔ so T e = 2 := nb_inj (b := 2) (by omega) (by omega)
  have k3 : nI (so T e) = 3 ↔ so T e = 3 := nb_inj (b := 3) (by omega) (by omega)
  have k4 : nI (so T e) = 4 ↔ so T e = 4 := nb_inj (b := 4) (by omega) (by omega)
  have runs : so T e = 2 ∨ so T e = 3 → ∃ m', dT_next_85 f f m2 = some ((), m') ∧ TC m' T e ∧ TpC m' T ∧ Fz q5 mem m' := by
    intro c
    obtain ⟨m3, s1, s2, s3, s4, s5, s6⟩ := runC_lp (f := f) hT c 121 (bg T e) f m2 (by omega) (by omega) t2 e3 e4 hbl
    have hen : rn (likeB T (so T e)) (bg T e) = en T e := by unfold en; rw [if_pos c]
    rw [hen] at s2
    obtain ⟨m', u1, u2, u3, u4⟩ := fin146 hf hT he s5 (s3.trans e2) s2 s4
    exact ⟨m', s1.trans u1, u2, u3, Fz_tr f012 (Fz_tr s6 u4)⟩
  by_cases c2 : so T e = 2
  · rw [if_pos (k2.mpr c2)]
    exact runs (Or.inl c2)
  rw [if_neg (fun z => c2 (k2.mp z))]
  by_cases c3 : so T e = 3
  · rw [if_pos (k3.mpr c3)]
    exact runs (Or.inr c3)
  rw [if_neg (fun z => c3 (k3.mp z))]
  have hen0 : en T e = if so T e = 4 then bg T e + 1 else bg T e := by unfold en; rw [if_neg (by omega)]
  by_cases c4 : so T e = 4
  · rw [if_pos (k4.mpr c4)]
    rw [if_pos c4] at hen0
    have f3 : Fz q5 m2 (sI m2 5 0 3 (nI (bg T e + 1))) := q5_s (by omega)
    obtain ⟨m', u1, u2, u3, u4⟩ := fin146 hf hT he (TpC_fz t2 f3) (by rw [gI_sI, if_neg (by omega), e2]) (by rw [gI_sI, if_pos ⟨rfl, rfl, rfl⟩, hen0]) (by rw [gI_sI, if_neg (by omega), e4])
    exact ⟨m', u1, u2, u3, Fz_tr f012 (Fz_tr f3 u4)⟩
  · rw [if_neg (fun z => c4 (k4.mp z))]
    rw [if_neg c4] at hen0
    obtain ⟨m', u1, u2, u3, u4⟩ := fin146 hf hT he t2 e2 (by rw [e3, hen0]) e4
    exact ⟨m', u1, u2, u3, Fz_tr f012 u4⟩
