/-! The law's sixty minutes: sum, less, covered, first. -/
theorem itM_p (S : PS) : ∀ n, ct (itM S n) = ct S ∧ ro (itM S n) = ro S ∧ ∀ w k, k ≠ 5 → wa (itM S n) w k = wa S w k
  | 0 => ⟨rfl, rfl, fun _ _ _ => rfl⟩
  | n + 1 => by
    obtain ⟨h1, h2, h3⟩ := itM_p S n
    obtain ⟨g1, g2, g3, g4⟩ := minS_f (itM S n)
    rw [itM]
    exact ⟨g1.trans h1, g2.trans h2, fun w k hk => (g4 w k hk).trans (h3 w k hk)⟩
theorem nearS_itM (S : PS) (n room : Nat) : nearS (itM S n) room = nearS S room :=
  nearS_congr (S := S) (T := itM S n) (itM_p S n).1 (fun w k _ h5 => (itM_p S n).2.2 w k h5) room
theorem dutyS_congr {S T : PS} (hc : ct T = ct S) (hr : ro T = ro S) (hw : ∀ w k, k ≠ 4 → k ≠ 5 → wa T w k = wa S w k) (b t : Nat) : dutyS T b t = dutyS S b t := by
  unfold dutyS
  rw [hc]
  refine setB_congr fun w _ => ?_
  unfold onF lisF
  rw [hr, hw w 0 (by decide) (by decide), hw w 3 (by decide) (by decide)]
theorem muteS_congr {S T : PS} (hc : ct T = ct S) (hr : ro T = ro S) (hw : ∀ w k, k ≠ 4 → k ≠ 5 → wa T w k = wa S w k) (near b t : Nat) : muteS T near b t = muteS S near b t := by
  unfold muteS
  rw [dutyS_congr hc hr hw]
theorem muteS_itM (S : PS) (n near b t : Nat) : muteS (itM S n) near b t = muteS S near b t :=
  muteS_congr (itM_p S n).1 (itM_p S n).2.1 (fun w k _ h5 => (itM_p S n).2.2 w k h5) near b t
/-- isUnheard, k minutes on -/
theorem un_it {f k r walls : Nat} {mem : Mem} {T : PS} (hf : 2000 ≤ f) (h : WS mem (itM T k) T) (hT : IV T) (hm : mi T ≤ 39) (hk : k ≤ 100) (hr : r ≤ 9) (hw : walls < 2 ^ 31) :
    dL_isUnheard f (nI r) (nI walls) mem = some (nI (b2 (muteS T (nearS T r &&& walls) (ro T 0) (mi T + k))), mem) := by
  have hi := IV_itM hT k (by omega)
  rw [unL_ok hf h.1 hi hr hw, nearS_itM, muteS_itM, (itM_p T k).2.1, itM_f]
/-- a minute more -/
theorem pass_it {f k : Nat} {mem : Mem} {T : PS} (hf : 2000 ≤ f) (h : WS mem (itM T k) T) (hT : IV T) (hm : mi T ≤ 39) (hk : k ≤ 100) : ∃ m, dW_pass f 1 mem = some (nI (mi T + k + 1), m) ∧ WS m (itM T (k + 1)) T := by
  have hi := IV_itM hT k (by omega)
  have e := itM_f T k
  obtain ⟨m, k1, k2⟩ := KC_WS h hT (K_pass (f := f) (N := 1) hf h.1 hi (by omega) (by omega) (by omega))
  rw [e] at k1
  exact ⟨m, k1, k2⟩
theorem mod_fn (v : Int32) {m : Nat} (h1 : 1 ≤ m) (h2 : m ≤ 65536) : ∃ k, k < m ∧ ∀ (f : Nat) (mem : Mem), dL_mod f v (nI m) mem = some (nI k, mem) := by
  obtain ⟨k, hk, e⟩ := mod_ok (f := 0) (mem := (fun _ _ _ => 0, fun _ _ _ => 0)) v h1 h2
  have hz : ¬ nI m = 0 := by rw [nb_zero (by omega)]; omega
  refine ⟨k, hk, fun f mem => ?_⟩
  unfold dL_mod at e ⊢
  rw [if_neg hz] at e ⊢
  by_cases c : v % nI m < 0
  · rw [if_pos c] at e ⊢
    exact congrArg (fun z => some (z, mem)) (Prod.mk.inj (Option.some.inj e)).1
  · rw [if_neg c] at e ⊢
    exact congrArg (fun z => some (z, mem)) (Prod.mk.inj (Option.some.inj e)).1
/-- a count that is made only where there is something to count -/
def cO (p : Option (Nat → Bool)) (k : Nat) : Nat := match p with
  | none => 0
  | some q => cntB q k
theorem cO_le (p : Option (Nat → Bool)) (k : Nat) : cO p k ≤ k := by
  cases p with
  | none => exact Nat.zero_le _
  | some q => exact cntB_le q k
def cO1 (p : Option (Nat → Bool)) (k : Nat) : Nat := match p with
  | none => 0
  | some q => if q k = true then 1 else 0
theorem cO_s (p : Option (Nat → Bool)) (k : Nat) : cO p (k + 1) = cO p k + cO1 p k := by
  cases p with
  | none => rfl
  | some q => rfl
/-- who is silent in the minutes from now on -/
def mtF (T : PS) (near k : Nat) : Bool := muteS T near (ro T 0) (mi T + k)
theorem oN_neg {o : Option Nat} (h : ∀ k, o = some k → k < 2 ^ 31) : oN o < 0 ↔ o = none := by
  cases o with
  | none => exact ⟨fun _ => rfl, fun _ => (by decide : NO < 0)⟩
  | some k => exact ⟨fun z => absurd z (nI_pos (h k rfl)), fun z => by cases z⟩
theorem oN_no {o : Option Nat} (h : ∀ k, o = some k → k < 2 ^ 31) : oN o = NO ↔ o = none := by
  cases o with
  | none => exact ⟨fun _ => rfl, fun _ => rfl⟩
  | some k =>
    refine ⟨fun z => ?_, fun z => by cases z⟩
    have z' : nI k = NO := z
    have := nI_pos (h k rfl)
    rw [z'] at this
    exact absurd (by decide : NO < 0) this
abbrev K19 : Type := Int32 → Int32 → Int32 → Int32 → Int32 → Int32 → Int32 → Int32 → Int32 → Int32 → Int32 → Int32 → Int32 → Int32 → Int32 → Int32 → Int32 → Int32 → Int32 → Mem → Option (Int32 × Mem)
abbrev K3 : Type := Int32 → Int32 → Int32 → Mem → Option (Int32 × Mem)
section HOUR
variable {LL f r n0 N : Nat} {xs : Nat → Int32} {T : PS} {wo co : Option Nat}
theorem h408 {k c : Nat} {mem : Mem} (hf : 2000 ≤ f) (h : WS mem (itM T k) T) (hT : IV T) (hm : mi T ≤ 39) (hk : k ≤ 100) (hr : r ≤ 9) (hco : ∀ b, co = some b → b < 1024 ∧ nearS T r &&& b = b) (k44 : K3) (k312 : K19) (x3 x4 x5 x6 x8 x9 x12 x13 x14 x16 x17 x18 x19 x21 x22 x23 : Int32) :
    dL_law_408 LL xs f k44 k312 x3 x4 x5 x6 (nI r) x8 x9 x12 x13 x14 (oN co) x16 x17 x18 x19 (nI c) x21 x22 x23 mem =
    dL_law_427 LL xs f k44 k312 x3 x4 x5 x6 (nI r) x8 x9 x12 x13 x14 (oN co) x16 x17 x18 x19 (nI (c + cO1 (co.map (fun b => mtF T b)) k)) x21 x22 x23 mem := by
  unfold dL_law_408
  cases co with
  | none => rw [if_pos (show oN none < 0 by decide)]; rfl
  | some b =>
    obtain ⟨hb, hs⟩ := hco b rfl
    have U := un_it (walls := b) hf h hT hm hk hr (by omega)
    rw [hs] at U
    rw [if_neg (show ¬ oN (some b) < 0 from nI_pos (by omega)), show dL_isUnheard f (nI r) (oN (some b)) mem = _ from U, bd_ok, if_b2, add1]
    show _ = dL_law_427 LL xs f k44 k312 x3 x4 x5 x6 (nI r) x8 x9 x12 x13 x14 (oN (some b)) x16 x17 x18 x19 (nI (c + if mtF T b k = true then 1 else 0)) x21 x22 x23 mem
    unfold mtF
    by_cases c1 : muteS T b (ro T 0) (mi T + k) = true
    · rw [if_pos c1, if_pos c1]
    · rw [if_neg c1, if_neg c1]
      rfl
theorem h381 {k c : Nat} {mem : Mem} (hf : 2000 ≤ f) (h : WS mem (itM T k) T) (hT : IV T) (hm : mi T ≤ 39) (hk : k ≤ 100) (hr : r ≤ 9) (hwo : ∀ w, wo = some w → w < 10) (k44 : K3) (k312 : K19) (x3 x4 x5 x6 x8 x9 x12 x13 x15 x16 x17 x18 x20 x21 x22 x23 : Int32) :
    dL_law_381 LL xs f k44 k312 x3 x4 x5 x6 (nI r) x8 x9 x12 x13 (oN wo) x15 x16 x17 x18 (nI c) x20 x21 x22 x23 mem =
    dL_law_408 LL xs f k44 k312 x3 x4 x5 x6 (nI r) x8 x9 x12 x13 (oN wo) x15 x16 x17 x18 (nI (c + cO1 (wo.map (fun w => mtF T (nearS T r &&& (1023 ^^^ 2 ^ w)))) k)) x20 x21 x22 x23 mem := by
  unfold dL_law_381
  cases wo with
  | none => rw [if_pos (show oN none < 0 by decide)]; rfl
  | some w =>
    have hw := hwo w rfl
    have e : (1023 : Int32) &&& (((1 : Int32) <<< (oN (some w) &&& 31)) ^^^ (-1 : Int32)) = nI (wout 1023 w) := wout_nI (b := 1023) (by omega) hw
    have U := un_it (walls := wout 1023 w) hf h hT hm hk hr (by have := wout_le 1023 w; omega)
    have e2 : nearS T r &&& wout 1023 w = nearS T r &&& (1023 ^^^ 2 ^ w) := (wout_1023 (nearS T r) w).resolve_right (by omega)
    rw [e2] at U
    rw [if_neg (show ¬ oN (some w) < 0 from nI_pos (by omega)), e, U, bd_ok, if_b2, add1]
    show _ = dL_law_408 LL xs f k44 k312 x3 x4 x5 x6 (nI r) x8 x9 x12 x13 (oN (some w)) x15 x16 x17 x18 (nI (c + if mtF T (nearS T r &&& (1023 ^^^ 2 ^ w)) k = true then 1 else 0)) x20 x21 x22 x23 mem
    unfold mtF
    by_cases c1 : muteS T (nearS T r &&& (1023 ^^^ 2 ^ w)) (ro T 0) (mi T + k) = true
    · rw [if_pos c1, if_pos c1]
    · rw [if_neg c1, if_neg c1]
      rfl
theorem h366 {k c1 c2 c3 : Nat} {mem : Mem} (hf : 2000 ≤ f) (h : WS mem (itM T k) T) (hT : IV T) (hm : mi T ≤ 39) (hk : k ≤ 100) (hr : r ≤ 9) (hN : N ≤ 40) (hwo : ∀ w, wo = some w → w < 10) (hco : ∀ b, co = some b → b < 1024 ∧ nearS T r &&& b = b) (k44 : K3) (k312 : K19) (x3 x4 x5 x6 x8 x9 x13 x16 x17 x21 x22 : Int32)
    (e1 : c1 = cntB (mtF T (nearS T r)) (min k N)) (e2 : c2 = cO (wo.map (fun w => mtF T (nearS T r &&& (1023 ^^^ 2 ^ w)))) (min k N)) (e3 : c3 = cO (co.map (fun b => mtF T b)) (min k N)) :
    dL_law_366 LL xs f k44 k312 x3 x4 x5 x6 (nI r) x8 x9 (nI N) x13 (oN wo) (oN co) x16 x17 (nI c1) (nI c2) (nI c3) x21 x22 (nI k) (nI (b2 (mtF T (nearS T r) k))) mem =
    dL_law_427 LL xs f k44 k312 x3 x4 x5 x6 (nI r) x8 x9 (nI N) x13 (oN wo) (oN co) x16 x17 (nI (cntB (mtF T (nearS T r)) (min (k + 1) N))) (nI (cO (wo.map (fun w => mtF T (nearS T r &&& (1023 ^^^ 2 ^ w)))) (min (k + 1) N))) (nI (cO (co.map (fun b => mtF T b)) (min (k + 1) N))) x21 x22 (nI k) mem := by
  unfold dL_law_366
  have kk : nI k < nI N ↔ k < N := nb_lt (by omega) (by omega)
  by_cases c : k < N
  · have m1 : min (k + 1) N = k + 1 := by omega
    have m2 : min k N = k := by omega
    rw [if_pos (kk.mpr c), if_b2, m1, cO_s, cO_s, cntB, e1, e2, e3, m2, add1]
    rw [h381 hf h hT hm hk hr hwo, h408 hf h hT hm hk hr hco, h381 hf h hT hm hk hr hwo, h408 hf h hT hm hk hr hco]
    by_cases c1 : mtF T (nearS T r) k = true
    · rw [if_pos c1, if_pos c1]
    · rw [if_neg c1, if_neg c1]
      rfl
  · have m1 : min (k + 1) N = min k N := by omega
    rw [if_neg (fun z => c (kk.mp z)), m1, e1, e2, e3]
theorem h343 {k : Nat} {mem : Mem} (hf : 2000 ≤ f) (h : WS mem (itM T k) T) (hT : IV T) (hm : mi T ≤ 39) (hk : k ≤ 100) (hr : r ≤ 9) (hN : N ≤ 40) (hn1 : 1 ≤ n0) (hn : n0 ≤ 12) (hwo : ∀ w, wo = some w → w < 10) (hco : ∀ b, co = some b → b < 1024 ∧ nearS T r &&& b = b) (k44 : K3) (k312 : K19) (x3 x4 x5 x6 x9 x13 x16 x17 : Int32) :
    dL_law_343 LL xs f k44 k312 x3 x4 x5 x6 (nI r) (nI n0) x9 (nI N) x13 (oN wo) (oN co) x16 x17 (nI (cntB (mtF T (nearS T r)) (min k N))) (nI (cO (wo.map (fun w => mtF T (nearS T r &&& (1023 ^^^ 2 ^ w)))) (min k N))) (nI (cO (co.map (fun b => mtF T b)) (min k N))) (oN (ffF (mtF T (nearS T r)) n0 k)) (nI k) (nI (b2 (mtF T (nearS T r) k))) (nI (rnF (mtF T (nearS T r)) (k + 1))) mem =
    dL_law_427 LL xs f k44 k312 x3 x4 x5 x6 (nI r) (nI n0) x9 (nI N) x13 (oN wo) (oN co) x16 x17 (nI (cntB (mtF T (nearS T r)) (min (k + 1) N))) (nI (cO (wo.map (fun w => mtF T (nearS T r &&& (1023 ^^^ 2 ^ w)))) (min (k + 1) N))) (nI (cO (co.map (fun b => mtF T b)) (min (k + 1) N))) (nI (rnF (mtF T (nearS T r)) (k + 1))) (oN (ffF (mtF T (nearS T r)) n0 (k + 1))) (nI k) mem := by
  have hrn := rnF_le (mtF T (nearS T r)) (k + 1)
  have ke : nI (rnF (mtF T (nearS T r)) (k + 1)) = nI n0 ↔ rnF (mtF T (nearS T r)) (k + 1) = n0 := nb_inj (by omega) (by omega)
  have kn := oN_neg (o := ffF (mtF T (nearS T r)) n0 k) (fun q hq => by have := ffF_le _ _ _ _ hq; omega)
  unfold dL_law_343
  rw [ffF]
  by_cases c1 : rnF (mtF T (nearS T r)) (k + 1) = n0
  · rw [if_pos (ke.mpr c1)]
    by_cases c2 : ffF (mtF T (nearS T r)) n0 k = none
    · have es : (nI k + 1) - nI n0 = oN (some (k + 1 - n0)) := by
        rw [add1, nb_sub (by omega)]
        rfl
      rw [if_pos (kn.mpr c2), if_pos ⟨c1, c2⟩, es, h366 hf h hT hm hk hr hN hwo hco k44 k312 _ _ _ _ _ _ _ _ _ _ _ rfl rfl rfl]
    · rw [if_neg (fun z => c2 (kn.mp z)), if_neg (fun z => c2 z.2), h366 hf h hT hm hk hr hN hwo hco k44 k312 _ _ _ _ _ _ _ _ _ _ _ rfl rfl rfl]
  · rw [if_neg (fun z => c1 (ke.mp z)), if_neg (fun z => c1 z.1), h366 hf h hT hm hk hr hN hwo hco k44 k312 _ _ _ _ _ _ _ _ _ _ _ rfl rfl rfl]
/-- the law's loop over the hour -/
theorem h312 (hf : 2000 ≤ f) (hT : IV T) (hm : mi T ≤ 39) (hr : r ≤ 9) (hN : N ≤ 40) (hn1 : 1 ≤ n0) (hn : n0 ≤ 12) (hwo : ∀ w, wo = some w → w < 10) (hco : ∀ b, co = some b → b < 1024 ∧ nearS T r &&& b = b) (k44 : K3) (x3 x5 x6 x9 x13 x16 x17 : Int32) : ∀ (d k n : Nat) (mem : Mem), k + d = 60 → d < n → WS mem (itM T k) T →
    ∃ m' n', 0 < n' ∧ dL_law_312 LL xs f k44 n x3 (nI (mi T)) x5 x6 (nI r) (nI n0) x9 (nI N) x13 (oN wo) (oN co) x16 x17 (nI (cntB (mtF T (nearS T r)) (min k N))) (nI (cO (wo.map (fun w => mtF T (nearS T r &&& (1023 ^^^ 2 ^ w)))) (min k N))) (nI (cO (co.map (fun b => mtF T b)) (min k N))) (nI (rnF (mtF T (nearS T r)) k)) (oN (ffF (mtF T (nearS T r)) n0 k)) (nI k) mem =
      dL_law_312 LL xs f k44 n' x3 (nI (mi T)) x5 x6 (nI r) (nI n0) x9 (nI N) x13 (oN wo) (oN co) x16 x17 (nI (cntB (mtF T (nearS T r)) N)) (nI (cO (wo.map (fun w => mtF T (nearS T r &&& (1023 ^^^ 2 ^ w)))) N)) (nI (cO (co.map (fun b => mtF T b)) N)) (nI (rnF (mtF T (nearS T r)) 60)) (oN (ffF (mtF T (nearS T r)) n0 60)) (nI 60) m' ∧ WS m' (itM T 60) T
  | 0, k, n, mem, e, hd, h => by
    have : k = 60 := by omega
    subst this
    have m1 : min 60 N = N := by omega
    rw [m1]
    exact ⟨mem, n, by omega, rfl, h⟩
  | d + 1, k, n, mem, e, hd, h => by
    obtain ⟨n, rfl⟩ : ∃ k, n = k + 1 := ⟨n - 1, by omega⟩
    have U := un_it (walls := 1023) hf h hT hm (by omega) hr (by omega)
    rw [near_all hT] at U
    obtain ⟨m1, p1, p2⟩ := pass_it hf h hT hm (by omega)
    obtain ⟨m', n', q0, q1, q2⟩ := h312 hf hT hm hr hN hn1 hn hwo hco k44 x3 x5 x6 x9 x13 x16 x17 d (k + 1) n m1 (by omega) (by omega) p2
    refine ⟨m', n', q0, ?_, q2⟩
    rw [dL_law_312, if_pos (show nI k < (60 : Int32) from lt_n (c := 60) (by omega) (by omega)), show dL_isUnheard f (nI r) (1023 : Int32) mem = _ from U, bd_ok, if_b2, add1]
    have e427 : ∀ (k312 : K19) (x18 x19 x20 x21 x22 : Int32), dL_law_427 LL xs f k44 k312 x3 (nI (mi T)) x5 x6 (nI r) (nI n0) x9 (nI N) x13 (oN wo) (oN co) x16 x17 x18 x19 x20 x21 x22 (nI k) mem = k312 x3 (nI (mi T)) x5 x6 (nI r) (nI n0) x9 (nI N) x13 (oN wo) (oN co) x16 x17 x18 x19 x20 x21 x22 (nI (k + 1)) m1 := by
      intro k312 x18 x19 x20 x21 x22
      unfold dL_law_427
      rw [p1, bd_ok, nb_add, add1, if_pos rfl, add1]
    have er : rnF (mtF T (nearS T r)) (k + 1) = if muteS T (nearS T r) (ro T 0) (mi T + k) = true then rnF (mtF T (nearS T r)) k + 1 else 0 := rfl
    by_cases c : muteS T (nearS T r) (ro T 0) (mi T + k) = true
    · rw [if_pos c] at er ⊢
      rw [← er]
      exact (h343 hf h hT hm (by omega) hr hN hn1 hn hwo hco k44 _ x3 (nI (mi T)) x5 x6 x9 x13 x16 x17).trans ((e427 _ _ _ _ _ _).trans q1)
    · rw [if_neg c] at er ⊢
      have e0 : nI (rnF (mtF T (nearS T r)) (k + 1)) = 0 := by rw [er]; rfl
      have H := h343 (LL := LL) (xs := xs) hf h hT hm (by omega) hr hN hn1 hn hwo hco k44 (fun x3_ x4_ x5_ x6_ x7_ x8_ x9_ x12_ x13_ x14_ x15_ x16_ x17_ x18_ x19_ x20_ x21_ x22_ x23_ mem_ => dL_law_312 LL xs f k44 n x3_ x4_ x5_ x6_ x7_ x8_ x9_ x12_ x13_ x14_ x15_ x16_ x17_ x18_ x19_ x20_ x21_ x22_ x23_ mem_) x3 (nI (mi T)) x5 x6 x9 x13 x16 x17
      rw [e0] at H q1
      exact H.trans ((e427 _ _ _ _ _ _).trans q1)
end HOUR
