/-! The law's eyes: isUnheard, isSo. -/
theorem unL_lp {f walls room : Nat} {mem : Mem} {S : PS} (hf : 2000 ≤ f) (hC : RC mem 0 S) (hi : IV S) (hr : room ≤ 9) (hw : walls < 2 ^ 31) : ∀ (d i n : Nat), i + d = ct S → d < n → uhS S (reachS S room) walls (mi S) i = true →
    dL_isUnheard_9 f n (nI walls) (nI (reachS S room)) (nI i) mem = some (nI (b2 (uhS S (reachS S room) walls (mi S) (ct S))), mem) := by
  have hct : ct S ≤ 10 := hi.2.2.2.2.2.2.2.1
  have hrl := reachS_lt hi hr
  intro d
  induction d with
  | zero =>
    intro i n e hn hu
    obtain ⟨n, rfl⟩ : ∃ k, n = k + 1 := ⟨n - 1, by omega⟩
    have e' : i = ct S := by omega
    subst e'
    rw [dL_isUnheard_9, W_count0 hC, bd_ok, if_neg (nlt_n (by omega)), hu]
    rfl
  | succ d ih =>
    intro i n e hn hu
    obtain ⟨n, rfl⟩ : ∃ k, n = k + 1 := ⟨n - 1, by omega⟩
    have hic : i < ct S := by omega
    obtain ⟨v0, v1, v2, v3, v4, v5⟩ := hi.2.2.2.2.2.2.2.2 i hic
    have ih' := ih (i + 1) n (by omega) (by omega)
    rw [uhS, hu, Bool.true_and] at ih'
    have k1 : ∀ b : Bool, (nI (b2 b) = (1 : Int32)) ↔ b = true := fun b => by cases b <;> decide
    have O1 : dW_of f (nI i) 1 mem = some (nI (wa S i 1), mem) := W_of (k := 1) hC hi hic (by omega)
    have O2 : dW_of f (nI i) 2 mem = some (nI (wa S i 2), mem) := W_of (k := 2) hC hi hic (by omega)
    rw [dL_isUnheard_9, W_count0 hC, bd_ok, if_pos (lt_n hic (by omega)), nb_has hw (by omega), W_of6 hf hC hi hic, bd_ok, O1, bd_ok, O2, bd_ok, nb_bit (by omega), nb_bit (by omega), nb_or, nb_and, add1]
    have hb := both_lt (hi.2.2.2.2.2.2.2.2 i hic)
    have hlt : bothS S i &&& reachS S room < 2 ^ 31 := Nat.lt_of_le_of_lt Nat.and_le_left (by omega)
    have k0 : nI ((2 ^ wa S i 1 ||| 2 ^ wa S i 2) &&& reachS S room) = 0 ↔ atS S (reachS S room) i = false := (nb_zero (n := bothS S i &&& reachS S room) hlt).trans (both_and S _ i)
    have kb : nI (if walls.testBit i = true then 1 else 0) = 1 ↔ walls.testBit i = true := by cases walls.testBit i <;> decide
    have hno : ∀ b : Bool, (walls.testBit i && (atS S (reachS S room) i && onF S (ro S 0) i (mi S))) = false → dL_isUnheard_9 f n (nI walls) (nI (reachS S room)) (nI (i + 1)) mem = some (nI (b2 (uhS S (reachS S room) walls (mi S) (ct S))), mem) := fun _ z => ih' (by rw [z]; rfl)
    by_cases c1 : walls.testBit i = true
    · rw [if_pos (kb.mpr c1)]
      by_cases c2 : onF S (ro S 0) i (mi S) = true
      · rw [if_pos ((k1 _).mpr c2)]
        cases c3 : atS S (reachS S room) i with
        | false =>
          rw [if_pos (k0.mpr c3)]
          exact hno true (by rw [c3, c1, c2]; rfl)
        | true =>
          rw [if_neg (fun z => by rw [k0.mp z] at c3; cases c3)]
          have h1 : uhS S (reachS S room) walls (mi S) (i + 1) = false := by
            rw [uhS, c1, c2, c3, Bool.and_self, Bool.and_self, Bool.not_true, Bool.and_false]
          have := uhS_f S (reachS S room) walls (mi S) (ct S - (i + 1)) (i + 1) h1
          rw [show i + 1 + (ct S - (i + 1)) = ct S by omega] at this
          rw [this]
          rfl
      · rw [if_neg (fun z => c2 ((k1 _).mp z))]
        refine hno true ?_
        cases c2' : onF S (ro S 0) i (mi S) with
        | true => exact absurd c2' c2
        | false => rw [Bool.and_false, Bool.and_false]
    · rw [if_neg (fun z => c1 (kb.mp z))]
      refine hno true ?_
      cases c1' : walls.testBit i with
      | true => exact absurd c1' c1
      | false => rfl
/-- a room is unheard now, of these walls -/
theorem unL_ok {f walls room : Nat} {mem : Mem} {S : PS} (hf : 2000 ≤ f) (hC : RC mem 0 S) (hi : IV S) (hr : room ≤ 9) (hw : walls < 2 ^ 31) :
    dL_isUnheard f (nI room) (nI walls) mem = some (nI (b2 (muteS S (nearS S room &&& walls) (ro S 0) (mi S))), mem) := by
  have hct : ct S ≤ 10 := hi.2.2.2.2.2.2.2.1
  unfold dL_isUnheard
  rw [W_reach hf hC hi hr, bd_ok, ← uh_mute]
  exact unL_lp hf hC hi hr hw (ct S) 0 f (by omega) (by omega) rfl
theorem smS_le (g : Nat → Nat) {B : Nat} (hg : ∀ i, g i ≤ B) : ∀ n, smS g n ≤ B * n
  | 0 => Nat.zero_le _
  | n + 1 => by
    have h1 := smS_le g hg n
    have h2 := hg n
    rw [smS, Nat.mul_succ]
    omega
theorem W_ofk {f w k : Nat} {mem : Mem} {S : PS} (hC : RC mem 0 S) (hM : RM mem S) (hi : IV S) (hw : w < ct S) (hk : k < 6) : dW_of f (nI w) (nI k) mem = some (gI mem 13 0 (6 + 6 * w + k), mem) := by
  rw [hM.2.2.2 w hw k hk]
  exact W_of hC hi hw (by omega)
theorem so27 {f w : Nat} {mem : Mem} {S : PS} (hC : RC mem 0 S) (hM : RM mem S) (hi : IV S) (hw : w < ct S) (K : Int32 → Int32 → Int32 → Int32 → Int32 → Int32 → Mem → Option (Int32 × Mem)) (x2 x3 x4 x5 x6 : Int32) : ∀ (d i n : Nat), i + d = 6 → d < n →
    dL_isSo_27 f K n x2 x3 x4 x5 x6 (nI w) (nI i) mem = dL_isSo_27 f K (n - d) x2 x3 x4 x5 x6 (nI w) 6 mem
  | 0, i, n, e, hn => by
    have : i = 6 := by omega
    subst this
    rfl
  | d + 1, i, n, e, hn => by
    have hct : ct S ≤ 10 := hi.2.2.2.2.2.2.2.1
    obtain ⟨n, rfl⟩ : ∃ k, n = k + 1 := ⟨n - 1, by omega⟩
    rw [dL_isSo_27, if_pos (show nI i < (6 : Int32) from lt_n (c := 6) (by omega) (by omega)), W_ofk hC hM hi hw (by omega), bd_ok, at6, ck_in _ (by omega) (by omega), nI_clamp (by omega), if_pos rfl, add1, so27 hC hM hi hw K x2 x3 x4 x5 x6 d (i + 1) n (by omega) (by omega)]
    congr 1
    omega
theorem so213 {f : Nat} {mem : Mem} (K : Int32 → Int32 → Int32 → Int32 → Int32 → Int32 → Mem → Option (Int32 × Mem)) (x2 x3 x4 x5 : Int32) (x6 w : Nat) (hw : w < 31) (b : Bool) : dL_isSo_213 f K x2 x3 x4 x5 (nI x6) (nI w) (nI (b2 b)) mem = K x2 x3 x4 x5 (nI (x6 ||| (if b = true then 2 ^ w else 0))) (nI (w + 1)) mem := by
  unfold dL_isSo_213
  rw [if_b2, add1, nb_bit hw, nb_or]
  cases b with
  | false => simp
  | true => simp
theorem so_wall {f n w x2 x3 x4 x5 x6 : Nat} {mem : Mem} {S : PS} (hf : 2000 ≤ f) (hC : RC mem 0 S) (hM : RM mem S) (hi : IV S) (hm : mi S ≤ 99999) (hw : w < ct S) (hn : 6 < n) (K : Int32 → Int32 → Int32 → Int32 → Int32 → Int32 → Mem → Option (Int32 × Mem)) :
    dL_isSo_27 f K n (nI x2) (nI x3) (nI x4) (nI x5) (nI x6) (nI w) 0 mem = K (nI (x2 ||| wa S w 4)) (nI (x3 + wa S w 5)) (nI (x4 + bcN (wa S w 4))) (nI (x5 + (if wakeB S w = true then 1 else 0))) (nI (x6 ||| (if onF S (ro S 0) w (mi S) = true then 2 ^ w else 0))) (nI (w + 1)) mem := by
  have hct : ct S ≤ 10 := hi.2.2.2.2.2.2.2.1
  obtain ⟨v0, v1, v2, v3, v4, v5⟩ := hi.2.2.2.2.2.2.2.2 w hw
  have i7 := hi.2.2.2.2.2.2.1
  have e4 : gI mem 13 0 4 = nI (ro S 3) := hM.2.1 3 (by omega)
  have kw : nI (wa S w 5) < nI (ro S 3) ↔ wa S w 5 < ro S 3 := nb_lt (by omega) (by omega)
  have h0 := so27 (f := f) hC hM hi hw K (nI x2) (nI x3) (nI x4) (nI x5) (nI x6) 6 0 n (by omega) (by omega)
  refine h0.trans ?_
  obtain ⟨n', hn'⟩ : ∃ k, n - 6 = k + 1 := ⟨n - 7, by omega⟩
  rw [hn', dL_isSo_27, if_neg (by decide), hM.1, dutyL_ok hM hi hw (by omega), bd_ok, a11, ck_in _ (by omega) (by omega), nI_clamp (by omega), r_11 hM hw, e4]
  -- the ends
  have E : ∀ on aw : Bool, onF S (ro S 0) w (mi S) = on → wakeB S w = aw → dL_isSo_139 f K (nI x2) (nI x3) (nI x4) (nI x5) (nI x6) (nI w) (nI (b2 on)) (nI (b2 aw)) (nI (b2 aw)) (nI (b2 aw)) mem = K (nI (x2 ||| wa S w 4)) (nI (x3 + wa S w 5)) (nI (x4 + bcN (wa S w 4))) (nI (x5 + (if aw = true then 1 else 0))) (nI (x6 ||| (if on = true then 2 ^ w else 0))) (nI (w + 1)) mem := by
    intro on aw h1 h2
    unfold dL_isSo_139
    rw [if_pos rfl, W_of8 hC hi hw, bd_ok, tiresL_ok hM hi hw, bd_ok, if_pos rfl, a10, a11, ck_in _ (by omega) (by omega), ck_in _ (by omega) (by omega), ck_in _ (by omega) (by omega), nI_clamp (by omega), nI_clamp (by omega), r_10 hM hw, r_11 hM hw, ones_lp (by omega) hf, bd_ok, if_b2, nb_or, nb_add, nb_add, so213 K _ _ _ _ _ _ (by omega), add1, so213 K _ _ _ _ _ _ (by omega)]
    cases aw <;> rfl
  have F : ∀ on aw : Bool, onF S (ro S 0) w (mi S) = on → wakeB S w = aw → dL_isSo_118 f K (nI x2) (nI x3) (nI x4) (nI x5) (nI x6) (nI w) (nI (b2 on)) (nI (b2 aw)) (nI (b2 on)) (nI (b2 on)) mem = K (nI (x2 ||| wa S w 4)) (nI (x3 + wa S w 5)) (nI (x4 + bcN (wa S w 4))) (nI (x5 + (if aw = true then 1 else 0))) (nI (x6 ||| (if on = true then 2 ^ w else 0))) (nI (w + 1)) mem := by
    intro on aw h1 h2
    unfold dL_isSo_118
    rw [if_pos rfl, W_of7 hC hi hw, bd_ok, if_b2, h2]
    have := E on aw h1 h2
    cases aw with
    | false => exact this
    | true => exact this
  have G : ∀ on aw : Bool, onF S (ro S 0) w (mi S) = on → wakeB S w = aw → dL_isSo_98 f K (nI x2) (nI x3) (nI x4) (nI x5) (nI x6) (nI w) (nI (b2 on)) (nI (b2 aw)) mem = K (nI (x2 ||| wa S w 4)) (nI (x3 + wa S w 5)) (nI (x4 + bcN (wa S w 4))) (nI (x5 + (if aw = true then 1 else 0))) (nI (x6 ||| (if on = true then 2 ^ w else 0))) (nI (w + 1)) mem := by
    intro on aw h1 h2
    unfold dL_isSo_98
    rw [W_of6 hf hC hi hw, bd_ok, if_b2, h1]
    have := F on aw h1 h2
    cases on with
    | false => exact this
    | true => exact this
  have G' := G (onF S (ro S 0) w (mi S)) (wakeB S w) rfl rfl
  by_cases c : wa S w 5 < ro S 3
  · rw [if_pos (kw.mpr c)]
    have hk : wakeB S w = true := decide_eq_true c
    rw [hk] at G' ⊢
    exact G'
  · rw [if_neg (fun z => c (kw.mp z))]
    have hk : wakeB S w = false := decide_eq_false c
    rw [hk] at G' ⊢
    exact G'
theorem isSo_ok {f : Nat} {mem : Mem} {S : PS} (hf : 2000 ≤ f) (hC : RC mem 0 S) (hM : RM mem S) (hi : IV S) (hm : mi S ≤ 99999) : dL_isSo f mem = some (1, mem) := by
  have hct : ct S ≤ 10 := hi.2.2.2.2.2.2.2.1
  unfold dL_isSo
  refine lp (fun n (x : Int32 × Int32 × Int32 × Int32 × Int32 × Int32) => dL_isSo_16 f n x.1 x.2.1 x.2.2.1 x.2.2.2.1 x.2.2.2.2.1 x.2.2.2.2.2 mem) (fun i => (nI (orS (fun w => wa S w 4) i), nI (smS (fun w => wa S w 5) i), nI (smS (fun w => bcN (wa S w 4)) i), nI (smS (fun w => if wakeB S w = true then 1 else 0) i), nI (setB (fun w => onF S (ro S 0) w (mi S)) i), nI i)) (c := ct S) (fun n => ?_) (fun n i hc => ?_) (ct S) 0 f (by omega) (by omega)
  · show dL_isSo_16 f (n + 1) _ _ _ _ _ _ mem = _
    rw [dL_isSo_16, hM.2.2.1, if_neg (nlt_n (by omega))]
    have L1 : ∀ (x2 x3 x4 x5 x6 : Int32), dL_isSo_236 f f x2 x3 x4 x5 x6 0 mem = dL_isSo_269 f f x2 x3 x4 x5 x6 0 mem := fun x2 x3 x4 x5 x6 =>
      lp (fun n (x : Int32) => dL_isSo_236 f n x2 x3 x4 x5 x6 x mem) (fun i => nI i) (c := 10) (fun n => by
        show dL_isSo_236 f (n + 1) _ _ _ _ _ _ mem = _
        rw [dL_isSo_236, if_neg (show ¬ nI 10 < (10 : Int32) by decide)]) (fun n i hc => by
        show dL_isSo_236 f (n + 1) _ _ _ _ _ _ mem = dL_isSo_236 f n _ _ _ _ _ _ mem
        rw [dL_isSo_236, if_pos (show nI i < (10 : Int32) from lt_n (c := 10) hc (by omega)), W_reach hf hC hi (by omega), bd_ok, reachL_ok hf hM hi (by omega), bd_ok, if_pos rfl, add1]) 10 0 f (by omega) (by omega)
    rw [L1]
    refine lp (fun n (x : Int32) => dL_isSo_269 f n _ _ _ _ _ x mem) (fun i => nI i) (c := 5) (fun n => ?_) (fun n i hc => ?_) 5 0 f (by omega) (by omega)
    · show dL_isSo_269 f (n + 1) _ _ _ _ _ _ mem = _
      rw [dL_isSo_269, if_neg (show ¬ nI 5 < (5 : Int32) by decide), W_now5 hf hC hi, bd_ok, if_pos rfl, W_now6 hf hC hi, bd_ok, if_pos rfl, hM.1, show dW_duty f (nI (mi S)) mem = some (nI (setB (fun w => onF S (ro S 0) w (mi S)) (ct S)), mem) from W_duty hf hC hi hm, bd_ok, if_pos rfl, W_count0 hC, bd_ok, hM.2.2.1, if_pos rfl, W_count2 hf hC hi, bd_ok, if_pos rfl, W_count3 hf hC hi, bd_ok, if_pos rfl]
    · show dL_isSo_269 f (n + 1) _ _ _ _ _ _ mem = dL_isSo_269 f n _ _ _ _ _ _ mem
      have hn : dW_now f (nI i) mem = some (gI mem 13 0 i, mem) := by
        by_cases c0 : i = 0
        · subst c0
          rw [hM.1]
          exact W_now0 hC
        · obtain ⟨k, rfl⟩ : ∃ k, i = 1 + k := ⟨i - 1, by omega⟩
          rw [hM.2.1 k (by omega)]
          exact W_nowR hC (by omega)
      rw [dL_isSo_269, if_pos (show nI i < (5 : Int32) from lt_n (c := 5) hc (by omega)), hn, bd_ok, ck_in _ (by omega) (by omega), nI_clamp (by omega), if_pos rfl, add1]
  · show dL_isSo_16 f (n + 1) _ _ _ _ _ _ mem = dL_isSo_16 f n _ _ _ _ _ _ mem
    rw [dL_isSo_16, hM.2.2.1, if_pos (lt_n hc (by omega)), so_wall hf hC hM hi hm hc (by omega)]
    rfl
