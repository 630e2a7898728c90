/-! image, undo, tear, count, status, feed, wipe. -/
def imZ (t _i j : Nat) : Bool := decide (t = 0 ∧ j = 2 ∨ t = 1 ∨ t = 2 ∨ t = 4 ∨ t = 12 ∧ j = 18 ∨ t = 13 ∨ t = 21)
theorem im_pal {p t i j : Nat} (h : palZ p t i j = true) : imZ t i j = true := by
  have := notPal h
  exact decide_eq_true (by omega)
theorem pal01 {t i j : Nat} (h : palZ 0 t i j = true) : palZ 1 t i j = false := by
  have h1 := of_decide_eq_true h
  exact decide_eq_false (by omega)
theorem RC_flag {mem : Mem} {p : Nat} {S : PS} (h : RC mem p S) (v : Int32) : RC (sI mem 0 0 2 v) p S := ⟨h.1, h.2.1, h.2.2.1, fun w hw k hk => by rw [gI_sI, if_neg (by omega)]; exact h.2.2.2 w hw k hk⟩
theorem RK_flag {t j : Nat} {mem : Mem} {S : PS} (ht : t ≠ 12) (h : RK t mem S) (v : Int32) : RK t (sI mem 12 0 j v) S := by
  have e : ∀ j', gI (sI mem 12 0 j v) t 0 j' = gI mem t 0 j' := fun j' => by rw [gI_sI, if_neg (fun z => ht z.1)]
  obtain ⟨h1, h2, h3, h4⟩ := h
  exact ⟨(e _).trans h1, fun j hj => (e _).trans (h2 j hj), (e _).trans h3, fun w hw k hk => (e _).trans (h4 w hw k hk)⟩
theorem wordsEC_ok {f p : Nat} {mem : Mem} {S : PS} (hf : 2000 ≤ f) (hC : RC mem p S) (hi : IV S) : dP_wordsCountedEach f p mem = some (nI (smS (fun w => bcN (wa S w 4)) (ct S)), mem) := by
  have hct : ct S ≤ 10 := hi.2.2.2.2.2.2.2.1
  refine lp (fun n (x : Int32 × Int32) => dP_wordsCountedEach_4 f n p x.1 x.2 mem) (fun i => (nI (smS (fun w => bcN (wa S w 4)) i), nI i)) (c := ct S) (fun n => ?_) (fun n i hc => ?_) (ct S) 0 f (by omega) (by omega)
  · show dP_wordsCountedEach_4 f (n + 1) _ _ _ mem = _
    rw [dP_wordsCountedEach_4, hC.2.2.1, if_neg (nlt_n (by omega))]
  · show dP_wordsCountedEach_4 f (n + 1) _ _ _ mem = dP_wordsCountedEach_4 f n _ _ _ mem
    obtain ⟨v0, v1, v2, v3, v4, v5⟩ := hi.2.2.2.2.2.2.2.2 i hc
    rw [dP_wordsCountedEach_4, hC.2.2.1, if_pos (lt_n hc (by omega)), ck_in _ (by omega) (by omega), nI_clamp (by omega), hC.2.2.2 i hc 4 (by omega), bcC_ok (by omega), bd_ok, nb_add, add1]
    rfl
theorem wakeC_ok {f p : Nat} {mem : Mem} {S : PS} (hf : 2000 ≤ f) (hC : RC mem p S) (hi : IV S) : dP_howManyAwake f p mem = some (nI (smS (fun w => if wakeB S w = true then 1 else 0) (ct S)), mem) := by
  have hct : ct S ≤ 10 := hi.2.2.2.2.2.2.2.1
  refine lp (fun n (x : Int32 × Int32) => dP_howManyAwake_4 f n p x.1 x.2 mem) (fun i => (nI (smS (fun w => if wakeB S w = true then 1 else 0) i), nI i)) (c := ct S) (fun n => ?_) (fun n i hc => ?_) (ct S) 0 f (by omega) (by omega)
  · show dP_howManyAwake_4 f (n + 1) _ _ _ mem = _
    rw [dP_howManyAwake_4, hC.2.2.1, if_neg (nlt_n (by omega))]
  · show dP_howManyAwake_4 f (n + 1) _ _ _ mem = dP_howManyAwake_4 f n _ _ _ mem
    rw [dP_howManyAwake_4, hC.2.2.1, if_pos (lt_n hc (by omega)), ck_in _ (by omega) (by omega), nI_clamp (by omega), awakeC_ok hC hi hc, bd_ok, add0, add1, add1, if_b2, smS]
    cases wakeB S i with
    | false => simp
    | true => simp
def smI (g : Nat → Int32) : Nat → Int32
  | 0 => 0
  | n + 1 => smI g n + g n
theorem smI_congr {g h : Nat → Int32} : ∀ n, (∀ k, k < n → g k = h k) → smI g n = smI h n
  | 0, _ => rfl
  | n + 1, e => by rw [smI, smI, smI_congr n (fun k hk => e k (by omega)), e n (by omega)]
theorem inb_m1 (x : Int32) : inb x (-1) 6 = (decide (x = -1) || inb x 0 6) := by
  unfold inb
  have e1 : (-1 : Int32) ≤ x ↔ (-1 : Int) ≤ x.toInt := Int32.le_iff_toInt_le
  have e0 : (0 : Int32) ≤ x ↔ (0 : Int) ≤ x.toInt := Int32.le_iff_toInt_le
  have ee : x = -1 ↔ x.toInt = (-1 : Int) := Int32.toInt_inj.symm
  by_cases c : x = -1
  · subst c
    decide
  · rw [decide_eq_false c, Bool.false_or]
    have : (-1 : Int32) ≤ x ↔ (0 : Int32) ≤ x := by
      rw [e1, e0]
      rw [ee] at c
      omega
    rw [decide_eq_decide.mpr this]
def tpC (t _i j : Nat) : Bool := decide (t = 5 ∧ j = 1 ∨ t = 6)
def tpM (t _i j : Nat) : Bool := decide (t = 12 ∧ j = 5 ∨ t = 16)
def tpB (t _i j : Nat) : Bool := decide (t = 5 ∨ t = 6 ∨ t = 12 ∧ j ≠ 18 ∨ t = 16)
theorem and255 (x : Int32) : ∃ b, b ≤ 255 ∧ x &&& 255 = nI b := by
  have e : x = nI x.toBitVec.toNat := by
    apply Int32.toBitVec_inj.mp
    show x.toBitVec = BitVec.ofNat 32 x.toBitVec.toNat
    rw [BitVec.ofNat_toNat, BitVec.setWidth_eq]
  refine ⟨x.toBitVec.toNat &&& 255, Nat.and_le_right, ?_⟩
  rw [e]
  exact (nb_and _ 255).trans (by rw [← e])
def bytF (x : Int32) (i : Nat) : Int32 := (x >>> (((8 : Int32) * nI i) &&& 31)) &&& 255
theorem dec1 (i : Nat) : nI (i + 1) + (-1) = nI i := by
  have e : nI (i + 1) + (-1) = nI (i + 1) - 1 := (Int32.sub_eq_add_neg _ _).symm
  rw [e, sub1 (by omega)]
  rfl
theorem tpC_B {mem m : Mem} (h : Fz tpC mem m) : Fz tpB mem m := Fz_mo h (fun t i j q => by
  have := of_decide_eq_true q
  exact decide_eq_true (by omega))
theorem tpM_B {mem m : Mem} (h : Fz tpM mem m) : Fz tpB mem m := Fz_mo h (fun t i j q => by
  have := of_decide_eq_true q
  exact decide_eq_true (by omega))
