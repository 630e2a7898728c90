/-! Frames by slots. Said: the loops of both sides; a minute that goes. -/
def Fz (P : Nat → Nat → Nat → Bool) (m m' : Mem) : Prop := ∀ t i j, P t i j = false → gI m' t i j = gI m t i j ∧ gL m' t i j = gL m t i j
theorem Fz_rfl (P : Nat → Nat → Nat → Bool) (m : Mem) : Fz P m m := fun _ _ _ _ => ⟨rfl, rfl⟩
theorem Fz_tr {P : Nat → Nat → Nat → Bool} {m m' m'' : Mem} (h : Fz P m m') (h' : Fz P m' m'') : Fz P m m'' := fun t i j e => ⟨((h' t i j e).1).trans ((h t i j e).1), ((h' t i j e).2).trans ((h t i j e).2)⟩
theorem Fz_mo {P Q : Nat → Nat → Nat → Bool} {m m' : Mem} (h : Fz P m m') (hq : ∀ t i j, P t i j = true → Q t i j = true) : Fz Q m m' := fun t i j e => h t i j (by
  cases c : P t i j with
  | false => rfl
  | true => rw [hq t i j c] at e; cases e)
theorem Fz_sI {P : Nat → Nat → Nat → Bool} {m : Mem} {t i j : Nat} {v : Int32} (h : P t i j = true) : Fz P m (sI m t i j v) := fun t' i' j' e => ⟨(by
  rw [gI_sI, if_neg]
  rintro ⟨rfl, rfl, rfl⟩
  rw [h] at e
  cases e), rfl⟩
theorem Fz_sL {P : Nat → Nat → Nat → Bool} {m : Mem} {t i j : Nat} {v : Int64} (h : P t i j = true) : Fz P m (sL m t i j v) := fun t' i' j' e => ⟨rfl, by
  rw [gL_sL, if_neg]
  rintro ⟨rfl, rfl, rfl⟩
  rw [h] at e
  cases e⟩
theorem Fz_sIr {P : Nat → Nat → Nat → Bool} {m : Mem} {t i : Nat} {f : Nat → Int32} (h : ∀ j, P t i j = true) : Fz P m (sIr m t i f) := fun t' i' j' e => ⟨(by
  rw [gI_sIr, if_neg]
  rintro ⟨rfl, rfl⟩
  rw [h] at e
  cases e), rfl⟩
theorem Fz_sLr {P : Nat → Nat → Nat → Bool} {m : Mem} {t i : Nat} {f : Nat → Int64} (h : ∀ j, P t i j = true) : Fz P m (sLr m t i f) := fun t' i' j' e => ⟨rfl, by
  rw [gL_sLr, if_neg]
  rintro ⟨rfl, rfl⟩
  rw [h] at e
  cases e⟩
def palZ (p t i j : Nat) : Bool := decide (t = 1 ∧ i = p ∧ (j = 0 ∨ j = 2) ∨ t = 2 ∧ i = p ∨ t = 4 ∧ i / 10 = p)
def rowZ (r t _i _j : Nat) : Bool := decide (t = r)
theorem palZ4 {p w k : Nat} (h : w < 10) : palZ p 4 (10 * p + w) k = true := by
  have : (10 * p + w) / 10 = p := by omega
  simp [palZ, this]
theorem palZ0 (p : Nat) : palZ p 1 p 0 = true := by simp [palZ]
theorem palZ2 (p : Nat) : palZ p 1 p 2 = true := by simp [palZ]
theorem palZr (p j : Nat) : palZ p 2 p j = true := by simp [palZ]
theorem RC_fz {P : Nat → Nat → Nat → Bool} {mem mem' : Mem} {p : Nat} {S : PS} (h : RC mem p S) (hc : ct S ≤ 10) (fx : Fz P mem mem') (hp : ∀ t i j, palZ p t i j = true → P t i j = false) : RC mem' p S := by
  obtain ⟨h1, h2, h3, h4⟩ := h
  refine ⟨?_, fun j hj => ?_, ?_, fun w hw k hk => ?_⟩
  · rw [(fx 1 p 0 (hp _ _ _ (palZ0 p))).1, h1]
  · rw [(fx 2 p j (hp _ _ _ (palZr p j))).1, h2 j hj]
  · rw [(fx 1 p 2 (hp _ _ _ (palZ2 p))).1, h3]
  · rw [(fx 4 (10 * p + w) k (hp _ _ _ (palZ4 (by omega)))).1, h4 w hw k hk]
/-- a row of the reference that holds a palace -/
def RK (t : Nat) (mem : Mem) (S : PS) : Prop := gI mem t 0 0 = nI (mi S) ∧ (∀ j, j < 4 → gI mem t 0 (1 + j) = nI (ro S j)) ∧ gI mem t 0 5 = nI (ct S) ∧ ∀ w, w < ct S → ∀ k, k < 6 → gI mem t 0 (6 + 6 * w + k) = nI (wa S w k)
theorem RK_RM {mem : Mem} {S : PS} : RK 13 mem S ↔ RM mem S := Iff.rfl
theorem RK_fz {t : Nat} {P : Nat → Nat → Nat → Bool} {mem mem' : Mem} {S : PS} (h : RK t mem S) (fx : Fz P mem mem') (hp : ∀ j, P t 0 j = false) : RK t mem' S := by
  obtain ⟨h1, h2, h3, h4⟩ := h
  refine ⟨?_, fun j hj => ?_, ?_, fun w hw k hk => ?_⟩
  · rw [(fx t 0 _ (hp _)).1, h1]
  · rw [(fx t 0 _ (hp _)).1, h2 j hj]
  · rw [(fx t 0 _ (hp _)).1, h3]
  · rw [(fx t 0 _ (hp _)).1, h4 w hw k hk]
theorem onF_say (S : PS) (nr word i t : Nat) : onF (sayS S nr word i) (ro (sayS S nr word i) 0) i t = onF S (ro S 0) i t := by
  unfold onF lisF
  rw [sayS_self, sayS_self]
  rfl
theorem wake_say (S : PS) (nr word i : Nat) : wakeB (sayS S nr word i) i = wakeB S i := by
  unfold wakeB
  rw [sayS_self]
  rfl
theorem deaf_say (S : PS) (nr word i w : Nat) : deafB (sayS S nr word i) i w = deafB S i w := by
  unfold deafB
  rw [sayS_self]
theorem bec_say (S : PS) (nr word i w : Nat) : becN (sayS S nr word i) i w = becN S i w := by
  unfold becN
  rw [sayS_self, sayS_self]
theorem hrd_say (S : PS) (nr word i w : Nat) : hrd (sayS S nr word i) i w = hrd S i w := by
  unfold hrd
  rw [deaf_say, bec_say]
theorem at_say (S : PS) (nr word i set : Nat) : atS (sayS S nr word i) set i = atS S set i := by
  unfold atS
  rw [sayS_self, sayS_self]
theorem hrd_f {S : PS} {w word : Nat} (h : deafB S w word = false) : hrd S w word = nI (becN S w word) := by
  unfold hrd
  rw [h]
  rfl
theorem RC_say {mem : Mem} {p nr word i : Nat} {S : PS} (h : RC mem p (sayS S nr word i)) (hb : hitB S nr word i = true) :
    RC (sI (sI mem 4 (10 * p + i) 4 (nI (wa S i 4 ||| 2 ^ becN S i word))) 4 (10 * p + i) 5 (nI (min 99 (wa S i 5 + tirN (wa S i 0))))) p (sayS S nr word (i + 1)) := by
  rw [sayS_t hb]
  exact RC_put (RC_put h i 4 _) i 5 _
theorem RM_say {mem : Mem} {nr word i : Nat} {S : PS} (h : RM mem (sayS S nr word i)) (hb : hitB S nr word i = true) :
    RM (sI (sI mem 13 0 (6 + 6 * i + 4) (nI (wa S i 4 ||| 2 ^ becN S i word))) 13 0 (6 + 6 * i + 5) (nI (min 99 (wa S i 5 + tirN (wa S i 0))))) (sayS S nr word (i + 1)) := by
  rw [sayS_t hb]
  exact RM_put (RM_put h (by omega) _) (by omega) _
theorem utter_lp {f p nr word lis : Nat} {S : PS} (hp : p < 3) (hi : IV S) (hwo : word < 16) (hlt : lis < 2 ^ 31) (hlis : ∀ i, i < ct S → lis.testBit i = (nr.testBit i && onF S (ro S 0) i (mi S))) : ∀ (d i n : Nat) (mem : Mem), i + d = ct S → d < n → RC mem p (sayS S nr word i) →
    ∃ m', dP_utter_23 f n p (nI word) (nI lis) (nI (setB (hitB S nr word) i)) (nI i) mem = some (nI (setB (hitB S nr word) (ct S)), m') ∧ RC m' p (sayS S nr word (ct S)) ∧ Fz (palZ p) mem m' := by
  have hct : ct S ≤ 10 := hi.2.2.2.2.2.2.2.1
  intro d
  induction d with
  | zero =>
    intro i n mem e hn h
    obtain ⟨n, rfl⟩ : ∃ k, n = k + 1 := ⟨n - 1, by omega⟩
    have e' : i = ct S := by omega
    subst e'
    have h3 : gI mem 1 p 2 = nI (ct S) := h.2.2.1
    rw [dP_utter_23, h3, if_neg (by rw [nb_lt (by omega) (by omega)]; omega)]
    exact ⟨mem, rfl, h, Fz_rfl _ _⟩
  | succ d ih =>
    intro i n mem e hn h
    obtain ⟨n, rfl⟩ : ∃ k, n = k + 1 := ⟨n - 1, by omega⟩
    have hw : i < ct S := by omega
    obtain ⟨v0, v1, v2, v3, v4, v5⟩ := hi.2.2.2.2.2.2.2.2 i hw
    have h3 : gI mem 1 p 2 = nI (ct S) := h.2.2.1
    have hiv := IV_say hi nr hwo i
    have ih' := ih (i + 1) n
    have hbl := becN_lt (S := S) (w := i) hwo
    rw [dP_utter_23, h3, if_pos (by rw [nb_lt (by omega) (by omega)]; omega), ck_in _ (by omega) (by omega), nI_clamp (by omega), heardC_ok h hiv hw hwo, bd_ok, nb_has hlt (by omega), hrd_say, add1]
    have hno : hitB S nr word i = false → ∃ m', dP_utter_23 f n p (nI word) (nI lis) (nI (setB (hitB S nr word) i)) (nI (i + 1)) mem = some (nI (setB (hitB S nr word) (ct S)), m') ∧ RC m' p (sayS S nr word (ct S)) ∧ Fz (palZ p) mem m' := by
      intro hb
      have ih2 := ih' mem (by omega) (by omega) (by rw [sayS_f hb]; exact h)
      rw [setB, hb] at ih2
      simpa using ih2
    have hl := hlis i hw
    cases hlb : lis.testBit i with
    | false =>
      rw [hlb] at hl
      rw [if_neg (by decide)]
      exact hno (by unfold hitB; rw [← hl]; rfl)
    | true =>
      rw [hlb] at hl
      rw [if_pos (by decide), awakeC_ok h hiv hw, bd_ok, wake_say]
      cases hk : wakeB S i with
      | false =>
        rw [ifz_f]
        exact hno (by unfold hitB; rw [← hl, hk]; rfl)
      | true =>
        rw [ifz_t]
        cases hd : deafB S i word with
        | true =>
          rw [if_pos ((hrd_neg S i hwo).mpr hd)]
          exact hno (by unfold hitB; rw [← hl, hk, hd]; rfl)
        | false =>
          have hb : hitB S nr word i = true := by unfold hitB; rw [← hl, hk, hd]; rfl
          have g0 : gI mem 4 (10 * p + i) 0 = nI (wa S i 0) := (h.2.2.2 i hw 0 (by omega)).trans (by rw [sayS_self])
          have g4 : gI mem 4 (10 * p + i) 4 = nI (wa S i 4) := (h.2.2.2 i hw 4 (by omega)).trans (by rw [sayS_self])
          have g5 : gI mem 4 (10 * p + i) 5 = nI (wa S i 5) := (h.2.2.2 i hw 5 (by omega)).trans (by rw [sayS_self])
          have ht : tirN (wa S i 0) ≤ 2 := by unfold tirN; split <;> (try split) <;> (try split) <;> omega
          rw [if_neg (fun z => by have := (hrd_neg S i hwo).mp z; rw [hd] at this; cases this), hrd_f hd, nb_bit (by omega), g4, nb_or]
          have q0 : ∀ v, gI (sI mem 4 (10 * p + i) 4 v) 4 (10 * p + i) 0 = nI (wa S i 0) := fun v => by rw [gI_sI, if_neg (by omega), g0]
          have q5 : ∀ v, gI (sI mem 4 (10 * p + i) 4 v) 4 (10 * p + i) 5 = nI (wa S i 5) := fun v => by rw [gI_sI, if_neg (by omega), g5]
          rw [q0, tiresC_ok v0, bd_ok, q5, nb_add, min_ok (by omega), nb_bit (by omega), nb_or]
          obtain ⟨m', r1, r2, r3⟩ := ih' _ (by omega) (by omega) (RC_say h hb)
          rw [setB, hb, if_pos rfl] at r1
          exact ⟨m', r1, r2, Fz_tr (Fz_tr (Fz_sI (palZ4 (by omega))) (Fz_sI (palZ4 (by omega)))) r3⟩
theorem utter_ok {f p nr word : Nat} {mem : Mem} {S : PS} (hf : 2000 ≤ f) (hp : p < 3) (h : RC mem p S) (hi : IV S) (hn : nr < 1024) (hwo : word < 16) :
    ∃ m', dP_utter f p (nI nr) (nI word) mem = some (nI (setB (hitB S nr word) (ct S)), m') ∧ RC m' p (sayS S nr word (ct S)) ∧ Fz (palZ p) mem m' := by
  have hct : ct S ≤ 10 := hi.2.2.2.2.2.2.2.1
  have hm : mi S ≤ 200000 := hi.1
  unfold dP_utter
  have hlt : nr &&& dutyS S (ro S 0) (mi S) < 2 ^ 31 := Nat.lt_of_le_of_lt Nat.and_le_left (by omega)
  rw [h.1, h.2.1 0 (by omega), onDuty_ok hf h hi hi.2.1 hi.2.2.1 (by omega), bd_ok, nb_and]
  refine utter_lp hp hi hwo hlt (fun i hi' => ?_) (ct S) 0 f mem (by omega) (by omega) (by rw [sayS_0]; exact h)
  unfold dutyS
  rw [Nat.testBit_and, setB_bit]
  simp [hi']
