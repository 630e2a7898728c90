/-! THE INVARIANT of the law's loop: one palace behind both sides; what else is alike. -/
def liveZ (t i j : Nat) : Bool := decide (t = 0 ∧ j = 2 ∨ t = 5 ∧ j = 1 ∨ t = 6 ∨ t = 8 ∨ t = 9 ∨ t = 10 ∨ t = 12 ∧ (j = 5 ∨ j = 18) ∨ t = 14 ∨ t = 16 ∨ t = 17 ∨ t = 18 ∨ t = 19 ∨ t = 21) || palZ 1 t i j
def SH1 (mem : Mem) (s : Nat) : Prop := ∃ b z, (b = 0 ∨ b = 8 ∨ b = 16 ∨ b = 64) ∧ z ≤ 40 ∧ gI mem 8 s 0 = nI b ∧ gI mem 17 0 s = nI b ∧ gI mem 8 s 1 = nI z ∧ gI mem 18 0 s = nI z ∧ ∀ j, j < 40 → gL mem 9 s j = gL mem 19 0 (40 * s + j)
def SH (mem : Mem) : Prop := ∀ s, s < 4 → SH1 mem s
def TP (mem : Mem) : Prop := ∃ n, n ≤ 120 ∧ gI mem 5 0 1 = nI n ∧ gI mem 12 0 5 = nI n ∧ ∀ j, j < n → ∃ b, b ≤ 255 ∧ gI mem 6 0 j = nI b ∧ gI mem 16 0 j = nI b
def FD (mem : Mem) : Prop := ∀ k, k < 7 → gI mem 10 0 k = gI mem 14 0 k
def KP (mem : Mem) : Prop := (gI mem 0 0 2 = 0 ∧ gI mem 12 0 18 = 0) ∨ (gI mem 0 0 2 = 1 ∧ gI mem 12 0 18 = 1 ∧ ∃ T, RC mem 1 T ∧ RK 21 mem T ∧ IV T ∧ mi T ≤ 99999)
def RS (mem : Mem) : Prop := SH mem ∧ TP mem ∧ FD mem ∧ KP mem
def INS (mem : Mem) (S : PS) : Prop := RC mem 0 S ∧ RM mem S ∧ IV S ∧ mi S ≤ 99999 ∧ RS mem
def INV (mem : Mem) : Prop := ∃ S, INS mem S
def notL (P : Nat → Nat → Nat → Bool) : Prop := ∀ t i j, liveZ t i j = true → P t i j = false
theorem live_at {t i j : Nat} (h : t = 0 ∧ j = 2 ∨ t = 5 ∧ j = 1 ∨ t = 6 ∨ t = 8 ∨ t = 9 ∨ t = 10 ∨ t = 12 ∧ (j = 5 ∨ j = 18) ∨ t = 14 ∨ t = 16 ∨ t = 17 ∨ t = 18 ∨ t = 19 ∨ t = 21) : liveZ t i j = true := by
  unfold liveZ
  rw [decide_eq_true h]
  rfl
theorem live_1 {t i j : Nat} (h : palZ 1 t i j = true) : liveZ t i j = true := by
  unfold liveZ
  rw [h, Bool.or_true]
theorem SH1_fz {P : Nat → Nat → Nat → Bool} {mem mem' : Mem} {s : Nat} (h : SH1 mem s) (fx : Fz P mem mem') (hs : s < 4) (h8 : ∀ j, P 8 s j = false) (h9 : ∀ j, P 9 s j = false) (h17 : P 17 0 s = false) (h18 : P 18 0 s = false) (h19 : ∀ j, j < 40 → P 19 0 (40 * s + j) = false) : SH1 mem' s := by
  obtain ⟨b, z, h1, h2, h3, h4, h5, h6, h7⟩ := h
  refine ⟨b, z, h1, h2, ?_, ?_, ?_, ?_, fun j hj => ?_⟩
  · rw [(fx _ _ _ (h8 _)).1, h3]
  · rw [(fx _ _ _ h17).1, h4]
  · rw [(fx _ _ _ (h8 _)).1, h5]
  · rw [(fx _ _ _ h18).1, h6]
  · rw [(fx _ _ _ (h9 _)).2, (fx _ _ _ (h19 j hj)).2, h7 j hj]
theorem SH_fz {P : Nat → Nat → Nat → Bool} {mem mem' : Mem} (h : SH mem) (fx : Fz P mem mem') (hp : notL P) : SH mem' := fun s hs =>
  SH1_fz (h s hs) fx hs (fun _ => hp _ _ _ (live_at (by omega))) (fun _ => hp _ _ _ (live_at (by omega))) (hp _ _ _ (live_at (by omega))) (hp _ _ _ (live_at (by omega))) (fun _ _ => hp _ _ _ (live_at (by omega)))
theorem TP_fz {P : Nat → Nat → Nat → Bool} {mem mem' : Mem} (h : TP mem) (fx : Fz P mem mem') (hp : notL P) : TP mem' := by
  obtain ⟨n, h1, h2, h3, h4⟩ := h
  refine ⟨n, h1, ?_, ?_, fun j hj => ?_⟩
  · rw [(fx _ _ _ (hp 5 0 1 (live_at (by omega)))).1, h2]
  · rw [(fx _ _ _ (hp 12 0 5 (live_at (by omega)))).1, h3]
  · obtain ⟨b, g1, g2, g3⟩ := h4 j hj
    refine ⟨b, g1, ?_, ?_⟩
    · rw [(fx _ _ _ (hp 6 0 j (live_at (by omega)))).1, g2]
    · rw [(fx _ _ _ (hp 16 0 j (live_at (by omega)))).1, g3]
theorem FD_fz {P : Nat → Nat → Nat → Bool} {mem mem' : Mem} (h : FD mem) (fx : Fz P mem mem') (hp : notL P) : FD mem' := fun k hk => by
  rw [(fx _ _ _ (hp 10 0 k (live_at (by omega)))).1, (fx _ _ _ (hp 14 0 k (live_at (by omega)))).1, h k hk]
theorem KP_fz {P : Nat → Nat → Nat → Bool} {mem mem' : Mem} (h : KP mem) (fx : Fz P mem mem') (h0 : P 0 0 2 = false) (h12 : P 12 0 18 = false) (h1 : ∀ t i j, palZ 1 t i j = true → P t i j = false) (h21 : ∀ j, P 21 0 j = false) : KP mem' := by
  rcases h with ⟨a, b⟩ | ⟨a, b, T, c1, c2, c3, c4⟩
  · refine Or.inl ⟨?_, ?_⟩
    · rw [(fx _ _ _ h0).1, a]
    · rw [(fx _ _ _ h12).1, b]
  · refine Or.inr ⟨?_, ?_, T, RC_fz c1 c3.2.2.2.2.2.2.2.1 fx h1, RK_fz c2 fx h21, c3, c4⟩
    · rw [(fx _ _ _ h0).1, a]
    · rw [(fx _ _ _ h12).1, b]
theorem KP_fz' {P : Nat → Nat → Nat → Bool} {mem mem' : Mem} (h : KP mem) (fx : Fz P mem mem') (hp : notL P) : KP mem' :=
  KP_fz h fx (hp _ _ _ (live_at (by omega))) (hp _ _ _ (live_at (by omega))) (fun _ _ _ q => hp _ _ _ (live_1 q)) (fun _ => hp _ _ _ (live_at (by omega)))
theorem RS_fz {P : Nat → Nat → Nat → Bool} {mem mem' : Mem} (h : RS mem) (fx : Fz P mem mem') (hp : notL P) : RS mem' :=
  ⟨SH_fz h.1 fx hp, TP_fz h.2.1 fx hp, FD_fz h.2.2.1 fx hp, KP_fz' h.2.2.2 fx hp⟩
theorem INS_fz {P : Nat → Nat → Nat → Bool} {mem mem' : Mem} {S : PS} (h : INS mem S) (fx : Fz P mem mem') (hp : notL P) (h0 : ∀ t i j, palZ 0 t i j = true → P t i j = false) (h13 : ∀ j, P 13 0 j = false) : INS mem' S :=
  ⟨RC_fz h.1 h.2.2.1.2.2.2.2.2.2.2.1 fx h0, RK_fz (t := 13) h.2.1 fx h13, h.2.2.1, h.2.2.2.1, RS_fz h.2.2.2.2 fx hp⟩
/-- one call on both sides -/
def CA (A B : Mem → Option (Int32 × Mem)) (mem : Mem) : Prop := ∃ r m1 m2, A mem = some (r, m1) ∧ B m1 = some (r, m2) ∧ INV m2
def inb (x l h : Int32) : Bool := decide (l ≤ x) && decide (x ≤ h)
theorem W_in {f : Nat} {mem : Mem} (x l h : Int32) : dW_isIn f x l h mem = some (nI (b2 (inb x l h)), mem) := by
  unfold dW_isIn inb
  by_cases c : x < l
  · rw [if_pos c, decide_eq_false (Int32.not_le.mpr c)]
    rfl
  · rw [if_neg c, decide_eq_true (Int32.not_lt.mp c)]
    by_cases d : h < x
    · rw [if_pos d, decide_eq_false (Int32.not_le.mpr d)]
      rfl
    · rw [if_neg d, decide_eq_true (Int32.not_lt.mp d)]
      rfl
theorem M_in {f : Nat} {mem : Mem} (x l h : Int32) : dM_in f x l h mem = some (nI (b2 (inb x l h)), mem) := W_in (f := f) x l h
theorem zb_b {α : Type} (b : Bool) (A : Option α) : zb (nI (b2 b)) A = A := by cases b <;> rfl
theorem W_isKind {f : Nat} {mem : Mem} (x : Int32) : dW_isKind f x mem = some (nI (b2 (inb x 0 5)), mem) := by unfold dW_isKind; rw [W_in, bd_ok, zb_b]
theorem W_isRoom {f : Nat} {mem : Mem} (x : Int32) : dW_isRoom f x mem = some (nI (b2 (inb x 0 9)), mem) := by unfold dW_isRoom; rw [W_in, bd_ok, zb_b]
theorem W_isWord {f : Nat} {mem : Mem} (x : Int32) : dW_isWord f x mem = some (nI (b2 (inb x 0 15)), mem) := by unfold dW_isWord; rw [W_in, bd_ok, zb_b]
theorem W_isSet {f : Nat} {mem : Mem} (x : Int32) : dW_isSetOfWords f x mem = some (nI (b2 (inb x 0 65535)), mem) := by unfold dW_isSetOfWords; rw [W_in, bd_ok, zb_b]
theorem W_isSheet {f : Nat} {mem : Mem} (x : Int32) : dW_isSheet f x mem = some (nI (b2 (inb x 0 3)), mem) := by unfold dW_isSheet; rw [W_in, bd_ok, zb_b]
theorem M_isKind {f : Nat} {mem : Mem} (x : Int32) : dM_isKind f x mem = some (nI (b2 (inb x 0 5)), mem) := by unfold dM_isKind; rw [M_in, bd_ok, zb_b]
theorem M_isRoom {f : Nat} {mem : Mem} (x : Int32) : dM_isRoom f x mem = some (nI (b2 (inb x 0 9)), mem) := by unfold dM_isRoom; rw [M_in, bd_ok, zb_b]
theorem M_isWord {f : Nat} {mem : Mem} (x : Int32) : dM_isWordOf f x mem = some (nI (b2 (inb x 0 15)), mem) := by unfold dM_isWordOf; rw [M_in, bd_ok, zb_b]
theorem M_isSheet {f : Nat} {mem : Mem} (x : Int32) : dM_isSheet f x mem = some (nI (b2 (inb x 0 3)), mem) := by unfold dM_isSheet; rw [M_in, bd_ok, zb_b]
theorem inb_t {x l : Int32} {a n : Nat} (hl : l = nI a) (ha : a < 2 ^ 31) (hn : n < 2 ^ 31) (h : inb x l (nI n) = true) : ∃ k, a ≤ k ∧ k ≤ n ∧ x = nI k := by
  unfold inb at h
  rw [Bool.and_eq_true] at h
  have h1 := of_decide_eq_true h.1
  have h2 := of_decide_eq_true h.2
  subst hl
  have h0 : ¬ x < 0 := by
    have := nI_pos' ha
    exact Int32.not_lt.mpr (Int32.le_trans this h1)
  obtain ⟨k, hk, rfl⟩ := nb_in hn h0 (Int32.not_lt.mpr h2)
  exact ⟨k, (nb_le ha (by omega)).mp h1, hk, rfl⟩
theorem inb_n {k a n : Nat} (hk : k < 2 ^ 31) (ha : a < 2 ^ 31) (hn : n < 2 ^ 31) : inb (nI k) (nI a) (nI n) = (decide (a ≤ k) && decide (k ≤ n)) := by
  unfold inb
  rw [decide_eq_decide.mpr (nb_le ha hk), decide_eq_decide.mpr (nb_le hk hn)]
theorem sub1 {n : Nat} (h : 1 ≤ n) : nI n - 1 = nI (n - 1) := nb_sub (a := n) (b := 1) h
/-- is it a WALL: there are ct of them -/
def isW (S : PS) (x : Int32) : Bool := inb x 0 (nI (ct S) - 1)
theorem isW_t {S : PS} {x : Int32} (hi : IV S) (h : isW S x = true) : ∃ w, w < ct S ∧ x = nI w := by
  have hct : ct S ≤ 10 := hi.2.2.2.2.2.2.2.1
  unfold isW at h
  by_cases c : ct S = 0
  · rw [c] at h
    unfold inb at h
    rw [Bool.and_eq_true] at h
    have h1 := of_decide_eq_true h.1
    have h2 := of_decide_eq_true h.2
    have := Int32.le_trans h1 h2
    exact absurd this (by decide)
  · rw [sub1 (by omega)] at h
    obtain ⟨k, -, h2, e⟩ := inb_t (a := 0) rfl (by omega) (by omega) h
    exact ⟨k, by omega, e⟩
theorem W_isWall {f : Nat} {mem : Mem} {S : PS} (h : RC mem 0 S) (x : Int32) : dW_isWall f x mem = some (nI (b2 (isW S x)), mem) := by
  unfold dW_isWall isW
  rw [W_in, bd_ok, zb_b, h.2.2.1]
theorem M_isOne {f : Nat} {mem : Mem} {S : PS} (h : RM mem S) (x : Int32) : dM_isOne f x mem = some (nI (b2 (isW S x)), mem) := by
  unfold dM_isOne isW
  rw [M_in, bd_ok, zb_b, h.2.2.1]
theorem W_find {f k : Nat} {mem : Mem} {c : Int32} (hk : k < 7) (hc : (-1000000001 : Int32) - c = nI k) : dW_finding f c mem = some (c, sI mem 10 0 k (gI mem 10 0 k + 1)) := by
  unfold dW_finding
  have e : inb (nI k) 0 6 = true := (inb_n (k := k) (a := 0) (n := 6) (by omega) (by omega) (by omega)).trans (by rw [decide_eq_true (by omega), decide_eq_true (by omega)]; rfl)
  rw [hc, W_in, bd_ok, e, ifz_t, ck_in _ hk (by omega), ck_in _ hk (by omega), nI_clamp (by omega)]
theorem M_find {f k : Nat} {mem : Mem} {c : Int32} (hk : k < 7) (hc : (-1000000001 : Int32) - c = nI k) : dM_finds f c mem = some (c, sI mem 14 0 k (gI mem 14 0 k + 1)) := by
  unfold dM_finds
  rw [hc, ck_in _ hk (by omega), ck_in _ hk (by omega), nI_clamp (by omega)]
def fdB (t _i _j : Nat) : Bool := decide (t = 10 ∨ t = 14)
theorem notPal {p t i j : Nat} (h : palZ p t i j = true) : t = 1 ∨ t = 2 ∨ t = 4 := by
  have := of_decide_eq_true h
  omega
theorem find_ca {f k : Nat} {c : Int32} {A B : Mem → Option (Int32 × Mem)} {mem : Mem} (hI : INV mem) (hk : k < 7) (hc : (-1000000001 : Int32) - c = nI k)
    (hA : A mem = bd (dW_finding f c mem) (fun r m => some (r, m))) (hB : ∀ m, Fz (rowZ 10) mem m → B m = bd (dM_finds f c m) (fun r m => some (r, m))) : CA A B mem := by
  obtain ⟨S, hC, hM, hi, hm, hS, hT, hF, hK⟩ := hI
  have f1 : Fz (rowZ 10) mem (sI mem 10 0 k (gI mem 10 0 k + 1)) := Fz_sI rfl
  refine ⟨c, _, _, by rw [hA, W_find hk hc, bd_ok], by rw [hB _ f1, M_find hk hc, bd_ok], ?_⟩
  have f2 : Fz fdB mem (sI (sI mem 10 0 k (gI mem 10 0 k + 1)) 14 0 k (gI (sI mem 10 0 k (gI mem 10 0 k + 1)) 14 0 k + 1)) := Fz_tr (Fz_sI rfl) (Fz_sI rfl)
  refine ⟨S, RC_fz hC hi.2.2.2.2.2.2.2.1 f2 (fun t i j h => ?_), RK_fz (t := 13) hM f2 (fun _ => rfl), hi, hm, ?_, ?_, ?_, ?_⟩
  · have := notPal h
    unfold fdB
    exact decide_eq_false (by omega)
  · exact fun s hs => SH1_fz (hS s hs) f2 hs (fun _ => rfl) (fun _ => rfl) rfl rfl (fun _ _ => rfl)
  · obtain ⟨n, h1, h2, h3, h4⟩ := hT
    exact ⟨n, h1, h2, h3, h4⟩
  · intro k' hk'
    simp only [gI_sI]
    by_cases e : k' = k
    · subst e
      simp [hF k' hk']
    · simp [e, hF k' hk']
  · refine KP_fz hK f2 rfl rfl (fun t i j h => ?_) (fun _ => rfl)
    have := notPal h
    unfold fdB
    exact decide_eq_false (by omega)
/-- an answer, both palaces moved alike -/
theorem ans_ca {A B : Mem → Option (Int32 × Mem)} {mem : Mem} {r : Int32} {m1 m2 : Mem} (hA : A mem = some (r, m1)) (hB : B m1 = some (r, m2)) (hI : INV m2) : CA A B mem := ⟨r, m1, m2, hA, hB, hI⟩
theorem RM_10 {mem m : Mem} {S : PS} (h : RM mem S) (fx : Fz (rowZ 10) mem m) : RM m S := RK_fz (t := 13) h fx (fun _ => rfl)
theorem find_B {f : Nat} {A B : Mem → Option (Int32 × Mem)} {mem : Mem} (hI : INV mem) (hA : A mem = bd (dW_finding f (-1000000001 : Int32) mem) (fun r m => some (r, m))) (hB : ∀ m, Fz (rowZ 10) mem m → B m = bd (dM_finds f (-1000000001 : Int32) m) (fun r m => some (r, m))) : CA A B mem := find_ca (k := 0) hI (by decide) (by decide) hA hB
theorem find_F {f : Nat} {A B : Mem → Option (Int32 × Mem)} {mem : Mem} (hI : INV mem) (hA : A mem = bd (dW_finding f (-1000000002 : Int32) mem) (fun r m => some (r, m))) (hB : ∀ m, Fz (rowZ 10) mem m → B m = bd (dM_finds f (-1000000002 : Int32) m) (fun r m => some (r, m))) : CA A B mem := find_ca (k := 1) hI (by decide) (by decide) hA hB
theorem find_K {f : Nat} {A B : Mem → Option (Int32 × Mem)} {mem : Mem} (hI : INV mem) (hA : A mem = bd (dW_finding f (-1000000003 : Int32) mem) (fun r m => some (r, m))) (hB : ∀ m, Fz (rowZ 10) mem m → B m = bd (dM_finds f (-1000000003 : Int32) m) (fun r m => some (r, m))) : CA A B mem := find_ca (k := 2) hI (by decide) (by decide) hA hB
theorem find_N {f : Nat} {A B : Mem → Option (Int32 × Mem)} {mem : Mem} (hI : INV mem) (hA : A mem = bd (dW_finding f (-1000000004 : Int32) mem) (fun r m => some (r, m))) (hB : ∀ m, Fz (rowZ 10) mem m → B m = bd (dM_finds f (-1000000004 : Int32) m) (fun r m => some (r, m))) : CA A B mem := find_ca (k := 3) hI (by decide) (by decide) hA hB
theorem find_S {f : Nat} {A B : Mem → Option (Int32 × Mem)} {mem : Mem} (hI : INV mem) (hA : A mem = bd (dW_finding f (-1000000005 : Int32) mem) (fun r m => some (r, m))) (hB : ∀ m, Fz (rowZ 10) mem m → B m = bd (dM_finds f (-1000000005 : Int32) m) (fun r m => some (r, m))) : CA A B mem := find_ca (k := 4) hI (by decide) (by decide) hA hB
theorem find_M {f : Nat} {A B : Mem → Option (Int32 × Mem)} {mem : Mem} (hI : INV mem) (hA : A mem = bd (dW_finding f (-1000000006 : Int32) mem) (fun r m => some (r, m))) (hB : ∀ m, Fz (rowZ 10) mem m → B m = bd (dM_finds f (-1000000006 : Int32) m) (fun r m => some (r, m))) : CA A B mem := find_ca (k := 5) hI (by decide) (by decide) hA hB
theorem find_Z {f : Nat} {A B : Mem → Option (Int32 × Mem)} {mem : Mem} (hI : INV mem) (hA : A mem = bd (dW_finding f (-1000000007 : Int32) mem) (fun r m => some (r, m))) (hB : ∀ m, Fz (rowZ 10) mem m → B m = bd (dM_finds f (-1000000007 : Int32) m) (fun r m => some (r, m))) : CA A B mem := find_ca (k := 6) hI (by decide) (by decide) hA hB
