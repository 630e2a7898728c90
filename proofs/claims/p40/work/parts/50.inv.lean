/-! THE INVARIANT of the law's loop: one palace behind both sides; what else is alike. -/
def inb (x l h : Int32) : Bool := decide (l ≤ x) && decide (x ≤ h)
theorem W_in {f : Nat} {mem : Mem} (x l h : Int32) : dW_isIn f x l h mem = some (nI (b2 (inb x l h)), mem) := by
  unfold dW_isIn inb
  by_cases c : x < l
  · rw [if_pos c, decide_eq_false (Int32.not_le.mpr c)]
    rfl
  · rw [if_neg c, decide_eq_true (Int32.not_lt.mp c)]
    by_cases d : h < x
    · rw [if_pos d, decide_eq_false (Int32.not_le.mpr d)]
      rfl
    · rw [if_neg d, decide_eq_true (Int32.not_lt.mp d)]
      rfl
theorem zb_b {α : Type} (b : Bool) (A : Option α) : zb (nI (b2 b)) A = A := by cases b <;> rfl
theorem W_isKind {f : Nat} {mem : Mem} (x : Int32) : dW_isKind f x mem = some (nI (b2 (inb x 0 5)), mem) := by unfold dW_isKind; rw [W_in, bd_ok, zb_b]
theorem W_isRoom {f : Nat} {mem : Mem} (x : Int32) : dW_isRoom f x mem = some (nI (b2 (inb x 0 9)), mem) := by unfold dW_isRoom; rw [W_in, bd_ok, zb_b]
theorem W_isWord {f : Nat} {mem : Mem} (x : Int32) : dW_isWord f x mem = some (nI (b2 (inb x 0 15)), mem) := by unfold dW_isWord; rw [W_in, bd_ok, zb_b]
theorem W_isSet {f : Nat} {mem : Mem} (x : Int32) : dW_isSetOfWords f x mem = some (nI (b2 (inb x 0 65535)), mem) := by unfold dW_isSetOfWords; rw [W_in, bd_ok, zb_b]
theorem inb_t {x l : Int32} {a n : Nat} (hl : l = nI a) (ha : a < 2 ^ 31) (hn : n < 2 ^ 31) (h : inb x l (nI n) = true) : ∃ k, a ≤ k ∧ k ≤ n ∧ x = nI k := by
  unfold inb at h
  rw [Bool.and_eq_true] at h
  have h1 := of_decide_eq_true h.1
  have h2 := of_decide_eq_true h.2
  subst hl
  have h0 : ¬ x < 0 := by
    have := nI_pos' ha
    exact Int32.not_lt.mpr (Int32.le_trans this h1)
  obtain ⟨k, hk, rfl⟩ := nb_in hn h0 (Int32.not_lt.mpr h2)
  exact ⟨k, (nb_le ha (by omega)).mp h1, hk, rfl⟩
theorem inb_n {k a n : Nat} (hk : k < 2 ^ 31) (ha : a < 2 ^ 31) (hn : n < 2 ^ 31) : inb (nI k) (nI a) (nI n) = (decide (a ≤ k) && decide (k ≤ n)) := by
  unfold inb
  rw [decide_eq_decide.mpr (nb_le ha hk), decide_eq_decide.mpr (nb_le hk hn)]
theorem sub1 {n : Nat} (h : 1 ≤ n) : nI n - 1 = nI (n - 1) := nb_sub (a := n) (b := 1) h
/-- is it a WALL: there are ct of them -/
def isW (S : PS) (x : Int32) : Bool := inb x 0 (nI (ct S) - 1)
theorem isW_t {S : PS} {x : Int32} (hi : IV S) (h : isW S x = true) : ∃ w, w < ct S ∧ x = nI w := by
  have hct : ct S ≤ 10 := hi.2.2.2.2.2.2.2.1
  unfold isW at h
  by_cases c : ct S = 0
  · rw [c] at h
    unfold inb at h
    rw [Bool.and_eq_true] at h
    have h1 := of_decide_eq_true h.1
    have h2 := of_decide_eq_true h.2
    have := Int32.le_trans h1 h2
    exact absurd this (by decide)
  · rw [sub1 (by omega)] at h
    obtain ⟨k, -, h2, e⟩ := inb_t (a := 0) rfl (by omega) (by omega) h
    exact ⟨k, by omega, e⟩
theorem W_isWall {f : Nat} {mem : Mem} {S : PS} (h : RC mem 0 S) (x : Int32) : dW_isWall f x mem = some (nI (b2 (isW S x)), mem) := by
  unfold dW_isWall isW
  rw [W_in, bd_ok, zb_b, h.2.2.1]
theorem W_find {f k : Nat} {mem : Mem} {c : Int32} (hk : k < 7) (hc : (-1000000001 : Int32) - c = nI k) : dW_finding f c mem = some (c, sI mem 10 0 k (gI mem 10 0 k + 1)) := by
  unfold dW_finding
  have e : inb (nI k) 0 6 = true := (inb_n (k := k) (a := 0) (n := 6) (by omega) (by omega) (by omega)).trans (by rw [decide_eq_true (by omega), decide_eq_true (by omega)]; rfl)
  rw [hc, W_in, bd_ok, e, ifz_t, ck_in _ hk (by omega), ck_in _ hk (by omega), nI_clamp (by omega)]
theorem notPal {p t i j : Nat} (h : palZ p t i j = true) : t = 1 ∨ t = 2 ∨ t = 4 := by
  have := of_decide_eq_true h
  omega
theorem RM_10 {mem m : Mem} {S : PS} (h : RM mem S) (fx : Fz (rowZ 10) mem m) : RM m S := RK_fz (t := 13) h fx (fun _ => rfl)
