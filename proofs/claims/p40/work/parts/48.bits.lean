/-! How many bits: both sides. -/
theorem bc_half {a : Nat} (h : a < 65536) : bcN a = a % 2 + bcN (a / 2) := by
  have := chkB_ok bcP_tab a (by omega) (by omega)
  unfold bcP at this
  rw [Bool.and_eq_true] at this
  exact eq_of_beq this.1
theorem bc_drop {a : Nat} (h : a < 65536) (h0 : a ≠ 0) : bcN (a &&& (a - 1)) + 1 = bcN a := by
  have := chkB_ok bcP_tab a (by omega) (by omega)
  unfold bcP at this
  rw [Bool.and_eq_true, Bool.or_eq_true] at this
  rcases this.2 with q | q
  · exact absurd (eq_of_beq q) h0
  · exact eq_of_beq q
theorem bc_zero : bcN 0 = 0 := by decide
theorem bc_le : ∀ (n a : Nat), n ≤ 16 → a < 2 ^ n → bcN a ≤ n
  | 0, a, _, h => by
    have : a = 0 := by omega
    rw [this, bc_zero]
    exact Nat.le_refl _
  | n + 1, a, hn, h => by
    have e : 2 ^ (n + 1) = 2 ^ n + 2 ^ n := by rw [Nat.pow_succ]; omega
    have h16 : 2 ^ (n + 1) ≤ 2 ^ 16 := Nat.pow_le_pow_right (by decide) hn
    have := bc_le n (a / 2) (by omega) (by omega)
    rw [bc_half (by omega)]
    omega
/-- a part of a set has fewer -/
theorem bc_part : ∀ (n a b : Nat), n ≤ 16 → b < 2 ^ n → a &&& b = a → a ≠ b → bcN a < bcN b
  | 0, a, b, _, hb, h, hne => by
    have e : b = 0 := by omega
    subst e
    rw [Nat.and_zero] at h
    exact absurd h.symm hne
  | n + 1, a, b, hn, hb, h, hne => by
    have e : 2 ^ (n + 1) = 2 ^ n + 2 ^ n := by rw [Nat.pow_succ]; omega
    have h16 : 2 ^ (n + 1) ≤ 2 ^ 16 := Nat.pow_le_pow_right (by decide) hn
    have hab : a ≤ b := by rw [← h]; exact Nat.and_le_right
    have h2 : a / 2 &&& b / 2 = a / 2 := by rw [← Nat.and_div_two, h]
    have h3 : a % 2 &&& b % 2 = a % 2 := by
      have this : (a &&& b) % 2 ^ 1 = a % 2 := by rw [h]
      rw [Nat.and_mod_two_pow] at this
      exact this
    have m1 : a % 2 < 2 := Nat.mod_lt _ (by decide)
    have m2 : b % 2 < 2 := Nat.mod_lt _ (by decide)
    have m3 : a % 2 ≤ b % 2 := by rw [← h3]; exact Nat.and_le_right
    rw [bc_half (a := a) (by omega), bc_half (a := b) (by omega)]
    by_cases c : a / 2 = b / 2
    · rw [c]
      omega
    · have := bc_part n (a / 2) (b / 2) (by omega) (by omega) h2 c
      omega
theorem nb_usl : ∀ k, k < 32 → (nI k &&& 31).toUInt32 = UInt32.ofNat k := by decide +kernel
theorem nb_ushr {n k : Nat} (hn : n < 2 ^ 31) (hk : k < 32) : ((nI n).toUInt32 >>> (nI k &&& 31).toUInt32).toInt32 = nI (n >>> k) := by
  rw [nb_usl k hk]
  have e : (nI n).toUInt32 = UInt32.ofNat n := rfl
  have e2 : UInt32.ofNat n >>> UInt32.ofNat k = UInt32.ofNat (n >>> k) := by
    apply UInt32.toNat_inj.mp
    have h1 : n >>> k ≤ n := Nat.shiftRight_le n k
    rw [UInt32.toNat_shiftRight, UInt32.toNat_ofNat', UInt32.toNat_ofNat', UInt32.toNat_ofNat', Nat.mod_eq_of_lt (a := n) (by omega), Nat.mod_eq_of_lt (a := k) (by omega), Nat.mod_eq_of_lt (a := k) (by omega), Nat.mod_eq_of_lt (a := n >>> k) (by omega)]
  rw [e, e2]
  rfl
theorem bcC_ok {f a : Nat} {mem : Mem} (h : a < 65536) : dJInt_bitCount f (nI a) mem = some (nI (bcN a), mem) := by
  have u1 : ∀ n, n < 2 ^ 31 → ((nI n).toUInt32 >>> ((1 : Int32) &&& 31).toUInt32).toInt32 = nI (n >>> 1) := fun n hn => nb_ushr (k := 1) hn (by decide)
  have u2 : ∀ n, n < 2 ^ 31 → ((nI n).toUInt32 >>> ((2 : Int32) &&& 31).toUInt32).toInt32 = nI (n >>> 2) := fun n hn => nb_ushr (k := 2) hn (by decide)
  have u4 : ∀ n, n < 2 ^ 31 → ((nI n).toUInt32 >>> ((4 : Int32) &&& 31).toUInt32).toInt32 = nI (n >>> 4) := fun n hn => nb_ushr (k := 4) hn (by decide)
  have u8 : ∀ n, n < 2 ^ 31 → ((nI n).toUInt32 >>> ((8 : Int32) &&& 31).toUInt32).toInt32 = nI (n >>> 8) := fun n hn => nb_ushr (k := 8) hn (by decide)
  have u16 : ∀ n, n < 2 ^ 31 → ((nI n).toUInt32 >>> ((16 : Int32) &&& 31).toUInt32).toInt32 = nI (n >>> 16) := fun n hn => nb_ushr (k := 16) hn (by decide)
  have a1 : ∀ n, nI n &&& (1431655765 : Int32) = nI (n &&& 1431655765) := fun n => nb_and n 1431655765
  have a2 : ∀ n, nI n &&& (858993459 : Int32) = nI (n &&& 858993459) := fun n => nb_and n 858993459
  have a3 : ∀ n, nI n &&& (252645135 : Int32) = nI (n &&& 252645135) := fun n => nb_and n 252645135
  have a4 : ∀ n, nI n &&& (63 : Int32) = nI (n &&& 63) := fun n => nb_and n 63
  unfold dJInt_bitCount
  have l1 : a >>> 1 &&& 1431655765 ≤ a := Nat.le_trans Nat.and_le_left (Nat.shiftRight_le a 1)
  have e1 : nI a - (((nI a).toUInt32 >>> ((1 : Int32) &&& 31).toUInt32).toInt32 &&& (1431655765 : Int32)) = nI (a - (a >>> 1 &&& 1431655765)) := by
    rw [u1 a (by omega), a1, nb_sub l1]
  rw [e1]
  have hb : a - (a >>> 1 &&& 1431655765) ≤ a := by omega
  unfold bcN
  generalize a - (a >>> 1 &&& 1431655765) = b at hb
  have l2 : b >>> 2 &&& 858993459 ≤ b := Nat.le_trans Nat.and_le_left (Nat.shiftRight_le b 2)
  have l3 : b &&& 858993459 ≤ b := Nat.and_le_left
  have e2 : (nI b &&& (858993459 : Int32)) + (((nI b).toUInt32 >>> ((2 : Int32) &&& 31).toUInt32).toInt32 &&& (858993459 : Int32)) = nI ((b &&& 858993459) + (b >>> 2 &&& 858993459)) := by
    rw [u2 b (by omega), a2, a2, nb_add]
  rw [e2]
  have hc : (b &&& 858993459) + (b >>> 2 &&& 858993459) ≤ 200000 := by omega
  simp only
  generalize (b &&& 858993459) + (b >>> 2 &&& 858993459) = c at hc
  have l4 : c >>> 4 ≤ c := Nat.shiftRight_le c 4
  have e3 : (nI c + ((nI c).toUInt32 >>> ((4 : Int32) &&& 31).toUInt32).toInt32) &&& (252645135 : Int32) = nI ((c + c >>> 4) &&& 252645135) := by
    rw [u4 c (by omega), nb_add, a3]
  rw [e3]
  have hd : (c + c >>> 4) &&& 252645135 ≤ 400000 := Nat.le_trans Nat.and_le_left (by omega)
  generalize (c + c >>> 4) &&& 252645135 = d at hd
  have l5 : d >>> 8 ≤ d := Nat.shiftRight_le d 8
  have e4 : nI d + ((nI d).toUInt32 >>> ((8 : Int32) &&& 31).toUInt32).toInt32 = nI (d + d >>> 8) := by
    rw [u8 d (by omega), nb_add]
  rw [e4]
  have he : d + d >>> 8 ≤ 800000 := by omega
  generalize d + d >>> 8 = g at he
  have e5 : nI g + ((nI g).toUInt32 >>> ((16 : Int32) &&& 31).toUInt32).toInt32 = nI (g + g >>> 16) := by
    rw [u16 g (by omega), nb_add]
  rw [e5, a4]
