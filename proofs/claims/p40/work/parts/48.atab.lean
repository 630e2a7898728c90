/-! How many bits: the table. -/
def bcN (a : Nat) : Nat :=
  (fun e => ((fun g => g + g >>> 16) e) &&& 63) ((fun d => d + d >>> 8) ((fun c => (c + c >>> 4) &&& 252645135) ((fun b => (b &&& 858993459) + (b >>> 2 &&& 858993459)) (a - (a >>> 1 &&& 1431655765)))))
def chkB (P : Nat → Bool) (lo : Nat) : Nat → Bool
  | 0 => P lo
  | k + 1 => chkB P lo k && chkB P (lo + 2 ^ k) k
theorem chkB_ok {P : Nat → Bool} : ∀ {k lo : Nat}, chkB P lo k = true → ∀ a, lo ≤ a → a < lo + 2 ^ k → P a = true
  | 0, lo, h, a, h1, h2 => by
    have : a = lo := by omega
    rw [this]
    exact h
  | k + 1, lo, h, a, h1, h2 => by
    rw [chkB, Bool.and_eq_true] at h
    have e : 2 ^ (k + 1) = 2 ^ k + 2 ^ k := by rw [Nat.pow_succ]; omega
    by_cases c : a < lo + 2 ^ k
    · exact chkB_ok h.1 a h1 c
    · exact chkB_ok h.2 a (by omega) (by omega)
def bcP (a : Nat) : Bool := (bcN a == a % 2 + bcN (a / 2)) && (a == 0 || bcN (a &&& (a - 1)) + 1 == bcN a)
theorem bcP_tab : chkB bcP 0 16 = true := by decide +kernel
