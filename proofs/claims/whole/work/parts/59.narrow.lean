/-! Narrow numbers of sheets. -/
theorem nar8 (v : Int64) : ((v <<< ((56 : Int32).toInt64 &&& 63)) >>> ((56 : Int32).toInt64 &&& 63)) = v.toInt32.toInt8.toInt32.toInt64 := by
  apply Int64.toBitVec_inj.mp
  have e : ((56 : Int32).toInt64 &&& 63) = 56 := by decide
  rw [e]
  show (v.toBitVec <<< ((56 : Int64).toBitVec.smod 64)).sshiftRight' ((56 : Int64).toBitVec.smod 64) = (((v.toBitVec.signExtend 32).signExtend 8).signExtend 32).signExtend 64
  have e2 : ((56 : Int64).toBitVec.smod 64).toNat = 56 := by decide
  rw [BitVec.sshiftRight_eq', BitVec.shiftLeft_eq', e2]
  apply BitVec.eq_of_getLsbD_eq
  intro i hi
  have h1 : ¬ 64 ≤ i := by omega
  simp only [BitVec.getLsbD_sshiftRight, BitVec.getLsbD_shiftLeft, BitVec.getLsbD_signExtend, BitVec.msb_eq_getLsbD_last]
  by_cases c : i < 8
  · have h2 : 56 + i < 64 := by omega
    have h3 : ¬ 56 + i < 56 := by omega
    have h4 : 56 + i - 56 = i := by omega
    have h5 : i < 32 := by omega
    simp [h1, h2, h3, h4, h5, c, hi]
  · have h2 : ¬ 56 + i < 64 := by omega
    by_cases h5 : i < 32
    · simp [h1, h2, h5, c, hi]
    · simp [h1, h2, h5, c, hi]
theorem nar16 (v : Int64) : ((v <<< ((48 : Int32).toInt64 &&& 63)) >>> ((48 : Int32).toInt64 &&& 63)) = v.toInt32.toInt16.toInt32.toInt64 := by
  apply Int64.toBitVec_inj.mp
  have e : ((48 : Int32).toInt64 &&& 63) = 48 := by decide
  rw [e]
  show (v.toBitVec <<< ((48 : Int64).toBitVec.smod 64)).sshiftRight' ((48 : Int64).toBitVec.smod 64) = (((v.toBitVec.signExtend 32).signExtend 16).signExtend 32).signExtend 64
  have e2 : ((48 : Int64).toBitVec.smod 64).toNat = 48 := by decide
  rw [BitVec.sshiftRight_eq', BitVec.shiftLeft_eq', e2]
  apply BitVec.eq_of_getLsbD_eq
  intro i hi
  have h1 : ¬ 64 ≤ i := by omega
  simp only [BitVec.getLsbD_sshiftRight, BitVec.getLsbD_shiftLeft, BitVec.getLsbD_signExtend, BitVec.msb_eq_getLsbD_last]
  by_cases c : i < 16
  · have h2 : 48 + i < 64 := by omega
    have h3 : ¬ 48 + i < 48 := by omega
    have h4 : 48 + i - 48 = i := by omega
    have h5 : i < 32 := by omega
    simp [h1, h2, h3, h4, h5, c, hi]
  · have h2 : ¬ 48 + i < 64 := by omega
    by_cases h5 : i < 32
    · simp [h1, h2, h5, c, hi]
    · simp [h1, h2, h5, c, hi]
/-- what a sheet of b bits keeps of a number -/
def narF (b : Nat) (v : Int64) : Int64 := if b = 8 then v.toInt32.toInt8.toInt32.toInt64 else if b = 16 then v.toInt32.toInt16.toInt32.toInt64 else v
theorem narM_ok {f b : Nat} {v : Int64} {mem : Mem} (hb : b < 100) : dM_narrow f (nI b) v mem = some (narF b v, mem) := by
  have k8 : nI b = 8 ↔ b = 8 := nb_inj (b := 8) (by omega) (by omega)
  have k16 : nI b = 16 ↔ b = 16 := nb_inj (b := 16) (by omega) (by omega)
  unfold dM_narrow narF
  rw [nar8, nar16]
  by_cases c8 : b = 8
  · rw [if_pos (k8.mpr c8), if_pos c8]
  rw [if_neg (fun z => c8 (k8.mp z)), if_neg c8]
  by_cases c16 : b = 16
  · rw [if_pos (k16.mpr c16), if_pos c16]
  rw [if_neg (fun z => c16 (k16.mp z)), if_neg c16]
theorem putC_ok {f b s i : Nat} {v : Int64} {mem : Mem} (hb : b < 100) (h : gI mem 8 s 0 = nI b) (hi : i < 40) : dS_put f s (nI i) v mem = some ((), sL mem 9 s i (narF b v)) := by
  have k8 : nI b = 8 ↔ b = 8 := nb_inj (b := 8) (by omega) (by omega)
  have k16 : nI b = 16 ↔ b = 16 := nb_inj (b := 16) (by omega) (by omega)
  unfold dS_put narF
  rw [h, ck_in _ hi (by omega), ck_in _ hi (by omega), ck_in _ hi (by omega), nI_clamp (by omega)]
  by_cases c8 : b = 8
  · rw [if_pos (k8.mpr c8), if_pos c8]
  rw [if_neg (fun z => c8 (k8.mp z)), if_neg c8]
  by_cases c16 : b = 16
  · rw [if_pos (k16.mpr c16), if_pos c16]
  rw [if_neg (fun z => c16 (k16.mp z)), if_neg c16]
theorem nar_0 (b : Nat) : narF b 0 = 0 := by unfold narF; split <;> (try split) <;> decide
theorem nar_1 (b : Nat) : narF b 1 = 1 := by unfold narF; split <;> (try split) <;> decide
