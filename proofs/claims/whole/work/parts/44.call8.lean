/-! draw -/
theorem got_c (x : Int32) : ((Int32.toUInt32 x >>> (Int32.toUInt32 (16 : Int32) &&& Int32.toUInt32 31)).toInt32) &&& (255 : Int32) = nI (x.toBitVec.toNat / 65536 % 256) := by
  apply Int32.toBitVec_inj.mp
  apply BitVec.eq_of_toNat_eq
  rw [Int32.toBitVec_and, BitVec.toNat_and]
  have e : ((Int32.toUInt32 x >>> (Int32.toUInt32 (16 : Int32) &&& Int32.toUInt32 31)).toInt32).toBitVec = x.toBitVec >>> 16 := by
    show (x.toUInt32 >>> (16 : UInt32)).toBitVec = _
    rw [UInt32.toBitVec_shiftRight]
    rfl
  rw [e, BitVec.toNat_ushiftRight]
  show x.toBitVec.toNat >>> 16 &&& 255 = (nI (x.toBitVec.toNat / 65536 % 256)).toBitVec.toNat
  have e2 : (nI (x.toBitVec.toNat / 65536 % 256)).toBitVec.toNat = x.toBitVec.toNat / 65536 % 256 := by
    show (BitVec.ofNat 32 (x.toBitVec.toNat / 65536 % 256)).toNat = _
    rw [BitVec.toNat_ofNat]
    exact Nat.mod_eq_of_lt (by omega)
  rw [e2, Nat.shiftRight_eq_div_pow]
  exact Nat.and_two_pow_sub_one_eq_mod _ 8
theorem got_m (x : Int32) : (x >>> ((16 : Int32) &&& 31)) &&& (32767 : Int32) = nI (x.toBitVec.toNat / 65536 % 32768) := by
  apply Int32.toBitVec_inj.mp
  have e : (x >>> ((16 : Int32) &&& 31)).toBitVec = x.toBitVec.sshiftRight 16 := by
    rw [Int32.toBitVec_shiftRight]
    rfl
  rw [Int32.toBitVec_and, e]
  have e3 : x.toBitVec.sshiftRight 16 &&& (32767 : Int32).toBitVec = (x.toBitVec >>> 16) &&& 32767#32 := by
    apply BitVec.eq_of_getLsbD_eq
    intro i hi
    rw [BitVec.getLsbD_and, BitVec.getLsbD_and, BitVec.getLsbD_sshiftRight, BitVec.getLsbD_ushiftRight]
    by_cases h : i < 15
    · have h1 : decide (32 ≤ i) = false := by simp; omega
      have h2 : 16 + i < 32 := by omega
      simp only [h1, h2, Bool.not_false, Bool.true_and, if_true]
      rfl
    · have h1 : BitVec.getLsbD 32767#32 i = false := by
        have : i = 15 ∨ i = 16 ∨ i = 17 ∨ i = 18 ∨ i = 19 ∨ i = 20 ∨ i = 21 ∨ i = 22 ∨ i = 23 ∨ i = 24 ∨ i = 25 ∨ i = 26 ∨ i = 27 ∨ i = 28 ∨ i = 29 ∨ i = 30 ∨ i = 31 := by omega
        rcases this with rfl | rfl | rfl | rfl | rfl | rfl | rfl | rfl | rfl | rfl | rfl | rfl | rfl | rfl | rfl | rfl | rfl <;> decide
      have h2 : (32767 : Int32).toBitVec = 32767#32 := rfl
      rw [h2, h1, Bool.and_false, Bool.and_false]
  rw [e3]
  apply BitVec.eq_of_toNat_eq
  rw [BitVec.toNat_and, BitVec.toNat_ushiftRight, Nat.shiftRight_eq_div_pow]
  have e2 : (nI (x.toBitVec.toNat / 65536 % 32768)).toBitVec.toNat = x.toBitVec.toNat / 65536 % 32768 := by
    show (BitVec.ofNat 32 (x.toBitVec.toNat / 65536 % 32768)).toNat = _
    rw [BitVec.toNat_ofNat]
    exact Nat.mod_eq_of_lt (by omega)
  rw [e2]
  exact Nat.and_two_pow_sub_one_eq_mod _ 15
theorem nI_and {a b : Nat} : nI a &&& nI b = nI ((a % 2 ^ 32) &&& (b % 2 ^ 32)) := by
  apply Int32.toBitVec_inj.mp
  rw [Int32.toBitVec_and]
  apply BitVec.eq_of_toNat_eq
  rw [BitVec.toNat_and]
  show (BitVec.ofNat 32 a).toNat &&& (BitVec.ofNat 32 b).toNat = (BitVec.ofNat 32 _).toNat
  rw [BitVec.toNat_ofNat, BitVec.toNat_ofNat, BitVec.toNat_ofNat]
  exact (Nat.mod_eq_of_lt (Nat.and_lt_two_pow _ (Nat.mod_lt _ (by decide)))).symm
