theorem sh_amt : ∀ i : Nat, i < 32 → ((Int32.ofInt (i : Int)) &&& 31).toBitVec.smod 32 = BitVec.ofNat 32 i := by decide +kernel
theorem ush_amt : ∀ i : Nat, i < 32 → ((Int32.ofInt (i : Int)).toUInt32 &&& Int32.toUInt32 31).toBitVec % 32#32 = BitVec.ofNat 32 i := by decide +kernel
theorem ishl_1 : ∀ i : Nat, i < 31 → ishl 1 i = ((2 ^ i : Nat) : Int) := by decide +kernel
theorem ishr_n {a i : Nat} (ha : a < 2147483648) (hi : i < 32) : ishr a i = ((a >>> i : Nat) : Int) := by
  have hle : a >>> i ≤ a := by rw [Nat.shiftRight_eq_div_pow]; exact Nat.div_le_self _ _
  have e : (Int32.ofInt a >>> (Int32.ofInt i &&& 31)).toBitVec.toNat = a >>> i := by
    rw [Int32.toBitVec_shiftRight, sh_amt i hi, nbv, BitVec.sshiftRight_eq', BitVec.sshiftRight_eq_of_msb_false, BitVec.toNat_ushiftRight, BitVec.toNat_ofNat, BitVec.toNat_ofNat, Nat.mod_eq_of_lt (by omega), Nat.mod_eq_of_lt (by omega)]
    rw [BitVec.msb_eq_decide, BitVec.toNat_ofNat, Nat.mod_eq_of_lt (by omega)]
    simp; omega
  unfold ishr
  rw [ntoI (by rw [e]; omega), e]
theorem iushr_n {a i : Nat} (ha : a < 2147483648) (hi : i < 32) : iushr a i = ((a >>> i : Nat) : Int) := by
  have hle : a >>> i ≤ a := by rw [Nat.shiftRight_eq_div_pow]; exact Nat.div_le_self _ _
  have e : ((Int32.ofInt a).toUInt32 >>> ((Int32.ofInt i).toUInt32 &&& Int32.toUInt32 31)).toInt32.toBitVec.toNat = a >>> i := by
    show ((Int32.ofInt a).toUInt32 >>> ((Int32.ofInt i).toUInt32 &&& Int32.toUInt32 31)).toBitVec.toNat = _
    rw [UInt32.toBitVec_shiftRight]
    have h1 : ((Int32.ofInt (i : Int)).toUInt32 &&& Int32.toUInt32 31).toBitVec % 32#32 = BitVec.ofNat 32 i := ush_amt i hi
    have h2 : (Int32.ofInt (a : Int)).toUInt32.toBitVec = BitVec.ofNat 32 a := nbv
    show ((Int32.ofInt (a : Int)).toUInt32.toBitVec >>> (((Int32.ofInt (i : Int)).toUInt32 &&& Int32.toUInt32 31).toBitVec % 32#32)).toNat = _
    rw [h1, h2, BitVec.ushiftRight_eq', BitVec.toNat_ushiftRight, BitVec.toNat_ofNat, BitVec.toNat_ofNat, Nat.mod_eq_of_lt (by omega), Nat.mod_eq_of_lt (by omega)]
  unfold iushr
  rw [ntoI (by rw [e]; omega), e]
/-- one bit, as both programs ask for it -/
theorem bit_shr {a i : Nat} (ha : a < 2147483648) (hi : i < 32) : iand (ishr a i) 1 = if a.testBit i then 1 else 0 := by
  have hle : a >>> i ≤ a := by rw [Nat.shiftRight_eq_div_pow]; exact Nat.div_le_self _ _
  rw [ishr_n ha hi, show (1 : Int) = ((1 : Nat) : Int) from rfl, iand_n (by omega) (by omega), Nat.and_one_is_mod, Nat.testBit_eq_decide_div_mod_eq, Nat.shiftRight_eq_div_pow]
  have := Nat.mod_two_eq_zero_or_one (a / 2 ^ i)
  rcases this with h | h <;> simp [h]
theorem bit_ushr {a i : Nat} (ha : a < 2147483648) (hi : i < 32) : iand (iushr a i) 1 = if a.testBit i then 1 else 0 := by
  rw [iushr_n ha hi, ← ishr_n ha hi, bit_shr ha hi]
theorem iand_m2 {a : Nat} (ha : a < 1000) : iand a (-2) = ((2 * (a / 2) : Nat) : Int) := by
  revert a; decide +kernel
theorem ior_1 {a : Nat} (ha : a < 1000) : ior a 1 = ((2 * (a / 2) + 1 : Nat) : Int) := by
  revert a; decide +kernel
/-- sets: numbers below 2 ^ 30, their bits -/
theorem tb_lt {a i : Nat} (ha : a < 1073741824) (h : a.testBit i = true) : i < 30 := by
  refine Decidable.byContradiction fun hn => ?_
  rw [Nat.testBit_lt_two_pow (show a < 2 ^ i from Nat.lt_of_lt_of_le (show a < 2 ^ 30 from ha) (Nat.pow_le_pow_right (by decide) (by omega)))] at h
  cases h
theorem or_lt {a b : Nat} (ha : a < 1073741824) (hb : b < 1073741824) : a ||| b < 1073741824 := Nat.or_lt_two_pow (n := 30) ha hb
theorem pow_lt30 {i : Nat} (h : i < 30) : 2 ^ i < 1073741824 := Nat.pow_lt_pow_right (by decide) h
theorem ior_z {a : Nat} (ha : a < 2147483648) : ior a 0 = a := by
  have := ior_n (a := a) (b := 0) ha (by decide)
  rw [Nat.or_zero] at this
  exact this
theorem ior_shl {a i : Nat} (ha : a < 1073741824) (hi : i < 30) : ior a (ishl 1 i) = ((a ||| 2 ^ i : Nat) : Int) := by
  have := pow_lt30 hi
  rw [ishl_1 i (by omega), ior_n (by omega) (by omega)]
theorem set_ext {a b : Nat} (ha : a < 1073741824) (hb : b < 1073741824) (h : ∀ i, i < 30 → a.testBit i = b.testBit i) : a = b := by
  refine Nat.eq_of_testBit_eq fun i => ?_
  by_cases hi : i < 30
  · exact h i hi
  · cases h1 : a.testBit i with
    | true => exact absurd (tb_lt ha h1) hi
    | false => cases h2 : b.testBit i with
      | true => exact absurd (tb_lt hb h2) hi
      | false => rfl
theorem tb_or_pow (a i j : Nat) : (a ||| 2 ^ i).testBit j = (a.testBit j || decide (i = j)) := by
  rw [Nat.testBit_or, Nat.testBit_two_pow]
