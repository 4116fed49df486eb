/-! bits of small sets -/
theorem i32_bv (a : Nat) : (Int32.ofInt (a : Int)).toBitVec = BitVec.ofNat 32 a := by
  show BitVec.ofInt 32 (a : Int) = _
  exact BitVec.ofInt_natCast 32 a
theorem iand_nat {a b : Nat} (ha : a < 2147483648) (hb : b < 2147483648) : iand a b = ((a &&& b : Nat) : Int) := by
  unfold iand
  rw [show (Int32.ofInt (a : Int) &&& Int32.ofInt (b : Int)).toInt = ((Int32.ofInt (a : Int)).toBitVec &&& (Int32.ofInt (b : Int)).toBitVec).toInt from rfl, i32_bv, i32_bv]
  have h1 : a &&& b < 2147483648 := Nat.lt_of_le_of_lt Nat.and_le_left ha
  rw [BitVec.toInt_eq_toNat_of_lt] <;> rw [BitVec.toNat_and, BitVec.toNat_ofNat, BitVec.toNat_ofNat, Nat.mod_eq_of_lt (by omega), Nat.mod_eq_of_lt (by omega)]
  omega
theorem ior_nat {a b : Nat} (ha : a < 2147483648) (hb : b < 2147483648) : ior a b = ((a ||| b : Nat) : Int) := by
  unfold ior
  rw [show (Int32.ofInt (a : Int) ||| Int32.ofInt (b : Int)).toInt = ((Int32.ofInt (a : Int)).toBitVec ||| (Int32.ofInt (b : Int)).toBitVec).toInt from rfl, i32_bv, i32_bv]
  have h1 : a ||| b < 2 ^ 31 := Nat.or_lt_two_pow ha hb
  rw [BitVec.toInt_eq_toNat_of_lt] <;> rw [BitVec.toNat_or, BitVec.toNat_ofNat, BitVec.toNat_ofNat, Nat.mod_eq_of_lt (by omega), Nat.mod_eq_of_lt (by omega)]
  omega
theorem ixor_nat {a b : Nat} (ha : a < 2147483648) (hb : b < 2147483648) : ixor a b = ((a ^^^ b : Nat) : Int) := by
  unfold ixor
  rw [show (Int32.ofInt (a : Int) ^^^ Int32.ofInt (b : Int)).toInt = ((Int32.ofInt (a : Int)).toBitVec ^^^ (Int32.ofInt (b : Int)).toBitVec).toInt from rfl, i32_bv, i32_bv]
  have h1 : a ^^^ b < 2 ^ 31 := Nat.xor_lt_two_pow ha hb
  rw [BitVec.toInt_eq_toNat_of_lt] <;> rw [BitVec.toNat_xor, BitVec.toNat_ofNat, BitVec.toNat_ofNat, Nat.mod_eq_of_lt (by omega), Nat.mod_eq_of_lt (by omega)]
  omega
theorem ishl_1 : ∀ p : Nat, p < 31 → ishl 1 p = ((2 ^ p : Nat) : Int) := by decide +kernel
theorem bit_I : ∀ s : Nat, s < 256 → ∀ p : Nat, p < 8 → iand (ishr s p) 1 = if s.testBit p then 1 else 0 := by decide +kernel
theorem drp_I : ∀ s : Nat, s < 256 → ∀ p : Nat, p < 8 → s.testBit p = true → iand s (ixor (ishl 1 p) (-1)) = ((s - 2 ^ p : Nat) : Int) := by decide +kernel
theorem sub_I : ∀ s : Nat, s < 256 → ∀ a : Nat, a < 256 → (iand s (ixor a (-1)) = 0 ↔ s &&& a = s) := by decide +kernel
