/-! bits: the machine's operations on numbers that are not below 0 -/
theorem o64_nat {a : Nat} (ha : a < 2 ^ 63) : (Int64.ofInt (a : Int)).toBitVec.toNat = a := by
  rw [show (Int64.ofInt (a : Int)).toBitVec = BitVec.ofInt 64 (a : Int) from rfl, BitVec.toNat_ofInt]
  omega
theorem t64_nat {z : Int64} {n : Nat} (h : z.toBitVec.toNat = n) (hn : n < 2 ^ 63) : z.toInt = n := by
  rw [show z.toInt = z.toBitVec.toInt from rfl, BitVec.toInt_eq_toNat_of_lt (by rw [h]; omega), h]
theorem o32_nat {a : Nat} (ha : a < 2 ^ 31) : (Int32.ofInt (a : Int)).toBitVec.toNat = a := by
  rw [show (Int32.ofInt (a : Int)).toBitVec = BitVec.ofInt 32 (a : Int) from rfl, BitVec.toNat_ofInt]
  omega
theorem t32_nat {z : Int32} {n : Nat} (h : z.toBitVec.toNat = n) (hn : n < 2 ^ 31) : z.toInt = n := by
  rw [show z.toInt = z.toBitVec.toInt from rfl, BitVec.toInt_eq_toNat_of_lt (by rw [h]; omega), h]
theorem and64 {a b : Nat} (ha : a < 2 ^ 63) (hb : b < 2 ^ 63) : iand64 a b = ((a &&& b : Nat) : Int) := by
  unfold iand64 j_b64
  exact t64_nat (by rw [Int64.toBitVec_and, BitVec.toNat_and, o64_nat ha, o64_nat hb]) (Nat.lt_of_le_of_lt Nat.and_le_left ha)
theorem or64 {a b : Nat} (ha : a < 2 ^ 63) (hb : b < 2 ^ 63) : ior64 a b = ((a ||| b : Nat) : Int) := by
  unfold ior64 j_b64
  exact t64_nat (by rw [Int64.toBitVec_or, BitVec.toNat_or, o64_nat ha, o64_nat hb]) (Nat.or_lt_two_pow ha hb)
theorem and32 {a b : Nat} (ha : a < 2 ^ 31) (hb : b < 2 ^ 31) : iand32 a b = ((a &&& b : Nat) : Int) := by
  unfold iand32 j_b32
  exact t32_nat (by rw [Int32.toBitVec_and, BitVec.toNat_and, o32_nat ha, o32_nat hb]) (Nat.lt_of_le_of_lt Nat.and_le_left ha)
theorem or32 {a b : Nat} (ha : a < 2 ^ 31) (hb : b < 2 ^ 31) : ior32 a b = ((a ||| b : Nat) : Int) := by
  unfold ior32 j_b32
  exact t32_nat (by rw [Int32.toBitVec_or, BitVec.toNat_or, o32_nat ha, o32_nat hb]) (Nat.or_lt_two_pow ha hb)
