/-! bits: the machine's operations on numbers that are not below 0 -/
theorem o64_nat {a : Nat} (ha : a < 2 ^ 63) : (Int64.ofInt (a : Int)).toBitVec.toNat = a := by
  rw [show (Int64.ofInt (a : Int)).toBitVec = BitVec.ofInt 64 (a : Int) from rfl, BitVec.toNat_ofInt]
  omega
theorem t64_nat {z : Int64} {n : Nat} (h : z.toBitVec.toNat = n) (hn : n < 2 ^ 63) : z.toInt = n := by
  rw [show z.toInt = z.toBitVec.toInt from rfl, BitVec.toInt_eq_toNat_of_lt (by rw [h]; omega), h]
theorem o32_nat {a : Nat} (ha : a < 2 ^ 31) : (Int32.ofInt (a : Int)).toBitVec.toNat = a := by
  rw [show (Int32.ofInt (a : Int)).toBitVec = BitVec.ofInt 32 (a : Int) from rfl, BitVec.toNat_ofInt]
  omega
theorem t32_nat {z : Int32} {n : Nat} (h : z.toBitVec.toNat = n) (hn : n < 2 ^ 31) : z.toInt = n := by
  rw [show z.toInt = z.toBitVec.toInt from rfl, BitVec.toInt_eq_toNat_of_lt (by rw [h]; omega), h]
theorem and64 {a b : Nat} (ha : a < 2 ^ 63) (hb : b < 2 ^ 63) : iand64 a b = ((a &&& b : Nat) : Int) := by
  unfold iand64 j_b64
  exact t64_nat (by rw [Int64.toBitVec_and, BitVec.toNat_and, o64_nat ha, o64_nat hb]) (Nat.lt_of_le_of_lt Nat.and_le_left ha)
theorem or64 {a b : Nat} (ha : a < 2 ^ 63) (hb : b < 2 ^ 63) : ior64 a b = ((a ||| b : Nat) : Int) := by
  unfold ior64 j_b64
  exact t64_nat (by rw [Int64.toBitVec_or, BitVec.toNat_or, o64_nat ha, o64_nat hb]) (Nat.or_lt_two_pow ha hb)
theorem and32 {a b : Nat} (ha : a < 2 ^ 31) (hb : b < 2 ^ 31) : iand32 a b = ((a &&& b : Nat) : Int) := by
  unfold iand32 j_b32
  exact t32_nat (by rw [Int32.toBitVec_and, BitVec.toNat_and, o32_nat ha, o32_nat hb]) (Nat.lt_of_le_of_lt Nat.and_le_left ha)
theorem or32 {a b : Nat} (ha : a < 2 ^ 31) (hb : b < 2 ^ 31) : ior32 a b = ((a ||| b : Nat) : Int) := by
  unfold ior32 j_b32
  exact t32_nat (by rw [Int32.toBitVec_or, BitVec.toNat_or, o32_nat ha, o32_nat hb]) (Nat.or_lt_two_pow ha hb)
theorem shl64_1 : ∀ k : Nat, k < 63 → ishl64 1 (k : Int) = ((2 ^ k : Nat) : Int) := by decide +kernel
theorem shl32_1 : ∀ k : Nat, k < 31 → ishl32 1 (k : Int) = ((2 ^ k : Nat) : Int) := by decide +kernel
theorem shamt64u : ∀ k : Nat, k < 64 → ((Int32.ofInt (k : Int)).toInt64.toUInt64 &&& Int64.toUInt64 63).toNat = k := by decide +kernel
theorem shamt64s : ∀ k : Nat, k < 64 → (((Int32.ofInt (k : Int)).toInt64 &&& 63).toBitVec.smod 64).toNat = k := by decide +kernel
theorem shamt32s : ∀ k : Nat, k < 32 → ((Int32.ofInt (k : Int) &&& 31).toBitVec.smod 32).toNat = k := by decide +kernel
theorem shamt32u : ∀ k : Nat, k < 32 → ((Int32.ofInt (k : Int)).toUInt32 &&& Int32.toUInt32 31).toNat = k := by decide +kernel
theorem ushr64 {a k : Nat} (ha : a < 2 ^ 63) (hk : k < 64) : iushr64 a k = ((a >>> k : Nat) : Int) := by
  unfold iushr64 j_s64
  refine t64_nat ?_ (Nat.lt_of_le_of_lt (Nat.shiftRight_le a k) ha)
  show ((Int64.ofInt (a : Int)).toUInt64 >>> ((Int32.ofInt (k : Int)).toInt64.toUInt64 &&& Int64.toUInt64 63)).toBitVec.toNat = a >>> k
  have h := UInt64.toNat_shiftRight (Int64.ofInt (a : Int)).toUInt64 ((Int32.ofInt (k : Int)).toInt64.toUInt64 &&& Int64.toUInt64 63)
  rw [shamt64u k hk, Nat.mod_eq_of_lt hk] at h
  have h2 : (Int64.ofInt (a : Int)).toUInt64.toNat = a := o64_nat ha
  rw [h2] at h
  exact h
theorem shr64 {x : Int} {k : Nat} (hx : -2 ^ 63 ≤ x ∧ x < 2 ^ 63) (hk : k < 64) : ishr64 x k = x / ((2 ^ k : Nat) : Int) := by
  unfold ishr64 j_s64
  show (Int64.ofInt x >>> ((Int32.ofInt (k : Int)).toInt64 &&& 63)).toBitVec.toInt = _
  rw [Int64.toBitVec_shiftRight]
  show (((Int64.ofInt x).toBitVec).sshiftRight ((((Int32.ofInt (k : Int)).toInt64 &&& 63).toBitVec.smod 64).toNat)).toInt = _
  rw [shamt64s k hk, BitVec.toInt_sshiftRight]
  have h : (Int64.ofInt x).toBitVec.toInt = x := by
    show (Int64.ofInt x).toInt = x
    rw [Int64.toInt_ofInt]
    exact w64_id (by omega)
  rw [h, Int.shiftRight_eq_div_pow]
theorem shr32 {x : Int} {k : Nat} (hx : -2147483648 ≤ x ∧ x < 2147483648) (hk : k < 32) : ishr32 x k = x / ((2 ^ k : Nat) : Int) := by
  unfold ishr32 j_b32
  show (Int32.ofInt x >>> (Int32.ofInt (k : Int) &&& 31)).toBitVec.toInt = _
  rw [Int32.toBitVec_shiftRight]
  show (((Int32.ofInt x).toBitVec).sshiftRight (((Int32.ofInt (k : Int) &&& 31).toBitVec.smod 32).toNat)).toInt = _
  rw [shamt32s k hk, BitVec.toInt_sshiftRight]
  have h : (Int32.ofInt x).toBitVec.toInt = x := by
    show (Int32.ofInt x).toInt = x
    rw [Int32.toInt_ofInt]
    exact w32_id (by omega)
  rw [h, Int.shiftRight_eq_div_pow]
/-- a set of steps as one number -/
def bsN (p : Int → Bool) : Nat → Nat
  | 0 => 0
  | n + 1 => bsN p n + (if p n = true then 2 ^ n else 0)
theorem bsN_lt (p : Int → Bool) : ∀ n : Nat, bsN p n < 2 ^ n
  | 0 => by simp [bsN]
  | n + 1 => by
    have := bsN_lt p n
    unfold bsN
    rw [Nat.pow_succ]
    split <;> omega
theorem bsN_bit (p : Int → Bool) : ∀ (n k : Nat), (bsN p n).testBit k = (decide (k < n) && p k)
  | 0, k => by simp [bsN]
  | n + 1, k => by
    have hlt := bsN_lt p n
    unfold bsN
    by_cases hp : p n = true
    · rw [if_pos hp]
      by_cases hk : k = n
      · subst hk
        rw [Nat.add_comm, Nat.testBit_two_pow_add_eq, bsN_bit p k k]
        simp [hp]
      · rw [Nat.add_comm]
        rcases Nat.lt_or_gt_of_ne hk with h | h
        · rw [Nat.testBit_two_pow_add_gt h, bsN_bit p n k]
          simp [h, show k < n + 1 by omega]
        · have h3 : (2 ^ n + bsN p n) < 2 ^ k := by
            have : 2 ^ (n + 1) ≤ 2 ^ k := Nat.pow_le_pow_right (by omega) (by omega)
            rw [Nat.pow_succ] at this
            omega
          rw [Nat.testBit_lt_two_pow h3]
          simp [show ¬ k < n + 1 by omega]
    · rw [if_neg hp, Nat.add_zero, bsN_bit p n k]
      by_cases hk : k = n
      · subst hk
        simp [hp]
      · simp [show (k < n + 1) = (k < n) from propext (by omega)]
def bs (p : Int → Bool) (n : Int) : Int := (bsN p n.toNat : Int)
