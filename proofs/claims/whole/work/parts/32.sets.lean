/-! sets as numbers: what the machine's operations do to them -/
theorem bs_nn (p : Int → Bool) (n : Int) : 0 ≤ bs p n := by unfold bs; omega
theorem bs_lt (p : Int → Bool) {n : Int} {m : Nat} (h : n ≤ m) : bs p n < ((2 ^ m : Nat) : Int) := by
  have h1 := bsN_lt p n.toNat
  have h2 : 2 ^ n.toNat ≤ 2 ^ m := Nat.pow_le_pow_right (by omega) (by omega)
  unfold bs
  omega
theorem bsN_ext {x : Nat} {p : Int → Bool} {n : Nat} (h : ∀ k : Nat, x.testBit k = (decide (k < n) && p k)) : x = bsN p n := Nat.eq_of_testBit_eq (fun k => by rw [h k, bsN_bit])
theorem bs_congr {p q : Int → Bool} {n : Int} (h : ∀ k : Int, 0 ≤ k → k < n → p k = q k) : bs p n = bs q n := by
  unfold bs
  congr 1
  refine bsN_ext (fun k => ?_)
  rw [bsN_bit]
  by_cases hk : k < n.toNat
  · rw [h k (by omega) (by omega)]
  · simp [hk]
theorem bs_more {p : Int → Bool} {n m : Int} (hn : 0 ≤ n) (h : n ≤ m) (hp : ∀ k : Int, n ≤ k → k < m → p k = false) : bs p m = bs p n := by
  unfold bs
  congr 1
  refine bsN_ext (fun k => ?_)
  rw [bsN_bit]
  by_cases hk : k < n.toNat
  · simp [hk, show k < m.toNat by omega]
  · by_cases hm : k < m.toNat
    · rw [hp k (by omega) (by omega)]
      simp
    · simp [hk, hm]
theorem bs_or {p q : Int → Bool} {n : Int} (h : n ≤ 62) : ior64 (bs p n) (bs q n) = bs (fun k => p k || q k) n := by
  have h1 : bsN p n.toNat < 2 ^ 63 := Nat.lt_of_lt_of_le (bsN_lt p _) (Nat.pow_le_pow_right (by omega) (by omega))
  have h2 : bsN q n.toNat < 2 ^ 63 := Nat.lt_of_lt_of_le (bsN_lt q _) (Nat.pow_le_pow_right (by omega) (by omega))
  unfold bs
  rw [or64 h1 h2]
  congr 1
  refine bsN_ext (fun k => ?_)
  rw [Nat.testBit_or, bsN_bit, bsN_bit]
  cases decide (k < n.toNat) <;> simp
theorem bs_and {p q : Int → Bool} {n : Int} (h : n ≤ 62) : iand64 (bs p n) (bs q n) = bs (fun k => p k && q k) n := by
  have h1 : bsN p n.toNat < 2 ^ 63 := Nat.lt_of_lt_of_le (bsN_lt p _) (Nat.pow_le_pow_right (by omega) (by omega))
  have h2 : bsN q n.toNat < 2 ^ 63 := Nat.lt_of_lt_of_le (bsN_lt q _) (Nat.pow_le_pow_right (by omega) (by omega))
  unfold bs
  rw [and64 h1 h2]
  congr 1
  refine bsN_ext (fun k => ?_)
  rw [Nat.testBit_and, bsN_bit, bsN_bit]
  cases decide (k < n.toNat) <;> simp
theorem bs_or32 {p q : Int → Bool} {n : Int} (h : n ≤ 30) : ior32 (bs p n) (bs q n) = bs (fun k => p k || q k) n := by
  have h1 : bsN p n.toNat < 2 ^ 31 := Nat.lt_of_lt_of_le (bsN_lt p _) (Nat.pow_le_pow_right (by omega) (by omega))
  have h2 : bsN q n.toNat < 2 ^ 31 := Nat.lt_of_lt_of_le (bsN_lt q _) (Nat.pow_le_pow_right (by omega) (by omega))
  unfold bs
  rw [or32 h1 h2]
  congr 1
  refine bsN_ext (fun k => ?_)
  rw [Nat.testBit_or, bsN_bit, bsN_bit]
  cases decide (k < n.toNat) <;> simp
theorem bs_and32 {p q : Int → Bool} {n : Int} (h : n ≤ 30) : iand32 (bs p n) (bs q n) = bs (fun k => p k && q k) n := by
  have h1 : bsN p n.toNat < 2 ^ 31 := Nat.lt_of_lt_of_le (bsN_lt p _) (Nat.pow_le_pow_right (by omega) (by omega))
  have h2 : bsN q n.toNat < 2 ^ 31 := Nat.lt_of_lt_of_le (bsN_lt q _) (Nat.pow_le_pow_right (by omega) (by omega))
  unfold bs
  rw [and32 h1 h2]
  congr 1
  refine bsN_ext (fun k => ?_)
  rw [Nat.testBit_and, bsN_bit, bsN_bit]
  cases decide (k < n.toNat) <;> simp
theorem bs_one {k n : Int} (h0 : 0 ≤ k) (h1 : k < n) : ((2 ^ k.toNat : Nat) : Int) = bs (fun j => j == k) n := by
  unfold bs
  congr 1
  refine bsN_ext (fun j => ?_)
  rw [Nat.testBit_two_pow]
  by_cases hj : k.toNat = j
  · subst hj
    simp [show ((k.toNat : Nat) : Int) = k by omega, show k.toNat < n.toNat by omega]
  · have : ¬ ((j : Int) = k) := by omega
    simp [hj, this]
theorem bs_bit {k n : Int} (h0 : 0 ≤ k) (h1 : k < n) (hn : n ≤ 62) : ishl64 1 k = bs (fun j => j == k) n := by
  rw [← bs_one h0 h1]
  obtain ⟨m, rfl⟩ := Int.eq_ofNat_of_zero_le h0
  rw [shl64_1 m (by omega), Int.toNat_natCast]
theorem bs_bit32 {k n : Int} (h0 : 0 ≤ k) (h1 : k < n) (hn : n ≤ 30) : ishl32 1 k = bs (fun j => j == k) n := by
  rw [← bs_one h0 h1]
  obtain ⟨m, rfl⟩ := Int.eq_ofNat_of_zero_le h0
  rw [shl32_1 m (by omega), Int.toNat_natCast]
theorem bit_and1 (x k : Nat) : ((x >>> k) &&& 1) = if x.testBit k = true then 1 else 0 := by
  rw [Nat.and_one_is_mod, Nat.testBit, Nat.and_comm, Nat.and_one_is_mod]
  rcases Nat.mod_two_eq_zero_or_one (x >>> k) with h | h <;> simp [h]
/-- is k in the set? (>>> and >> alike) -/
theorem bs_in {p : Int → Bool} {k n : Int} (h0 : 0 ≤ k) (hk : k < 63) (hn : n ≤ 62) : iand64 (iushr64 (bs p n) k) 1 = b2i (decide (k < n) && p k) := by
  have h1 : bsN p n.toNat < 2 ^ 63 := Nat.lt_of_lt_of_le (bsN_lt p _) (Nat.pow_le_pow_right (by omega) (by omega))
  have e : iushr64 (bs p n) k = ((bsN p n.toNat >>> k.toNat : Nat) : Int) := by
    unfold bs
    obtain ⟨m, rfl⟩ := Int.eq_ofNat_of_zero_le h0
    rw [ushr64 h1 (by omega), Int.toNat_natCast]
  rw [e, show (1 : Int) = ((1 : Nat) : Int) from rfl, and64 (Nat.lt_of_le_of_lt (Nat.shiftRight_le _ _) h1) (by decide), bit_and1, bsN_bit]
  have : (decide (k.toNat < n.toNat)) = decide (k < n) := by
    by_cases h : k < n
    · simp [h]; omega
    · simp [h]; omega
  rw [this, show ((k.toNat : Nat) : Int) = k by omega]
  cases decide (k < n) && p k <;> rfl
theorem shr_nat64 {a : Nat} {k : Int} (ha : a < 2 ^ 63) (h0 : 0 ≤ k) (hk : k < 63) : ishr64 a k = ((a >>> k.toNat : Nat) : Int) := by
  obtain ⟨m, rfl⟩ := Int.eq_ofNat_of_zero_le h0
  rw [shr64 (by omega) (by omega), Nat.shiftRight_eq_div_pow, Int.toNat_natCast]
  rfl
theorem shr_nat32 {a : Nat} {k : Int} (ha : a < 2 ^ 31) (h0 : 0 ≤ k) (hk : k < 31) : ishr32 a k = ((a >>> k.toNat : Nat) : Int) := by
  obtain ⟨m, rfl⟩ := Int.eq_ofNat_of_zero_le h0
  rw [shr32 (by omega) (by omega), Nat.shiftRight_eq_div_pow, Int.toNat_natCast]
  rfl
theorem bs_inS {p : Int → Bool} {k n : Int} (h0 : 0 ≤ k) (hk : k < 63) (hn : n ≤ 62) : iand64 (ishr64 (bs p n) k) 1 = b2i (decide (k < n) && p k) := by
  rw [← bs_in h0 hk hn]
  congr 1
  have h1 : bsN p n.toNat < 2 ^ 63 := Nat.lt_of_lt_of_le (bsN_lt p _) (Nat.pow_le_pow_right (by omega) (by omega))
  unfold bs
  rw [shr_nat64 h1 h0 hk]
  obtain ⟨m, rfl⟩ := Int.eq_ofNat_of_zero_le h0
  rw [ushr64 h1 (by omega), Int.toNat_natCast]
theorem bs_in32 {p : Int → Bool} {k n : Int} (h0 : 0 ≤ k) (hk : k < 31) (hn : n ≤ 30) : iand32 (ishr32 (bs p n) k) 1 = b2i (decide (k < n) && p k) := by
  have h1 : bsN p n.toNat < 2 ^ 31 := Nat.lt_of_lt_of_le (bsN_lt p _) (Nat.pow_le_pow_right (by omega) (by omega))
  have e : ishr32 (bs p n) k = ((bsN p n.toNat >>> k.toNat : Nat) : Int) := by
    unfold bs
    exact shr_nat32 h1 h0 hk
  rw [e, show (1 : Int) = ((1 : Nat) : Int) from rfl, and32 (Nat.lt_of_le_of_lt (Nat.shiftRight_le _ _) h1) (by decide), bit_and1, bsN_bit]
  have : (decide (k.toNat < n.toNat)) = decide (k < n) := by
    by_cases h : k < n
    · simp [h]; omega
    · simp [h]; omega
  rw [this, show ((k.toNat : Nat) : Int) = k by omega]
  cases decide (k < n) && p k <;> rfl
