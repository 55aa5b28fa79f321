/-! bitCount -/
theorem vLg_bitCount_55w {E : jE} {μ : jMu} {Q : Option AV → jMu → Prop} {l0 : Int} (hF : Q (some (jvI (iand32 (w32 l0) 127))) μ) : K 121 E mLg_bitCount 55 [some (jvL l0), none] [] μ Q := by
  refine K_lload_n 0 l0 dLg_bitCount_55 rfl rfl ?_
  refine K_l2i dLg_bitCount_56 rfl ?_
  refine K_bipush 127 dLg_bitCount_57 rfl ?_
  refine K_iand dLg_bitCount_59 rfl ?_
  exact K_iret dLg_bitCount_60 (Or.inl rfl) hF
theorem land_byte (a m y M : Nat) (ha : a < 256) (hm : m < 256) : (a + 256 * y) &&& (m + 256 * M) = (a &&& m) + 256 * (y &&& M) := by
  have h8 : (256 : Nat) = 2 ^ 8 := rfl
  have hlt : a &&& m < 2 ^ 8 := Nat.lt_of_le_of_lt Nat.and_le_left ha
  refine Nat.eq_of_testBit_eq (fun k => ?_)
  rw [Nat.testBit_and, Nat.add_comm a, Nat.add_comm m, Nat.add_comm (a &&& m), h8, Nat.testBit_two_pow_mul_add _ ha, Nat.testBit_two_pow_mul_add _ hm, Nat.testBit_two_pow_mul_add _ hlt]
  split
  · rw [Nat.testBit_and]
  · rw [Nat.testBit_and]
def g_1 (b : Nat) : Nat := b - (b / 2 &&& 85)
def g_2 (c : Nat) : Nat := (c &&& 51) + (c / 4 &&& 51)
def sN (x : Nat) : Nat → Nat
  | 0 => 0
  | n + 1 => sN x n + x / 2 ^ n % 2
theorem g_ok : ∀ b : Nat, b < 256 → (b / 2 &&& 85) ≤ b ∧ g_1 b < 256 ∧ g_2 (g_1 b) % 16 ≤ 4 ∧ g_2 (g_1 b) < 80 ∧ g_2 (g_1 b) % 16 + g_2 (g_1 b) / 16 = sN b 8 ∧ sN b 8 ≤ 8 ∧ (b / 2 + 128 &&& 85) = (b / 2 &&& 85) := by decide +kernel
theorem g_sh : ∀ c : Nat, c < 256 → ∀ t : Nat, t < 4 → (c / 4 + 64 * t &&& 51) = (c / 4 &&& 51) := by decide +kernel
theorem g_st : ∀ d : Nat, d < 80 → d % 16 ≤ 4 → ∀ t : Nat, t < 5 → (d + (d / 16 + 16 * t) &&& 15) = d % 16 + d / 16 := by decide +kernel
/-- the first three steps, byte by byte -/
theorem f1_byte {b y M : Nat} (hb : b < 256) (hy : ((y / 2) &&& M) ≤ y) : (((b + 256 * y) / 2) &&& (85 + 256 * M)) ≤ b + 256 * y ∧ (b + 256 * y) - (((b + 256 * y) / 2) &&& (85 + 256 * M)) = g_1 b + 256 * (y - ((y / 2) &&& M)) := by
  have e : (b + 256 * y) / 2 = (b / 2 + 128 * (y % 2)) + 256 * (y / 2) := by omega
  have hg := g_ok b hb
  rw [e, land_byte _ _ _ _ (by omega) (by decide)]
  have e2 : (b / 2 + 128 * (y % 2) &&& 85) = (b / 2 &&& 85) := by
    rcases Nat.mod_two_eq_zero_or_one y with h | h
    · rw [h]
      rfl
    · rw [h]
      exact hg.2.2.2.2.2.2
  rw [e2]
  unfold g_1
  omega
theorem f2_byte {c y M : Nat} (hc : c < 256) : ((c + 256 * y) &&& (51 + 256 * M)) + (((c + 256 * y) / 4) &&& (51 + 256 * M)) = g_2 c + 256 * ((y &&& M) + ((y / 4) &&& M)) := by
  have e : (c + 256 * y) / 4 = (c / 4 + 64 * (y % 4)) + 256 * (y / 4) := by omega
  rw [e, land_byte _ _ _ _ hc (by decide), land_byte _ _ _ _ (by omega) (by decide), g_sh c hc (y % 4) (by omega)]
  unfold g_2
  omega
theorem f3_byte {d y M : Nat} (hd : d < 80) (hd2 : d % 16 ≤ 4) (hy : y % 16 ≤ 4) : ((d + 256 * y) + (d + 256 * y) / 16) &&& (15 + 256 * M) = (d % 16 + d / 16) + 256 * ((y + y / 16) &&& M) := by
  have e : (d + 256 * y) + (d + 256 * y) / 16 = (d + (d / 16 + 16 * (y % 16))) + 256 * (y + y / 16) := by omega
  rw [e, land_byte _ _ _ _ (by omega) (by decide), g_st d hd hd2 (y % 16) (by omega)]
theorem sN_split (x n : Nat) : sN x (n + 8) = sN x n + sN (x / 2 ^ n % 256) 8 := by
  have e : ∀ j, x / 2 ^ (n + j) = x / 2 ^ n / 2 ^ j := fun j => by rw [Nat.pow_add, Nat.div_div_eq_div_mul]
  show sN x n + x / 2 ^ (n + 0) % 2 + x / 2 ^ (n + 1) % 2 + x / 2 ^ (n + 2) % 2 + x / 2 ^ (n + 3) % 2 + x / 2 ^ (n + 4) % 2 + x / 2 ^ (n + 5) % 2 + x / 2 ^ (n + 6) % 2 + x / 2 ^ (n + 7) % 2 = sN x n + (0 + (x / 2 ^ n % 256) / 2 ^ 0 % 2 + (x / 2 ^ n % 256) / 2 ^ 1 % 2 + (x / 2 ^ n % 256) / 2 ^ 2 % 2 + (x / 2 ^ n % 256) / 2 ^ 3 % 2 + (x / 2 ^ n % 256) / 2 ^ 4 % 2 + (x / 2 ^ n % 256) / 2 ^ 5 % 2 + (x / 2 ^ n % 256) / 2 ^ 6 % 2 + (x / 2 ^ n % 256) / 2 ^ 7 % 2)
  rw [e 0, e 1, e 2, e 3, e 4, e 5, e 6, e 7]
  generalize x / 2 ^ n = y
  omega
theorem cnt_sN (p : Int → Bool) (N : Nat) : ∀ n : Nat, n ≤ N → cntN p n = (sN (bsN p N) n : Int)
  | 0, _ => rfl
  | n + 1, h => by
    show cntN p n + b2i (p n) = ((sN (bsN p N) n + bsN p N / 2 ^ n % 2 : Nat) : Int)
    rw [cnt_sN p N n (by omega)]
    have hb := bsN_bit p N n
    rw [decide_eq_true (show n < N by omega), Bool.true_and] at hb
    rw [Nat.testBit_eq_decide_div_mod_eq] at hb
    rw [← hb]
    rcases Nat.mod_two_eq_zero_or_one (bsN p N / 2 ^ n) with h2 | h2
    · rw [h2]; rfl
    · rw [h2]; rfl
def lbc (x : Nat) : Nat := ((((x - (x / 2 &&& 6148914691236517205)) &&& 3689348814741910323) + ((x - (x / 2 &&& 6148914691236517205)) / 4 &&& 3689348814741910323)) + (((x - (x / 2 &&& 6148914691236517205)) &&& 3689348814741910323) + ((x - (x / 2 &&& 6148914691236517205)) / 4 &&& 3689348814741910323)) / 16) &&& 1085102592571150095
theorem lbc_eq (b0 b1 b2 b3 b4 : Nat) (h0 : b0 < 256) (h1 : b1 < 256) (h2 : b2 < 256) (h3 : b3 < 256) (h4 : b4 < 256) : let x := b0 + 256 * (b1 + 256 * (b2 + 256 * (b3 + 256 * (b4 + 256 * 0))))
    (x / 2 &&& 6148914691236517205) ≤ x ∧ x - (x / 2 &&& 6148914691236517205) = g_1 b0 + 256 * (g_1 b1 + 256 * (g_1 b2 + 256 * (g_1 b3 + 256 * (g_1 b4 + 256 * 0)))) ∧ lbc x = sN b0 8 + 256 * (sN b1 8 + 256 * (sN b2 8 + 256 * (sN b3 8 + 256 * (sN b4 8 + 256 * 0)))) := by
  intro x
  have k0 := g_ok b0 h0
  have k1 := g_ok b1 h1
  have k2 := g_ok b2 h2
  have k3 := g_ok b3 h3
  have k4 := g_ok b4 h4
  have a5 : ((0 / 2) &&& 5592405) ≤ 0 := by decide
  have a4 := f1_byte (b := b4) (y := 0) (M := 5592405) h4 a5
  have a3 := f1_byte (b := b3) (M := 85 + 256 * 5592405) h3 a4.1
  have a2 := f1_byte (b := b2) (M := 85 + 256 * (85 + 256 * 5592405)) h2 a3.1
  have a1 := f1_byte (b := b1) (M := 85 + 256 * (85 + 256 * (85 + 256 * 5592405))) h1 a2.1
  have a0 := f1_byte (b := b0) (M := 85 + 256 * (85 + 256 * (85 + 256 * (85 + 256 * 5592405)))) h0 a1.1
  have e1 : x - (x / 2 &&& 6148914691236517205) = g_1 b0 + 256 * (g_1 b1 + 256 * (g_1 b2 + 256 * (g_1 b3 + 256 * (g_1 b4 + 256 * 0)))) := by
    have := a0.2
    rw [a1.2, a2.2, a3.2, a4.2] at this
    exact this
  refine ⟨a0.1, e1, ?_⟩
  unfold lbc
  rw [e1]
  have c4 := f2_byte (c := g_1 b4) (y := 0) (M := 3355443) k4.2.1
  have c3 := f2_byte (c := g_1 b3) (y := g_1 b4 + 256 * 0) (M := 51 + 256 * 3355443) k3.2.1
  have c2 := f2_byte (c := g_1 b2) (y := g_1 b3 + 256 * (g_1 b4 + 256 * 0)) (M := 51 + 256 * (51 + 256 * 3355443)) k2.2.1
  have c1 := f2_byte (c := g_1 b1) (y := g_1 b2 + 256 * (g_1 b3 + 256 * (g_1 b4 + 256 * 0))) (M := 51 + 256 * (51 + 256 * (51 + 256 * 3355443))) k1.2.1
  have c0 := f2_byte (c := g_1 b0) (y := g_1 b1 + 256 * (g_1 b2 + 256 * (g_1 b3 + 256 * (g_1 b4 + 256 * 0)))) (M := 51 + 256 * (51 + 256 * (51 + 256 * (51 + 256 * 3355443)))) k0.2.1
  rw [c1, c2, c3, c4] at c0
  have e2 : ((g_1 b0 + 256 * (g_1 b1 + 256 * (g_1 b2 + 256 * (g_1 b3 + 256 * (g_1 b4 + 256 * 0))))) &&& 3689348814741910323) + ((g_1 b0 + 256 * (g_1 b1 + 256 * (g_1 b2 + 256 * (g_1 b3 + 256 * (g_1 b4 + 256 * 0))))) / 4 &&& 3689348814741910323) = g_2 (g_1 b0) + 256 * (g_2 (g_1 b1) + 256 * (g_2 (g_1 b2) + 256 * (g_2 (g_1 b3) + 256 * (g_2 (g_1 b4) + 256 * 0)))) := c0
  rw [e2]
  have d4 := f3_byte (d := g_2 (g_1 b4)) (y := 0) (M := 986895) k4.2.2.2.1 k4.2.2.1 (by decide)
  have d3 := f3_byte (d := g_2 (g_1 b3)) (y := g_2 (g_1 b4) + 256 * 0) (M := 15 + 256 * 986895) k3.2.2.2.1 k3.2.2.1 (by omega)
  have d2 := f3_byte (d := g_2 (g_1 b2)) (y := g_2 (g_1 b3) + 256 * (g_2 (g_1 b4) + 256 * 0)) (M := 15 + 256 * (15 + 256 * 986895)) k2.2.2.2.1 k2.2.2.1 (by omega)
  have d1 := f3_byte (d := g_2 (g_1 b1)) (y := g_2 (g_1 b2) + 256 * (g_2 (g_1 b3) + 256 * (g_2 (g_1 b4) + 256 * 0))) (M := 15 + 256 * (15 + 256 * (15 + 256 * 986895))) k1.2.2.2.1 k1.2.2.1 (by omega)
  have d0 := f3_byte (d := g_2 (g_1 b0)) (y := g_2 (g_1 b1) + 256 * (g_2 (g_1 b2) + 256 * (g_2 (g_1 b3) + 256 * (g_2 (g_1 b4) + 256 * 0)))) (M := 15 + 256 * (15 + 256 * (15 + 256 * (15 + 256 * 986895)))) k0.2.2.2.1 k0.2.2.1 (by omega)
  rw [d1, d2, d3, d4, k0.2.2.2.2.1, k1.2.2.2.2.1, k2.2.2.2.2.1, k3.2.2.2.2.1, k4.2.2.2.2.1] at d0
  exact d0
section
variable {E : jE} {μ : jMu} {Q : Int → jMu → Prop}
theorem w64n {a : Nat} (h : a < 2 ^ 63) : w64 ((a : Nat) : Int) = a := w64_id (by omega)
theorem sLg_bitCount {p : Int → Bool} {x : Int} (hx : x = bs p 40) (k : Q (cnt p 40) μ) : Ci E mLg_bitCount [jvL x] μ Q := by
  have hlt : bsN p 40 < 2 ^ 40 := bsN_lt p 40
  have hx : x = ((bsN p 40 : Nat) : Int) := hx
  have hc : cnt p 40 = (sN (bsN p 40) 40 : Int) := cnt_sN p 40 40 (Nat.le_refl _)
  generalize bsN p 40 = n at hlt hx hc
  subst hx
  rw [hc] at k
  have s1 := sN_split n 0
  have s2 := sN_split n 8
  have s3 := sN_split n 16
  have s4 := sN_split n 24
  have s5 := sN_split n 32
  have hn : n = n / 2 ^ 0 % 256 + 256 * (n / 2 ^ 8 % 256 + 256 * (n / 2 ^ 16 % 256 + 256 * (n / 2 ^ 24 % 256 + 256 * (n / 2 ^ 32 % 256 + 256 * 0)))) := by omega
  have hb := lbc_eq (n / 2 ^ 0 % 256) (n / 2 ^ 8 % 256) (n / 2 ^ 16 % 256) (n / 2 ^ 24 % 256) (n / 2 ^ 32 % 256) (by omega) (by omega) (by omega) (by omega) (by omega)
  have q0 := (g_ok (n / 2 ^ 0 % 256) (by omega)).2.2.2.2.2.1
  have q1 := (g_ok (n / 2 ^ 8 % 256) (by omega)).2.2.2.2.2.1
  have q2 := (g_ok (n / 2 ^ 16 % 256) (by omega)).2.2.2.2.2.1
  have q3 := (g_ok (n / 2 ^ 24 % 256) (by omega)).2.2.2.2.2.1
  have q4 := (g_ok (n / 2 ^ 32 % 256) (by omega)).2.2.2.2.2.1
  simp only [← hn] at hb
  obtain ⟨hb1, hb2, hb3⟩ := hb
  have hs0 : sN n 0 = 0 := rfl
  rw [s5, s4, s3, s2, s1, hs0] at k
  generalize sN (n / 2 ^ 0 % 256) 8 = c0 at *
  generalize sN (n / 2 ^ 8 % 256) 8 = c1 at *
  generalize sN (n / 2 ^ 16 % 256) 8 = c2 at *
  generalize sN (n / 2 ^ 24 % 256) 8 = c3 at *
  generalize sN (n / 2 ^ 32 % 256) 8 = c4 at *
  clear hb2 s1 s2 s3 s4 s5 hn
  refine vLg_bitCount_0 ?_
  have e1 : w64 ((n : Int) - iand64 (iushr64 (n : Int) 1) 6148914691236517205) = ((n - (n / 2 &&& 6148914691236517205) : Nat) : Int) := by
    rw [show iushr64 (n : Int) 1 = ((n >>> 1 : Nat) : Int) from ushr64 (k := 1) (by omega) (by omega), Nat.shiftRight_eq_div_pow, show (6148914691236517205 : Int) = ((6148914691236517205 : Nat) : Int) from rfl, and64 (by omega) (by omega), show n / 2 ^ 1 = n / 2 from rfl, ← Int.ofNat_sub hb1]
    exact w64n (by omega)
  rw [e1]
  have hm : n - (n / 2 &&& 6148914691236517205) < 2 ^ 40 := by omega
  unfold lbc at hb3
  generalize n - (n / 2 &&& 6148914691236517205) = m at hm hb3 ⊢
  refine vLg_bitCount_10 ?_
  have l1 : m &&& 3689348814741910323 ≤ m := Nat.and_le_left
  have l2 : m / 4 &&& 3689348814741910323 ≤ m / 4 := Nat.and_le_left
  have e2 : w64 (iand64 (m : Int) 3689348814741910323 + iand64 (iushr64 (m : Int) 2) 3689348814741910323) = (((m &&& 3689348814741910323) + (m / 4 &&& 3689348814741910323) : Nat) : Int) := by
    rw [show iushr64 (m : Int) 2 = ((m >>> 2 : Nat) : Int) from ushr64 (k := 2) (by omega) (by omega), Nat.shiftRight_eq_div_pow, show (3689348814741910323 : Int) = ((3689348814741910323 : Nat) : Int) from rfl, and64 (by omega) (by omega), and64 (by omega) (by omega), show m / 2 ^ 2 = m / 4 from rfl, ← Int.natCast_add]
    exact w64n (by omega)
  rw [e2]
  have hm2 : (m &&& 3689348814741910323) + (m / 4 &&& 3689348814741910323) < 2 ^ 41 := by omega
  generalize (m &&& 3689348814741910323) + (m / 4 &&& 3689348814741910323) = t at hm2 hb3 ⊢
  refine vLg_bitCount_24 ?_
  have e3 : iand64 (w64 ((t : Int) + iushr64 (t : Int) 4)) 1085102592571150095 = ((t + t / 16 &&& 1085102592571150095 : Nat) : Int) := by
    rw [show iushr64 (t : Int) 4 = ((t >>> 4 : Nat) : Int) from ushr64 (k := 4) (by omega) (by omega), Nat.shiftRight_eq_div_pow, show t / 2 ^ 4 = t / 16 from rfl, ← Int.natCast_add, w64n (by omega), show (1085102592571150095 : Int) = ((1085102592571150095 : Nat) : Int) from rfl, and64 (by omega) (by omega)]
  rw [e3, hb3]
  generalize hu : c0 + 256 * (c1 + 256 * (c2 + 256 * (c3 + 256 * (c4 + 256 * 0)))) = u
  refine vLg_bitCount_34 ?_
  have e4 : w64 ((u : Int) + iushr64 (u : Int) 8) = ((u + u / 256 : Nat) : Int) := by
    rw [show iushr64 (u : Int) 8 = ((u >>> 8 : Nat) : Int) from ushr64 (k := 8) (by omega) (by omega), Nat.shiftRight_eq_div_pow, show u / 2 ^ 8 = u / 256 from rfl, ← Int.natCast_add]
    exact w64n (by omega)
  rw [e4]
  have hu2 : u + u / 256 = (c0 + c1) + 256 * (c1 + c2) + 65536 * (c2 + c3) + 16777216 * (c3 + c4) + 4294967296 * c4 := by omega
  rw [hu2]
  refine vLg_bitCount_41 ?_
  generalize hv : (c0 + c1) + 256 * (c1 + c2) + 65536 * (c2 + c3) + 16777216 * (c3 + c4) + 4294967296 * c4 = v
  have e5 : w64 ((v : Int) + iushr64 (v : Int) 16) = ((v + v / 65536 : Nat) : Int) := by
    rw [show iushr64 (v : Int) 16 = ((v >>> 16 : Nat) : Int) from ushr64 (k := 16) (by omega) (by omega), Nat.shiftRight_eq_div_pow, show v / 2 ^ 16 = v / 65536 from rfl, ← Int.natCast_add]
    exact w64n (by omega)
  rw [e5]
  have hv2 : v + v / 65536 = (c0 + c1 + c2 + c3) + 256 * (c1 + c2 + c3 + c4) + 65536 * (c2 + c3 + c4) + 16777216 * (c3 + c4) + 4294967296 * c4 := by omega
  rw [hv2]
  refine vLg_bitCount_48 ?_
  generalize hz : (c0 + c1 + c2 + c3) + 256 * (c1 + c2 + c3 + c4) + 65536 * (c2 + c3 + c4) + 16777216 * (c3 + c4) + 4294967296 * c4 = z
  have e6 : w64 ((z : Int) + iushr64 (z : Int) 32) = ((z + z / 4294967296 : Nat) : Int) := by
    rw [show iushr64 (z : Int) 32 = ((z >>> 32 : Nat) : Int) from ushr64 (k := 32) (by omega) (by omega), Nat.shiftRight_eq_div_pow, show z / 2 ^ 32 = z / 4294967296 from rfl, ← Int.natCast_add]
    exact w64n (by omega)
  rw [e6]
  refine vLg_bitCount_55w ⟨_, rfl, ?_⟩
  have hz2 : z + z / 4294967296 = ((c0 + c1 + c2 + c3 + c4) + 256 * (c1 + c2 + c3 + c4) + 65536 * (c2 + c3 + c4) + 16777216 * (c3 + c4)) + 4294967296 * c4 := by omega
  have hL : (c0 + c1 + c2 + c3 + c4) + 256 * (c1 + c2 + c3 + c4) + 65536 * (c2 + c3 + c4) + 16777216 * (c3 + c4) < 2147483648 := by omega
  have hend : ((c0 + c1 + c2 + c3 + c4) + 256 * (c1 + c2 + c3 + c4) + 65536 * (c2 + c3 + c4) + 16777216 * (c3 + c4)) % 2 ^ 7 = 0 + c0 + c1 + c2 + c3 + c4 := by omega
  rw [hz2]
  generalize (c0 + c1 + c2 + c3 + c4) + 256 * (c1 + c2 + c3 + c4) + 65536 * (c2 + c3 + c4) + 16777216 * (c3 + c4) = L at hL hend
  have e7 : w32 ((L + 4294967296 * c4 : Nat) : Int) = ((L : Nat) : Int) := by
    unfold w32
    rw [Int.bmod_def]
    split <;> omega
  rw [e7, show (127 : Int) = ((127 : Nat) : Int) from rfl, and32 (by omega) (by omega), show (127 : Nat) = 2 ^ 7 - 1 from rfl, Nat.and_two_pow_sub_one_eq_mod, hend]
  exact k
theorem land_low (x m M : Nat) (hx : x < 2 ^ 32) (hm : m < 2 ^ 32) : x &&& (m + 2 ^ 32 * M) = x &&& m := by
  refine Nat.eq_of_testBit_eq (fun k => ?_)
  rw [Nat.testBit_and, Nat.testBit_and, Nat.add_comm m, Nat.testBit_two_pow_mul_add _ hm]
  split
  · rfl
  · have : x.testBit k = false := Nat.testBit_lt_two_pow (Nat.lt_of_lt_of_le hx (Nat.pow_le_pow_right (by omega) (by omega)))
    rw [this, Bool.false_and, Bool.false_and]
theorem ushr32 {a k : Nat} (ha : a < 2 ^ 31) (hk : k < 32) : iushr32 a k = ((a >>> k : Nat) : Int) := by
  unfold iushr32 j_b32
  refine t32_nat ?_ (Nat.lt_of_le_of_lt (Nat.shiftRight_le a k) ha)
  show ((Int32.ofInt (a : Int)).toUInt32 >>> ((Int32.ofInt (k : Int)).toUInt32 &&& Int32.toUInt32 31)).toBitVec.toNat = a >>> k
  have h := UInt32.toNat_shiftRight (Int32.ofInt (a : Int)).toUInt32 ((Int32.ofInt (k : Int)).toUInt32 &&& Int32.toUInt32 31)
  rw [shamt32u k hk, Nat.mod_eq_of_lt hk] at h
  have h2 : (Int32.ofInt (a : Int)).toUInt32.toNat = a := o32_nat ha
  rw [h2] at h
  exact h
theorem w32n {a : Nat} (h : a < 2 ^ 31) : w32 ((a : Nat) : Int) = a := w32_id (by omega)
theorem sIg_bitCount {p : Int → Bool} {x : Int} (hx : x = bs p 12) (k : Q (cnt p 12) μ) : Ci E mIg_bitCount [jvI x] μ Q := by
  have hlt : bsN p 12 < 2 ^ 12 := bsN_lt p 12
  have hx : x = ((bsN p 12 : Nat) : Int) := hx
  have hc : cnt p 12 = (sN (bsN p 12) 12 : Int) := cnt_sN p 12 12 (Nat.le_refl _)
  generalize bsN p 12 = n at hlt hx hc
  subst hx
  rw [hc] at k
  have s12 : sN n 12 = sN n 16 := by
    show sN n 12 = sN n 12 + n / 2 ^ 12 % 2 + n / 2 ^ 13 % 2 + n / 2 ^ 14 % 2 + n / 2 ^ 15 % 2
    omega
  have s1 := sN_split n 0
  have s2 := sN_split n 8
  have hn : n = n / 2 ^ 0 % 256 + 256 * (n / 2 ^ 8 % 256 + 256 * (0 + 256 * (0 + 256 * (0 + 256 * 0)))) := by omega
  have hb := lbc_eq (n / 2 ^ 0 % 256) (n / 2 ^ 8 % 256) 0 0 0 (by omega) (by omega) (by omega) (by omega) (by omega)
  have q0 := (g_ok (n / 2 ^ 0 % 256) (by omega)).2.2.2.2.2.1
  have q1 := (g_ok (n / 2 ^ 8 % 256) (by omega)).2.2.2.2.2.1
  simp only [← hn] at hb
  obtain ⟨hb1, hb2, hb3⟩ := hb
  have hs0 : sN n 0 = 0 := rfl
  rw [s12, s2, s1, hs0] at k
  rw [show sN 0 8 = 0 from rfl] at hb3
  generalize sN (n / 2 ^ 0 % 256) 8 = c0 at *
  generalize sN (n / 2 ^ 8 % 256) 8 = c1 at *
  clear hb2 s1 s2 hn s12 hc
  refine vIg_bitCount_0 ?_
  have m1 : (n / 2 &&& 6148914691236517205) = (n / 2 &&& 1431655765) := land_low _ 1431655765 1431655765 (by omega) (by omega)
  have e1 : w32 ((n : Int) - iand32 (iushr32 (n : Int) 1) 1431655765) = ((n - (n / 2 &&& 6148914691236517205) : Nat) : Int) := by
    rw [show iushr32 (n : Int) 1 = ((n >>> 1 : Nat) : Int) from ushr32 (k := 1) (by omega) (by omega), Nat.shiftRight_eq_div_pow, show (1431655765 : Int) = ((1431655765 : Nat) : Int) from rfl, and32 (by omega) (by omega), show n / 2 ^ 1 = n / 2 from rfl, ← m1, ← Int.ofNat_sub hb1]
    exact w32n (by omega)
  rw [e1]
  have hm : n - (n / 2 &&& 6148914691236517205) < 2 ^ 12 := by omega
  unfold lbc at hb3
  generalize n - (n / 2 &&& 6148914691236517205) = m at hm hb3 ⊢
  refine vIg_bitCount_10 ?_
  have m2 : (m &&& 3689348814741910323) = (m &&& 858993459) := land_low _ 858993459 858993459 (by omega) (by omega)
  have m3 : (m / 4 &&& 3689348814741910323) = (m / 4 &&& 858993459) := land_low _ 858993459 858993459 (by omega) (by omega)
  have l1 : m &&& 3689348814741910323 ≤ m := Nat.and_le_left
  have l2 : m / 4 &&& 3689348814741910323 ≤ m / 4 := Nat.and_le_left
  have e2 : w32 (iand32 (m : Int) 858993459 + iand32 (iushr32 (m : Int) 2) 858993459) = (((m &&& 3689348814741910323) + (m / 4 &&& 3689348814741910323) : Nat) : Int) := by
    rw [show iushr32 (m : Int) 2 = ((m >>> 2 : Nat) : Int) from ushr32 (k := 2) (by omega) (by omega), Nat.shiftRight_eq_div_pow, show (858993459 : Int) = ((858993459 : Nat) : Int) from rfl, and32 (by omega) (by omega), and32 (by omega) (by omega), show m / 2 ^ 2 = m / 4 from rfl, ← m2, ← m3, ← Int.natCast_add]
    exact w32n (by omega)
  rw [e2]
  have hm2 : (m &&& 3689348814741910323) + (m / 4 &&& 3689348814741910323) < 2 ^ 13 := by omega
  generalize (m &&& 3689348814741910323) + (m / 4 &&& 3689348814741910323) = t at hm2 hb3 ⊢
  refine vIg_bitCount_24 ?_
  have m4 : (t + t / 16 &&& 1085102592571150095) = (t + t / 16 &&& 252645135) := land_low _ 252645135 252645135 (by omega) (by omega)
  have e3 : iand32 (w32 ((t : Int) + iushr32 (t : Int) 4)) 252645135 = ((t + t / 16 &&& 1085102592571150095 : Nat) : Int) := by
    rw [show iushr32 (t : Int) 4 = ((t >>> 4 : Nat) : Int) from ushr32 (k := 4) (by omega) (by omega), Nat.shiftRight_eq_div_pow, show t / 2 ^ 4 = t / 16 from rfl, ← Int.natCast_add, w32n (by omega), show (252645135 : Int) = ((252645135 : Nat) : Int) from rfl, and32 (by omega) (by omega), ← m4]
  rw [e3, hb3]
  generalize hu : c0 + 256 * (c1 + 256 * (0 + 256 * (0 + 256 * (0 + 256 * 0)))) = u
  refine vIg_bitCount_34 ?_
  have e4 : w32 ((u : Int) + iushr32 (u : Int) 8) = ((u + u / 256 : Nat) : Int) := by
    rw [show iushr32 (u : Int) 8 = ((u >>> 8 : Nat) : Int) from ushr32 (k := 8) (by omega) (by omega), Nat.shiftRight_eq_div_pow, show u / 2 ^ 8 = u / 256 from rfl, ← Int.natCast_add]
    exact w32n (by omega)
  rw [e4]
  generalize hv : u + u / 256 = v
  refine vIg_bitCount_41 ?_
  have e5 : w32 ((v : Int) + iushr32 (v : Int) 16) = ((v + v / 65536 : Nat) : Int) := by
    rw [show iushr32 (v : Int) 16 = ((v >>> 16 : Nat) : Int) from ushr32 (k := 16) (by omega) (by omega), Nat.shiftRight_eq_div_pow, show v / 2 ^ 16 = v / 65536 from rfl, ← Int.natCast_add]
    exact w32n (by omega)
  rw [e5]
  refine vIg_bitCount_48 ⟨_, rfl, ?_⟩
  rw [show (63 : Int) = ((63 : Nat) : Int) from rfl, and32 (by omega) (by omega), show (63 : Nat) = 2 ^ 6 - 1 from rfl, Nat.and_two_pow_sub_one_eq_mod]
  have hu1 : u / 256 = c1 := by omega
  have hv1 : v = c0 + c1 + 256 * c1 := by omega
  have hv2 : v / 65536 = 0 := by omega
  have hend : (v + v / 65536) % 2 ^ 6 = 0 + c0 + c1 := by rw [hv2, hv1]; omega
  rw [hend]
  exact k
end
