/-! the class's questions, first part -/
theorem o64_toInt (z : Int64) : Int64.ofInt z.toInt = z := Int64.ofInt_toInt z
theorem o32_toInt (z : Int32) : Int32.ofInt z.toInt = z := Int32.ofInt_toInt z
theorem andnot64 {a b : Nat} (ha : a < 2 ^ 63) (hb : b < 2 ^ 63) : ∃ c : Nat, iand64 a (ixor64 b (-1)) = c ∧ ∀ k, c.testBit k = (a.testBit k && !b.testBit k) := by
  refine ⟨((Int64.ofInt (a : Int)).toBitVec &&& ((Int64.ofInt (b : Int)).toBitVec ^^^ BitVec.allOnes 64)).toNat, ?_, fun k => ?_⟩
  · unfold iand64 ixor64 j_b64
    rw [o64_toInt]
    refine t64_nat ?_ ?_
    · rw [Int64.toBitVec_and, Int64.toBitVec_xor]
      rfl
    · rw [BitVec.toNat_and, o64_nat ha]
      exact Nat.lt_of_le_of_lt Nat.and_le_left ha
  · rw [BitVec.testBit_toNat, BitVec.getLsbD_and, BitVec.getLsbD_xor, BitVec.getLsbD_allOnes, ← BitVec.testBit_toNat, ← BitVec.testBit_toNat, o64_nat ha, o64_nat hb]
    by_cases hk : k < 64
    · rw [decide_eq_true hk, Bool.xor_true]
    · have : a.testBit k = false := Nat.testBit_lt_two_pow (Nat.lt_of_lt_of_le ha (Nat.pow_le_pow_right (by omega) (by omega)))
      rw [this, Bool.false_and, Bool.false_and]
theorem andnot32 {a b : Nat} (ha : a < 2 ^ 31) (hb : b < 2 ^ 31) : ∃ c : Nat, iand32 a (ixor32 b (-1)) = c ∧ ∀ k, c.testBit k = (a.testBit k && !b.testBit k) := by
  refine ⟨((Int32.ofInt (a : Int)).toBitVec &&& ((Int32.ofInt (b : Int)).toBitVec ^^^ BitVec.allOnes 32)).toNat, ?_, fun k => ?_⟩
  · unfold iand32 ixor32 j_b32
    rw [o32_toInt]
    refine t32_nat ?_ ?_
    · rw [Int32.toBitVec_and, Int32.toBitVec_xor]
      rfl
    · rw [BitVec.toNat_and, o32_nat ha]
      exact Nat.lt_of_le_of_lt Nat.and_le_left ha
  · rw [BitVec.testBit_toNat, BitVec.getLsbD_and, BitVec.getLsbD_xor, BitVec.getLsbD_allOnes, ← BitVec.testBit_toNat, ← BitVec.testBit_toNat, o32_nat ha, o32_nat hb]
    by_cases hk : k < 32
    · rw [decide_eq_true hk, Bool.xor_true]
    · have : a.testBit k = false := Nat.testBit_lt_two_pow (Nat.lt_of_lt_of_le ha (Nat.pow_le_pow_right (by omega) (by omega)))
      rw [this, Bool.false_and, Bool.false_and]
theorem bs_andnot {p q : Int → Bool} {n : Int} (h : n ≤ 62) : iand64 (bs p n) (ixor64 (bs q n) (-1)) = bs (fun k => p k && !q k) n := by
  have h1 : bsN p n.toNat < 2 ^ 63 := Nat.lt_of_lt_of_le (bsN_lt p _) (Nat.pow_le_pow_right (by omega) (by omega))
  have h2 : bsN q n.toNat < 2 ^ 63 := Nat.lt_of_lt_of_le (bsN_lt q _) (Nat.pow_le_pow_right (by omega) (by omega))
  obtain ⟨c, hc, hb⟩ := andnot64 h1 h2
  unfold bs
  rw [hc]
  congr 1
  refine bsN_ext (fun k => ?_)
  rw [hb, bsN_bit, bsN_bit]
  cases decide (k < n.toNat) <;> simp
theorem bs_andnot32 {p q : Int → Bool} {n : Int} (h : n ≤ 30) : iand32 (bs p n) (ixor32 (bs q n) (-1)) = bs (fun k => p k && !q k) n := by
  have h1 : bsN p n.toNat < 2 ^ 31 := Nat.lt_of_lt_of_le (bsN_lt p _) (Nat.pow_le_pow_right (by omega) (by omega))
  have h2 : bsN q n.toNat < 2 ^ 31 := Nat.lt_of_lt_of_le (bsN_lt q _) (Nat.pow_le_pow_right (by omega) (by omega))
  obtain ⟨c, hc, hb⟩ := andnot32 h1 h2
  unfold bs
  rw [hc]
  congr 1
  refine bsN_ext (fun k => ?_)
  rw [hb, bsN_bit, bsN_bit]
  cases decide (k < n.toNat) <;> simp
theorem bs_all {n m : Int} (h0 : 0 ≤ n) (h1 : n ≤ m) (h2 : m ≤ 62) : ishl64 1 n - 1 = bs (fun j => decide (j < n)) m := by
  obtain ⟨k, rfl⟩ := Int.eq_ofNat_of_zero_le h0
  rw [shl64_1 k (by omega)]
  have hp : 0 < 2 ^ k := Nat.two_pow_pos k
  unfold bs
  rw [show ((2 ^ k : Nat) : Int) - 1 = ((2 ^ k - 1 : Nat) : Int) by omega]
  congr 1
  refine bsN_ext (fun j => ?_)
  rw [Nat.testBit_two_pow_sub_one]
  by_cases hj : j < k
  · rw [decide_eq_true hj, decide_eq_true (show j < m.toNat by omega), decide_eq_true (show (j : Int) < k by omega)]; rfl
  · rw [decide_eq_false hj, decide_eq_false (show ¬ (j : Int) < k by omega), Bool.and_false]
theorem bs_eq0 {p : Int → Bool} {n : Int} (h : bs p n = 0) : ∀ k : Int, 0 ≤ k → k < n → p k = false := by
  intro k h0 h1
  have hb := bsN_bit p n.toNat k.toNat
  unfold bs at h
  rw [show bsN p n.toNat = 0 by omega, Nat.zero_testBit, decide_eq_true (show k.toNat < n.toNat by omega), Bool.true_and, show ((k.toNat : Nat) : Int) = k by omega] at hb
  exact hb.symm
theorem cnt_ext {p q : Int → Bool} {m n : Int} (h0 : 0 ≤ m) (h1 : m ≤ n) (h2 : ∀ j, 0 ≤ j → j < m → p j = q j) (h3 : ∀ j, m ≤ j → j < n → p j = false) : cnt p n = cnt q m := by
  rw [← cnt_congr h2]
  have key : ∀ d : Nat, m + d ≤ n → cnt p (m + d) = cnt p m := by
    intro d
    induction d with
    | zero => intro _; rw [show m + ((0 : Nat) : Int) = m by omega]
    | succ d ih =>
      intro hd
      rw [show m + ((d + 1 : Nat) : Int) = (m + d) + 1 by omega, cnt_s p (by omega), ih (by omega), h3 _ (by omega) (by omega), b2i_f]
      omega
  have := key (n - m).toNat (by omega)
  rw [show m + (((n - m).toNat : Nat) : Int) = n by omega] at this
  exact this
theorem cnt_inS {P : jP} (h : WF P) (p : Int → Bool) : cnt (inS P p) 40 = cnt p (nS P) := by
  have hn := h.n
  refine cnt_ext (by omega) (by omega) (fun j a b => ?_) (fun j a b => ?_)
  · unfold inS; rw [decide_eq_true b, Bool.true_and]
  · unfold inS; rw [decide_eq_false (by omega), Bool.false_and]
theorem kth_inS {P : jP} (h : WF P) (p : Int → Bool) (k : Int) : kth (inS P p) k = ff (fun j => p j && decide (cnt p j = k)) (nS P) := by
  have hn := h.n
  have hc : ∀ j, 0 ≤ j → j ≤ nS P → cnt (inS P p) j = cnt p j := fun j a b => cnt_congr (fun i i0 i1 => by unfold inS; rw [decide_eq_true (by omega), Bool.true_and])
  unfold kth
  rcases ff_cases (fun j => p j && decide (cnt p j = k)) (nS P) with ⟨g1, g2⟩ | ⟨g1, g2, g3, g4⟩
  · rw [g1]
    refine ff_none (fun j a b => ?_)
    by_cases hj : j < nS P
    · have := g2 j a hj
      rw [hc j a (by omega)]
      unfold inS
      rw [decide_eq_true hj, Bool.true_and]
      exact this
    · unfold inS
      rw [decide_eq_false hj]
      rfl
  · refine ff_eq g1 (by omega) ?_ (fun j a b => ?_)
    · rw [hc _ g1 (by omega)]
      unfold inS
      rw [decide_eq_true g2, Bool.true_and]
      exact g3
    · have := g4 j a b
      rw [hc j a (by omega)]
      unfold inS
      rw [decide_eq_true (show j < nS P by omega), Bool.true_and]
      exact this
theorem kth_0 {p : Int → Bool} {m : Int} (hm : m ≤ 40) (h : ∀ j, m ≤ j → j < 40 → p j = false) : kth p 0 = ff p m := by
  unfold kth
  rcases ff_cases p m with ⟨g1, g2⟩ | ⟨g1, g2, g3, g4⟩
  · rw [g1]
    refine ff_none (fun j a b => ?_)
    by_cases hj : j < m
    · rw [g2 j a hj, Bool.false_and]
    · rw [h j (by omega) b, Bool.false_and]
  · refine ff_eq g1 (by omega) ?_ (fun j a b => ?_)
    · rw [g3, cnt_z (fun j a b => g4 j a b)]
      rfl
    · rw [g4 j a b, Bool.false_and]
/-- the class's state between calls, as far as its questions go -/
def XS (b : Nat) (μ : jMu) (P : jP) (w q : Int → Bool) : Prop := FC b μ P ∧ μ 0 9 = ((b : Nat) : Int) ∧ μ 0 13 = bs w 12 ∧ μ 0 14 = bs (inS P (flt P w)) 40 ∧ μ 74 0 = bs q 12 ∧ (∀ r, w r = true → r < nR P) ∧ (∀ r, q r = true → r < nD P)
section
variable {E : jE} {μ μ1 : jMu} {P : jP} {w q : Int → Bool} {Q : Int → jMu → Prop} {b : Nat}
theorem XS.c (h : XS b μ P w q) : CB b μ P := h.1.1
theorem XS.wf (h : XS b μ P w q) : WF P := h.1.1.2.1
theorem XS.n (h : XS b μ P w q) : (0 ≤ nR P ∧ nR P ≤ 12) ∧ (0 ≤ nD P ∧ nD P ≤ 6) ∧ (0 ≤ nG P ∧ nG P ≤ 24) ∧ (0 ≤ nH P ∧ nH P ≤ 12) ∧ (0 ≤ nS P ∧ nS P ≤ 40) ∧ (0 ≤ nC P ∧ nC P ≤ 400) := h.1.1.2.1.n
theorem XS.ib (h : XS b μ P w q) : isB b := h.1.1.1
theorem FC.e (h : FC b μ P) {s : Int} (h0 : 0 ≤ s) (h1 : s < nS P) : μ 46 s = fs P s ∧ μ 47 s = cb P s ∧ μ 48 s = cg P s (nS P) ∧ μ 49 s = dp P s ∧ μ 50 s = bs (bl P s) 40 ∧ μ 51 s = bs (inS P (nr P s)) 40 := h.2.2.1 s h0 h1
theorem FC.f (h : FC b μ P) : μ 45 8 = bs (inS P (rg P)) 40 ∧ μ 45 9 = bs (inS P (nd P)) 40 ∧ μ 45 10 = bs (inS P (tw P)) 40 ∧ μ 45 11 = bs (inS P (cvd P)) 40 ∧ μ 45 12 = bs (inS P (vt P)) 40 := h.2.2.2.1
theorem FC.r (h : FC b μ P) : Re μ P := h.2.2.2.2
theorem inS_t {p : Int → Bool} {s : Int} (h : s < nS P) : inS P p s = p s := by unfold inS; rw [decide_eq_true h, Bool.true_and]
theorem sX_in {p : Int → Bool} {x s : Int} (hx : x = bs (inS P p) 40) (h0 : 0 ≤ s) (h1 : s < nS P) (h40 : nS P ≤ 40) (k : Q (b2i (p s)) μ) : Ci E mX_isIn [jvI s, jvL x] μ Q := by
  refine sX_isIn hx h0 (by omega) (fun hh => ?_) (fun hh => ?_)
  · rw [inS_t h1] at hh; rw [hh] at k; exact k
  · rw [inS_t h1] at hh; rw [hh] at k; exact k
theorem sX_flagb {c : Bool} (k : Q (b2i c) μ) : Ci E mX_flag [jvI (b2i c)] μ Q := by
  refine sX_flag (fun hh => ?_) (fun hh => ?_)
  · rw [b2i_b hh] at k; exact k
  · rw [b2i_b0 hh] at k; exact k
theorem sBk_fallenBy (h : CB b μ P) {x : Int} {w : Int → Bool} (hx : x = bs w 12) (k : Q (bs (inS P (flt P w)) 40) μ) : Cl E mBk_fallenBy [jvR ((b : Nat) : Int), jvI x] μ Q := by
  have hn := h.n
  subst hx
  refine vBk_fallenBy_0 h.1 ?_
  have lp : ∀ (l4 : Int), 0 ≤ l4 → l4 ≤ nS P → K 121 E mBk_fallenBy 5 [some (jvR ((b : Nat) : Int)), some (jvI (bs w 12)), some (jvL (bs (fun j => decide (j < l4) && flt P w j) 40)), none, some (jvI l4), none, none] [] μ (fun v μ1 => ∃ r, v = some (jvL r) ∧ Q r μ1) := by
    refine up_ind (nS P) _ ?_
    intro l4 ih g0 g1
    refine vBk_fallenBy_5 h.1 ?_
    rw [h.e0.2.1]
    refine ⟨fun c => ⟨_, rfl, ?_⟩, fun c => ⟨by omega, ?_⟩⟩
    · rw [show l4 = nS P by omega]
      exact k
    · have hs := h.w.s l4 g0 (by omega)
      have hp := h.w.p g0 (show l4 < nS P by omega)
      rw [h.e12 g0 (by omega), bs_in32 hs.1 (by omega) (by omega), decide_eq_true (show ru P l4 < 12 by omega), Bool.true_and]
      have lp2 : ∀ (l6 : Int), 0 ≤ l6 → l6 ≤ pn P l4 → ∀ l5, l5 = b2i (w (ru P l4) || anyB (fun k => flt P w (nm P l4 k)) l6) → K 121 E mBk_fallenBy 38 [some (jvR ((b : Nat) : Int)), some (jvI (bs w 12)), some (jvL (bs (fun j => decide (j < l4) && flt P w j) 40)), none, some (jvI l4), some (jvI l5), some (jvI l6)] [] μ (fun v μ1 => ∃ r, v = some (jvL r) ∧ Q r μ1) := by
        refine up_ind (pn P l4) _ ?_
        intro l6 ih6 d0 d1 l5 d4
        refine vBk_fallenBy_38 h.1 (sBk_nameCount h g0 (by omega) ⟨fun c6 => ?_, fun c6 => ⟨fun c5 => ⟨by omega, ih6 (by omega) (by omega) (by omega) _ ?_⟩, fun c5 => ?_⟩⟩)
        · rw [show l6 = pn P l4 by omega, ← flt_eq h.w g0 (by omega)] at d4
          have ih' := ih (by omega) (by omega) (by omega)
          rw [← bs_up g0] at ih'
          refine ⟨fun c5 => ⟨by omega, ?_⟩, fun c5 => sX_bit g0 (by omega) ⟨by omega, ?_⟩⟩
          · simp only [b2i_b0 (d4.symm.trans c5), Bool.and_false, Bool.or_false] at ih'
            exact ih'
          · simp only [b2i_b (fun e => c5 (d4.trans e)), Bool.and_true] at ih'
            rw [bs_or (by omega)]
            exact ih'
        · rw [anyB_s d0, ← Bool.or_assoc, b2i_b (fun e => c5 (d4.trans e))]; rfl
        · have hm := h.w.m l4 l6 g0 (by omega) d0 (by omega)
          refine sBk_named h g0 (by omega) d0 (by omega) (sX_isIn rfl hm.1 (by omega) (fun hh => ⟨fun c => absurd c (by decide), fun _ => ⟨by omega, ih6 (by omega) (by omega) (by omega) _ ?_⟩⟩) (fun hh => ⟨fun _ => ⟨by omega, ih6 (by omega) (by omega) (by omega) _ ?_⟩, fun c => absurd rfl c⟩))
          · rw [decide_eq_true hm.2, Bool.true_and] at hh
            rw [anyB_s d0, hh, Bool.or_true, Bool.or_true]; rfl
          · rw [decide_eq_true hm.2, Bool.true_and] at hh
            rw [anyB_s d0, ← Bool.or_assoc, b2i_b0 (d4.symm.trans c5), hh]; rfl
      refine ⟨fun c2 => lp2 0 (by omega) (by omega) 0 ?_, fun c2 => lp2 0 (by omega) (by omega) 1 ?_⟩
      · rw [b2i_b0 c2, anyB_0 (by omega)]; rfl
      · rw [b2i_b c2]; rfl
  have := lp 0 (by omega) (by omega)
  rw [show bs (fun j => decide (j < 0) && flt P w j) 40 = 0 from bs_0 (fun j a b => by rw [decide_eq_false (by omega), Bool.false_and])] at this
  exact this
theorem cnt_12 {p : Int → Bool} {n : Int} (h0 : 0 ≤ n) (h1 : n ≤ 12) (h : ∀ r, p r = true → r < n) : cnt p 12 = cnt p n := by
  refine cnt_ext h0 h1 (fun _ _ _ => rfl) (fun j a b => ?_)
  rw [Bool.eq_false_iff]
  intro hh
  have := h j hh
  omega
theorem sX_has (h : XS b μ P w q) {a : Int} (k : Q (vHas P w q a) μ) : Ci E mX_has [jvR 0, jvI a] μ Q := by
  have hn := h.n
  have e0 := h.c.e0
  have hf := h.1.f
  refine vX_has_0 h.ib ⟨fun c => ⟨h.2.1, ?_⟩, fun c => ⟨h.2.1, ?_⟩, fun c => ⟨h.2.1, ?_⟩, fun c => ⟨h.2.1, ?_⟩, fun c => ⟨h.2.1, ?_⟩, fun c => ⟨h.2.1, ?_⟩, fun c => ?_, fun c => ?_, fun c => ?_, fun c => ?_, fun c => ?_, fun c => ?_, fun c => ?_, fun c => ?_, fun c => ?_⟩
  · subst c; rw [e0.1]; exact ⟨_, rfl, k⟩
  · subst c; rw [e0.2.1]; exact ⟨_, rfl, k⟩
  · subst c; rw [e0.2.2.1]; exact ⟨_, rfl, k⟩
  · subst c; rw [e0.2.2.2.2.1]; exact ⟨_, rfl, k⟩
  · subst c; rw [e0.2.2.2.2.2.1]; exact ⟨_, rfl, k⟩
  · subst c; rw [e0.2.2.2.1]; exact ⟨_, rfl, k⟩
  · subst c; refine sLg_bitCount hf.1 ⟨_, rfl, ?_⟩; rw [cnt_inS h.wf]; exact k
  · subst c; refine sLg_bitCount hf.2.1 ⟨_, rfl, ?_⟩; rw [cnt_inS h.wf]; exact k
  · subst c; refine sLg_bitCount hf.2.2.1 ⟨_, rfl, ?_⟩; rw [cnt_inS h.wf]; exact k
  · subst c; refine sLg_bitCount hf.2.2.2.1 ⟨_, rfl, ?_⟩; rw [cnt_inS h.wf]; exact k
  · subst c; rw [h.1.r.1]; exact ⟨_, rfl, k⟩
  · subst c; refine sIg_bitCount h.2.2.1 ⟨_, rfl, ?_⟩; rw [cnt_12 (n := nR P) (by omega) (by omega) h.2.2.2.2.2.1]; exact k
  · subst c; refine sLg_bitCount h.2.2.2.1 ⟨_, rfl, ?_⟩; rw [cnt_inS h.wf]; exact k
  · subst c; refine sIg_bitCount h.2.2.2.2.1 ⟨_, rfl, ?_⟩; rw [cnt_12 (n := nD P) (by omega) (by omega) h.2.2.2.2.2.2]; exact k
  · have e : vHas P w q a = -1 := by
      unfold vHas
      repeat rw [if_neg (by omega)]
    rw [e] at k
    exact ⟨_, rfl, k⟩
theorem sX_fault (a : Int) (k : Q (if a = 0 then μ 0 11 else if a = 1 then μ 0 12 else -1) μ) : Ci E mX_fault [jvR 0, jvI a] μ Q := by
  refine vX_fault_0 ⟨fun c => ⟨_, rfl, ?_⟩, fun c => ⟨_, rfl, ?_⟩, fun c => ⟨_, rfl, ?_⟩⟩
  · rw [if_pos c] at k; exact k
  · rw [if_neg (by omega), if_pos c] at k; exact k
  · rw [if_neg c.1, if_neg c.2] at k; exact k
theorem sBk_stepsBy (h : CB b μ P) {r : Int} (k : Q (cnt (fun s => ru P s == r) (nS P)) μ) : Ci E mBk_stepsBy [jvR ((b : Nat) : Int), jvI r] μ Q := by
  have hn := h.n
  refine vBk_stepsBy_0 h.1 ?_
  have lp : ∀ (l3 : Int), 0 ≤ l3 → l3 ≤ nS P → ∀ l2, l2 = cnt (fun s => ru P s == r) l3 → K 121 E mBk_stepsBy 4 [some (jvR ((b : Nat) : Int)), some (jvI r), some (jvI l2), some (jvI l3)] [] μ (fun v μ1 => ∃ r, v = some (jvI r) ∧ Q r μ1) := by
    refine up_ind (nS P) _ ?_
    intro l3 ih g0 g1 l2 g4
    have hcl := cnt_le (fun s => ru P s == r) g0
    have hcs := cnt_s (fun s => ru P s == r) g0
    refine vBk_stepsBy_4 h.1 ?_
    rw [h.e0.2.1]
    refine ⟨fun c => ⟨_, rfl, ?_⟩, fun c => ⟨by omega, ?_⟩⟩
    · rw [g4, show l3 = nS P by omega]; exact k
    · rw [h.e12 g0 (by omega)]
      refine ⟨fun c2 => ⟨by omega, ih (by omega) (by omega) (by omega) _ ?_⟩, fun c2 => ⟨by omega, ih (by omega) (by omega) (by omega) _ ?_⟩⟩
      · rw [beq_eq_false_iff_ne.mpr c2, b2i_f] at hcs; omega
      · rw [beq_iff_eq.mpr c2, b2i_t] at hcs; omega
  exact lp 0 (by omega) (by omega) 0 rfl
theorem sX_rule (h : XS b μ P w q) {r a : Int} (k : Q (vRule P w r a) μ) : Ci E mX_rule [jvR 0, jvI r, jvI a] μ Q := by
  have hn := h.n
  refine vX_rule_0 h.ib ⟨h.2.1, sBk_hasRule h.c (fun h0 h1 => ⟨fun _ => ?_, fun c => absurd c (by decide)⟩) (fun h0 => ⟨fun c => absurd rfl c, fun _ => ⟨_, rfl, ?_⟩⟩)⟩
  · unfold vRule at k
    rw [if_pos ⟨h0, h1⟩] at k
    refine ⟨fun c => ⟨⟨h.2.1, by omega⟩, ?_⟩, fun c => ⟨h.2.1, ?_⟩, fun c => ?_, fun c => ⟨h.2.1, ?_⟩, fun c => ⟨_, rfl, ?_⟩⟩
    · subst c; rw [h.c.e9 h0 h1]; exact ⟨_, rfl, k⟩
    · subst c; exact sBk_stepsBy h.c ⟨_, rfl, k⟩
    · subst c
      have k2 : Q (b2i (w r)) μ := k
      rw [h.2.2.1, bs_in32 h0 (by omega) (by omega), decide_eq_true (show r < 12 by omega), Bool.true_and]
      refine ⟨fun c => ?_, fun c => ?_⟩
      · rw [b2i_b0 c] at k2; exact sX_flagb (c := false) ⟨_, rfl, k2⟩
      · rw [b2i_b c] at k2; exact sX_flagb (c := true) ⟨_, rfl, k2⟩
    · subst c
      have k2 : Q (cnt (flt P (fun x => x == r)) (nS P)) μ := k
      refine sBk_fallenBy h.c (w := fun x => x == r) (bs_bit32 h0 (by omega) (by omega)) (sLg_bitCount rfl ⟨_, rfl, ?_⟩)
      rw [cnt_inS h.wf]; exact k2
    · rw [if_neg (by omega), if_neg (by omega), if_neg (by omega), if_neg (by omega)] at k
      exact k
  · unfold vRule at k
    rw [if_neg (by omega)] at k
    exact k
theorem sWa_looksAt (h : CB b μ P) {d s : Int} (h0 : 0 ≤ d) (h1 : d < nD P) (kt : rf P d ≤ s → s ≤ rt P d → Q 1 μ) (kf : s < rf P d ∨ rt P d < s → Q 0 μ) : Ci E mWa_looksAt [jvR ((b : Nat) : Int), jvI d, jvI s] μ Q := by
  have hn := h.n
  refine vWa_looksAt_0 h.1 ?_
  rw [(h.e16 h0 h1).2.1, (h.e16 h0 h1).2.2]
  exact ⟨by omega, fun c => ⟨_, rfl, kf (by omega)⟩, fun c => ⟨by omega, fun c2 => ⟨_, rfl, kf (by omega)⟩, fun c2 => ⟨_, rfl, kt (by omega) (by omega)⟩⟩⟩
theorem sWa_seen (h : CB b μ P) {A : Int → Bool} {x s : Int} (hx : x = bs A 12) (k : Q (sn P A s) μ) : Ci E mWa_seen [jvR 74, jvR ((b : Nat) : Int), jvI s, jvI x] μ Q := by
  have hn := h.n
  subst hx
  refine vWa_seen_0 h.1 ?_
  have lp : ∀ (l5 : Int), 0 ≤ l5 → l5 ≤ nD P → ∀ l4, l4 = snN P A s l5.toNat → K 121 E mWa_seen 8 [some (jvR 74), some (jvR ((b : Nat) : Int)), some (jvI s), some (jvI (bs A 12)), some (jvI l4), some (jvI l5)] [] μ (fun v μ1 => ∃ r, v = some (jvI r) ∧ Q r μ1) := by
    refine up_ind (nD P) _ ?_
    intro l5 ih g0 g1 l4 g4
    have hl4 := snN_r h.w (A := A) (s := s) l5.toNat (by omega)
    rw [← g4] at hl4
    refine vWa_seen_8 h.1 ?_
    rw [h.e0.2.2.1]
    refine ⟨fun c => ⟨by omega, _, rfl, ?_⟩, fun c => ?_⟩
    · have hl : l5 = nD P := by omega
      subst hl
      rw [g4]
      exact k
    · have hd := h.w.d l5 g0 (by omega)
      have hmr := mul_r hl4 (show 0 ≤ 100 - od P l5 ∧ 100 - od P l5 ≤ 100 by omega)
      have es : snN P A s (l5 + 1).toNat = if (A l5 && decide (rf P l5 ≤ s ∧ s ≤ rt P l5)) = true then Int.tdiv (l4 * (100 - od P l5)) 100 else l4 := by
        rw [show (l5 + 1).toNat = l5.toNat + 1 by omega]
        show (if (A ((l5.toNat : Nat) : Int) && decide (rf P ((l5.toNat : Nat) : Int) ≤ s ∧ s ≤ rt P ((l5.toNat : Nat) : Int))) = true then Int.tdiv (snN P A s l5.toNat * (100 - od P ((l5.toNat : Nat) : Int))) 100 else snN P A s l5.toNat) = _
        rw [show ((l5.toNat : Nat) : Int) = l5 by omega, ← g4]
      rw [bs_in32 g0 (by omega) (by omega), decide_eq_true (show l5 < 12 by omega), Bool.true_and]
      refine ⟨fun c2 => ⟨by omega, ih (by omega) (by omega) (by omega) _ ?_⟩, fun c2 => sWa_looksAt h g0 (by omega) (fun a b => ⟨fun c => absurd c (by decide), fun _ => ?_⟩) (fun a => ⟨fun _ => ⟨by omega, ih (by omega) (by omega) (by omega) _ ?_⟩, fun c => absurd rfl c⟩)⟩
      · rw [es, b2i_b0 c2]; rfl
      · rw [(h.e16 g0 (by omega)).1]
        refine ⟨⟨by omega, by omega, by omega, by omega, by omega⟩, ih (by omega) (by omega) (by omega) _ ?_⟩
        rw [es, b2i_b c2, decide_eq_true (show rf P l5 ≤ s ∧ s ≤ rt P l5 from ⟨a, b⟩)]; rfl
      · rw [es, decide_eq_false (show ¬ (rf P l5 ≤ s ∧ s ≤ rt P l5) by omega), Bool.and_false]; rfl
  exact lp 0 (by omega) (by omega) 1000 rfl
theorem sX_step (h : XS b μ P w q) {s a : Int} (k : Q (vStep P w q s a) μ) : Ci E mX_step [jvR 0, jvI s, jvI a] μ Q := by
  have hn := h.n
  have hf := h.1.f
  refine vX_step_0 h.ib ⟨h.2.1, sBk_hasStep h.c (fun h0 h1 => ⟨fun _ => ?_, fun c => absurd c (by decide)⟩) (fun h0 => ⟨fun c => absurd rfl c, fun _ => ⟨_, rfl, ?_⟩⟩)⟩
  · have he := h.1.e h0 h1
    have ht := h.wf.t (inW_s h0 h1)
    unfold vStep at k
    rw [if_pos ⟨h0, h1⟩] at k
    refine ⟨fun c => ⟨⟨h.2.1, by omega⟩, ?_⟩, fun c => ⟨h.2.1, ?_⟩, fun c => ?_, fun c => ?_, fun c => ⟨by omega, ?_⟩, fun c => ⟨by omega, ?_⟩, fun c => ⟨by omega, ?_⟩, fun c => ?_, fun c => ⟨by omega, ?_⟩, fun c => ⟨⟨h.2.1, h.2.1, by omega⟩, ?_⟩, fun c => ⟨h.2.1, ?_⟩, fun c => ⟨_, rfl, ?_⟩⟩
    · subst c; rw [h.c.e12 h0 h1]; exact ⟨_, rfl, k⟩
    · subst c; exact sBk_nameCount h.c h0 h1 ⟨_, rfl, k⟩
    · subst c; exact sX_in hf.1 h0 h1 (by omega) (sX_flagb ⟨_, rfl, k⟩)
    · subst c; exact sX_in hf.2.1 h0 h1 (by omega) (sX_flagb ⟨_, rfl, k⟩)
    · subst c; rw [he.1]; exact ⟨_, rfl, k⟩
    · subst c; rw [he.2.1]; exact ⟨_, rfl, k⟩
    · subst c; rw [h.1.r.2.1 s h0 h1]; exact ⟨_, rfl, k⟩
    · subst c; exact sX_in h.2.2.2.1 h0 h1 (by omega) (sX_flagb ⟨_, rfl, k⟩)
    · subst c; refine sLg_bitCount he.2.2.2.2.2 ⟨_, rfl, ?_⟩; rw [cnt_inS h.wf]; exact k
    · subst c; rw [h.c.e13 h0 h1]; exact sTe_size h.c ht.1 ht.2.1 ⟨_, rfl, k⟩
    · subst c; exact sWa_seen h.c h.2.2.2.2.1 ⟨_, rfl, k⟩
    · unfold vStep0 at k
      rw [if_neg (by omega), if_neg (by omega), if_neg (by omega), if_neg (by omega), if_neg (by omega), if_neg (by omega), if_neg (by omega), if_neg (by omega), if_neg (by omega), if_neg (by omega), if_neg (by omega)] at k
      exact k
  · unfold vStep at k
    rw [if_neg (by omega)] at k
    exact k
theorem sX_names (h : XS b μ P w q) {s a : Int} (k : Q (vNames P s a) μ) : Ci E mX_names [jvR 0, jvI s, jvI a] μ Q := by
  unfold vNames at k
  refine vX_names_0 h.ib ⟨h.2.1, sBk_hasStep h.c (fun h0 h1 => ⟨fun c => absurd c (by decide), fun _ => ⟨fun c => ⟨_, rfl, ?_⟩, fun c => ⟨h.2.1, sBk_nameCount h.c h0 h1 ⟨fun c2 => ⟨h.2.1, ?_⟩, fun c2 => ⟨_, rfl, ?_⟩⟩⟩⟩⟩) (fun h0 => ⟨fun _ => ⟨_, rfl, ?_⟩, fun c => absurd rfl c⟩)⟩
  · rw [if_neg (by omega)] at k; exact k
  · rw [if_pos (by omega)] at k
    exact sBk_named h.c h0 h1 (by omega) c2 ⟨_, rfl, k⟩
  · rw [if_neg (by omega)] at k; exact k
  · rw [if_neg (by omega)] at k; exact k
theorem sX_term (h : XS b μ P w q) {s a : Int} (k : Q (vTerm P s a) μ) : Ci E mX_term [jvR 0, jvI s, jvI a] μ Q := by
  have hn := h.n
  unfold vTerm at k
  refine vX_term_0 h.ib ⟨h.2.1, sBk_hasStep h.c (fun h0 h1 => ⟨fun c => absurd c (by decide), fun _ => ⟨fun c => ⟨⟨h.2.1, by omega, h.2.1⟩, ?_⟩, fun c => ⟨_, rfl, ?_⟩⟩⟩) (fun h0 => ⟨fun _ => ⟨_, rfl, ?_⟩, fun c => absurd rfl c⟩)⟩
  · have ht := h.wf.t (inW_s h0 h1)
    have hc := h.wf.c _ ht.1 ht.2.1
    have ht1 := ht.1
    rw [h.c.e13 h0 h1]
    refine sTe_size h.c ht.1 ht.2.1 ⟨fun c2 => ⟨_, rfl, ?_⟩, fun c2 => ⟨⟨h.2.1, by omega, by omega⟩, _, rfl, ?_⟩⟩
    · rw [if_neg (by omega)] at k; exact k
    · rw [if_pos (by omega)] at k
      rw [h.c.e5 (by omega) (by omega)]; exact k
  · rw [if_neg (by omega)] at k; exact k
  · rw [if_neg (by omega)] at k; exact k
theorem sX_wrong (h : XS b μ P w q) (k : Q (vWrong P) μ) : Ci E mX_wrong [jvR 0] μ Q := by
  have hn := h.n
  refine vX_wrong_0 h.ib ⟨h.2.1, vBk_all_0 h.ib ?_⟩
  rw [h.c.e0.2.1]
  refine sX_bit0 ?_
  rw [bs_all (m := 40) (by omega) (by omega) (by omega)]
  have hl := bs_lt (fun j => decide (j < nS P)) (n := 40) (m := 40) (by omega)
  have hg := bs_nn (fun j => decide (j < nS P)) 40
  refine ⟨by omega, _, rfl, ?_⟩
  show Ci E mX_kthOf [jvL (iand64 (bs (fun j => decide (j < nS P)) 40) (ixor64 (μ 45 8) (-1))), jvI 0] μ _
  rw [h.1.f.1, bs_andnot (by omega)]
  refine sX_kthOf rfl ⟨_, rfl, ?_⟩
  rw [kth_0 (m := nS P) (by omega) (fun j a b => by rw [decide_eq_false (by omega), Bool.false_and])]
  rw [show ff (fun k => decide (k < nS P) && !inS P (rg P) k) (nS P) = vWrong P from ff_congr (fun j a b => by rw [inS_t b, decide_eq_true b, Bool.true_and])]
  exact k
theorem sX_rest (h : XS b μ P w q) {a : Int} (k : Q (vRest P a) μ) : Ci E mX_rest [jvR 0, jvI a] μ Q := by
  have hr := rn_r h.wf
  unfold vRest at k
  refine vX_rest_0 ?_
  rw [h.1.r.1]
  refine ⟨fun c => ⟨_, rfl, ?_⟩, fun c => ⟨fun c2 => ⟨_, rfl, ?_⟩, fun c2 => ⟨by omega, _, rfl, ?_⟩⟩⟩
  · rw [if_neg (by omega)] at k; exact k
  · rw [if_neg (by omega)] at k; exact k
  · rw [if_pos (by omega)] at k
    rw [(h.1.r.2.2.1 a (by omega) (by omega)).1]; exact k
theorem sX_leans (h : XS b μ P w q) {a i : Int} (k : Q (vLeans P a i) μ) : Ci E mX_leans [jvR 0, jvI a, jvI i] μ Q := by
  have hr := rn_r h.wf
  unfold vLeans at k
  refine vX_leans_0 ?_
  rw [h.1.r.1]
  refine ⟨fun c => ⟨_, rfl, ?_⟩, fun c => ⟨fun c2 => ⟨_, rfl, ?_⟩, fun c2 => ⟨fun c3 => ⟨_, rfl, ?_⟩, fun c3 => ⟨by omega, ?_⟩⟩⟩⟩
  · rw [if_neg (by omega)] at k; exact k
  · rw [if_neg (by omega)] at k; exact k
  · rw [if_neg (by omega)] at k; exact k
  · have hp := rp_r h.wf (show 0 ≤ a by omega) (show a < rn P by omega)
    rw [(h.1.r.2.2.1 a (by omega) (by omega)).2.1]
    refine ⟨fun c4 => ⟨by omega, _, rfl, ?_⟩, fun c4 => ⟨_, rfl, ?_⟩⟩
    · rw [if_pos (by omega)] at k
      rw [h.1.r.2.2.2 a i (by omega) (by omega) (by omega) c4]; exact k
    · rw [if_neg (by omega)] at k; exact k
theorem sX_upon (h : XS b μ P w q) {s o : Int} (k : Q (vUpon P s o) μ) : Ci E mX_upon [jvR 0, jvI s, jvI o] μ Q := by
  have hn := h.n
  unfold vUpon at k
  refine vX_upon_0 h.ib ⟨h.2.1, sBk_hasStep h.c (fun h0 h1 => ⟨fun c => absurd c (by decide), fun _ => ⟨h.2.1, sBk_hasStep h.c (fun h2 h3 => ⟨fun _ => ⟨by omega, ?_⟩, fun c => absurd c (by decide)⟩) (fun h2 => ⟨fun c => absurd rfl c, fun _ => ⟨_, rfl, ?_⟩⟩)⟩⟩) (fun h0 => ⟨fun _ => ⟨_, rfl, ?_⟩, fun c => absurd rfl c⟩)⟩
  · rw [if_pos (by omega)] at k
    refine sX_isIn (h.1.e h0 h1).2.2.2.2.1 h2 (by omega) (fun hh => ?_) (fun hh => ?_)
    · rw [hh] at k; exact sX_flagb (c := true) ⟨_, rfl, k⟩
    · rw [hh] at k; exact sX_flagb (c := false) ⟨_, rfl, k⟩
  · rw [if_neg (by omega)] at k; exact k
  · rw [if_neg (by omega)] at k; exact k
theorem sX_depth (h : XS b μ P w q) {s : Int} (k : Q (vDepth P s) μ) : Ci E mX_depth [jvR 0, jvI s] μ Q := by
  have hn := h.n
  unfold vDepth at k
  refine vX_depth_0 h.ib ⟨h.2.1, sBk_hasStep h.c (fun h0 h1 => ⟨fun c => absurd c (by decide), fun _ => ⟨by omega, _, rfl, ?_⟩⟩) (fun h0 => ⟨fun _ => ⟨_, rfl, ?_⟩, fun c => absurd rfl c⟩)⟩
  · rw [if_pos (by omega)] at k
    rw [(h.1.e h0 h1).2.2.2.1]; exact k
  · rw [if_neg (by omega)] at k; exact k
theorem sX_covers (h : XS b μ P w q) {s : Int} (k : Q (vCovers P s) μ) : Ci E mX_covers [jvR 0, jvI s] μ Q := by
  have hn := h.n
  unfold vCovers at k
  refine vX_covers_0 h.ib ⟨h.2.1, sBk_hasStep h.c (fun h0 h1 => ⟨fun c => absurd c (by decide), fun _ => ⟨by omega, _, rfl, ?_⟩⟩) (fun h0 => ⟨fun _ => ⟨_, rfl, ?_⟩, fun c => absurd rfl c⟩)⟩
  · rw [if_pos (by omega)] at k
    rw [(h.1.e h0 h1).2.2.1]; exact k
  · rw [if_neg (by omega)] at k; exact k
theorem sX_vital (h : XS b μ P w q) {s : Int} (k : Q (vVital P s) μ) : Ci E mX_vital [jvR 0, jvI s] μ Q := by
  have hn := h.n
  unfold vVital at k
  refine vX_vital_0 h.ib ⟨h.2.1, sBk_hasStep h.c (fun h0 h1 => ⟨fun c => absurd c (by decide), fun _ => ?_⟩) (fun h0 => ⟨fun _ => ⟨_, rfl, ?_⟩, fun c => absurd rfl c⟩)⟩
  · rw [if_pos (by omega)] at k
    exact sX_in h.1.f.2.2.2.2 h0 h1 (by omega) (sX_flagb ⟨_, rfl, k⟩)
  · rw [if_neg (by omega)] at k; exact k
theorem sX_vitals (h : XS b μ P w q) {a : Int} (k : Q (vVitals P a) μ) : Ci E mX_vitals [jvR 0, jvI a] μ Q := by
  refine vX_vitals_0 (sX_kthOf h.1.f.2.2.2.2 ⟨_, rfl, ?_⟩)
  rw [kth_inS h.wf]; exact k
theorem sX_load (h : XS b μ P w q) {s : Int} (k : Q (vLoad P s) μ) : Ci E mX_load [jvR 0, jvI s] μ Q := by
  have hn := h.n
  unfold vLoad at k
  refine vX_load_0 h.ib ⟨h.2.1, sBk_hasStep h.c (fun h0 h1 => ⟨fun c => absurd c (by decide), fun _ => vFa_neededUpon_0 ⟨by omega, ?_⟩⟩) (fun h0 => ⟨fun _ => ⟨_, rfl, ?_⟩, fun c => absurd rfl c⟩)⟩
  · rw [if_pos (by omega)] at k
    have lp : ∀ (l3 : Int), s + 1 ≤ l3 → l3 ≤ nS P → ∀ l2, l2 = cnt (fun t => nd P t && bl P t s) l3 → K 121 E mFa_neededUpon 6 [some (jvR 45), some (jvI s), some (jvI l2), some (jvI l3)] [] μ (fun v μ1 => ∃ r, v = some (jvI r) ∧ (∃ r1, some (jvI r) = some (jvI r1) ∧ Q r1 μ1)) := by
      refine up_ind (nS P) _ ?_
      intro l3 ih g0 g1 l2 g4
      have hcl := cnt_le (fun t => nd P t && bl P t s) (show 0 ≤ l3 by omega)
      have hcs := cnt_s (fun t => nd P t && bl P t s) (show 0 ≤ l3 by omega)
      refine vFa_neededUpon_6 h.ib ⟨h.1.2.1, ?_⟩
      rw [h.c.e0.2.1]
      refine ⟨fun c => ⟨_, rfl, _, rfl, ?_⟩, fun c => sX_in h.1.f.2.1 (by omega) (by omega) (by omega) ⟨fun c2 => ⟨by omega, ih (by omega) (by omega) (by omega) _ ?_⟩, fun c2 => ⟨by omega, ?_⟩⟩⟩
      · rw [g4, show l3 = nS P by omega]; exact k
      · rw [b2i_b0 c2, Bool.false_and, b2i_f] at hcs; omega
      · rw [b2i_b c2, Bool.true_and] at hcs
        refine sX_isIn (h.1.e (by omega) (by omega)).2.2.2.2.1 h0 (by omega) (fun hh => ⟨fun c => absurd c (by decide), fun _ => ⟨by omega, ih (by omega) (by omega) (by omega) _ ?_⟩⟩) (fun hh => ⟨fun _ => ⟨by omega, ih (by omega) (by omega) (by omega) _ ?_⟩, fun c => absurd rfl c⟩)
        · rw [hh, b2i_t] at hcs; omega
        · rw [hh, b2i_f] at hcs; omega
    refine lp (s + 1) (by omega) (by omega) 0 ?_
    symm
    refine cnt_z (fun j j0 j1 => ?_)
    rw [Bool.eq_false_iff]
    intro hh
    rw [Bool.and_eq_true] at hh
    have := bl_lt h.wf j.toNat j s (by omega) j0 (by omega) hh.2
    omega
  · rw [if_neg (by omega)] at k; exact k
end
