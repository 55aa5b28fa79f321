/-! the order of telling: the class -/
def b64 (z k : Int) : Bool := (BitVec.ofInt 64 z).getLsbD k.toNat
theorem in64 {z k : Int} (h0 : 0 ≤ k) (h1 : k < 64) : iand64 (iushr64 z k) 1 = b2i (b64 z k) := by
  obtain ⟨m, rfl⟩ := Int.eq_ofNat_of_zero_le h0
  unfold iand64 iushr64 j_b64 j_s64
  rw [o64_toInt]
  have key : (((Int64.ofInt z).toUInt64 >>> ((Int32.ofInt (m : Int)).toInt64.toUInt64 &&& Int64.toUInt64 63)).toInt64 &&& Int64.ofInt 1).toBitVec.toNat = if (BitVec.ofInt 64 z).toNat.testBit m = true then 1 else 0 := by
    rw [Int64.toBitVec_and, BitVec.toNat_and]
    show ((Int64.ofInt z).toUInt64 >>> ((Int32.ofInt (m : Int)).toInt64.toUInt64 &&& Int64.toUInt64 63)).toBitVec.toNat &&& 1 = _
    have h := UInt64.toNat_shiftRight (Int64.ofInt z).toUInt64 ((Int32.ofInt (m : Int)).toInt64.toUInt64 &&& Int64.toUInt64 63)
    rw [shamt64u m (by omega), Nat.mod_eq_of_lt (by omega)] at h
    have h2 : (Int64.ofInt z).toUInt64.toNat = (BitVec.ofInt 64 z).toNat := rfl
    rw [h2] at h
    rw [show ((Int64.ofInt z).toUInt64 >>> ((Int32.ofInt (m : Int)).toInt64.toUInt64 &&& Int64.toUInt64 63)).toBitVec.toNat = (BitVec.ofInt 64 z).toNat >>> m from h, bit_and1]
  have e : b64 z (m : Int) = (BitVec.ofInt 64 z).toNat.testBit m := by
    unfold b64
    rw [Int.toNat_natCast, BitVec.testBit_toNat]
  rw [e]
  cases hb : (BitVec.ofInt 64 z).toNat.testBit m
  · rw [hb] at key
    exact t64_nat key (by decide)
  · rw [hb] at key
    exact t64_nat key (by decide)
theorem shl_b : ∀ k : Nat, k < 64 → ∀ j : Nat, j < 64 → (BitVec.ofInt 64 (ishl64 1 (k : Int))).getLsbD j = decide (j = k) := by decide +kernel
theorem or_b64 {z k j : Int} (h0 : 0 ≤ k) (h1 : k < 64) (h2 : 0 ≤ j) (h3 : j < 64) : b64 (ior64 z (ishl64 1 k)) j = (b64 z j || j == k) := by
  obtain ⟨m, rfl⟩ := Int.eq_ofNat_of_zero_le h0
  obtain ⟨i, rfl⟩ := Int.eq_ofNat_of_zero_le h2
  have hs := shl_b m (by omega) i (by omega)
  have e : BitVec.ofInt 64 (ior64 z (ishl64 1 (m : Int))) = BitVec.ofInt 64 z ||| BitVec.ofInt 64 (ishl64 1 (m : Int)) := by
    unfold ior64 j_b64
    have := congrArg Int64.toBitVec (o64_toInt (Int64.ofInt z ||| Int64.ofInt (ishl64 1 (m : Int))))
    rw [Int64.toBitVec_or] at this
    exact this
  unfold b64
  rw [e, BitVec.getLsbD_or, Int.toNat_natCast, hs]
  congr 1
  rw [Bool.eq_iff_iff, decide_eq_true_iff, beq_iff_eq]
  omega
theorem b64_0 (k : Int) : b64 0 k = false := by
  unfold b64
  simp
theorem x64 {x : Int} (h0 : 0 ≤ x) (h1 : x < 16384) : ishr32 x 6 = x / 64 ∧ iand32 x 63 = x % 64 := by
  have e1 := shr32 (x := x) (k := 6) (by omega) (by omega)
  have e2 := and32 (a := x.toNat) (b := 63) (by omega) (by omega)
  rw [show (63 : Nat) = 2 ^ 6 - 1 from rfl, Nat.and_two_pow_sub_one_eq_mod] at e2
  rw [show ((x.toNat : Nat) : Int) = x by omega] at e2
  refine ⟨e1, e2.trans ?_⟩
  omega
def DDm (μ : jMu) (D : Int → Bool) : Prop := ∀ x, 0 ≤ x → x < 16384 → b64 (μ 66 (x / 64)) (x % 64) = D x
def W65 (i : Nat) (_ : Int) : Prop := i = 65 ∨ i = 66
theorem W65.nx : ∀ i k, W65 i k → NXS i k := by
  intro i k h
  unfold W65 at h
  unfold NXS
  omega
theorem ins_same {x k : Int} (h0 : 0 ≤ x) (h1 : x < 16384) (hb : bt x k = true) : ins x k = x := by
  refine bt_ext (ins_r x k).1 (ins_r x k).2 h0 h1 (fun j a b => ?_)
  rw [bt_ins a b]
  by_cases hj : j = k
  · rw [hj, hb]; rfl
  · rw [beq_eq_false_iff_ne.mpr hj, Bool.or_false]
def cand (P : jP) (D : Int → Bool) (m x k : Int) : Bool := av P x k && (!D (ins x k) && decide (hc P (bt (ins x k)) ≤ m))
theorem cand_hb {P : jP} {D : Int → Bool} {m x k : Int} (hm : m < 100) (hD : ∀ z, D z = true → m < hF P z) (h : cand P D m x k = false) : m < hb P (hF P) x k := by
  by_cases ha : av P x k = true
  · unfold hb
    rw [if_pos ha]
    unfold cand at h
    rw [ha, Bool.true_and, Bool.and_eq_false_iff] at h
    rcases h with h | h
    · have : D (ins x k) = true := by
        cases hd : D (ins x k)
        · rw [hd] at h; cases h
        · rfl
      have := hD _ this
      split <;> omega
    · have := of_decide_eq_false h
      split <;> omega
  · rw [hb_na ha]; exact hm
section
variable {E : jE} {μ : jMu} {P : jP} {Q : Int → jMu → Prop} {Q0 : jMu → Prop}
theorem sAr_fill2 {fj wl : Nat} (hwd : jCt[fj]? = some (.inl (.long, wl))) (hwn : fj < 121) (hwl : wl < 2147483648) {x : Int} (k : ∀ μ1, Fr (fun i _ => i = fj) μ μ1 → (∀ j, 0 ≤ j → j < (wl : Int) → μ1 fj j = x) → Q0 μ1) : Cv E mAr_fill2 [jvR ((fj : Nat) : Int), jvL x] μ Q0 := by
  refine vAr_fill2_0 hwd hwn hwl ?_
  have lp : ∀ l2 : Int, ∀ μ1, 0 ≤ l2 → l2 ≤ (wl : Int) → Fr (fun i _ => i = fj) μ μ1 → (∀ j, 0 ≤ j → j < l2 → μ1 fj j = x) → K 121 E mAr_fill2 6 [some (jvR ((fj : Nat) : Int)), some (jvL x), none, some (jvI l2), some (jvI (wl : Int))] [] μ1 (fun v μ2 => v = none ∧ Q0 μ2) := by
    refine up_ind (wl : Int) _ ?_
    intro l2 ih μ1 g0 g1 g2 g3
    refine vAr_fill2_6 hwd hwn hwl ⟨fun c => ⟨rfl, k μ1 g2 (fun j a b => g3 j a (by omega))⟩, fun c => ⟨by omega, ih (by omega) _ (by omega) (by omega) (g2.put rfl) (fun j a b => ?_)⟩⟩
    rw [up_if]
    split
    · rfl
    · exact g3 j a (by omega)
  exact lp 0 μ (by omega) (by omega) Fr.rf (fun j a b => by omega)
theorem sOr_nextFrom (hw : WF P) (h : Re μ P) (h14 : rn P ≤ 14) {D : Int → Bool} (hD : DDm μ D) {m x f : Int} (e5 : μ 64 5 = m) (hx : inR P x) (h0 : 0 ≤ f) (kn : (∀ k, f ≤ k → k < rn P → cand P D m x k = false) → Q (-1) μ) (kf : ∀ r, f ≤ r → r < rn P → cand P D m x r = true → (∀ k, f ≤ k → k < r → cand P D m x k = false) → Q r μ) : Ci E mOr_nextFrom [jvR 64, jvR 52, jvI f, jvI x] μ Q := by
  have hr := rn_r hw
  refine vOr_nextFrom_0 ?_
  have lp : ∀ l4 : Int, f ≤ l4 → (∀ k, f ≤ k → k < l4 → k < rn P → cand P D m x k = false) → K 121 E mOr_nextFrom 3 [some (jvR 64), some (jvR 52), some (jvI f), some (jvI x), some (jvI l4), none, none] [] μ (fun v μ1 => ∃ r, v = some (jvI r) ∧ Q r μ1) := by
    refine up_ind (rn P) _ ?_
    intro l4 ih g0 g1
    refine vOr_nextFrom_3 ?_
    rw [h.1]
    refine ⟨fun c => ⟨_, rfl, kn (fun k a b => g1 k a (by omega) b)⟩, fun c => ?_⟩
    have skip : cand P D m x l4 = false → K 121 E mOr_nextFrom 3 [some (jvR 64), some (jvR 52), some (jvI f), some (jvI x), some (jvI (l4 + 1)), none, none] [] μ (fun v μ1 => ∃ r, v = some (jvI r) ∧ Q r μ1) := fun hh => ih (by omega) (by omega) (fun k a b d => by
      by_cases hk : k = l4
      · rw [hk]; exact hh
      · exact g1 k a (by omega) d)
    rw [or_ins hx.1.1 hx.1.2 (by omega) (by omega)]
    have hir := ins_r x l4
    refine ⟨fun c2 => ⟨by omega, skip ?_⟩, fun c2 => ⟨by omega, ?_⟩⟩
    · have hbt : bt x l4 = true := by
        cases hb : bt x l4
        · have := ins_lt hx.1.1 hx.1.2 (show 0 ≤ l4 by omega) (by omega) hb
          omega
        · rfl
      unfold cand av
      rw [hbt]
      rfl
    · have hbt : bt x l4 = false := by
        cases hb : bt x l4
        · rfl
        · exact absurd (ins_same hx.1.1 hx.1.2 hb) c2
      rw [(h.2.2.1 l4 (by omega) (by omega)).2.2.1, andnot_bt64 hx.1.1 hx.1.2]
      have e40 : bs (fun k => anyB (fun i => le P l4 i == k) (rp P l4) && !bt x k) 40 = bs (fun j => lb P l4 j && !bt x j) 14 := bs_40 (fun k hk => by
        rw [Bool.and_eq_true] at hk
        obtain ⟨i, i0, i1, i2⟩ := anyB_iff.mp hk.1
        have := le_r hw (show 0 ≤ l4 by omega) (show l4 < rn P by omega) i0 i1
        have := beq_iff_eq.mp i2
        omega)
      rw [e40]
      refine ⟨fun c3 => ⟨by omega, skip ?_⟩, fun c3 => ?_⟩
      · unfold cand av
        have : allB (fun i => bt x (le P l4 i)) (rp P l4) = false := by
          rw [Bool.eq_false_iff]
          intro hh
          exact c3 ((av_0 hw h14 (by omega) (by omega)).mpr hh)
        rw [this, Bool.and_false, Bool.false_and]
      · have ha : av P x l4 = true := by
          unfold av
          rw [hbt, (av_0 hw h14 (by omega) (by omega)).mp c3]; rfl
        rw [(x64 hir.1 hir.2).1, (x64 hir.1 hir.2).2]
        refine ⟨by omega, vX_isIn_0 ?_⟩
        rw [in64 (by omega) (by omega), hD _ hir.1 hir.2]
        refine ⟨fun c4 => ⟨_, rfl, fun c => absurd rfl c, fun _ => ?_⟩, fun c4 => ⟨_, rfl, fun _ => ⟨by omega, skip ?_⟩, fun c => absurd c (by decide)⟩⟩
        · refine sRe_heldWith hw h (S := bt (ins x l4)) (bs_bt hir.1 hir.2 (by omega)).symm ?_
          rw [e5]
          refine ⟨fun c5 => ⟨by omega, skip ?_⟩, fun c5 => ⟨_, rfl, kf l4 g0 (by omega) ?_ (fun k a b => g1 k a b (by omega))⟩⟩
          · unfold cand
            rw [decide_eq_false (by omega), Bool.and_false, Bool.and_false]
          · unfold cand
            rw [ha, b2i_b0 c4, decide_eq_true (by omega)]; rfl
        · unfold cand
          rw [b2i_b c4, Bool.not_true, Bool.false_and, Bool.and_false]
  exact lp f (by omega) (fun k a b => by omega)
theorem cnt_full {P : jP} (h0 : 0 ≤ rn P) (h14 : rn P ≤ 14) {x : Int} (hx : inR P x) (hc : cnt (bt x) (rn P) = rn P) : x = fl P := by
  refine bt_ext hx.1.1 hx.1.2 (fl_r P).1 (fl_r P).2 (fun k k0 k1 => ?_)
  rw [bt_fl k0 h14]
  by_cases hk : k < rn P
  · rw [decide_eq_true hk]
    refine Classical.byContradiction (fun hno => ?_)
    have h1 := cnt_add (p := bt x) (m := k + 1) (n := rn P) (by omega) (by omega)
    have h2 := cnt_s (bt x) k0
    have h3 := cnt_le (bt x) k0
    rw [Bool.eq_false_iff.mpr hno, b2i_f] at h2
    omega
  · rw [decide_eq_false hk, Bool.eq_false_iff]
    intro hh
    exact hk (hx.2 k k0 hh)
/-- the stack of sets told -/
def stk (P : jP) (m : Int) (X Ln : Int → Int) (s : Int) : Prop := X 0 = 0 ∧ (∀ j, 0 ≤ j → j < s → X (j + 1) = ins (X j) (Ln j) ∧ (0 ≤ Ln j ∧ Ln j < rn P) ∧ av P (X j) (Ln j) = true ∧ hc P (bt (X (j + 1))) ≤ m ∧ ∀ k, 0 ≤ k → k < Ln j → m < hb P (hF P) (X j) k)
theorem stk_in {P : jP} {m : Int} {X Ln : Int → Int} {s : Int} (h14 : rn P ≤ 14) (h : stk P m X Ln s) : ∀ n : Nat, (n : Int) ≤ s → inR P (X n) ∧ cnt (bt (X n)) (rn P) = n
  | 0, _ => by
    rw [show ((0 : Nat) : Int) = 0 from rfl, h.1]
    exact ⟨inR_0 P, cnt_z (fun j _ _ => by unfold bt; simp)⟩
  | n + 1, hn => by
    obtain ⟨i1, i2⟩ := stk_in h14 h n (by omega)
    obtain ⟨q1, q2, q3, _, _⟩ := h.2 n (by omega) (by omega)
    rw [show ((n + 1 : Nat) : Int) = (n : Int) + 1 by omega, q1]
    exact ⟨inR_ins i1 q2.2, by rw [cnt_ins h14 q2.1 q2.2 (av_b q3), i2]⟩
theorem stk_lt {P : jP} {m : Int} {X Ln : Int → Int} {s : Int} (h14 : rn P ≤ 14) (h : stk P m X Ln s) : ∀ (d : Nat) (j : Int), 0 ≤ j → j + d ≤ s → X j ≤ X (j + d)
  | 0, j, _, _ => by rw [show j + ((0 : Nat) : Int) = j by omega]; omega
  | d + 1, j, h0, h1 => by
    have ih := stk_lt h14 h d j h0 (by omega)
    obtain ⟨q1, q2, q3, _, _⟩ := h.2 (j + d) (by omega) (by omega)
    have hi := (stk_in h14 h (j + d).toNat (by omega)).1
    rw [show (((j + d).toNat : Nat) : Int) = j + d by omega] at hi
    have := ins_lt hi.1.1 hi.1.2 q2.1 (by omega) (av_b q3)
    rw [show j + ((d + 1 : Nat) : Int) = j + d + 1 by omega, q1]
    omega
theorem stk_full {P : jP} {m : Int} {X Ln : Int → Int} (hn : 0 < rn P) (h14 : rn P ≤ 14) (h0m : 0 ≤ m) (h : stk P m X Ln (rn P)) : hF P 0 ≤ m ∧ ∀ j : Nat, (j : Int) < rn P → Ln j = gn P m j := by
  have hbv : ∀ j, 0 ≤ j → j < rn P → hF P (X (j + 1)) ≤ m → hb P (hF P) (X j) (Ln j) ≤ m := by
    intro j j0 j1 hh
    obtain ⟨q1, q2, q3, q4, _⟩ := h.2 j j0 j1
    unfold hb
    rw [if_pos q3, ← q1]
    split <;> omega
  have hbk : ∀ (d : Nat) (j : Int), rn P - j = d → 0 ≤ j → hF P (X j) ≤ m := by
    intro d
    induction d with
    | zero =>
      intro j hj _
      obtain ⟨i1, i2⟩ := stk_in h14 h j.toNat (by omega)
      rw [show ((j.toNat : Nat) : Int) = j by omega] at i1 i2
      have := cnt_full (by omega) h14 i1 (by omega)
      rw [this, hF_eq h14 (by omega) (inR_fl h14), if_pos rfl]
      exact h0m
    | succ d ih =>
      intro j hj j0
      obtain ⟨i1, i2⟩ := stk_in h14 h j.toNat (by omega)
      rw [show ((j.toNat : Nat) : Int) = j by omega] at i1 i2
      obtain ⟨q1, q2, q3, q4, _⟩ := h.2 j j0 (by omega)
      have ih1 := hbv j j0 (by omega) (ih (j + 1) (by omega) (by omega))
      have hle := (mk_le (f := hb P (hF P) (X j)) (n := rn P) (by omega)).2 (Ln j) q2.1 q2.2
      rw [hF_eq h14 (by omega) i1]
      split <;> omega
  have hfw : ∀ j : Nat, (j : Int) ≤ rn P → X j = gsN P m j ∧ ((j : Int) < rn P → Ln j = gn P m j) := by
    intro j
    induction j with
    | zero =>
      intro _
      have e : X ((0 : Nat) : Int) = gsN P m 0 := h.1
      refine ⟨e, fun hj => ?_⟩
      obtain ⟨q1, q2, q3, q4, q5⟩ := h.2 ((0 : Nat) : Int) (by omega) hj
      have h1 := hbv ((0 : Nat) : Int) (by omega) hj (hbk (rn P - 1).toNat _ (by omega) (by omega))
      symm
      unfold gn
      rw [← e]
      exact ff_eq q2.1 q2.2 (decide_eq_true h1) (fun k a b => decide_eq_false (by have := q5 k a b; omega))
    | succ j ih =>
      intro hj
      obtain ⟨i1, i2⟩ := ih (by omega)
      obtain ⟨q1, q2, q3, q4, q5⟩ := h.2 j (by omega) (by omega)
      have e : X ((j + 1 : Nat) : Int) = gsN P m (j + 1) := by
        rw [show ((j + 1 : Nat) : Int) = (j : Int) + 1 by omega, q1, i2 (by omega), i1]
        rfl
      refine ⟨e, fun hj2 => ?_⟩
      obtain ⟨p1, p2, p3, p4, p5⟩ := h.2 ((j + 1 : Nat) : Int) (by omega) hj2
      have h1 := hbv ((j + 1 : Nat) : Int) (by omega) hj2 (hbk (rn P - ((j + 1 : Nat) : Int) - 1).toNat _ (by omega) (by omega))
      symm
      unfold gn
      rw [← e]
      exact ff_eq p2.1 p2.2 (decide_eq_true h1) (fun k a b => decide_eq_false (by have := p5 k a b; omega))
  refine ⟨?_, fun j hj => (hfw j (by omega)).2 hj⟩
  have := hbk (rn P).toNat 0 (by omega) (by omega)
  rw [h.1] at this
  exact this
theorem bs_rem {x k : Int} (h0 : 0 ≤ x) (h1 : x < 16384) (hk : 0 ≤ k) (hk2 : k < 14) (hb : bt x k = false) : iand32 (ins x k) (ixor32 (ishl32 1 k) (-1)) = x := by
  have e := bs_andnot32 (p := bt (ins x k)) (q := fun j => j == k) (n := 14) (by omega)
  rw [bs_bt (ins_r x k).1 (ins_r x k).2 (Int.le_refl 14), ← bs_bit32 hk hk2 (by omega)] at e
  rw [e, ← bs_bt h0 h1 (Int.le_refl 14)]
  refine bs_congr (fun j a b => ?_)
  rw [bt_ins a b, bs_bt h0 h1 (Int.le_refl 14)]
  by_cases hj : j = k
  · rw [hj, hb, beq_self_eq_true]; rfl
  · rw [beq_eq_false_iff_ne.mpr hj]; simp
theorem sOr_tellsWithin (hw : WF P) (h : Re μ P) (hn : 0 < rn P) (h14 : rn P ≤ 14) {m : Int} (e5 : μ 64 5 = m) (hm : 0 ≤ m) (hm2 : m < 100) (kt : ∀ μ1, hF P 0 ≤ m → Fr W65 μ μ1 → (∀ j : Nat, (j : Int) < rn P → μ1 65 j = gn P m j) → Q 1 μ1) (kf : ∀ μ1, m < hF P 0 → Fr W65 μ μ1 → Q 0 μ1) : Ci E mOr_tellsWithin [jvR 64, jvR 52] μ Q := by
  have hr := rn_r hw
  refine vOr_tellsWithin_0 (sAr_fill2 rfl (by decide) (by decide) (fun μ1 f1 z1 => ?_))
  have lp : ∀ (l5 s f : Int) (X Ln : Int → Int) (D V : Int → Bool) (μ0 : jMu), 0 ≤ s → s ≤ rn P → 0 ≤ f → f ≤ rn P → Fr W65 μ μ0 → stk P m X Ln s → (∀ j, 0 ≤ j → j < s → μ0 65 j = Ln j) → DDm μ0 D → (∀ k, 0 ≤ k → k < f → m < hb P (hF P) (X s) k) → (∀ z, D z = true → m < hF P z) → (∀ j, 0 ≤ j → j ≤ s → D (X j) = false) → (∀ z, V z = true → D z = true ∨ ∃ j, 0 ≤ j ∧ j ≤ s ∧ z = X j) → l5 = 2 * cnt V 16384 - s - 2 → K 121 E mOr_tellsWithin 18 [some (jvR 64), some (jvR 52), some (jvI (X s)), some (jvI s), some (jvI f), some (jvI l5), none] [] μ0 (fun v μ1 => ∃ r, v = some (jvI r) ∧ Q r μ1) := by
    refine up_ind 32769 _ ?_
    intro l5 ih s f X Ln D V μ0 g0 g1 g2 g3 g4 g5 g6 g7 g8 g9 g10 g11 g12
    have hR := h.frp (fun i k a b => g4 i k (by unfold W65; omega))
    have hcv := cnt_le V (k := 16384) (by omega)
    have e5' : μ0 64 5 = m := by rw [g4 64 5 (by unfold W65; omega)]; exact e5
    obtain ⟨i1, i2⟩ := stk_in h14 g5 s.toNat (by omega)
    rw [show ((s.toNat : Nat) : Int) = s by omega] at i1 i2
    refine vOr_tellsWithin_18 ⟨fun c => by omega, fun c => ?_⟩
    rw [hR.1]
    refine ⟨fun c2 => ?_, fun c2 => ?_⟩
    · have hne : X s ≠ fl P := by
        intro hh
        rw [hh] at i2
        have : cnt (bt (fl P)) (rn P) = rn P := by
          have e : cnt (bt (fl P)) (rn P) = cnt (fun _ => true) (rn P) := cnt_congr (fun j a b => by rw [bt_fl a h14, decide_eq_true b])
          rw [e]
          have key : ∀ n : Nat, cntN (fun _ => true) n = n := by
            intro n
            induction n with
            | zero => rfl
            | succ n ih => show cntN (fun _ => true) n + b2i true = _; rw [ih]; rfl
          have := key (rn P).toNat
          unfold cnt
          omega
        omega
      refine sOr_nextFrom hw hR h14 g7 e5' i1 g2 (fun hno => ⟨fun _ => ?_, fun c => absurd rfl c⟩) (fun r r0 r1 r2 r3 => ⟨fun c => by omega, fun _ => ⟨by omega, ?_⟩⟩)
      · -- no way on: this set is dead
        have hall : ∀ k, 0 ≤ k → k < rn P → m < hb P (hF P) (X s) k := by
          intro k a b
          by_cases hk : k < f
          · exact g8 k a hk
          · exact cand_hb hm2 g9 (hno k (by omega) b)
        have hdead : m < hF P (X s) := by
          rw [hF_eq h14 (by omega) i1, if_neg hne]
          rcases mk_at (f := hb P (hF P) (X s)) (show 0 ≤ rn P by omega) with hh | ⟨j, j0, j1, j2⟩
          · omega
          · rw [j2]; exact hall j j0 j1
        refine ⟨fun c3 => ?_, fun c3 => ⟨_, rfl, kf μ0 ?_ g4⟩⟩
        · rw [(x64 i1.1.1 i1.1.2).1, (x64 i1.1.1 i1.1.2).2]
          have hx := i1.1
          obtain ⟨q1, q2, q3, q4, q5⟩ := g5.2 (s - 1) (by omega) (by omega)
          obtain ⟨j1, j2⟩ := stk_in h14 g5 (s - 1).toNat (by omega)
          rw [show (((s - 1).toNat : Nat) : Int) = s - 1 by omega] at j1 j2
          rw [show s - 1 + 1 = s by omega] at q1 q4
          have eL : μ0 65 (s - 1) = Ln (s - 1) := g6 (s - 1) (by omega) (by omega)
          refine ⟨by omega, sX_bit0 ?_⟩
          rw [eL]
          refine ⟨by omega, ?_⟩
          have eX : iand32 (X s) (ixor32 (ishl32 1 (Ln (s - 1))) (-1)) = X (s - 1) := by
            rw [q1]
            exact bs_rem j1.1.1 j1.1.2 q2.1 (by omega) (av_b q3)
          rw [eX]
          refine ih (by omega) (s - 1) (Ln (s - 1) + 1) X Ln (fun z => D z || z == X s) V _ (by omega) (by omega) (by omega) (by omega) (g4.put (Or.inr rfl)) ⟨g5.1, fun j a b => g5.2 j a (by omega)⟩ (fun j a b => ?_) ?_ (fun k a b => ?_) (fun z hz => ?_) (fun j a b => ?_) (fun z hz => ?_) (by omega)
          · rw [up_ne (by decide)]; exact g6 j a (by omega)
          · intro z z0 z1
            rw [up_if]
            by_cases hz : z / 64 = X s / 64
            · rw [if_pos hz, or_b64 (by omega) (by omega) (by omega) (by omega), ← hz, g7 z z0 z1]
              congr 1
              rw [Bool.eq_iff_iff, beq_iff_eq, beq_iff_eq]
              omega
            · rw [if_neg hz, g7 z z0 z1]
              show D z = (D z || z == X s)
              rw [beq_eq_false_iff_ne.mpr (by omega), Bool.or_false]
          · by_cases hk : k < Ln (s - 1)
            · exact q5 k a hk
            · rw [show k = Ln (s - 1) by omega]
              unfold hb
              rw [if_pos q3, ← q1]
              split <;> omega
          · rw [Bool.or_eq_true] at hz
            rcases hz with hz | hz
            · exact g9 z hz
            · rw [beq_iff_eq.mp hz]; exact hdead
          · have hlt : X j < X s := by
              have h1 := stk_lt h14 g5 (s - 1 - j).toNat j a (by omega)
              rw [show j + (((s - 1 - j).toNat : Nat) : Int) = s - 1 by omega] at h1
              have h2 := ins_lt j1.1.1 j1.1.2 q2.1 (by omega) (av_b q3)
              rw [← q1] at h2
              omega
            rw [g10 j a (by omega), beq_eq_false_iff_ne.mpr (by omega)]; rfl
          · rcases g11 z hz with hz2 | ⟨j, a, b, e⟩
            · exact Or.inl (by rw [hz2]; rfl)
            · by_cases hj : j = s
              · exact Or.inl (by rw [e, hj, beq_self_eq_true, Bool.or_true])
              · exact Or.inr ⟨j, a, by omega, e⟩
        · rw [c3, g5.1] at hdead
          exact hdead
      · -- one more is told
        have ha : av P (X s) r = true := by
          unfold cand at r2
          rw [Bool.and_eq_true] at r2
          exact r2.1
        have hnd : D (ins (X s) r) = false ∧ hc P (bt (ins (X s) r)) ≤ m := by
          unfold cand at r2
          rw [Bool.and_eq_true, Bool.and_eq_true] at r2
          refine ⟨?_, of_decide_eq_true r2.2.2⟩
          cases hd : D (ins (X s) r)
          · rfl
          · rw [hd] at r2; exact absurd r2.2.1 (by decide)
        have hlt := ins_lt i1.1.1 i1.1.2 (show 0 ≤ r by omega) (by omega) (av_b ha)
        have hir := ins_r (X s) r
        rw [or_ins i1.1.1 i1.1.2 (by omega) (by omega)]
        have hnV : V (ins (X s) r) = false := by
          rw [Bool.eq_false_iff]
          intro hV
          rcases g11 _ hV with hz | ⟨j, a, b, e⟩
          · rw [hnd.1] at hz; cases hz
          · have h1 := stk_lt h14 g5 (s - j).toNat j a (by omega)
            rw [show j + (((s - j).toNat : Nat) : Int) = s by omega] at h1
            omega
        have eS : (if s + 1 = s + 1 then ins (X s) r else X (s + 1)) = ins (X s) r := if_pos rfl
        have := ih (by omega) (s + 1) 0 (fun j => if j = s + 1 then ins (X s) r else X j) (fun j => if j = s then r else Ln j) D (fun z => V z || z == ins (X s) r) (j_up μ0 65 s r) (by omega) (by omega) (by omega) (by omega) (g4.put (Or.inl rfl)) ⟨by show (if (0 : Int) = s + 1 then _ else X 0) = 0; rw [if_neg (by omega)]; exact g5.1, fun j a b => ?_⟩ (fun j a b => ?_) ?_ (fun k a b => by omega) g9 (fun j a b => ?_) (fun z hz => ?_) ?_
        · rw [eS] at this
          exact this
        · show (if j + 1 = s + 1 then ins (X s) r else X (j + 1)) = ins (if j = s + 1 then ins (X s) r else X j) (if j = s then r else Ln j) ∧ (0 ≤ (if j = s then r else Ln j) ∧ (if j = s then r else Ln j) < rn P) ∧ av P (if j = s + 1 then ins (X s) r else X j) (if j = s then r else Ln j) = true ∧ hc P (bt (if j + 1 = s + 1 then ins (X s) r else X (j + 1))) ≤ m ∧ ∀ k, 0 ≤ k → k < (if j = s then r else Ln j) → m < hb P (hF P) (if j = s + 1 then ins (X s) r else X j) k
          rw [if_neg (show ¬ j = s + 1 by omega)]
          by_cases hj : j = s
          · rw [if_pos (show j + 1 = s + 1 by omega), if_pos hj, hj]
            refine ⟨rfl, by omega, ha, hnd.2, fun k a b => ?_⟩
            by_cases hk : k < f
            · exact g8 k a hk
            · exact cand_hb hm2 g9 (r3 k (by omega) b)
          · rw [if_neg (show ¬ j + 1 = s + 1 by omega), if_neg hj]
            exact g5.2 j a (by omega)
        · rw [up_if]
          show (if j = s then r else μ0 65 j) = (if j = s then r else Ln j)
          by_cases hj : j = s
          · rw [if_pos hj, if_pos hj]
          · rw [if_neg hj, if_neg hj]; exact g6 j a (by omega)
        · intro z z0 z1
          rw [up_ne (by decide)]; exact g7 z z0 z1
        · show D (if j = s + 1 then ins (X s) r else X j) = false
          by_cases hj : j = s + 1
          · rw [if_pos hj]; exact hnd.1
          · rw [if_neg hj]; exact g10 j a (by omega)
        · rw [Bool.or_eq_true] at hz
          rcases hz with hz | hz
          · rcases g11 z hz with hz2 | ⟨j, a, b, e⟩
            · exact Or.inl hz2
            · refine Or.inr ⟨j, a, by omega, ?_⟩
              show z = if j = s + 1 then ins (X s) r else X j
              rw [if_neg (by omega)]; exact e
          · refine Or.inr ⟨s + 1, by omega, by omega, ?_⟩
            rw [eS]; exact beq_iff_eq.mp hz
        · have hcs : cnt (fun z => V z || z == ins (X s) r) 16384 = cnt V 16384 + 1 := by
            have key : ∀ n : Nat, cnt (fun z => V z || z == ins (X s) r) n = cnt V n + (if ins (X s) r < (n : Int) then 1 else 0) := by
              intro n
              induction n with
              | zero => rw [if_neg (by omega)]; rfl
              | succ n ihn =>
                rw [show ((n + 1 : Nat) : Int) = (n : Int) + 1 by omega, cnt_s _ (by omega), cnt_s _ (by omega), ihn]
                by_cases hk : (n : Int) = ins (X s) r
                · rw [hk, beq_self_eq_true, hnV, if_neg (by omega), if_pos (by omega)]; rfl
                · rw [beq_eq_false_iff_ne.mpr hk, Bool.or_false]
                  by_cases hk2 : ins (X s) r < (n : Int)
                  · rw [if_pos hk2, if_pos (by omega)]; omega
                  · rw [if_neg hk2, if_neg (by omega)]; omega
            have := key 16384
            rw [show ((16384 : Nat) : Int) = 16384 from rfl, if_pos hir.2] at this
            exact this
          rw [hcs]
          clear hcs
          omega
    · rw [c2] at g5 g6
      obtain ⟨y1, y2⟩ := stk_full hn h14 hm g5
      exact ⟨_, rfl, kt μ0 y1 g4 (fun j hj => by rw [g6 j (by omega) hj]; exact y2 j hj)⟩
  have f2 : Fr W65 μ μ1 := f1.mono (fun i k hh => Or.inr hh)
  refine lp 0 0 0 (fun _ => 0) (fun _ => 0) (fun _ => false) (fun z => z == 0) μ1 (by omega) (by omega) (by omega) (by omega) f2 ⟨rfl, fun j a b => by omega⟩ (fun j a b => by omega) ?_ (fun k a b => by omega) (fun z hz => by cases hz) (fun j a b => rfl) (fun z hz => Or.inr ⟨0, by omega, by omega, beq_iff_eq.mp hz⟩) ?_
  · intro x x0 x1
    rw [z1 (x / 64) (by omega) (by show x / 64 < 256; omega), b64_0]
  · have key : ∀ n : Nat, cnt (fun z => z == 0) ((n : Int) + 1) = 1 := by
      intro n
      induction n with
      | zero => rfl
      | succ n ihn =>
        rw [show ((n + 1 : Nat) : Int) + 1 = ((n : Int) + 1) + 1 by omega, cnt_s _ (by omega), ihn, beq_eq_false_iff_ne.mpr (show (n : Int) + 1 ≠ 0 by omega)]
        rfl
    have := key 16383
    rw [show ((16383 : Nat) : Int) + 1 = 16384 from rfl] at this
    omega
def OCa (μ : jMu) (P : jP) : Prop := ¬ μ 64 4 = 0 → 0 < rn P → rn P ≤ 14 → μ 64 5 = hF P 0 ∧ ∀ j : Nat, (j : Int) < rn P → μ 65 j = gn P (hF P 0) j
def W64 (i : Nat) (k : Int) : Prop := i = 65 ∨ i = 66 ∨ (i = 64 ∧ (k = 4 ∨ k = 5))
theorem W64.nx : ∀ i k, W64 i k → NXS i k := by
  intro i k h
  unfold W64 at h
  unfold NXS
  omega
theorem sOr_find (hw : WF P) (h : Re μ P) (hn : 0 < rn P) (h14 : rn P ≤ 14) (hc : OCa μ P) (k : ∀ μ1, Fr W64 μ μ1 → ¬ μ1 64 4 = 0 → OCa μ1 P → Q0 μ1) : Cv E mOr_find [jvR 64, jvR 52] μ Q0 := by
  have hr := rn_r hw
  have hf0 := hF_0 hw h14 hn
  refine vOr_find_0 ⟨fun c => ?_, fun c => ⟨rfl, k μ Fr.rf c hc⟩⟩
  have lp : ∀ (m : Int) (μ0 : jMu), 1 ≤ m → m ≤ hF P 0 → Fr W64 μ μ0 → μ0 64 4 = 1 → μ0 64 5 = m → K 121 E mOr_find 18 [some (jvR 64), some (jvR 52)] [] μ0 (fun v μ1 => v = none ∧ Q0 μ1) := by
    refine up_ind (hF P 0) _ ?_
    intro m ih μ0 g0 g1 g2 g3 g4
    have hR := h.frp (fun i k a b => g2 i k (by unfold W64; omega))
    refine vOr_find_18 (sOr_tellsWithin hw hR hn h14 g4 (by omega) (by omega) (fun μ1 y1 f1 y2 => ⟨fun _ => ⟨rfl, ?_⟩, fun c => absurd c (by decide)⟩) (fun μ1 y1 f1 => ⟨fun c => absurd rfl c, fun _ => ?_⟩))
    · have em : m = hF P 0 := by omega
      subst em
      refine k μ1 (g2.tr (f1.mono (fun i k hh => by unfold W65 at hh; unfold W64; omega))) ?_ (fun _ _ _ => ⟨?_, y2⟩)
      · rw [f1 64 4 (by unfold W65; omega), g3]; decide
      · rw [f1 64 5 (by unfold W65; omega)]; exact g4
    · rw [(hR.frp (fun i k a b => f1 i k (by unfold W65; omega))).1, f1 64 5 (by unfold W65; omega), g4]
      refine ⟨fun c2 => by omega, fun c2 => ⟨by omega, ih (by omega) _ (by omega) (by omega) ((g2.tr (f1.mono (fun i k hh => by unfold W65 at hh; unfold W64; omega))).put (by unfold W64; omega)) ?_ up_eq⟩⟩
      rw [up_nk (by decide), f1 64 4 (by unfold W65; omega)]; exact g3
  refine lp 1 _ (by omega) (by omega) ((Fr.rf.put (by unfold W64; omega)).put (by unfold W64; omega)) ?_ up_eq
  rw [up_nk (by decide), up_eq]
theorem sX_order {b : Nat} {w q : Int → Bool} (h : XS b μ P w q) (hc : OCa μ P) {a : Int} (k : ∀ μ1, Fr W64 μ μ1 → OCa μ1 P → Q (vOrder P a) μ1) : Ci E mX_order [jvR 0, jvI a] μ Q := by
  have hr := rn_r h.wf
  unfold vOrder at k
  refine vX_order_0 ?_
  rw [h.1.r.1]
  refine ⟨fun c => ⟨_, rfl, ?_⟩, fun c => ⟨fun c2 => ⟨_, rfl, ?_⟩, fun c2 => ⟨fun c3 => ⟨_, rfl, ?_⟩, fun c3 => ⟨fun c4 => ?_, fun c4 => ⟨_, rfl, ?_⟩⟩⟩⟩⟩
  · rw [if_pos (by omega)] at k; exact k μ Fr.rf hc
  · rw [if_pos (by omega)] at k; exact k μ Fr.rf hc
  · rw [if_pos (by omega)] at k; exact k μ Fr.rf hc
  · rw [if_neg (by omega)] at k
    refine sOr_find h.wf h.1.r (by omega) (by omega) hc (fun μ1 f1 z1 z2 => ?_)
    obtain ⟨y1, y2⟩ := z2 z1 (by omega) (by omega)
    refine ⟨fun c5 => ⟨by omega, _, rfl, ?_⟩, fun c5 => ⟨_, rfl, ?_⟩⟩
    · rw [if_neg c5] at k
      have := y2 a.toNat (by omega)
      rw [show ((a.toNat : Nat) : Int) = a by omega] at this
      rw [this]; exact k μ1 f1 z2
    · rw [if_pos c5] at k
      rw [y1]; exact k μ1 f1 z2
  · rw [if_pos (by omega)] at k; exact k μ Fr.rf hc
end
