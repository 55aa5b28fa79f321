/-! the order of telling: the reference -/
theorem fl_pw {P : jP} (h0 : 0 ≤ rn P) (h14 : rn P ≤ 14) : fl P = ((2 ^ (rn P).toNat : Nat) : Int) - 1 ∧ ishl32 1 (rn P) - 1 = fl P := by
  have e1 := bs_all (n := rn P) (m := 14) h0 h14 (by omega)
  have e2 := shl64_1 (rn P).toNat (by omega)
  have e3 := shl32_1 (rn P).toNat (by omega)
  rw [show (((rn P).toNat : Nat) : Int) = rn P by omega] at e2 e3
  unfold fl
  omega
theorem inR_of {P : jP} (h0 : 0 ≤ rn P) (h14 : rn P ≤ 14) {x : Int} (hx : 0 ≤ x) (hx2 : x ≤ fl P) : inR P x := by
  have hf := (fl_pw h0 h14).1
  have hr := fl_r P
  refine ⟨by omega, fun j j0 j1 => Classical.byContradiction (fun hno => ?_)⟩
  have : bt x j = false := by
    unfold bt
    refine Nat.testBit_lt_two_pow (Nat.lt_of_lt_of_le (m := 2 ^ (rn P).toNat) (by omega) (Nat.pow_le_pow_right (by omega) (by omega)))
  rw [this] at j1
  cases j1
theorem b2i_1 {b : Bool} (h : b2i b = 1) : b = true := by
  cases b
  · cases h
  · rfl
def Ti (μ : jMu) (P : jP) : Prop := ∀ k, 0 ≤ k → k < rn P → μ 116 k = bs (lb P k) 14 ∧ μ 117 k = bs (fun t => decide (t < rn P) && lb P t k) 14
section
variable {E : jE} {μ : jMu} {P : jP} {Q : Int → jMu → Prop} {Q0 : jMu → Prop}
theorem sM_ties (h : RK μ P) (h14 : rn P ≤ 14) (k : ∀ μ1, Fr SR μ μ1 → Ti μ1 P → Q0 μ1) : Cv E mM_ties [jvR 76] μ Q0 := by
  have hr := rn_r h.1.1
  have wT : ∀ (i : Nat) (j : Int), 116 ≤ i → i ≤ 117 → SR i j := fun i j a b => Or.inr (Or.inr (Or.inl (by omega)))
  refine vM_ties_0 ?_
  have lp2 : ∀ (l1 : Int) (μ0 : jMu), 0 ≤ l1 → l1 ≤ rn P → Fr SR μ μ0 → (∀ t, 0 ≤ t → t < l1 → μ0 116 t = bs (lb P t) 14) → (∀ j, 0 ≤ j → j < rn P → μ0 117 j = bs (fun t => decide (t < l1) && lb P t j) 14) → K 121 E mM_ties 25 [some (jvR 76), some (jvI l1), none] [] μ0 (fun v μ1 => v = none ∧ Q0 μ1) := by
    refine up_ind (rn P) _ ?_
    intro l1 ih μ0 g0 g1 g2 g3 g4
    refine vM_ties_25 ?_
    rw [(h.fr g2).e44]
    refine ⟨fun c => ⟨rfl, k μ0 g2 (fun j a b => ⟨g3 j a (by omega), ?_⟩)⟩, fun c => ⟨by omega, ?_⟩⟩
    · rw [g4 j a b, show l1 = rn P by omega]
    · have hp := rp_r h.1.1 g0 (show l1 < rn P by omega)
      obtain ⟨r1, r2, r3, r4⟩ := rs_c h.1.1 g0 (show l1 < rn P by omega)
      have lp3 : ∀ (l2 : Int) (μ3 : jMu), 0 ≤ l2 → l2 ≤ rp P l1 → Fr SR μ μ3 → (∀ t, 0 ≤ t → t < l1 → μ3 116 t = bs (lb P t) 14) → μ3 116 l1 = bs (fun j => anyB (fun i => le P l1 i == j) l2) 14 → (∀ j, 0 ≤ j → j < rn P → μ3 117 j = bs (fun t => (decide (t < l1) && lb P t j) || (t == l1 && anyB (fun i => le P l1 i == j) l2)) 14) → K 121 E mM_ties 42 [some (jvR 76), some (jvI l1), some (jvI l2)] [] μ3 (fun v μ1 => v = none ∧ Q0 μ1) := by
        refine up_ind (rp P l1) _ ?_
        intro l2 ih2 μ3 d0 d1 d2 d3 d4 d5
        have hR := h.fr d2
        refine vM_ties_42 ⟨by omega, ?_⟩
        rw [hR.e105 g0 (by omega)]
        refine sM_namesMany hR.1 r1 r2 ?_
        rw [show pn P (rs P l1) = rp P l1 from rfl]
        refine ⟨fun c2 => ⟨by omega, ih (by omega) μ3 (by omega) (by omega) d2 (fun t a b => ?_) (fun j a b => ?_)⟩, fun c2 => ⟨by omega, sM_leansTo hR g0 (by omega) d0 (by omega) ⟨by omega, ?_⟩⟩⟩
        · by_cases ht : t = l1
          · rw [ht, d4, show l2 = rp P l1 by omega]; rfl
          · exact d3 t a (by omega)
        · rw [d5 j a b, show l2 = rp P l1 by omega]
          have := bs_up (p := fun t => lb P t j) g0
          rw [← this]
          rfl
        · have hl := le_r h.1.1 g0 (show l1 < rn P by omega) d0 (by omega)
          rw [d4, bs_bit32 hl.1 (show le P l1 l2 < 14 by omega) (by omega), bs_or32 (by omega)]
          have f4 : Fr SR μ (j_up μ3 116 l1 (bs (fun k => anyB (fun i => le P l1 i == k) l2 || k == le P l1 l2) 14)) := d2.put (wT _ _ (by omega) (by omega))
          refine sM_leansTo (h.fr f4) g0 (by omega) d0 (by omega) ⟨by omega, ?_⟩
          rw [up_ne (by decide), d5 _ hl.1 (by omega), bs_bit32 g0 (show l1 < 14 by omega) (by omega), bs_or32 (by omega)]
          refine ih2 (by omega) _ (by omega) (by omega) (f4.put (wT _ _ (by omega) (by omega))) (fun t a b => ?_) ?_ (fun j a b => ?_)
          · rw [up_ne (by decide), up_nk (by omega)]; exact d3 t a b
          · rw [up_ne (by decide), up_eq]
            refine bs_congr (fun j _ _ => ?_)
            rw [anyB_s d0]
            congr 1
            rw [Bool.eq_iff_iff, beq_iff_eq, beq_iff_eq]
            exact eq_comm
          · rw [up_if]
            by_cases hj : j = le P l1 l2
            · rw [if_pos hj, ← hj]
              refine bs_congr (fun t _ _ => ?_)
              rw [anyB_s d0, ← hj, beq_self_eq_true]
              cases decide (t < l1) && lb P t j <;> cases t == l1 <;> cases anyB (fun i => le P l1 i == j) l2 <;> rfl
            · rw [if_neg hj, up_ne (by decide), d5 j a b]
              refine bs_congr (fun t _ _ => ?_)
              rw [anyB_s d0, beq_eq_false_iff_ne.mpr (Ne.symm hj), Bool.or_false]
      refine lp3 0 _ (by omega) (by omega) (g2.put (wT _ _ (by omega) (by omega))) (fun t a b => ?_) ?_ (fun j a b => ?_)
      · rw [up_nk (by omega)]; exact g3 t a b
      · rw [up_eq, bs_0]
        intro j _ _
        exact anyB_0 (by omega)
      · rw [up_ne (by decide), g4 j a b]
        refine bs_congr (fun t _ _ => ?_)
        rw [anyB_0 (p := fun i => le P l1 i == j) (show (0 : Int) ≤ 0 by omega), Bool.and_false, Bool.or_false]
  have lp1 : ∀ (l1 : Int) (μ0 : jMu), 0 ≤ l1 → l1 ≤ rn P → Fr SR μ μ0 → (∀ j, 0 ≤ j → j < l1 → μ0 117 j = 0) → K 121 E mM_ties 2 [some (jvR 76), some (jvI l1), none] [] μ0 (fun v μ1 => v = none ∧ Q0 μ1) := by
    refine up_ind (rn P) _ ?_
    intro l1 ih μ0 g0 g1 g2 g3
    refine vM_ties_2 ?_
    rw [(h.fr g2).e44]
    refine ⟨fun c => lp2 0 μ0 (by omega) (by omega) g2 (fun t a b => by omega) (fun j a b => ?_), fun c => ⟨by omega, ih (by omega) _ (by omega) (by omega) (g2.put (wT _ _ (by omega) (by omega))) (fun j a b => ?_)⟩⟩
    · rw [g3 j a (by omega), bs_0]
      intro t a b
      rw [decide_eq_false (by omega), Bool.false_and]
    · rw [up_if]
      split
      · rfl
      · exact g3 j a (by omega)
  exact lp1 0 μ (by omega) (by omega) Fr.rf (fun j a b => by omega)
theorem sM_heldNow (h : RK μ P) (h14 : rn P ≤ 14) (ht : Ti μ P) {x : Int} (h0 : 0 ≤ x) (h1 : x < 16384) (k : Q (hc P (bt x)) μ) : Ci E mM_heldNow [jvR 76, jvI x] μ Q := by
  have hr := rn_r h.1.1
  refine vM_heldNow_0 ?_
  have lp : ∀ (l3 l2 : Int), 0 ≤ l3 → l3 ≤ rn P → l2 = cnt (hd P (bt x)) l3 → K 121 E mM_heldNow 4 [some (jvR 76), some (jvI x), some (jvI l2), some (jvI l3)] [] μ (fun v μ1 => ∃ r, v = some (jvI r) ∧ Q r μ1) := by
    refine up_ind (rn P) _ ?_
    intro l3 ih l2 g0 g1 g3
    have hcl := cnt_le (hd P (bt x)) g0
    have hcs := cnt_s (hd P (bt x)) g0
    refine vM_heldNow_4 ?_
    rw [h.e44]
    refine ⟨fun c => ⟨_, rfl, ?_⟩, fun c => ?_⟩
    · rw [g3, show l3 = rn P by omega]; exact k
    · rw [in_bt h0 h1 g0 (by omega)]
      refine ⟨fun c2 => ⟨by omega, ih (by omega) _ (by omega) (by omega) ?_⟩, fun c2 => ⟨by omega, fun c3 => ⟨by omega, ih (by omega) _ (by omega) (by omega) ?_⟩, fun c3 => ⟨by omega, ?_⟩⟩⟩
      · have : hd P (bt x) l3 = false := by unfold hd; rw [b2i_b1 c2, Bool.false_and]
        rw [this, b2i_f] at hcs; omega
      · have : hd P (bt x) l3 = true := by unfold hd; rw [b2i_1 c2, beq_iff_eq.mpr c3]; rfl
        rw [this, b2i_t] at hcs; omega
      · have e : hd P (bt x) l3 = anyB (fun t => lb P t l3 && !bt x t) (rn P) := by
          unfold hd
          rw [b2i_1 c2, beq_eq_false_iff_ne.mpr c3, Bool.true_and, Bool.false_or]
        rw [e] at hcs
        rw [(ht l3 g0 (by omega)).2, andnot_bt h0 h1]
        refine ⟨fun c4 => ⟨by omega, ih (by omega) _ (by omega) (by omega) ?_⟩, fun c4 => ⟨by omega, ih (by omega) _ (by omega) (by omega) ?_⟩⟩
        · have hz : anyB (fun t => lb P t l3 && !bt x t) (rn P) = false := by
            rw [Bool.eq_false_iff]
            intro hh
            obtain ⟨t, t0, t1, t2⟩ := anyB_iff.mp hh
            have := bs_eq0 c4 t t0 (by omega)
            rw [decide_eq_true t1, Bool.true_and, t2] at this
            cases this
          rw [hz, b2i_f] at hcs; omega
        · have hz : anyB (fun t => lb P t l3 && !bt x t) (rn P) = true := by
            refine Classical.byContradiction (fun hno => c4 (bs_0 (fun t t0 t1 => ?_)))
            rw [Bool.eq_false_iff]
            intro hh
            rw [Bool.and_eq_true, Bool.and_eq_true, decide_eq_true_iff] at hh
            exact hno (anyB_iff.mpr ⟨t, t0, hh.1.1, by rw [Bool.and_eq_true]; exact ⟨hh.1.2, hh.2⟩⟩)
          rw [hz, b2i_t] at hcs; omega
  exact lp 0 0 (by omega) (by omega) rfl
theorem av_0 {P : jP} (hw : WF P) {x k : Int} (h14 : rn P ≤ 14) (hk : 0 ≤ k) (hk2 : k < rn P) : bs (fun j => lb P k j && !bt x j) 14 = 0 ↔ allB (fun i => bt x (le P k i)) (rp P k) = true := by
  constructor
  · intro hh
    rw [allB_iff]
    intro i i0 i1
    have hl := le_r hw hk hk2 i0 i1
    have := bs_eq0 hh (le P k i) hl.1 (by omega)
    have h2 : lb P k (le P k i) = true := anyB_iff.mpr ⟨i, i0, i1, beq_self_eq_true _⟩
    rw [h2, Bool.true_and] at this
    cases hb : bt x (le P k i)
    · rw [hb] at this; cases this
    · rfl
  · intro hh
    refine bs_0 (fun j j0 j1 => ?_)
    rw [Bool.eq_false_iff]
    intro h2
    rw [Bool.and_eq_true] at h2
    obtain ⟨i, i0, i1, i2⟩ := anyB_iff.mp h2.1
    have := allB_iff.mp hh i i0 i1
    rw [beq_iff_eq.mp i2] at this
    rw [this] at h2
    exact absurd h2.2 (by decide)
theorem sM_heldBy (h : RK μ P) (h14 : rn P ≤ 14) (ht : Ti μ P) {x kk : Int} (hx : inR P x) (hk : 0 ≤ kk) (hk2 : kk < rn P) (e115 : av P x kk = true → μ 115 (ins x kk) = hF P (ins x kk)) (k : Q (hb P (hF P) x kk) μ) : Ci E mM_heldBy [jvR 76, jvI x, jvI kk] μ Q := by
  have hr := rn_r h.1.1
  refine vM_heldBy_0 ?_
  rw [in_bt hx.1.1 hx.1.2 hk (by omega), (ht kk hk hk2).1, andnot_bt hx.1.1 hx.1.2, or_ins hx.1.1 hx.1.2 hk (by omega)]
  have hir := ins_r x kk
  refine ⟨fun c => ⟨_, rfl, ?_⟩, fun c => ⟨by omega, fun c2 => ?_, fun c2 => ⟨_, rfl, ?_⟩⟩⟩
  · rw [hb_na (by unfold av; rw [b2i_1 c, Bool.not_true, Bool.false_and]; decide)] at k; exact k
  · have ha : av P x kk = true := by
      unfold av
      rw [b2i_b1 c, (av_0 h.1.1 h14 hk hk2).mp c2]
      rfl
    refine sM_heldNow h h14 ht hir.1 hir.2 ?_
    rw [e115 ha]
    unfold hb at k
    rw [if_pos ha] at k
    refine ⟨by omega, fun c3 => ⟨_, rfl, ?_⟩, fun c3 => ⟨_, rfl, ?_⟩⟩
    · rw [if_pos c3] at k; exact k
    · rw [if_neg c3] at k; exact k
  · rw [hb_na (by
      unfold av
      intro hh
      rw [Bool.and_eq_true] at hh
      exact c2 ((av_0 h.1.1 h14 hk hk2).mpr hh.2))] at k
    exact k
theorem sM_orders (h : RK μ P) (h14 : rn P ≤ 14) (hn : 0 < rn P) (k : ∀ μ1, Fr SR μ μ1 → Ti μ1 P → (∀ x, inR P x → μ1 115 x = hF P x) → Q0 μ1) : Cv E mM_orders [jvR 76] μ Q0 := by
  have hr := rn_r h.1.1
  have hfr := fl_r P
  have hfp := fl_pw (P := P) (by omega) h14
  have wO : ∀ j : Int, SR 115 j := fun j => Or.inr (Or.inr (Or.inl (by omega)))
  refine vM_orders_0 (sM_ties h h14 (fun μ1 f1 t1 => ?_))
  rw [(h.fr f1).e44, hfp.2]
  refine ⟨by omega, ?_⟩
  have lp : ∀ (l2 : Int) (μ0 : jMu), -1 ≤ l2 → l2 < fl P → Fr SR μ μ0 → Ti μ0 P → (∀ x, l2 < x → x ≤ fl P → μ0 115 x = hF P x) → K 121 E mM_orders 24 [some (jvR 76), some (jvI (fl P)), some (jvI l2), none, none] [] μ0 (fun v μ1 => v = none ∧ Q0 μ1) := by
    refine down_ind _ ?_
    intro l2 ih μ0 g0 g1 g2 g3 g4
    refine vM_orders_24 ⟨fun c => ⟨rfl, k μ0 g2 g3 (fun x hx => g4 x (by have := hx.1; omega) (inR_le h14 hx))⟩, fun c => ⟨by omega, ?_⟩⟩
    have hx : inR P l2 := inR_of (by omega) h14 (by omega) (by omega)
    have lp2 : ∀ (l3 : Int) (μ3 : jMu), 0 ≤ l3 → l3 ≤ rn P → Fr SR μ μ3 → Ti μ3 P → (∀ x, l2 < x → x ≤ fl P → μ3 115 x = hF P x) → μ3 115 l2 = mk (hb P (hF P) l2) l3 → K 121 E mM_orders 38 [some (jvR 76), some (jvI (fl P)), some (jvI l2), some (jvI l3), none] [] μ3 (fun v μ1 => v = none ∧ Q0 μ1) := by
      refine up_ind (rn P) _ ?_
      intro l3 ih3 μ3 d0 d1 d2 d3 d4 d5
      have hR := h.fr d2
      refine vM_orders_38 ?_
      rw [hR.e44]
      refine ⟨fun c3 => ⟨by omega, ih (by omega) μ3 (by omega) (by omega) d2 d3 (fun x a b => ?_)⟩, fun c3 => ?_⟩
      · by_cases hxx : x = l2
        · subst hxx
          rw [d5, hF_eq h14 (by omega) hx, if_neg (by omega), show l3 = rn P by omega]
        · exact d4 x (by omega) b
      · have hms := mk_s (f := hb P (hF P) l2) d0
        refine sM_heldBy hR h14 d3 hx d0 (by omega) (fun ha => ?_) ?_
        · have hl := ins_lt hx.1.1 hx.1.2 d0 (by omega) (av_b ha)
          exact d4 _ hl (inR_le h14 (inR_ins hx (by omega)))
        · rw [d5]
          refine ⟨by omega, fun c4 => ⟨by omega, ih3 (by omega) μ3 (by omega) (by omega) d2 d3 d4 ?_⟩, fun c4 => ⟨by omega, ih3 (by omega) _ (by omega) (by omega) (d2.put (wO _)) ?_ (fun x a b => ?_) ?_⟩⟩
          · rw [hms, if_neg (by omega)]; exact d5
          · intro j a b
            rw [up_ne (by decide), up_ne (by decide)]; exact d3 j a b
          · rw [up_nk (by omega)]; exact d4 x a b
          · rw [up_eq, hms, if_pos (by omega)]
    refine lp2 0 _ (by omega) (by omega) (g2.put (wO _)) ?_ (fun x a b => ?_) ?_
    · intro j a b
      rw [up_ne (by decide), up_ne (by decide)]; exact g3 j a b
    · rw [up_nk (by omega)]; exact g4 x a b
    · rw [up_eq]; rfl
  have hf1 : 1 ≤ fl P := by
    have hp : 2 ^ 1 ≤ 2 ^ (rn P).toNat := Nat.pow_le_pow_right (by omega) (by omega)
    omega
  refine lp (fl P - 1) _ (by omega) (by omega) (f1.put (wO _)) ?_ (fun x a b => ?_)
  · intro j a b
    rw [up_ne (by decide), up_ne (by decide)]; exact t1 j a b
  · rw [show x = fl P by omega, up_eq, hF_eq h14 (by omega) (inR_fl h14), if_pos rfl]
theorem sM_order (h : RK μ P) {a : Int} (k : ∀ μ1, Fr SR μ μ1 → Q (vOrder P a) μ1) : Ci E mM_order [jvR 76, jvI a] μ Q := by
  have hr := rn_r h.1.1
  unfold vOrder at k
  refine vM_order_0 ?_
  rw [h.e44]
  refine ⟨fun c => ⟨_, rfl, ?_⟩, fun c => ⟨fun c2 => ⟨_, rfl, ?_⟩, fun c2 => ⟨fun c3 => ?_, fun c3 => ⟨by omega, sM_isIn (fun a1 a2 => ⟨fun _ => ?_, fun c => absurd c (by decide)⟩) (fun a1 => ⟨fun c => absurd rfl c, fun _ => ⟨_, rfl, ?_⟩⟩)⟩⟩⟩⟩
  · rw [if_pos (by omega)] at k; exact k μ Fr.rf
  · rw [if_pos (by omega)] at k; exact k μ Fr.rf
  · rw [if_neg (by omega), if_pos c3] at k
    refine sM_orders h (by omega) (by omega) (fun μ1 f1 t1 e1 => ⟨fun c4 => absurd c3 c4, fun _ => ⟨_, rfl, ?_⟩⟩)
    rw [e1 0 (inR_0 P)]; exact k μ1 f1
  · rw [if_neg (by omega), if_neg c3] at k
    have h14 : rn P ≤ 14 := by omega
    have hn : 0 < rn P := by omega
    have hm := hF_0 h.1.1 h14 hn
    refine sM_orders h h14 hn (fun μ1 f1 t1 e1 => ⟨fun _ => ?_, fun c4 => absurd c4 c3⟩)
    rw [e1 0 (inR_0 P)]
    have hR := h.fr f1
    have lp : ∀ (l5 l3 l4 : Int), 0 ≤ l5 → l5 ≤ a + 1 → l3 = gsN P (hF P 0) l5.toNat → (0 < l5 → l4 = gn P (hF P 0) (l5 - 1).toNat) → K 121 E mM_order 65 [some (jvR 76), some (jvI a), some (jvI (hF P 0)), some (jvI l3), some (jvI l4), some (jvI l5)] [] μ1 (fun v μ1 => ∃ r, v = some (jvI r) ∧ Q r μ1) := by
      refine up_ind (a + 1) _ ?_
      intro l5 ih l3 l4 g0 g1 g3 g4
      refine vM_order_65 ⟨fun c5 => ⟨_, rfl, ?_⟩, fun c5 => ?_⟩
      · rw [g4 (by omega), show l5 - 1 = a by omega]; exact k μ1 f1
      · obtain ⟨q1, q2, q3, q4⟩ := gs_c h14 hn (Int.le_refl (hF P 0)) (by omega) l5.toNat (by omega)
        obtain ⟨z1, z2, z3, z4⟩ := q4 (by omega)
        rw [← g3] at q1 z2 z3 z4
        have lp2 : ∀ l4 : Int, 0 ≤ l4 → l4 ≤ gn P (hF P 0) l5.toNat → K 121 E mM_order 74 [some (jvR 76), some (jvI a), some (jvI (hF P 0)), some (jvI l3), some (jvI l4), some (jvI l5)] [] μ1 (fun v μ1 => ∃ r, v = some (jvI r) ∧ Q r μ1) := by
          refine up_ind (gn P (hF P 0) l5.toNat + 1) _ ?_
          intro l4 ih4 d0 d1
          refine vM_order_74 (sM_heldBy hR h14 t1 q1 d0 (by omega) (fun ha => e1 _ (inR_ins q1 (by omega))) ⟨fun c6 => ⟨by omega, ?_⟩, fun c6 => ⟨by omega, ih4 (by omega) (by omega) ?_⟩⟩)
          · have e4 : l4 = gn P (hF P 0) l5.toNat := by
              rcases Int.lt_or_eq_of_le d1 with hh | hh
              · exact absurd c6 (z4 l4 d0 hh)
              · exact hh
            rw [or_ins q1.1.1 q1.1.2 d0 (by omega)]
            refine ih (by omega) _ l4 (by omega) (by omega) ?_ (fun _ => ?_)
            · rw [show (l5 + 1).toNat = l5.toNat + 1 by omega, g3, e4]
              rfl
            · rw [show l5 + 1 - 1 = l5 by omega]; exact e4
          · have : l4 ≠ gn P (hF P 0) l5.toNat := by
              intro hh
              rw [hh] at c6
              exact c6 z2
            omega
        exact lp2 0 (by omega) (by omega)
    exact lp 0 0 0 (by omega) (by omega) rfl (fun hh => by omega)
  · rw [if_pos (by omega)] at k; exact k μ Fr.rf
end
