/-! runs of steps, the class -/
theorem bsN_add (p q : Int → Bool) (h : ∀ k : Int, ¬ (p k = true ∧ q k = true)) : ∀ n : Nat, bsN p n + bsN q n = bsN (fun k => p k || q k) n
  | 0 => rfl
  | n + 1 => by
    have ih := bsN_add p q h n
    have h2 := h n
    show bsN p n + (if p n = true then 2 ^ n else 0) + (bsN q n + (if q n = true then 2 ^ n else 0)) = bsN (fun k => p k || q k) n + (if (p n || q n) = true then 2 ^ n else 0)
    cases hp : p n <;> cases hq : q n
    · simp; omega
    · simp; omega
    · simp; omega
    · exact absurd ⟨hp, hq⟩ h2
theorem bs_rng {f n : Int} (h0 : 0 ≤ f) (h1 : 0 ≤ n) (h2 : f + n ≤ 40) : ishl64 1 (f + n) - ishl64 1 f = bs (fun j => decide (f ≤ j ∧ j < f + n)) 40 := by
  have e1 := bs_all (n := f + n) (m := 40) (by omega) h2 (by omega)
  have e2 := bs_all (n := f) (m := 40) h0 (by omega) (by omega)
  have e3 := bsN_add (fun j => decide (j < f)) (fun j => decide (f ≤ j ∧ j < f + n)) (fun k hh => by
    rw [decide_eq_true_iff, decide_eq_true_iff] at hh
    omega) 40
  have e4 : bsN (fun k => decide (k < f) || decide (f ≤ k ∧ k < f + n)) 40 = bsN (fun j => decide (j < f + n)) 40 := by
    refine bsN_ext (fun k => ?_)
    rw [bsN_bit]
    congr 1
    by_cases a : (k : Int) < f
    · rw [decide_eq_true a, decide_eq_true (show (k : Int) < f + n by omega)]; rfl
    · rw [decide_eq_false a, Bool.false_or]
      exact decide_eq_decide.mpr (by omega)
  unfold bs at e1 e2 ⊢
  rw [e4] at e3
  have e5 : (40 : Int).toNat = 40 := rfl
  rw [e5] at e1 e2 ⊢
  omega
def W63 (i : Nat) (_ : Int) : Prop := i = 63
theorem W63.nb : ∀ i k, W63 i k → NB i k := by
  intro i k h
  unfold W63 at h
  unfold NB
  omega
theorem W63.nx : ∀ i k, W63 i k → NXS i k := by
  intro i k h
  unfold W63 at h
  unfold NXS
  omega
theorem FC.fr63 {b : Nat} {μ μ1 : jMu} {P : jP} (h : FC b μ P) (hf : Fr W63 μ μ1) : FC b μ1 P := h.fr (hf.mono W63.nb) (fun i k h1 h2 => hf i k (by unfold W63; omega))
def LCa (μ : jMu) (P : jP) : Prop := ¬ μ 63 0 = 0 → μ 63 3 = (bf P (7 * nS P)).2.2 ∧ (0 < (bf P (7 * nS P)).2.2 → μ 63 1 = (bf P (7 * nS P)).1 ∧ μ 63 2 = (bf P (7 * nS P)).2.1)
theorem rr_f {P : jP} {f n t i : Int} (h0 : 0 ≤ t) (h1 : t < nS P) (h2 : ¬ (f ≤ t ∧ t < f + n)) (h3 : 0 ≤ i) (h4 : i < pn P t) (h5 : f ≤ nm P t i ∧ nm P t i ≤ f + n - 2) : rr P f n = false := by
  rw [Bool.eq_false_iff]
  intro hh
  have h6 := allB_iff.mp hh t h0 h1
  rw [decide_eq_false h2, Bool.false_or] at h6
  have h7 := allB_iff.mp h6 i h3 h4
  rw [decide_eq_true h5] at h7
  cases h7
section
variable {E : jE} {μ : jMu} {P : jP} {b : Nat} {Q : Int → jMu → Prop} {Q0 : jMu → Prop}
theorem sRu_fit (h : CB b μ P) {f n : Int} (kt : 2 ≤ n → n ≤ 8 → 0 ≤ f → f + n ≤ nS P → Q 1 μ) (kf : ¬ (2 ≤ n ∧ n ≤ 8 ∧ 0 ≤ f ∧ f + n ≤ nS P) → Q 0 μ) : Ci E mRu_fit [jvR ((b : Nat) : Int), jvI f, jvI n] μ Q := by
  have hn := h.n
  refine vRu_fit_0 h.1 ?_
  rw [h.e0.2.1]
  exact ⟨fun c => ⟨_, rfl, kf (by omega)⟩, fun c => ⟨fun c2 => ⟨_, rfl, kf (by omega)⟩, fun c2 => ⟨fun c3 => ⟨_, rfl, kf (by omega)⟩, fun c3 => ⟨by omega, fun c4 => ⟨_, rfl, kf (by omega)⟩, fun c4 => ⟨_, rfl, kt (by omega) (by omega) (by omega) (by omega)⟩⟩⟩⟩⟩
theorem sRu_isRun (h : FC b μ P) {f n : Int} (h0 : 0 ≤ f) (h1 : 2 ≤ n) (h2 : n ≤ 8) (h3 : f + n ≤ nS P) (k : Q (b2i (rr P f n)) μ) : Ci E mRu_isRun [jvR 63, jvR 45, jvI f, jvI n] μ Q := by
  have hn := h.1.n
  refine vRu_isRun_0 ⟨by omega, sX_bit0 (sX_bit0 ?_)⟩
  rw [bs_rng h0 (by omega) (by omega)]
  have hl := bs_lt (fun j => decide (f ≤ j ∧ j < f + n)) (n := 40) (m := 40) (by omega)
  have hg := bs_nn (fun j => decide (f ≤ j ∧ j < f + n)) 40
  refine ⟨by omega, ?_⟩
  have lp : ∀ l6 : Int, f ≤ l6 → l6 ≤ f + n - 1 → (∀ t i, 0 ≤ t → t < nS P → ¬ (f ≤ t ∧ t < f + n) → 0 ≤ i → i < pn P t → ¬ (f ≤ nm P t i ∧ nm P t i < l6)) → K 121 E mRu_isRun 16 [some (jvR 63), some (jvR 45), some (jvI f), some (jvI n), some (jvL (bs (fun j => decide (f ≤ j ∧ j < f + n)) 40)), none, some (jvI l6)] [] μ (fun v μ1 => ∃ r, v = some (jvI r) ∧ Q r μ1) := by
    refine up_ind (f + n - 1) _ ?_
    intro l6 ih g0 g1 g3
    refine vRu_isRun_16 ⟨by omega, fun c => ⟨_, rfl, ?_⟩, fun c => ⟨by omega, ?_⟩⟩
    · have : rr P f n = true := by
        unfold rr
        rw [allB_iff]
        intro t t0 t1
        by_cases ht : f ≤ t ∧ t < f + n
        · rw [decide_eq_true ht]; rfl
        · rw [decide_eq_false ht, Bool.false_or, allB_iff]
          intro i i0 i1
          rw [decide_eq_false (fun hh => g3 t i t0 t1 ht i0 i1 (by omega))]; rfl
      rw [this] at k
      exact k
    · rw [(h.e (show 0 ≤ l6 by omega) (by omega)).2.2.2.2.2, bs_andnot (by omega)]
      refine ⟨fun c2 => ⟨by omega, ih (by omega) (by omega) (by omega) (fun t i t0 t1 ht i0 i1 hh => ?_)⟩, fun c2 => ⟨_, rfl, ?_⟩⟩
      · by_cases hl : nm P t i = l6
        · have := bs_eq0 c2 t t0 (by omega)
          rw [decide_eq_false ht, Bool.not_false, Bool.and_true, inS_t t1] at this
          have h7 : nr P l6 t = true := anyB_iff.mpr ⟨i, i0, i1, beq_iff_eq.mpr hl⟩
          rw [this] at h7
          cases h7
        · exact g3 t i t0 t1 ht i0 i1 (by omega)
      · have hex : ∃ t : Int, 0 ≤ t ∧ t < 40 ∧ (inS P (nr P l6) t && !decide (f ≤ t ∧ t < f + n)) = true := by
          refine Classical.byContradiction (fun hno => c2 (bs_0 (fun t t0 t1 => ?_)))
          rw [Bool.eq_false_iff]
          exact fun hh => hno ⟨t, t0, t1, hh⟩
        obtain ⟨t, t0, t1, t2⟩ := hex
        unfold inS at t2
        rw [Bool.and_eq_true, Bool.and_eq_true, decide_eq_true_iff] at t2
        obtain ⟨i, i0, i1, i2⟩ := anyB_iff.mp t2.1.2
        have i2 := beq_iff_eq.mp i2
        have t3 : ¬ (f ≤ t ∧ t < f + n) := by
          intro hh
          rw [decide_eq_true hh] at t2
          exact absurd t2.2 (by decide)
        rw [rr_f t0 t2.1.1 t3 i0 i1 (by omega)] at k
        exact k
  exact lp f (by omega) (by omega) (fun t i t0 t1 ht i0 i1 hh => by omega)
theorem sRu_areAlike (h : CB b μ P) {x y n : Int} (h1 : 2 ≤ n) (h2 : n ≤ 8) (h0 : 0 ≤ x) (h3 : x + n ≤ nS P) (h4 : 0 ≤ y) (h5 : y + n ≤ nS P) (k : Q (b2i (al P x y n)) μ) : Ci E mRu_areAlike [jvR 63, jvR ((b : Nat) : Int), jvI x, jvI y, jvI n] μ Q := by
  have hn := h.n
  refine vRu_areAlike_0 h.1 ?_
  have lp : ∀ l5 : Int, 0 ≤ l5 → l5 ≤ n → allB (al1 P x y) l5 = true → K 121 E mRu_areAlike 3 [some (jvR 63), some (jvR ((b : Nat) : Int)), some (jvI x), some (jvI y), some (jvI n), some (jvI l5), none, none, none] [] μ (fun v μ1 => ∃ r, v = some (jvI r) ∧ Q r μ1) := by
    refine up_ind n _ ?_
    intro l5 ih g0 g1 g3
    have hno : l5 < n → al1 P x y l5 = false → Q 0 μ := by
      intro hl hh
      have : al P x y n = false := by
        rw [Bool.eq_false_iff]
        intro h6
        have := allB_iff.mp h6 l5 g0 hl
        rw [hh] at this
        cases this
      rw [this] at k
      exact k
    refine vRu_areAlike_3 h.1 ⟨fun c => ⟨_, rfl, ?_⟩, fun c => ⟨by omega, ?_⟩⟩
    · rw [show al P x y n = true by unfold al; rw [show n = l5 by omega]; exact g3] at k
      exact k
    · rw [h.e12 (show 0 ≤ x + l5 by omega) (by omega), h.e12 (show 0 ≤ y + l5 by omega) (by omega)]
      refine ⟨fun c2 => ?_, fun c2 => ⟨_, rfl, hno (by omega) ?_⟩⟩
      · have hp := h.w.p (show 0 ≤ x + l5 by omega) (show x + l5 < nS P by omega)
        have hpn : pn P (x + l5) = pn P (y + l5) := by unfold pn; rw [c2]
        have lp2 : ∀ l6 : Int, 0 ≤ l6 → l6 ≤ pn P (x + l5) → allB (fun i => pk x y (nm P (x + l5) i) (nm P (y + l5) i)) l6 = true → K 121 E mRu_areAlike 36 [some (jvR 63), some (jvR ((b : Nat) : Int)), some (jvI x), some (jvI y), some (jvI n), some (jvI l5), some (jvI l6), none, none] [] μ (fun v μ1 => ∃ r, v = some (jvI r) ∧ Q r μ1) := by
          refine up_ind (pn P (x + l5)) _ ?_
          intro l6 ih6 d0 d1 d3
          refine vRu_areAlike_36 h.1 ⟨by omega, sBk_nameCount h (by omega) (by omega) ⟨fun c6 => ⟨by omega, ih (by omega) (by omega) (by omega) ?_⟩, fun c6 => ⟨by omega, ?_⟩⟩⟩
          · rw [allB_s g0, g3, Bool.true_and]
            unfold al1
            rw [beq_iff_eq.mpr c2, Bool.true_and, show pn P (x + l5) = l6 by omega, d3]
          · have m1 := h.w.m (x + l5) l6 (by omega) (by omega) d0 (by omega)
            have m2 := h.w.m (y + l5) l6 (by omega) (by omega) d0 (by omega)
            have good : pk x y (nm P (x + l5) l6) (nm P (y + l5) l6) = true → K 121 E mRu_areAlike 36 [some (jvR 63), some (jvR ((b : Nat) : Int)), some (jvI x), some (jvI y), some (jvI n), some (jvI l5), some (jvI (l6 + 1)), none, none] [] μ (fun v μ1 => ∃ r, v = some (jvI r) ∧ Q r μ1) := fun hh => ih6 (by omega) (by omega) (by omega) (by rw [allB_s d0, d3, hh]; rfl)
            have bad : pk x y (nm P (x + l5) l6) (nm P (y + l5) l6) = false → Q 0 μ := fun hh => hno (by omega) (by
              unfold al1
              rw [Bool.and_eq_false_iff]
              refine Or.inr ?_
              rw [Bool.eq_false_iff]
              intro h7
              have := allB_iff.mp h7 l6 d0 (by omega)
              rw [hh] at this
              cases this)
            have ahead : ¬ (x ≤ nm P (x + l5) l6 ∧ nm P (x + l5) l6 - x = nm P (y + l5) l6 - y) → Ci E mRu_areAhead [jvI (nm P (x + l5) l6), jvI (nm P (y + l5) l6), jvI x, jvI y] μ (fun r24 μ21 => ((¬ r24 = 0 → ((-2147483648 ≤ (l6 + 1) ∧ (l6 + 1) < 2147483648)) ∧ (K 121 E mRu_areAlike 36 [some (jvR 63), some (jvR ((b : Nat) : Int)), some (jvI x), some (jvI y), some (jvI n), some (jvI l5), some (jvI (l6 + 1)), none, none] [] μ21 (fun v μ1 => ∃ r, v = some (jvI r) ∧ Q r μ1))) ∧ (r24 = 0 → (∃ r, some (jvI 0) = some (jvI r) ∧ Q r μ21)))) := by
              intro hs
              refine vRu_areAhead_0 ⟨fun c8 => ⟨_, rfl, fun c => absurd rfl c, fun _ => ⟨_, rfl, bad ?_⟩⟩, fun c8 => ⟨_, rfl, fun _ => ⟨by omega, good ?_⟩, fun c => absurd c (by decide)⟩⟩
              · unfold pk; refine decide_eq_false ?_
                split at c8 <;> split at c8 <;> omega
              · unfold pk; refine decide_eq_true ?_
                split at c8 <;> split at c8 <;> omega
            refine sBk_named h (by omega) (by omega) d0 (by omega) ⟨by omega, sBk_named h (by omega) (by omega) d0 (by omega) (vRu_areInSamePlace_0 ⟨fun c7 => ⟨_, rfl, fun c => absurd rfl c, fun _ => ahead (by omega)⟩, fun c7 => ⟨by omega, fun c8 => ⟨_, rfl, fun c => absurd rfl c, fun _ => ahead (by omega)⟩, fun c8 => ⟨_, rfl, fun _ => ⟨by omega, good ?_⟩, fun c => absurd c (by decide)⟩⟩⟩)⟩
            unfold pk; exact decide_eq_true (by omega)
        exact lp2 0 (by omega) (by omega) (allB_0 (by omega))
      · unfold al1
        rw [beq_eq_false_iff_ne.mpr c2, Bool.false_and]
  exact lp 0 (by omega) (by omega) (allB_0 (by omega))
theorem sRu_isFirst (h : FC b μ P) {f n : Int} (a1 : 2 ≤ n) (a2 : n ≤ 8) (a3 : 0 ≤ f) (a4 : f + n ≤ nS P) (k : Q (b2i (nw0 P f n)) μ) : Ci E mRu_isFirstOfItsKind [jvR 63, jvR 45, jvI f, jvI n] μ Q := by
  have hn := h.1.n
  refine vRu_isFirstOfItsKind_0 ?_
  have lp : ∀ l3 : Int, 0 ≤ l3 → l3 ≤ 50 → (allB (fun b => !(rr P b n && al P b f n)) l3 = true) → K 121 E mRu_isFirstOfItsKind 3 [some (jvR 63), some (jvR 45), some (jvI f), some (jvI n), some (jvI l3)] [] μ (fun v μ1 => ∃ r, v = some (jvI r) ∧ Q r μ1) := by
    refine up_ind (f - n + 1) _ ?_
    intro l3 ih g0 g50 g3
    by_cases hl : l3 < f - n + 1
    · have step : (rr P l3 n && al P l3 f n) = false → K 121 E mRu_isFirstOfItsKind 3 [some (jvR 63), some (jvR 45), some (jvI f), some (jvI n), some (jvI (l3 + 1))] [] μ (fun v μ1 => ∃ r, v = some (jvI r) ∧ Q r μ1) := fun hh => ih hl (by omega) (by omega) (by rw [allB_s g0, g3, hh]; rfl)
      refine vRu_isFirstOfItsKind_3 h.1.1 ⟨by omega, fun c => by omega, fun _ => sRu_isRun h g0 a1 a2 (by omega) ⟨fun c2 => ⟨by omega, step (by rw [b2i_b0 c2, Bool.false_and])⟩, fun c2 => ⟨h.2.1, sRu_areAlike h.1 a1 a2 g0 (by omega) a3 a4 ⟨fun c3 => ⟨by omega, step (by rw [b2i_b0 c3, Bool.and_false])⟩, fun c3 => ⟨_, rfl, ?_⟩⟩⟩⟩⟩
      have : nw0 P f n = false := by
        rw [Bool.eq_false_iff]
        intro h6
        have := allB_iff.mp h6 l3 g0 hl
        rw [b2i_b c2, b2i_b c3] at this
        cases this
      rw [this] at k
      exact k
    · have e : nw0 P f n = true := by
        unfold nw0
        rw [allB_iff] at g3 ⊢
        exact fun j j0 j1 => g3 j j0 (by omega)
      rw [e] at k
      exact vRu_isFirstOfItsKind_3 h.1.1 ⟨by omega, fun c => ⟨_, rfl, k⟩, fun c => by omega⟩
  exact lp 0 (by omega) (by omega) (allB_0 (by omega))
theorem sRu_worthOf (h : FC b μ P) {f n : Int} (a1 : 2 ≤ n) (a2 : n ≤ 8) (a3 : 0 ≤ f) (a4 : f + n ≤ nS P) (k : Q (wo P f n) μ) : Ci E mRu_worthOf [jvR 63, jvR 45, jvI f, jvI n] μ Q := by
  have hn := h.1.n
  refine vRu_worthOf_0 ⟨by omega, ?_⟩
  have lp : ∀ (m : Nat) (l3 l4 l5 : Int), f + n ≤ l5 → l5 ≤ nS P + 1 → nS P + 1 - l5 ≤ m → (1 ≤ l3 ∧ l3 ≤ 50 - m) → (0 ≤ l4 ∧ l4 ≤ 60) → Q (woN P f n m l5 l3 l4 * (n - 1) - n) μ → K 121 E mRu_worthOf 12 [some (jvR 63), some (jvR 45), some (jvI f), some (jvI n), some (jvI l3), some (jvI l4), some (jvI l5)] [] μ (fun v μ1 => ∃ r, v = some (jvI r) ∧ Q r μ1) := by
    intro m
    induction m with
    | zero =>
      intro l3 l4 l5 g0 g1 g2 g3 g4 kq
      have hm := mul_r2 (x := l3) (y := n - 1) (by omega) (by omega)
      refine vRu_worthOf_12 h.1.1 ?_
      rw [h.1.e0.2.1]
      exact ⟨⟨h.2.1, by omega⟩, fun c => ⟨by omega, _, rfl, kq⟩, fun c => by omega⟩
    | succ m ih =>
      intro l3 l4 l5 g0 g1 g2 g3 g4 kq
      have hm := mul_r2 (x := l3) (y := n - 1) (by omega) (by omega)
      unfold woN at kq
      refine vRu_worthOf_12 h.1.1 ?_
      rw [h.1.e0.2.1]
      refine ⟨⟨h.2.1, by omega⟩, fun c => ⟨by omega, _, rfl, ?_⟩, fun c => ?_⟩
      · rw [if_pos (by omega)] at kq; exact kq
      · rw [if_neg (by omega)] at kq
        have skip : (decide (l4 ≤ l5) && (rr P l5 n && al P f l5 n)) = false → K 121 E mRu_worthOf 12 [some (jvR 63), some (jvR 45), some (jvI f), some (jvI n), some (jvI l3), some (jvI l4), some (jvI (l5 + 1))] [] μ (fun v μ1 => ∃ r, v = some (jvI r) ∧ Q r μ1) := fun hh => ih l3 l4 (l5 + 1) (by omega) (by omega) (by omega) (by omega) g4 (by rw [hh, if_neg (by decide)] at kq; exact kq)
        refine ⟨fun c2 => ⟨by omega, skip (by rw [decide_eq_false (by omega), Bool.false_and])⟩, fun c2 => sRu_isRun h (by omega) a1 a2 (by omega) ⟨fun c3 => ⟨by omega, skip (by rw [b2i_b0 c3, Bool.false_and, Bool.and_false])⟩, fun c3 => ⟨h.2.1, sRu_areAlike h.1 a1 a2 a3 a4 (by omega) (by omega) ⟨fun c4 => ⟨by omega, skip (by rw [b2i_b0 c4, Bool.and_false, Bool.and_false])⟩, fun c4 => ⟨by omega, ih (l3 + 1) (l5 + n) (l5 + 1) (by omega) (by omega) (by omega) (by omega) (by omega) ?_⟩⟩⟩⟩⟩
        rw [decide_eq_true (show l4 ≤ l5 by omega), b2i_b c3, b2i_b c4, if_pos (by decide)] at kq
        exact kq
  exact lp 41 1 (f + n) (f + n) (by omega) (by omega) (by omega) (by omega) (by omega) k
theorem sX_run {w q : Int → Bool} (h : XS b μ P w q) {f n : Int} (k : Q (vRun P f n) μ) : Ci E mX_run [jvR 0, jvI f, jvI n] μ Q := by
  unfold vRun at k
  refine vX_run_0 h.ib ⟨h.2.1, sRu_fit h.c (fun a1 a2 a3 a4 => ⟨fun c => absurd c (by decide), fun _ => sRu_isRun h.1 a3 a1 a2 a4 (sX_flagb ⟨_, rfl, ?_⟩)⟩) (fun a1 => ⟨fun _ => ⟨_, rfl, ?_⟩, fun c => absurd rfl c⟩)⟩
  · rw [if_pos ⟨a1, a2, a3, a4⟩] at k; exact k
  · rw [if_neg a1] at k; exact k
theorem sX_alike {w q : Int → Bool} (h : XS b μ P w q) {x y n : Int} (k : Q (vAlike P x y n) μ) : Ci E mX_alike [jvR 0, jvI x, jvI y, jvI n] μ Q := by
  have hn := h.n
  unfold vAlike at k
  have hno : ¬ ((2 ≤ n ∧ n ≤ 8 ∧ 0 ≤ x ∧ x + n ≤ nS P ∧ 0 ≤ y ∧ y + n ≤ nS P ∧ (x + n ≤ y ∨ y + n ≤ x)) ∧ rr P x n = true ∧ rr P y n = true) → Q (-1) μ := fun hh => by rw [if_neg hh] at k; exact k
  refine vX_alike_0 h.ib ⟨h.2.1, sRu_fit h.c (fun a1 a2 a3 a4 => ⟨fun c => absurd c (by decide), fun _ => ⟨h.2.1, sRu_fit h.c (fun b1 b2 b3 b4 => ⟨fun c => absurd c (by decide), fun _ => vRu_meet_0 ⟨by omega, fun c => ⟨_, rfl, fun _ => sRu_isRun h.1 a3 a1 a2 a4 ⟨fun c2 => ⟨_, rfl, hno (fun hh => ?_)⟩, fun c2 => sRu_isRun h.1 b3 a1 a2 b4 ⟨fun c3 => ⟨h.2.1, sRu_areAlike h.c a1 a2 a3 a4 b3 b4 (sX_flagb ⟨_, rfl, ?_⟩)⟩, fun c3 => ⟨_, rfl, hno (fun hh => ?_)⟩⟩⟩, fun c => absurd rfl c⟩, fun c => ⟨_, rfl, fun c => absurd c (by decide), fun _ => ⟨_, rfl, hno (fun hh => ?_)⟩⟩⟩⟩) (fun b1 => ⟨fun _ => ⟨_, rfl, hno (fun hh => by omega)⟩, fun c => absurd rfl c⟩)⟩⟩) (fun a1 => ⟨fun _ => ⟨_, rfl, hno (fun hh => by omega)⟩, fun c => absurd rfl c⟩)⟩
  · rw [hh.2.1] at c2; cases c2
  · have hd : x + n ≤ y ∨ y + n ≤ x := by split at c <;> omega
    rw [if_pos ⟨⟨a1, a2, a3, a4, b3, b4, hd⟩, b2i_b c2, b2i_b c3⟩] at k
    exact k
  · rw [hh.2.2] at c3; cases c3
  · split at c <;> omega
theorem sX_worth {w q : Int → Bool} (h : XS b μ P w q) {f n : Int} (k : Q (vWorth P f n) μ) : Ci E mX_worth [jvR 0, jvI f, jvI n] μ Q := by
  unfold vWorth nw at k
  refine vX_worth_0 h.ib ⟨h.2.1, sRu_fit h.c (fun a1 a2 a3 a4 => ⟨fun c => absurd c (by decide), fun _ => sRu_isRun h.1 a3 a1 a2 a4 ⟨fun c => sRu_isFirst h.1 a1 a2 a3 a4 ⟨fun c2 => ⟨_, rfl, ?_⟩, fun c2 => sRu_worthOf h.1 a1 a2 a3 a4 ⟨_, rfl, ?_⟩⟩, fun c => ⟨_, rfl, ?_⟩⟩⟩) (fun a1 => ⟨fun _ => ⟨_, rfl, ?_⟩, fun c => absurd rfl c⟩)⟩
  · rw [b2i_b0 c2, Bool.and_false, Bool.and_false, if_neg (by decide)] at k; exact k
  · rw [decide_eq_true (show 2 ≤ n ∧ n ≤ 8 ∧ 0 ≤ f ∧ f + n ≤ nS P from ⟨a1, a2, a3, a4⟩), b2i_b c, b2i_b c2, if_pos (by decide)] at k; exact k
  · rw [b2i_b0 c, Bool.false_and, Bool.and_false, if_neg (by decide)] at k; exact k
  · rw [decide_eq_false a1, Bool.false_and, if_neg (by decide)] at k; exact k
theorem bf_skip {P : jP} {l : Int} (h0 : 0 ≤ l) : ∀ (m : Nat) (n : Int), 9 - n = m → 2 ≤ n → ¬ (l + n ≤ nS P) → bf P (7 * l + (n - 2)) = bf P (7 * (l + 1))
  | 0, n, hm, h1, h2 => by congr 1; omega
  | m + 1, n, hm, h1, h2 => by
    rw [← bf_skip h0 m (n + 1) (by omega) (by omega) (by omega)]
    have := bf_s (P := P) h0 h1 (show n ≤ 8 by omega)
    rw [show 7 * l + (n + 1 - 2) = 7 * l + (n - 2) + 1 by omega, this]
    rw [show nw P l n = false by unfold nw; rw [decide_eq_false (by omega), Bool.false_and], Bool.false_and, if_neg (by decide)]
theorem sRu_findBest (h : FC b μ P) (hc : LCa μ P) (k : ∀ μ1, Fr W63 μ μ1 → ¬ μ1 63 0 = 0 → LCa μ1 P → Q0 μ1) : Cv E mRu_findBest [jvR 63, jvR 45] μ Q0 := by
  have hn := h.1.n
  refine vRu_findBest_0 ⟨fun c => ?_, fun c => ⟨rfl, k μ Fr.rf c hc⟩⟩
  have lp : ∀ (l2 : Int) (μ0 : jMu), 0 ≤ l2 → l2 ≤ nS P → Fr W63 μ μ0 → μ0 63 0 = 1 → μ0 63 3 = (bf P (7 * l2)).2.2 → (0 < (bf P (7 * l2)).2.2 → μ0 63 1 = (bf P (7 * l2)).1 ∧ μ0 63 2 = (bf P (7 * l2)).2.1) → K 121 E mRu_findBest 20 [some (jvR 63), some (jvR 45), some (jvI l2), none] [] μ0 (fun v μ1 => v = none ∧ Q0 μ1) := by
    refine up_ind (nS P) _ ?_
    intro l2 ih μ0 g0 g1 g2 g3 g4 g5
    have hR := h.fr63 g2
    refine vRu_findBest_20 h.1.1 ⟨hR.2.1, ?_⟩
    rw [hR.1.e0.2.1]
    refine ⟨fun c => ⟨rfl, k μ0 g2 (by rw [g3]; decide) (fun _ => ?_)⟩, fun c => ?_⟩
    · rw [show l2 = nS P by omega] at g4 g5
      exact ⟨g4, g5⟩
    · have lp2 : ∀ (l3 : Int) (μ3 : jMu), 2 ≤ l3 → l3 ≤ 9 → Fr W63 μ μ3 → μ3 63 0 = 1 → μ3 63 3 = (bf P (7 * l2 + (l3 - 2))).2.2 → (0 < (bf P (7 * l2 + (l3 - 2))).2.2 → μ3 63 1 = (bf P (7 * l2 + (l3 - 2))).1 ∧ μ3 63 2 = (bf P (7 * l2 + (l3 - 2))).2.1) → K 121 E mRu_findBest 33 [some (jvR 63), some (jvR 45), some (jvI l2), some (jvI l3)] [] μ3 (fun v μ1 => v = none ∧ Q0 μ1) := by
        refine up_ind 9 _ ?_
        intro l3 ih3 μ3 d0 d1 d2 d3 d4 d5
        have hR3 := h.fr63 d2
        refine vRu_findBest_33 h.1.1 ⟨fun c3 => ⟨by omega, ?_⟩, fun c3 => ⟨hR3.2.1, ?_⟩⟩
        · rw [show 7 * l2 + (l3 - 2) = 7 * (l2 + 1) by omega] at d4 d5
          exact ih (by omega) μ3 (by omega) (by omega) d2 d3 d4 d5
        · have hs := bf_s (P := P) g0 d0 (show l3 ≤ 8 by omega)
          rw [show 7 * l2 + (l3 - 2) + 1 = 7 * l2 + (l3 + 1 - 2) by omega] at hs
          have skip : nw P l2 l3 = false → K 121 E mRu_findBest 33 [some (jvR 63), some (jvR 45), some (jvI l2), some (jvI (l3 + 1))] [] μ3 (fun v μ1 => v = none ∧ Q0 μ1) := fun hh => by
            rw [hh, Bool.false_and, if_neg (by decide)] at hs
            exact ih3 (by omega) μ3 (by omega) (by omega) d2 d3 (by rw [hs]; exact d4) (by rw [hs]; exact d5)
          refine sRu_fit hR3.1 (fun a1 a2 a3 a4 => ⟨fun c => absurd c (by decide), fun _ => sRu_isRun hR3 a3 a1 a2 a4 ⟨fun c4 => ⟨by omega, skip (by unfold nw; rw [b2i_b0 c4, Bool.false_and, Bool.and_false])⟩, fun c4 => sRu_isFirst hR3 a1 a2 a3 a4 ⟨fun c5 => ⟨by omega, skip (by unfold nw; rw [b2i_b0 c5, Bool.and_false, Bool.and_false])⟩, fun c5 => sRu_worthOf hR3 a1 a2 a3 a4 (vRu_keepIfBetter_0 ?_)⟩⟩⟩) (fun a1 => ⟨fun _ => ⟨by omega, ?_⟩, fun c => absurd rfl c⟩)
          · have hw : nw P l2 l3 = true := by unfold nw; rw [decide_eq_true (show 2 ≤ l3 ∧ l3 ≤ 8 ∧ 0 ≤ l2 ∧ l2 + l3 ≤ nS P from ⟨a1, a2, a3, a4⟩), b2i_b c4, b2i_b c5]; rfl
            rw [hw, Bool.true_and] at hs
            rw [d4]
            refine ⟨fun c6 => ⟨rfl, by omega, ?_⟩, fun c6 => ⟨rfl, by omega, ?_⟩⟩
            · rw [decide_eq_false (by omega), if_neg (by decide)] at hs
              exact ih3 (by omega) μ3 (by omega) (by omega) d2 d3 (by rw [hs]; exact d4) (by rw [hs]; exact d5)
            · rw [decide_eq_true (by omega), if_pos rfl] at hs
              refine ih3 (by omega) _ (by omega) (by omega) (((d2.put rfl).put rfl).put rfl) ?_ ?_ ?_
              · rw [up_nk (by decide), up_nk (by decide), up_nk (by decide)]; exact d3
              · rw [up_eq, hs]
              · intro _
                rw [up_nk (by decide), up_nk (by decide), up_eq, up_nk (by decide), up_eq, hs]
                exact ⟨rfl, rfl⟩
          · have e := bf_skip g0 (9 - l3).toNat l3 (by omega) d0 (show ¬ (l2 + l3 ≤ nS P) by omega)
            rw [e] at d4 d5
            exact ih (by omega) μ3 (by omega) (by omega) d2 d3 d4 d5
      exact lp2 2 μ0 (by omega) (by omega) g2 g3 (by rw [show 7 * l2 + (2 - 2) = 7 * l2 by omega]; exact g4) (by rw [show 7 * l2 + (2 - 2) = 7 * l2 by omega]; exact g5)
  refine lp 0 _ (by omega) (by omega) ((Fr.rf.put rfl).put rfl) ?_ ?_ ?_
  · rw [up_nk (by decide), up_eq]
  · rw [up_eq]; rfl
  · intro hh
    have : (bf P (7 * 0)).2.2 = 0 := rfl
    omega
theorem sX_lemma {w q : Int → Bool} (h : XS b μ P w q) (hc : LCa μ P) {a : Int} (k : ∀ μ1, Fr W63 μ μ1 → LCa μ1 P → Q (vLemma P a) μ1) : Ci E mX_lemma [jvR 0, jvI a] μ Q := by
  refine vX_lemma_0 (sRu_findBest h.1 hc (fun μ1 f1 z1 c1 => ?_))
  have k2 := k μ1 f1 c1
  have c2 := c1 z1
  rw [c2.1]
  have hb := (bf_r (P := P) (7 * nS P).toNat).1
  have hbf : bf P (7 * nS P) = bfN P (7 * nS P).toNat := rfl
  unfold vLemma at k2
  rw [hbf] at k2 c2 ⊢
  refine ⟨fun c => ?_, fun c => ⟨_, rfl, ?_⟩⟩
  · have c3 := c2.2 c
    have hne : ¬ (bfN P (7 * nS P).toNat).1 = -1 := by
      rcases hb with hb | hb
      · rw [hb] at c; exact absurd c (by decide)
      · omega
    rw [if_neg hne] at k2
    rw [c3.1, c3.2]
    refine ⟨fun c => ⟨_, rfl, ?_⟩, fun c => ⟨_, rfl, ?_⟩, fun c => ⟨_, rfl, ?_⟩, fun c => ⟨_, rfl, ?_⟩⟩
    · rw [if_pos c] at k2; exact k2
    · rw [if_neg (by omega), if_pos c] at k2; exact k2
    · rw [if_neg (by omega), if_neg (by omega), if_pos c] at k2; exact k2
    · rw [if_neg (by omega), if_neg (by omega), if_neg (by omega)] at k2; exact k2
  · rcases hb with hb | hb
    · rw [hb, if_pos rfl] at k2; exact k2
    · omega
end
