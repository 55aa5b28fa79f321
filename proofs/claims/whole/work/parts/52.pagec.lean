/-! what is held; pages: the class -/
def Wpg (i : Nat) (k : Int) : Prop := i = 67 ∨ i = 68 ∨ (i = 64 ∧ (k = 6 ∨ k = 7))
theorem Wpg.nx : ∀ i k, Wpg i k → NXS i k := by
  intro i k h
  unfold Wpg at h
  unfold NXS
  omega
theorem Re.frp {μ μ1 : jMu} {P : jP} (h : Re μ P) (hf : ∀ (i : Nat) (k : Int), 52 ≤ i → i ≤ 58 → μ1 i k = μ i k) : Re μ1 P := by
  obtain ⟨f1, f2, f3, f4⟩ := h
  refine ⟨?_, fun s h0 h1 => ?_, fun k h0 h1 => ?_, fun k i h0 h1 h2 h3 => ?_⟩
  · rw [hf _ _ (by omega) (by omega)]; exact f1
  · rw [hf _ _ (by omega) (by omega)]; exact f2 s h0 h1
  · rw [hf 53 _ (by omega) (by omega), hf 55 _ (by omega) (by omega), hf 57 _ (by omega) (by omega), hf 58 _ (by omega) (by omega)]; exact f3 k h0 h1
  · rw [hf _ _ (by omega) (by omega)]; exact f4 k i h0 h1 h2 h3
section
variable {E : jE} {μ : jMu} {P : jP} {Q : Int → jMu → Prop} {Q0 : jMu → Prop}
theorem sRe_heldWith (hw : WF P) (h : Re μ P) {x : Int} {S : Int → Bool} (hx : x = bs S 40) (k : Q (hc P S) μ) : Ci E mRe_heldWith [jvR 52, jvL x] μ Q := by
  have hr := rn_r hw
  subst hx
  refine vRe_heldWith_0 ?_
  have lp : ∀ (l4 l3 : Int), 0 ≤ l4 → l4 ≤ rn P → l3 = cnt (hd P S) l4 → K 121 E mRe_heldWith 5 [some (jvR 52), some (jvL (bs S 40)), none, some (jvI l3), some (jvI l4), none] [] μ (fun v μ1 => ∃ r, v = some (jvI r) ∧ Q r μ1) := by
    refine up_ind (rn P) _ ?_
    intro l4 ih l3 g0 g1 g3
    have hcl := cnt_le (hd P S) g0
    have hcs := cnt_s (hd P S) g0
    refine vRe_heldWith_5 ?_
    rw [h.1]
    refine ⟨fun c => ⟨_, rfl, ?_⟩, fun c => ⟨by omega, fun c2 => ?_, fun c2 => ⟨by omega, ?_⟩⟩⟩
    · rw [g3, show l4 = rn P by omega]; exact k
    · have e : hd P S l4 = S l4 := by
        unfold hd
        rw [beq_iff_eq.mpr c2, Bool.true_or, Bool.and_true]
      rw [e] at hcs
      refine sX_isIn rfl g0 (by omega) (fun hh => ⟨fun c => absurd c (by decide), fun _ => ⟨by omega, ih (by omega) _ (by omega) (by omega) ?_⟩⟩) (fun hh => ⟨fun _ => ⟨by omega, ih (by omega) _ (by omega) (by omega) ?_⟩, fun c => absurd rfl c⟩)
      · rw [hh, b2i_t] at hcs; omega
      · rw [hh, b2i_f] at hcs; omega
    · rw [(h.2.2.1 l4 g0 (by omega)).2.2.2, bs_andnot (by omega)]
      have e : hd P S l4 = (S l4 && anyB (fun t => lb P t l4 && !S t) (rn P)) := by
        unfold hd
        rw [beq_eq_false_iff_ne.mpr c2, Bool.false_or]
      rw [e] at hcs
      refine ⟨fun c3 => ?_, fun c3 => ?_⟩
      · have hz : anyB (fun t => lb P t l4 && !S t) (rn P) = false := by
          rw [Bool.eq_false_iff]
          intro hh
          obtain ⟨t, t0, t1, t2⟩ := anyB_iff.mp hh
          have := bs_eq0 c3 t t0 (by omega)
          rw [decide_eq_true t1, Bool.true_and] at this
          rw [show (anyB (fun i => le P t i == l4) (rp P t) && !S t) = true from t2] at this
          cases this
        rw [hz, Bool.and_false, b2i_f] at hcs
        refine sX_isIn rfl g0 (by omega) (fun hh => ⟨fun c => absurd c (by decide), fun _ => ⟨by omega, ih (by omega) _ (by omega) (by omega) (by omega)⟩⟩) (fun hh => ⟨fun _ => ⟨by omega, ih (by omega) _ (by omega) (by omega) (by omega)⟩, fun c => absurd rfl c⟩)
      · have hz : anyB (fun t => lb P t l4 && !S t) (rn P) = true := by
          refine Classical.byContradiction (fun hno => c3 (bs_0 (fun t t0 t1 => ?_)))
          rw [Bool.eq_false_iff]
          intro hh
          rw [Bool.and_eq_true, Bool.and_eq_true, decide_eq_true_iff] at hh
          exact hno (anyB_iff.mpr ⟨t, t0, hh.1.1, by rw [Bool.and_eq_true]; exact ⟨hh.1.2, hh.2⟩⟩)
        rw [hz, Bool.and_true] at hcs
        refine sX_isIn rfl g0 (by omega) (fun hh => ⟨fun c => absurd c (by decide), fun _ => ⟨by omega, ih (by omega) _ (by omega) (by omega) ?_⟩⟩) (fun hh => ⟨fun _ => ⟨by omega, ih (by omega) _ (by omega) (by omega) ?_⟩, fun c => absurd rfl c⟩)
        · rw [hh, b2i_t] at hcs; omega
        · rw [hh, b2i_f] at hcs; omega
  exact lp 0 0 (by omega) (by omega) rfl
theorem sX_held {b : Nat} {w q : Int → Bool} (h : XS b μ P w q) (k : Q (vHeld P) μ) : Ci E mX_held [jvR 0] μ Q := by
  have hr := rn_r h.wf
  unfold vHeld at k
  refine vX_held_0 ?_
  rw [h.1.r.1]
  refine ⟨fun c => vRe_mostHeld_0 ?_, fun c => ⟨_, rfl, by rw [if_pos c] at k; exact k⟩⟩
  rw [if_neg c] at k
  have lp : ∀ (l2 l1 : Int), 1 ≤ l2 → l2 ≤ rn P + 1 → l1 = mh P (l2 - 1) → K 121 E mRe_mostHeld 4 [some (jvR 52), some (jvI l1), some (jvI l2)] [] μ (fun v μ1 => ∃ r, v = some (jvI r) ∧ (∃ r1, some (jvI r) = some (jvI r1) ∧ Q r1 μ1)) := by
    refine up_ind (rn P + 1) _ ?_
    intro l2 ih l1 g0 g1 g3
    refine vRe_mostHeld_4 ?_
    rw [h.1.r.1]
    refine ⟨fun c2 => ⟨_, rfl, _, rfl, ?_⟩, fun c2 => sX_bit0 ?_⟩
    · rw [g3, show l2 - 1 = rn P by omega]; exact k
    · rw [bs_all (m := 40) (by omega) (by omega) (by omega)]
      have hl := bs_lt (fun j => decide (j < l2)) (n := 40) (m := 40) (by omega)
      have hg := bs_nn (fun j => decide (j < l2)) 40
      refine ⟨by omega, sRe_heldWith h.wf h.1.r rfl ⟨by omega, ih (by omega) _ (by omega) (by omega) ?_⟩⟩
      have hm := mh_s (P := P) (n := l2 - 1) (by omega)
      rw [show l2 - 1 + 1 = l2 by omega, ← g3] at hm
      rw [show l2 + 1 - 1 = l2 by omega, hm]
  exact lp 1 0 (by omega) (by omega) rfl
theorem sRe_looksAhead (hw : WF P) (h : Re μ P) {t f : Int} (h0 : 0 ≤ t) (h1 : t < rn P) (k : Q (lo P f t) μ) : Ci E mRe_looksAhead [jvR 52, jvI t, jvI f] μ Q := by
  have hr := rn_r hw
  have hp := rp_r hw h0 h1
  refine vRe_looksAhead_0 ?_
  have lp : ∀ (l4 l3 : Int), 0 ≤ l4 → l4 ≤ rp P t → l3 = cnt (fun i => decide (le P t i < f)) l4 → K 121 E mRe_looksAhead 5 [some (jvR 52), some (jvI t), some (jvI f), some (jvI l3), some (jvI l4)] [] μ (fun v μ1 => ∃ r, v = some (jvI r) ∧ Q r μ1) := by
    refine up_ind (rp P t) _ ?_
    intro l4 ih l3 g0 g1 g3
    have hcl := cnt_le (fun i => decide (le P t i < f)) g0
    have hcs := cnt_s (fun i => decide (le P t i < f)) g0
    refine vRe_looksAhead_5 ⟨by omega, ?_⟩
    rw [(h.2.2.1 t h0 h1).2.1]
    refine ⟨fun c => ⟨_, rfl, ?_⟩, fun c => ⟨by omega, ?_⟩⟩
    · rw [g3, show l4 = rp P t by omega]; exact k
    · rw [h.2.2.2 t l4 h0 h1 g0 (by omega)]
      refine ⟨fun c2 => ⟨by omega, ih (by omega) _ (by omega) (by omega) ?_⟩, fun c2 => ⟨by omega, ih (by omega) _ (by omega) (by omega) ?_⟩⟩
      · rw [decide_eq_false (by omega), b2i_f] at hcs; omega
      · rw [decide_eq_true (by omega), b2i_t] at hcs; omega
  exact lp 0 0 (by omega) (by omega) rfl
theorem sOr_pageCount (hw : WF P) {p f : Int} (hp : 1 ≤ p) (hp2 : p ≤ 40) (e6 : μ 64 6 = rn P) (e7 : μ 64 7 = p) (h0 : 0 ≤ f) (h1 : f ≤ rn P) (k : Q (pg P p f) μ) : Ci E mOr_pageCount [jvR 64, jvI f] μ Q := by
  have hr := rn_r hw
  have hg := pg_le (P := P) hp h0 h1
  refine vOr_pageCount_0 ?_
  rw [e6, e7, show Int.tdiv (rn P - f + p - 1) p = pg P p f from rfl]
  exact ⟨⟨by omega, by omega, by omega, by omega, by omega⟩, _, rfl, k⟩
theorem sOr_cutFrom (hw : WF P) (h : Re μ P) {p f : Int} (hp : 1 ≤ p) (hp2 : p ≤ 40) (e6 : μ 64 6 = rn P) (e7 : μ 64 7 = p) (h0 : 0 ≤ f) (h1 : f < rn P) (e67 : ∀ t, f < t → t ≤ rn P → μ 67 t = bw P p t) (k : ∀ μ1, Fr (fun i j => (i = 67 ∨ i = 68) ∧ j = f) μ μ1 → μ1 67 f = bw P p f → μ1 68 f = np P p f → Q0 μ1) : Cv E mOr_cutFrom [jvR 64, jvR 52, jvI f] μ Q0 := by
  have hr := rn_r hw
  have hcw := cw_r (P := P) hp (show f ≤ rn P by omega) (Int.le_refl (cw P p f : Int))
  have hb := bw_lt hw hp h0 (show f ≤ rn P by omega)
  have hbe := bw_eq (P := P) (p := p) (show f ≤ rn P by omega)
  rw [if_neg (by omega)] at hbe
  have hnp := np_c hw hp h0 h1
  refine vOr_cutFrom_0 ⟨by omega, ?_⟩
  have lp : ∀ (l5 l3 l4 : Int) (μ0 : jMu), 1 ≤ l5 - f → l5 - f ≤ (cw P p f : Int) + 1 → Fr (fun i j => (i = 67 ∨ i = 68) ∧ j = f) μ μ0 → l3 = lks P f (l5 - 1) → (mnN (fun j => vf P p f (f + j)) (l5 - f - 1).toNat = 10000 → l4 = 2147483647) → (mnN (fun j => vf P p f (f + j)) (l5 - f - 1).toNat ≠ 10000 → l4 = mnN (fun j => vf P p f (f + j)) (l5 - f - 1).toNat ∧ f < μ0 68 f ∧ μ0 68 f < l5 ∧ vf P p f (μ0 68 f) = l4 ∧ ∀ t, f < t → t < μ0 68 f → l4 < vf P p f t) → K 121 E mOr_cutFrom 11 [some (jvR 64), some (jvR 52), some (jvI f), some (jvI l3), some (jvI l4), some (jvI l5), none] [] μ0 (fun v μ1 => v = none ∧ Q0 μ1) := by
    refine up_ind (f + (cw P p f : Int) + 1) _ ?_
    intro l5 ih l3 l4 μ0 g0 g1 g2 g3 g4 g5
    have hR := h.frp (fun i k a b => g2 i k (by omega))
    have e6' : μ0 64 6 = rn P := by rw [g2 64 6 (by omega)]; exact e6
    have e7' : μ0 64 7 = p := by rw [g2 64 7 (by omega)]; exact e7
    have fin : l5 - f = (cw P p f : Int) + 1 → (0 ≤ f ∧ f < 41) ∧ ((none : Option AV) = none ∧ Q0 (j_up μ0 67 f l4)) := by
      intro he
      rw [show (l5 - f - 1).toNat = cw P p f by omega, ← hbe] at g4 g5
      obtain ⟨q1, q2, q3, q4, q5⟩ := g5 (by omega)
      refine ⟨by omega, rfl, k _ (g2.put ⟨Or.inl rfl, rfl⟩) (by rw [up_eq]; exact q1) ?_⟩
      rw [up_ne (by decide)]
      rcases Int.lt_trichotomy (μ0 68 f) (np P p f) with hh | hh | hh
      · exact absurd (by rw [q4, q1]) (hnp.2.2.2.2.2 _ q2 hh)
      · exact hh
      · have := q5 _ hnp.1 hh
        rw [hnp.2.2.2.1] at this
        omega
    refine vOr_cutFrom_11 ?_
    rw [e6', e7']
    refine ⟨fun c => fin ?_, fun c => ⟨by omega, fun c2 => fin ?_, fun c2 => ⟨by omega, ?_⟩⟩⟩
    · have := cw_in (P := P) (p := p) (f := f) (j := l5 - f)
      omega
    · have := cw_in (P := P) (p := p) (f := f) (j := l5 - f)
      omega
    · have hin := cw_in (P := P) (p := p) (f := f) (j := l5 - f) (by omega) (by omega)
      have hls := lks_s (P := P) (f := f) (t := l5 - 1) (by omega)
      rw [show l5 - 1 + 1 = l5 by omega, ← g3] at hls
      have hlr := lks_r hw h0 (l5 - f).toNat (by omega)
      rw [show f + (((l5 - f).toNat : Nat) : Int) = l5 by omega] at hlr
      have hlo := lo_r hw (f := f) (show 0 ≤ l5 - 1 by omega) (show l5 - 1 < rn P by omega)
      have hb5 := bw_lt hw hp (show 0 ≤ l5 by omega) (show l5 ≤ rn P by omega)
      have hs : mnN (fun j => vf P p f (f + j)) (l5 + 1 - f - 1).toNat = if vf P p f l5 < mnN (fun j => vf P p f (f + j)) (l5 - f - 1).toNat then vf P p f l5 else mnN (fun j => vf P p f (f + j)) (l5 - f - 1).toNat := by
        rw [show (l5 + 1 - f - 1).toNat = (l5 - f - 1).toNat + 1 by omega]
        show (if vf P p f (f + ((((l5 - f - 1).toNat : Nat) : Int) + 1)) < mnN (fun j => vf P p f (f + j)) (l5 - f - 1).toNat then vf P p f (f + ((((l5 - f - 1).toNat : Nat) : Int) + 1)) else mnN (fun j => vf P p f (f + j)) (l5 - f - 1).toNat) = _
        rw [show f + ((((l5 - f - 1).toNat : Nat) : Int) + 1) = l5 by omega]
      have hmn : mnN (fun j => vf P p f (f + j)) (l5 - f - 1).toNat ≤ 10000 ∧ 0 ≤ mnN (fun j => vf P p f (f + j)) (l5 - f - 1).toNat := by
        have := mnN_r (g := fun j => vf P p f (f + j)) (l5 - f - 1).toNat (fun j j1 j2 => by
          show 0 ≤ vf P p f (f + j)
          unfold vf
          split
          · have h2 := lks_r hw h0 j.toNat (by omega)
            rw [show ((j.toNat : Nat) : Int) = j by omega] at h2
            have h3 := bw_lt hw hp (show 0 ≤ f + j by omega) (show f + j ≤ rn P by omega)
            omega
          · omega)
        omega
      have r67 : μ0 67 l5 = bw P p l5 := by rw [g2 67 l5 (by omega)]; exact e67 l5 (by omega) (by omega)
      refine sRe_looksAhead hw hR (by omega) (by omega) ?_
      rw [r67]
      refine ⟨by omega, sOr_pageCount hw hp hp2 e6' e7' (by omega) (by omega) (sOr_pageCount hw hp hp2 e6' e7' h0 (by omega) ⟨fun c3 => ⟨by omega, ih (by omega) _ l4 μ0 (by omega) (by omega) g2 (by rw [show l5 + 1 - 1 = l5 by omega]; exact hls.symm) ?_ ?_⟩, fun c3 => ?_⟩)⟩
      · have hv : vf P p f l5 = 10000 := by unfold vf; rw [if_neg (by omega)]
        rw [hs, hv, if_neg (by omega)]; exact g4
      · have hv : vf P p f l5 = 10000 := by unfold vf; rw [if_neg (by omega)]
        rw [hs, hv, if_neg (by omega)]
        intro hh
        obtain ⟨q1, q2, q3, q4, q5⟩ := g5 hh
        exact ⟨q1, q2, by omega, q4, q5⟩
      · have hv : vf P p f l5 = lks P f l5 + bw P p l5 := by unfold vf; rw [if_pos (by omega)]
        rw [← hls, ← hv]
        refine ⟨fun c4 => ⟨by omega, ih (by omega) _ l4 μ0 (by omega) (by omega) g2 (by rw [show l5 + 1 - 1 = l5 by omega]) ?_ ?_⟩, fun c4 => ⟨by omega, ih (by omega) _ _ _ (by omega) (by omega) (g2.put ⟨Or.inr rfl, rfl⟩) (by rw [show l5 + 1 - 1 = l5 by omega]) ?_ ?_⟩⟩
        · intro hh
          by_cases hm : mnN (fun j => vf P p f (f + j)) (l5 - f - 1).toNat = 10000
          · exact g4 hm
          · have := (g5 hm).1
            rw [hs, if_neg (by omega)] at hh
            exact absurd hh hm
        · intro hh
          have hm : mnN (fun j => vf P p f (f + j)) (l5 - f - 1).toNat ≠ 10000 := by
            intro hm
            have := g4 hm
            omega
          obtain ⟨q1, q2, q3, q4, q5⟩ := g5 hm
          rw [hs, if_neg (by omega)]
          exact ⟨q1, q2, by omega, q4, q5⟩
        · have hlt : vf P p f l5 < mnN (fun j => vf P p f (f + j)) (l5 - f - 1).toNat := by
            by_cases hm : mnN (fun j => vf P p f (f + j)) (l5 - f - 1).toNat = 10000
            · omega
            · have := (g5 hm).1
              omega
          rw [hs, if_pos hlt]
          intro hh
          omega
        · have hlt : vf P p f l5 < mnN (fun j => vf P p f (f + j)) (l5 - f - 1).toNat := by
            by_cases hm : mnN (fun j => vf P p f (f + j)) (l5 - f - 1).toNat = 10000
            · omega
            · have := (g5 hm).1
              omega
          rw [hs, if_pos hlt]
          intro _
          rw [up_eq]
          refine ⟨rfl, by omega, by omega, rfl, fun t t1 t2 => ?_⟩
          have := mnN_le (g := fun j => vf P p f (f + j)) (l5 - f - 1).toNat (t - f) (by omega) (by omega)
          simp only [show f + (t - f) = t by omega] at this
          omega
  refine lp (f + 1) 0 2147483647 μ (by omega) (by omega) Fr.rf ?_ (fun _ => rfl) (fun hh => ?_)
  · rw [show f + 1 - 1 = f by omega, lks_0]
  · rw [show (f + 1 - f - 1).toNat = 0 by omega] at hh
    exact absurd rfl hh
theorem sOr_cut (hw : WF P) (h : Re μ P) {p : Int} (hp : 1 ≤ p) (hp2 : p ≤ 40) (k : ∀ μ1, Fr Wpg μ μ1 → μ1 64 6 = rn P → μ1 64 7 = p → (∀ t, 0 ≤ t → t < rn P → μ1 67 t = bw P p t ∧ μ1 68 t = np P p t) → Q0 μ1) : Cv E mOr_cut [jvR 64, jvR 52, jvI p] μ Q0 := by
  have hr := rn_r hw
  refine vOr_cut_0 ?_
  rw [h.1, show (if 1 < p then p else 1) = p by split <;> omega]
  refine ⟨by omega, ?_⟩
  have lp : ∀ (l3 : Int) (μ0 : jMu), -1 ≤ l3 → l3 < rn P → Fr Wpg μ μ0 → μ0 64 6 = rn P → μ0 64 7 = p → (∀ t, l3 < t → t ≤ rn P → μ0 67 t = bw P p t) → (∀ t, l3 < t → t < rn P → μ0 68 t = np P p t) → K 121 E mOr_cut 34 [some (jvR 64), some (jvR 52), some (jvI p), some (jvI l3)] [] μ0 (fun v μ1 => v = none ∧ Q0 μ1) := by
    refine down_ind _ ?_
    intro l3 ih μ0 g0 g1 g2 g3 g4 g5 g6
    refine vOr_cut_34 ⟨fun c => ⟨rfl, k μ0 g2 g3 g4 (fun t a b => ⟨g5 t (by omega) (by omega), g6 t (by omega) b⟩)⟩, fun c => ?_⟩
    refine sOr_cutFrom hw (h.frp (fun i k a b => g2 i k (by unfold Wpg; omega))) hp hp2 g3 g4 (by omega) g1 g5 (fun μ1 f1 z1 z2 => ⟨by omega, ih (by omega) μ1 (by omega) (by omega) (g2.tr (f1.mono (fun i k hh => by unfold Wpg; omega))) ?_ ?_ (fun t a b => ?_) (fun t a b => ?_)⟩)
    · rw [f1 64 6 (by omega)]; exact g3
    · rw [f1 64 7 (by omega)]; exact g4
    · by_cases ht : t = l3
      · rw [ht]; exact z1
      · rw [f1 67 t (by omega)]; exact g5 t (by omega) b
    · by_cases ht : t = l3
      · rw [ht]; exact z2
      · rw [f1 68 t (by omega)]; exact g6 t (by omega) b
  refine lp (rn P - 1) _ (by omega) (by omega) (((Fr.rf.put (by unfold Wpg; omega)).put (by unfold Wpg; omega)).put (by unfold Wpg; omega)) ?_ ?_ (fun t a b => ?_) (fun t a b => by omega)
  · rw [up_ne (by decide), up_nk (by decide), up_eq]
  · rw [up_ne (by decide), up_eq]
  · rw [show t = rn P by omega, up_eq, bw_eq (by omega), if_pos rfl]
theorem sX_pages {b : Nat} {w q : Int → Bool} (h : XS b μ P w q) {p a : Int} (ha : -2147483648 ≤ a ∧ a < 2147483648) (k : ∀ μ1, Fr Wpg μ μ1 → Q (vPages P p a) μ1) : Ci E mX_pages [jvR 0, jvI p, jvI a] μ Q := by
  have hr := rn_r h.wf
  unfold vPages at k
  refine vX_pages_0 ?_
  rw [h.1.r.1]
  refine ⟨fun c => ⟨_, rfl, ?_⟩, fun c => ⟨fun c2 => ⟨_, rfl, ?_⟩, fun c2 => ⟨fun c3 => ⟨_, rfl, ?_⟩, fun c3 => ⟨fun c4 => ?_, fun c4 => ⟨_, rfl, ?_⟩⟩⟩⟩⟩
  · rw [if_pos (by omega)] at k; exact k μ Fr.rf
  · rw [if_pos (by omega)] at k; exact k μ Fr.rf
  · rw [if_pos (by omega)] at k; exact k μ Fr.rf
  · rw [if_neg (by omega)] at k
    have p1 : 1 ≤ p := by omega
    have hpg := pg_le (P := P) p1 (Int.le_refl 0) hr.1
    refine sOr_cut h.wf h.1.r p1 (by omega) (fun μ1 f1 z6 z7 zt => ⟨fun c5 => ?_, fun c5 => ⟨_, rfl, ?_⟩, fun c5 => ⟨by omega, ?_⟩⟩)
    · rw [if_pos c5] at k
      exact sOr_pageCount h.wf p1 (by omega) z6 z7 (Int.le_refl 0) hr.1 ⟨_, rfl, k μ1 f1⟩
    · rw [if_neg (by omega), if_pos c5] at k
      rw [(zt 0 (by omega) (by omega)).1]; exact k μ1 f1
    · rw [if_neg c5.1, if_neg c5.2] at k
      refine vOr_firstOn_0 ?_
      have lp : ∀ (l3 l2 : Int), 0 ≤ l3 → l3 ≤ a - 2 → l3 ≤ pg P p 0 → l2 = fnN P p l3.toNat → K 121 E mOr_firstOn 4 [some (jvR 64), some (jvI (a - 2)), some (jvI l2), some (jvI l3)] [] μ1 (fun v μ1 => ∃ r, v = some (jvI r) ∧ (∃ r1, some (jvI r) = some (jvI r1) ∧ Q r1 μ1)) := by
        refine up_ind (pg P p 0) _ ?_
        intro l3 ih l2 g0 g1 g2 g3
        have hfn := fn_c h.wf p1 l3.toNat (by omega)
        rw [← g3] at hfn
        have he := pg_end (P := P) p1
        have hlt : l2 < rn P ↔ l3 < pg P p 0 := by
          constructor
          · intro hh
            have := pg_pos (P := P) p1 hh
            omega
          · intro hh
            refine Classical.byContradiction (fun hno => ?_)
            rw [show l2 = rn P by omega, he] at hfn
            omega
        refine vOr_firstOn_4 ?_
        rw [z6]
        refine ⟨fun c6 => ⟨fun c7 => ⟨_, rfl, _, rfl, ?_⟩, fun c7 => ⟨_, rfl, _, rfl, ?_⟩⟩, fun c6 => ⟨fun c7 => ⟨fun c8 => ⟨_, rfl, _, rfl, ?_⟩, fun c8 => absurd c7 c8⟩, fun c7 => ?_⟩⟩
        · rw [if_neg (by omega)] at k; exact k μ1 f1
        · rw [if_pos (by omega), show a - 2 = l3 by omega, ← g3] at k; exact k μ1 f1
        · rw [if_neg (by omega)] at k; exact k μ1 f1
        · have hl : l2 < rn P := by omega
          refine ⟨by omega, ?_⟩
          rw [(zt l2 hfn.1 hl).2]
          refine ih (hlt.mp hl) _ (by omega) (by omega) (by have := hlt.mp hl; omega) ?_
          rw [show (l3 + 1).toNat = l3.toNat + 1 by omega, g3]
          rfl
      exact lp 0 0 (by omega) (by omega) (by omega) rfl
  · rw [if_pos (by omega)] at k; exact k μ Fr.rf
end
