/-! the class studies a proof: all its facts -/
def FC (b : Nat) (μ : jMu) (P : jP) : Prop := CB b μ P ∧ μ 45 7 = ((b : Nat) : Int) ∧
  (∀ s, 0 ≤ s → s < nS P → μ 46 s = fs P s ∧ μ 47 s = cb P s ∧ μ 48 s = cg P s (nS P) ∧ μ 49 s = dp P s ∧ μ 50 s = bs (bl P s) 40 ∧ μ 51 s = bs (inS P (nr P s)) 40) ∧
  (μ 45 8 = bs (inS P (rg P)) 40 ∧ μ 45 9 = bs (inS P (nd P)) 40 ∧ μ 45 10 = bs (inS P (tw P)) 40 ∧ μ 45 11 = bs (inS P (cvd P)) 40 ∧ μ 45 12 = bs (inS P (vt P)) 40) ∧ Re μ P
def Wst (b : Nat) (i : Nat) (_ : Int) : Prop := i = b + 7 ∨ (45 ≤ i ∧ i ≤ 58)
theorem Wst.nb {b : Nat} (hb : isB b) : ∀ i k, Wst b i k → NB i k := by
  intro i k h
  unfold Wst at h
  unfold NB
  rcases hb with rfl | rfl <;> omega
theorem bs_up {p : Int → Bool} {w : Int} (h0 : 0 ≤ w) : (fun j : Int => (decide (j < w) && p j) || (j == w && p w)) = (fun j => decide (j < w + 1) && p j) := by
  funext j
  by_cases h1 : j < w
  · rw [decide_eq_true h1, decide_eq_true (show j < w + 1 by omega), beq_eq_false_iff_ne.mpr (show j ≠ w by omega)]
    simp
  · by_cases h2 : j = w
    · subst h2
      rw [decide_eq_false h1, decide_eq_true (show j < j + 1 by omega), beq_self_eq_true]
      simp
    · rw [decide_eq_false h1, decide_eq_false (show ¬ j < w + 1 by omega), beq_eq_false_iff_ne.mpr h2]
      simp
section
variable {E : jE} {μ : jMu} {P : jP} {b : Nat} {Q0 : jMu → Prop}
theorem sFa_study (h : CB b μ P) (k : ∀ μ1, Fr (Wst b) μ μ1 → FC b μ1 P → Q0 μ1) : Cv E mFa_study [jvR 45, jvR ((b : Nat) : Int)] μ Q0 := by
  have hn := h.n
  have hb7 : b + 7 ≤ 44 := by rcases h.1 with hb | hb <;> omega
  refine vFa_study_0 h.1 ?_
  -- second loop
  have lp2 : ∀ (l2 : Int) (μ0 : jMu), 0 ≤ l2 → l2 ≤ nS P → Fr (Wst b) μ μ0 → μ0 45 7 = ((b : Nat) : Int) → (∀ s, 0 ≤ s → s < nS P → μ0 46 s = fs P s ∧ μ0 47 s = cb P s ∧ μ0 48 s = cg P s (nS P) ∧ μ0 49 s = dp P s ∧ μ0 50 s = bs (bl P s) 40 ∧ μ0 51 s = bs (inS P (nr P s)) 40) → (μ0 45 8 = bs (inS P (rg P)) 40 ∧ μ0 45 9 = bs (inS P (nd P)) 40 ∧ μ0 45 10 = bs (inS P (tw P)) 40 ∧ μ0 45 11 = bs (inS P (cvd P)) 40) → μ0 45 12 = bs (fun j => decide (j < l2) && vt P j) 40 → K 121 E mFa_study 118 [some (jvR 45), some (jvR ((b : Nat) : Int)), some (jvI l2)] [] μ0 (fun v μ1 => v = none ∧ Q0 μ1) := by
    refine up_ind (nS P) _ ?_
    intro l2 ih μ0 g0 g1 g2 g3 g4 g5 g6
    have hR := h.fr (g2.mono (Wst.nb h.1))
    refine vFa_study_118 h.1 ⟨g3, ?_⟩
    rw [hR.e0.2.1]
    refine ⟨fun c => ?_, fun c => ?_⟩
    · have hl : l2 = nS P := by omega
      subst hl
      refine sRe_gather hR g3 (fun s a b => (g4 s a b).1) (fun μ1 z1 z2 => ⟨rfl, k μ1 (g2.tr (z1.mono (fun i k hw => by unfold Wga at hw; unfold Wst; omega))) ⟨hR.fr (z1.mono Wga.nb), ?_, fun s a b => ?_, ⟨?_, ?_, ?_, ?_, ?_⟩, z2⟩⟩)
      · rw [z1 45 7 (by unfold Wga; omega)]; exact g3
      · rw [z1 46 s (by unfold Wga; omega), z1 47 s (by unfold Wga; omega), z1 48 s (by unfold Wga; omega), z1 49 s (by unfold Wga; omega), z1 50 s (by unfold Wga; omega), z1 51 s (by unfold Wga; omega)]; exact g4 s a b
      · rw [z1 45 8 (by unfold Wga; omega)]; exact g5.1
      · rw [z1 45 9 (by unfold Wga; omega)]; exact g5.2.1
      · rw [z1 45 10 (by unfold Wga; omega)]; exact g5.2.2.1
      · rw [z1 45 11 (by unfold Wga; omega)]; exact g5.2.2.2
      · rw [z1 45 12 (by unfold Wga; omega)]; exact g6
    · refine sFa_isProvedWithout hR g3 (fun s a b => (g4 s a b).1) (by omega) ⟨fun c2 => ⟨by omega, ih (by omega) μ0 (by omega) (by omega) g2 g3 g4 g5 ?_⟩, fun c2 => sX_bit g0 (by omega) ⟨by omega, ?_⟩⟩
      · rw [g6, ← bs_up g0]
        refine bs_congr (fun j _ _ => ?_)
        rw [show vt P l2 = false by unfold vt; rw [b2i_b c2]; rfl, Bool.and_false, Bool.or_false]
      · rw [g6, bs_or (by omega)]
        refine ih (by omega) _ (by omega) (by omega) (g2.put (by unfold Wst; omega)) ?_ (fun s a b => ?_) ⟨?_, ?_, ?_, ?_⟩ ?_
        · rw [up_nk (by decide)]; exact g3
        · rw [up_ne (by decide), up_ne (by decide), up_ne (by decide), up_ne (by decide), up_ne (by decide), up_ne (by decide)]; exact g4 s a b
        · rw [up_nk (by decide)]; exact g5.1
        · rw [up_nk (by decide)]; exact g5.2.1
        · rw [up_nk (by decide)]; exact g5.2.2.1
        · rw [up_nk (by decide)]; exact g5.2.2.2
        · rw [up_eq, ← bs_up g0]
          refine bs_congr (fun j _ _ => ?_)
          rw [show vt P l2 = true by unfold vt; rw [b2i_b0 c2]; rfl, Bool.and_true]
  -- first loop
  have lp1 : ∀ (l2 : Int) (μ0 : jMu), 0 ≤ l2 → l2 ≤ nS P → Fr (Wst b) μ μ0 → μ0 45 7 = ((b : Nat) : Int) → (∀ s, 0 ≤ s → s < l2 → μ0 46 s = fs P s ∧ μ0 47 s = cb P s ∧ μ0 48 s = cg P s l2 ∧ μ0 49 s = dp P s ∧ μ0 50 s = bs (bl P s) 40 ∧ μ0 51 s = bs (fun j => decide (j < l2) && nr P s j) 40) → μ0 45 8 = bs (fun j => decide (j < l2) && rg P j) 40 → μ0 45 10 = bs (fun j => decide (j < l2) && tw P j) 40 → μ0 45 11 = bs (fun j => decide (j < l2) && cvd P j) 40 → μ0 45 12 = 0 → K 121 E mFa_study 27 [some (jvR 45), some (jvR ((b : Nat) : Int)), some (jvI l2)] [] μ0 (fun v μ1 => v = none ∧ Q0 μ1) := by
    refine up_ind (nS P) _ ?_
    intro l2 ih μ0 g0 g1 g2 g3 g4 g5 g6 g7 g8
    have hR := h.fr (g2.mono (Wst.nb h.1))
    refine vFa_study_27 h.1 ⟨g3, ?_⟩
    rw [hR.e0.2.1, hR.e0.2.2.2.1]
    have z0 : (0 : Int) = bs (fun j => decide (j < 0) && vt P j) 40 := by
      rw [bs_0]
      intro j a b
      rw [decide_eq_false (by omega), Bool.false_and]
    refine ⟨fun c => ?_, fun c => ?_⟩
    · have hl : l2 = nS P := by omega
      subst hl
      refine ⟨g3, fun c2 => ⟨g3, ?_⟩, fun c2 => ?_⟩
      · have hg := h.w.g.1 (by omega)
        refine sX_bit hg.1 (by omega) ?_
        rw [hR.e0.2.2.2.1]
        refine ⟨⟨g3, by omega⟩, ?_⟩
        rw [(g4 _ hg.1 hg.2).2.2.2.2.1, bs_or (by omega)]
        refine lp2 0 _ (by omega) (by omega) (g2.put (by unfold Wst; omega)) ?_ (fun s a b => ?_) ⟨?_, ?_, ?_, ?_⟩ ?_
        · rw [up_nk (by decide)]; exact g3
        · rw [up_ne (by decide), up_ne (by decide), up_ne (by decide), up_ne (by decide), up_ne (by decide), up_ne (by decide)]; exact g4 s a b
        · rw [up_nk (by decide)]; exact g5
        · rw [up_eq]
          refine bs_congr (fun j j0 j1 => ?_)
          unfold inS nd
          by_cases hj : j < nS P
          · rw [decide_eq_true hj, Bool.true_and]
          · rw [decide_eq_false hj, Bool.false_and, beq_eq_false_iff_ne.mpr (show j ≠ gl P by omega), Bool.false_or, Bool.eq_false_iff]
            intro hh
            have := bl_lt h.w (gl P).toNat (gl P) j (by omega) hg.1 hg.2 hh
            omega
        · rw [up_nk (by decide)]; exact g6
        · rw [up_nk (by decide)]; exact g7
        · rw [up_nk (by decide), g8]; exact z0
      · refine lp2 0 _ (by omega) (by omega) (g2.put (by unfold Wst; omega)) ?_ (fun s a b => ?_) ⟨?_, ?_, ?_, ?_⟩ ?_
        · rw [up_nk (by decide)]; exact g3
        · omega
        · rw [up_nk (by decide)]; exact g5
        · rw [up_eq, bs_0]
          intro j j0 j1
          unfold inS
          rw [decide_eq_false (by omega), Bool.false_and]
        · rw [up_nk (by decide)]; exact g6
        · rw [up_nk (by decide)]; exact g7
        · rw [up_nk (by decide), g8]; exact z0
    · refine sFa_compare hR g3 g0 (by omega) g6 g7 (fun e a b => ?_) ?_
      · have := (g4 e a b).2.2.1
        have h2 := cnt_le (fun s => decide (e < s) && cv P e s) g0
        unfold cg at this
        omega
      · intro μ1 f1 y1 y2 y3 y4 y5 y6
        have hR1 := hR.fr (f1.mono (Wcm.nb h.1))
        have e45 : μ1 45 7 = ((b : Nat) : Int) := by rw [f1 45 7 (by unfold Wcm; omega)]; exact g3
        refine sFa_follow hR1 e45 g0 (by omega) (q := fun s j => decide (j < l2) && nr P s j) (fun s a b => ?_) (fun s a b => ?_) (fun s a b => ?_) ?_
        · rw [f1 49 s (by unfold Wcm; omega)]; exact (g4 s a b).2.2.2.1
        · rw [f1 50 s (by unfold Wcm; omega)]; exact (g4 s a b).2.2.2.2.1
        · rw [f1 51 s (by unfold Wcm; omega)]; exact (g4 s a b).2.2.2.2.2
        · intro μ2 f2 x1 x2 x3 x4
          have hR2 := hR1.fr (f2.mono Wfo.nb)
          have e45' : μ2 45 7 = ((b : Nat) : Int) := by rw [f2 45 7 (by unfold Wfo; omega)]; exact e45
          refine sFa_isRight hR2 e45' g0 (by omega) (fun μ3 f3 => ?_)
          have r3 : ∀ (i : Nat) (j : Int), 45 ≤ i → μ3 i j = μ2 i j := fun i j hi => f3 i j (by unfold W7; omega)
          have fA : Fr (Wst b) μ μ3 := ((g2.tr (f1.mono (fun i k hw => by unfold Wcm at hw; unfold Wst; omega))).tr (f2.mono (fun i k hw => by unfold Wfo at hw; unfold Wst; omega))).tr (f3.mono (fun i k hw => by unfold W7 at hw; unfold Wst; omega))
          have e7 : μ3 45 7 = ((b : Nat) : Int) := by rw [r3 45 7 (by omega)]; exact e45'
          have e8 : μ3 45 8 = bs (fun j => decide (j < l2) && rg P j) 40 := by rw [r3 45 8 (by omega), f2 45 8 (by unfold Wfo; omega), f1 45 8 (by unfold Wcm; omega)]; exact g5
          have e12 : μ3 45 12 = 0 := by rw [r3 45 12 (by omega), f2 45 12 (by unfold Wfo; omega), f1 45 12 (by unfold Wcm; omega)]; exact g8
          have e10 : μ3 45 10 = bs (fun j => decide (j < l2 + 1) && tw P j) 40 := by rw [r3 45 10 (by omega), f2 45 10 (by unfold Wfo; omega), y5, bs_up g0]
          have e11 : μ3 45 11 = bs (fun j => decide (j < l2 + 1) && cvd P j) 40 := by rw [r3 45 11 (by omega), f2 45 11 (by unfold Wfo; omega), y6, bs_up g0]
          have e4 : ∀ s, 0 ≤ s → s < l2 + 1 → μ3 46 s = fs P s ∧ μ3 47 s = cb P s ∧ μ3 48 s = cg P s (l2 + 1) ∧ μ3 49 s = dp P s ∧ μ3 50 s = bs (bl P s) 40 ∧ μ3 51 s = bs (fun j => decide (j < l2 + 1) && nr P s j) 40 := by
            intro s a b
            rw [r3 46 s (by omega), r3 47 s (by omega), r3 48 s (by omega), r3 49 s (by omega), r3 50 s (by omega), r3 51 s (by omega), f2 46 s (by unfold Wfo; omega), f2 47 s (by unfold Wfo; omega), f2 48 s (by unfold Wfo; omega)]
            by_cases hs : s = l2
            · subst hs
              refine ⟨y1, y2, ?_, x1, x2, ?_⟩
              · rw [y3]
                unfold cg
                have : cnt (fun s' => decide (s < s') && cv P s s') (s + 1) = cnt (fun _ => false) (s + 1) := cnt_congr (fun j j0 j1 => by rw [decide_eq_false (by omega), Bool.false_and])
                rw [this]
                have key : ∀ n : Nat, cntN (fun _ => false) n = 0 := by
                  intro n
                  induction n with
                  | zero => rfl
                  | succ n ih => show cntN (fun _ => false) n + b2i false = 0; rw [ih]; rfl
                exact (key _).symm
              · rw [x3, bs_0]
                intro j j0 j1
                by_cases hj : j < s + 1
                · rw [decide_eq_true hj, Bool.true_and, Bool.eq_false_iff]
                  intro hh
                  obtain ⟨i, i0, i1, i2⟩ := anyB_iff.mp hh
                  have hm := h.w.m j i j0 (by omega) i0 i1
                  have := beq_iff_eq.mp i2
                  omega
                · rw [decide_eq_false hj, Bool.false_and]
            · have q := g4 s a (by omega)
              have hx4 := x4 s a (by omega)
              rw [f1 46 s (by unfold Wcm; omega), f1 47 s (by unfold Wcm; omega), y4 s a (by omega), f2 49 s (by unfold Wfo; omega), f1 49 s (by unfold Wcm; omega), f2 50 s (by unfold Wfo; omega), f1 50 s (by unfold Wcm; omega), hx4, q.2.2.1]
              refine ⟨q.1, q.2.1, ?_, q.2.2.2.1, q.2.2.2.2.1, ?_⟩
              · unfold cg
                rw [cnt_s _ g0]
                rw [decide_eq_true (show s < l2 by omega), Bool.true_and]
              · rw [← bs_up g0]
          refine ⟨fun c2 => ⟨by omega, ih (by omega) μ3 (by omega) (by omega) fA e7 e4 ?_ e10 e11 e12⟩, fun c2 => sX_bit g0 (by omega) ⟨by omega, ?_⟩⟩
          · rw [e8, ← bs_up g0]
            refine bs_congr (fun j _ _ => ?_)
            rw [b2i_b0 c2, Bool.and_false, Bool.or_false]
          · rw [e8, bs_or (by omega)]
            refine ih (by omega) _ (by omega) (by omega) (fA.put (by unfold Wst; omega)) ?_ (fun s a b => ?_) ?_ ?_ ?_ ?_
            · rw [up_nk (by decide)]; exact e7
            · rw [up_ne (by decide), up_ne (by decide), up_ne (by decide), up_ne (by decide), up_ne (by decide), up_ne (by decide)]; exact e4 s a b
            · rw [up_eq, ← bs_up g0]
              refine bs_congr (fun j _ _ => ?_)
              rw [b2i_b c2, Bool.and_true]
            · rw [up_nk (by decide)]; exact e10
            · rw [up_nk (by decide)]; exact e11
            · rw [up_nk (by decide)]; exact e12
  have hz : ∀ p : Int → Bool, (0 : Int) = bs (fun j => decide (j < 0) && p j) 40 := by
    intro p
    rw [bs_0]
    intro j a b
    rw [decide_eq_false (by omega), Bool.false_and]
  refine lp1 0 _ (by omega) (by omega) (((((Fr.rf.put (by unfold Wst; omega)).put (by unfold Wst; omega)).put (by unfold Wst; omega)).put (by unfold Wst; omega)).put (by unfold Wst; omega)) ?_ (fun s a b => by omega) ?_ ?_ ?_ up_eq
  · rw [up_nk (by decide), up_nk (by decide), up_nk (by decide), up_nk (by decide), up_eq]
  · rw [up_nk (by decide), up_nk (by decide), up_nk (by decide), up_eq]; exact hz _
  · rw [up_nk (by decide), up_nk (by decide), up_eq]; exact hz _
  · rw [up_nk (by decide), up_eq]; exact hz _
end
