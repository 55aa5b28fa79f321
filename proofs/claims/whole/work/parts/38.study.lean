/-! the class studies a proof -/
section
variable {E : jE} {μ : jMu} {P : jP} {b : Nat}
theorem b2i_b {b : Bool} (h : ¬ b2i b = 0) : b = true := by
  cases b
  · exact absurd rfl h
  · rfl
theorem b2i_b0 {b : Bool} (h : b2i b = 0) : b = false := by
  cases b
  · rfl
  · cases h
theorem b2i_b1 {b : Bool} (h : ¬ b2i b = 1) : b = false := by
  cases b
  · rfl
  · exact absurd rfl h
theorem sFa_isRight {Q : Int → jMu → Prop} (h : CB b μ P) (hf : μ 45 7 = ((b : Nat) : Int)) {s : Int} (h0 : 0 ≤ s) (h1 : s < nS P) (k : ∀ μ1, Fr (W7 b) μ μ1 → Q (b2i (rg P s)) μ1) : Ci E mFa_isRight [jvR 45, jvI s] μ Q := by
  have hn := h.n
  have hs := h.w.s s h0 h1
  have hp := h.w.p h0 h1
  have h45 : ∀ μ0, Fr (W7 b) μ μ0 → μ0 45 7 = ((b : Nat) : Int) := fun μ0 g => by
    rw [g 45 7 (by unfold W7; rcases h.1 with hb | hb <;> omega)]; exact hf
  refine vFa_isRight_0 h.1 ⟨⟨hf, by omega, hf⟩, sTe_freeHoles h.1 (fun μ1 f1 l1 => ?_)⟩
  rw [h.e12 h0 h1]
  have lp : ∀ l3 : Int, ∀ (μ0 : jMu) (θ : Int → Int), 0 ≤ l3 → l3 ≤ pn P s → Fr (W7 b) μ μ0 → CT b μ0 θ → okθ P θ → mp P s l3.toNat = some θ → K 121 E mFa_isRight 22 [some (jvR 45), some (jvI s), some (jvI (ru P s)), some (jvI l3), none] [] μ0 (fun v μ1 => ∃ r, v = some (jvI r) ∧ Q r μ1) := by
    refine up_ind (pn P s) _ ?_
    intro l3 ih μ0 θ g0 g1 g2 g3 g4 g5
    have hR := h.fr7 g2
    have e45 := h45 μ0 g2
    refine vFa_isRight_22 h.1 ⟨⟨e45, by omega⟩, ?_⟩
    rw [hR.e9 hs.1 hs.2]
    refine ⟨fun c => ⟨⟨e45, e45, by omega, e45, by omega⟩, ?_⟩, fun c => ⟨e45, ?_⟩⟩
    · have c : pn P s ≤ l3 := c
      have hw : inW P (4 * ru P s + 3) := inW_g hs.1 hs.2
      have ht := h.w.t hw
      have ht2 := h.w.t (inW_s h0 h1)
      have e3 : l3 = pn P s := by omega
      rw [hR.e11 hs.1 hs.2, hR.e13 h0 h1]
      refine sTe_fits hR g3 g4 ht.1 ht.2.1 ht2.1 ht2.2.1 (fun θ1 μ2 m1 m2 _ _ => ⟨by omega, _, rfl, ?_⟩) (fun μ2 m1 m2 => ⟨by omega, _, rfl, ?_⟩)
      · have : rg P s = true := by
          unfold rg
          rw [← e3, g5]
          simp [m1]
        rw [this] at k
        exact k μ2 (g2.tr m2)
      · have : rg P s = false := by
          unfold rg
          rw [← e3, g5]
          simp [m1]
        rw [this] at k
        exact k μ2 (g2.tr m2)
    · have c : ¬ pn P s ≤ l3 := c
      have c' : l3 < pr P (ru P s) := by unfold pn at c; omega
      have hw : inW P (4 * ru P s + l3) := inW_p hs.1 hs.2 g0 c'
      have hm := h.w.m s l3 h0 h1 g0 (by omega)
      have ht := h.w.t hw
      have hw2 : inW P (48 + nm P s l3) := inW_s hm.1 (by omega)
      have ht2 := h.w.t hw2
      have hnt : ((l3.toNat : Nat) : Int) = l3 := by omega
      have hmp : mp P s (l3 + 1).toNat = mt P (ln P (tf P (4 * ru P s + l3))) θ (tf P (4 * ru P s + l3)) (tf P (48 + nm P s l3)) := by
        rw [show (l3 + 1).toNat = l3.toNat + 1 by omega]
        show (mp P s l3.toNat).bind _ = _
        rw [g5, hnt]
        rfl
      refine sBk_named hR h0 h1 g0 (by omega) ⟨⟨e45, e45, by omega, by omega, by omega, e45, by omega⟩, ?_⟩
      rw [hR.e10 hs.1 hs.2 g0 c', hR.e13 hm.1 (by omega)]
      refine sTe_fits hR g3 g4 ht.1 ht.2.1 ht2.1 ht2.2.1 (fun θ1 μ2 m1 m2 m3 m4 => ⟨fun _ => ⟨by omega, ih (by omega) μ2 θ1 (by omega) (by omega) (g2.tr m2) m3 m4 (by rw [hmp, m1])⟩, fun c => absurd c (by decide)⟩) (fun μ2 m1 m2 => ⟨fun c => absurd rfl c, fun _ => ⟨_, rfl, ?_⟩⟩)
      have : rg P s = false := by
        unfold rg
        rw [mp_none (pn P s).toNat (l3 + 1).toNat (by rw [hmp, m1]) (by omega)]
        rfl
      rw [this] at k
      exact k μ2 (g2.tr m2)
  exact lp 0 μ1 _ (by omega) (by omega) f1 l1 okθ0 rfl
def Wcm (b : Nat) (w : Int) (i : Nat) (k : Int) : Prop := i = b + 7 ∨ (i = 46 ∧ k = w) ∨ (i = 47 ∧ k = w) ∨ i = 48 ∨ (i = 45 ∧ (k = 10 ∨ k = 11))
theorem Wcm.nb {b : Nat} {w : Int} (hb : isB b) : ∀ i k, Wcm b w i k → NB i k := by
  intro i k h
  unfold Wcm at h
  unfold NB
  rcases hb with rfl | rfl <;> omega
theorem W7.cm {b : Nat} {w : Int} : ∀ i k, W7 b i k → Wcm b w i k := fun i k h => Or.inl h
theorem sFa_compare {Q0 : jMu → Prop} (h : CB b μ P) (hf : μ 45 7 = ((b : Nat) : Int)) {w : Int} (h0 : 0 ≤ w) (h1 : w < nS P) {p10 p11 : Int → Bool} (e10 : μ 45 10 = bs p10 40) (e11 : μ 45 11 = bs p11 40) (e48 : ∀ e, 0 ≤ e → e < w → 0 ≤ μ 48 e ∧ μ 48 e ≤ 100)
    (k : ∀ μ1, Fr (Wcm b w) μ μ1 → μ1 46 w = fs P w → μ1 47 w = cb P w → μ1 48 w = 0 → (∀ e, 0 ≤ e → e < w → μ1 48 e = μ 48 e + b2i (cv P e w)) → μ1 45 10 = bs (fun j => p10 j || (j == w && tw P w)) 40 → μ1 45 11 = bs (fun j => p11 j || (j == w && cvd P w)) 40 → Q0 μ1) : Cv E mFa_compare [jvR 45, jvI w] μ Q0 := by
  have hn := h.n
  have hb7 : b + 7 ≠ 45 ∧ b + 7 ≠ 46 ∧ b + 7 ≠ 47 ∧ b + 7 ≠ 48 := by rcases h.1 with hb | hb <;> omega
  have h45 : ∀ μ0, Fr (Wcm b w) μ μ0 → μ0 45 7 = ((b : Nat) : Int) := fun μ0 g => by
    rw [g 45 7 (by unfold Wcm; omega)]; exact hf
  have tw0 := h.w.t (inW_s h0 h1)
  refine vFa_compare_0 h.1 ⟨⟨hf, hf, by omega, by omega, by omega, by omega, by omega⟩, ?_⟩
  rw [h.e13 h0 h1]
  have lp : ∀ (l4 : Int) (μ0 : jMu) (v1 v2 : Int), -1 ≤ l4 → l4 < w → Fr (Wcm b w) μ μ0 → μ0 46 w = v1 → (l4 < v1 ∧ v1 ≤ w ∧ sm P (tf P (48 + v1)) (tf P (48 + w)) = true ∧ ∀ j, l4 < j → j < v1 → sm P (tf P (48 + j)) (tf P (48 + w)) = false) → μ0 47 w = v2 → ((v2 = -1 ∧ ∀ j, l4 < j → j < w → cv P j w = false) ∨ (l4 < v2 ∧ v2 < w ∧ cv P v2 w = true ∧ ∀ j, l4 < j → j < v2 → cv P j w = false)) → μ0 48 w = 0 → (∀ e, 0 ≤ e → e < w → μ0 48 e = μ 48 e + (if l4 < e then b2i (cv P e w) else 0)) → μ0 45 10 = bs (fun j => p10 j || (j == w && decide (v1 < w))) 40 → μ0 45 11 = bs (fun j => p11 j || (j == w && decide (v2 ≠ -1))) 40 → K 121 E mFa_compare 44 [some (jvR 45), some (jvI w), some (jvR ((b + 1 : Nat) : Int)), some (jvI (tf P (48 + w))), some (jvI l4)] [] μ0 (fun v μ1 => v = none ∧ Q0 μ1) := by
    refine down_ind _ ?_
    intro l4 ih μ0 v1 v2 g0 g1 g2 g3 g4 g5 g6 g7 g8 g9 g10
    refine vFa_compare_44 h.1 ⟨fun c => ⟨rfl, ?_⟩, fun c => ?_⟩
    · have hl : l4 = -1 := by omega
      subst hl
      have e1 : fs P w = v1 := fs_eq (by omega) g4.2.1 g4.2.2.1 (fun j a b => g4.2.2.2 j (by omega) b)
      have e2 : cb P w = v2 := by
        rcases g6 with ⟨q1, q2⟩ | ⟨q1, q2, q3, q4⟩
        · rw [q1]
          exact ff_none (fun j a b => q2 j (by omega) b)
        · exact ff_eq (by omega) q2 q3 (fun j a b => q4 j (by omega) b)
      refine k μ0 g2 (by rw [e1]; exact g3) (by rw [e2]; exact g5) g7 (fun e a b => ?_) ?_ ?_
      · have := g8 e a b
        rw [if_pos (by omega)] at this
        exact this
      · rw [g9]; unfold tw; rw [e1]
      · rw [g10]; unfold cvd; rw [e2]
    · have hR := h.fr (g2.mono (Wcm.nb h.1))
      have t2 := h.w.t (inW_s (P := P) (s := l4) (by omega) (by omega))
      refine ⟨⟨h45 μ0 g2, by omega⟩, ?_⟩
      rw [hR.e13 (by omega) (by omega)]
      -- the second half, the same for both branches
      have tail : ∀ (μ4 : jMu) (v : Int), Fr (Wcm b w) μ μ4 → μ4 46 w = v → (l4 - 1 < v ∧ v ≤ w ∧ sm P (tf P (48 + v)) (tf P (48 + w)) = true ∧ ∀ j, l4 - 1 < j → j < v → sm P (tf P (48 + j)) (tf P (48 + w)) = false) → μ4 47 w = v2 → μ4 48 w = 0 → (∀ e, 0 ≤ e → e < w → μ4 48 e = μ 48 e + (if l4 < e then b2i (cv P e w) else 0)) → μ4 45 10 = bs (fun j => p10 j || (j == w && decide (v < w))) 40 → μ4 45 11 = bs (fun j => p11 j || (j == w && decide (v2 ≠ -1))) 40 →
          Cv E mTe_freeHoles [jvR ((b + 1 : Nat) : Int)] μ4 (fun μ10 => ((μ10 45 7) = ((b : Nat) : Int) ∧ (0 ≤ l4 ∧ l4 < 40)) ∧ (Ci E mTe_fits [jvR ((b + 1 : Nat) : Int), jvI (μ10 (b + 13) l4), jvI (tf P (48 + w))] μ10 (fun r16 μ13 => ((r16 = 0 → (-2147483648 ≤ (l4 - 1) ∧ (l4 - 1) < 2147483648) ∧ (K 121 E mFa_compare 44 [some (jvR 45), some (jvI w), some (jvR ((b + 1 : Nat) : Int)), some (jvI (tf P (48 + w))), some (jvI (l4 - 1))] [] μ13 (fun v μ1 => v = none ∧ Q0 μ1))) ∧ (¬ (r16 = 0) → ((0 ≤ w ∧ w < 40) ∧ (0 ≤ l4 ∧ l4 < 40) ∧ (-2147483648 ≤ ((μ13 48 l4) + 1) ∧ ((μ13 48 l4) + 1) < 2147483648) ∧ (0 ≤ l4 ∧ l4 < 40)) ∧ (Cl E mX_bit [jvI w] (j_up (j_up μ13 47 w l4) 48 l4 ((μ13 48 l4) + 1)) (fun r22 μ19 => (-2147483648 ≤ (l4 - 1) ∧ (l4 - 1) < 2147483648) ∧ (K 121 E mFa_compare 44 [some (jvR 45), some (jvI w), some (jvR ((b + 1 : Nat) : Int)), some (jvI (tf P (48 + w))), some (jvI (l4 - 1))] [] (j_up μ19 45 11 (ior64 (μ13 45 11) r22)) (fun v μ1 => v = none ∧ Q0 μ1)))))))))  := by
        intro μ4 v q1 q2 q3 q4 q5 q6 q7 q8
        refine sTe_freeHoles h.1 (fun μ5 f1 f2 => ?_)
        have q15 := q1.tr (f1.mono (W7.cm (w := w)))
        have hR5 := h.fr (q15.mono (Wcm.nb h.1))
        refine ⟨⟨h45 _ q15, by omega⟩, ?_⟩
        rw [hR5.e13 (by omega) (by omega)]
        have rd : ∀ μ6, Fr (W7 b) μ5 μ6 → ∀ (i : Nat) (k : Int), i ≠ b + 7 → μ6 i k = μ4 i k := fun μ6 f3 i k hi => (f3 i k hi).trans (f1 i k hi)
        have ed := e48 l4 (by omega) (by omega)
        refine sTe_fits hR5 f2 okθ0 t2.1 t2.2.1 tw0.1 tw0.2.1 (fun θ1 μ6 m1 m2 m3 m4 => ⟨fun c => absurd c (by decide), fun _ => ?_⟩) (fun μ6 m1 m2 => ⟨fun _ => ⟨by omega, ?_⟩, fun c => absurd rfl c⟩)
        · have hcv : cv P l4 w = true := by unfold cv; rw [m1]; rfl
          have q16 := q15.tr (m2.mono (W7.cm (w := w)))
          have e6 := q6 l4 (by omega) (by omega)
          rw [if_neg (by omega)] at e6
          have er := rd μ6 m2
          rw [er 48 l4 (by omega), er 45 11 (by omega), e6, q8]
          refine ⟨by omega, sX_bit h0 (by omega) ⟨by omega, ?_⟩⟩
          rw [bs_or (by omega)]
          refine ih (by omega) _ v l4 (by omega) (by omega) (((q16.put (Or.inr (Or.inr (Or.inl ⟨rfl, rfl⟩)))).put (Or.inr (Or.inr (Or.inr (Or.inl rfl))))).put (Or.inr (Or.inr (Or.inr (Or.inr ⟨rfl, Or.inr rfl⟩))))) ?_ q3 ?_ (Or.inr ⟨by omega, by omega, hcv, fun j a b => by omega⟩) ?_ (fun e a b => ?_) ?_ ?_
          · rw [up_ne (by decide), up_ne (by decide), up_ne (by decide), er 46 w (by omega)]; exact q2
          · rw [up_ne (by decide), up_ne (by decide), up_eq]
          · rw [up_ne (by decide), up_nk (by omega), up_ne (by decide), er 48 w (by omega)]; exact q5
          · rw [up_ne (by decide), up_if]
            by_cases he : e = l4
            · subst he
              rw [if_pos rfl, if_pos (by omega), hcv, b2i_t]
              omega
            · rw [if_neg he, up_ne (by decide), er 48 e (by omega), q6 e a b]
              by_cases hl : l4 < e
              · rw [if_pos hl, if_pos (by omega)]
              · rw [if_neg hl, if_neg (by omega)]
          · rw [up_nk (by decide), up_ne (by decide), up_ne (by decide), er 45 10 (by omega)]; exact q7
          · rw [up_eq]
            refine bs_congr (fun j _ _ => ?_)
            rw [decide_eq_true (show l4 ≠ -1 by omega)]
            cases p11 j <;> cases j == w <;> cases decide (v2 ≠ -1) <;> rfl
        · have hcv : cv P l4 w = false := by unfold cv; rw [m1]; rfl
          have q16 := q15.tr (m2.mono (W7.cm (w := w)))
          have er := rd μ6 m2
          refine ih (by omega) _ v v2 (by omega) (by omega) q16 (by rw [er 46 w (by omega)]; exact q2) q3 (by rw [er 47 w (by omega)]; exact q4) ?_ (by rw [er 48 w (by omega)]; exact q5) (fun e a b => ?_) (by rw [er 45 10 (by omega)]; exact q7) (by rw [er 45 11 (by omega)]; exact q8)
          · rcases g6 with ⟨z1, z2⟩ | ⟨z1, z2, z3, z4⟩
            · refine Or.inl ⟨z1, fun j a b => ?_⟩
              by_cases hj : j = l4
              · subst hj; exact hcv
              · exact z2 j (by omega) b
            · refine Or.inr ⟨by omega, z2, z3, fun j a b => ?_⟩
              by_cases hj : j = l4
              · subst hj; exact hcv
              · exact z4 j (by omega) b
          · rw [er 48 e (by omega), q6 e a b]
            by_cases he : e = l4
            · subst he
              rw [if_neg (by omega), if_pos (by omega), hcv, b2i_f]
            · by_cases hl : l4 < e
              · rw [if_pos hl, if_pos (by omega)]
              · rw [if_neg hl, if_neg (by omega)]
      refine sTe_areSame hR t2.1 t2.2.1 tw0.1 tw0.2.1 (fun hs => ⟨fun c => absurd c (by decide), fun _ => ⟨by omega, ?_⟩⟩) (fun hs => ⟨fun _ => ?_, fun c => absurd rfl c⟩)
      · refine sX_bit h0 (by omega) ?_
        rw [g9, bs_or (by omega)]
        refine tail _ l4 ((g2.put (Or.inr (Or.inl ⟨rfl, rfl⟩))).put (Or.inr (Or.inr (Or.inr (Or.inr ⟨rfl, Or.inl rfl⟩))))) ?_ ⟨by omega, by omega, hs, fun j a b => by omega⟩ ?_ ?_ (fun e a b => ?_) ?_ ?_
        · rw [up_ne (by decide), up_eq]
        · rw [up_ne (by decide), up_ne (by decide)]; exact g5
        · rw [up_ne (by decide), up_ne (by decide)]; exact g7
        · rw [up_ne (by decide), up_ne (by decide)]; exact g8 e a b
        · rw [up_eq]
          refine bs_congr (fun j _ _ => ?_)
          rw [decide_eq_true (show l4 < w by omega)]
          cases p10 j <;> cases j == w <;> cases decide (v1 < w) <;> rfl
        · rw [up_nk (by decide), up_ne (by decide)]; exact g10
      · refine tail μ0 v1 g2 g3 ⟨by omega, g4.2.1, g4.2.2.1, fun j a b => ?_⟩ g5 g7 g8 g9 g10
        by_cases hj : j = l4
        · subst hj; exact hs
        · exact g4.2.2.2 j (by omega) b
  refine lp (w - 1) _ w (-1) (by omega) (by omega) (((Fr.rf.put (Or.inr (Or.inl ⟨rfl, rfl⟩))).put (Or.inr (Or.inr (Or.inl ⟨rfl, rfl⟩)))).put (Or.inr (Or.inr (Or.inr (Or.inl rfl))))) ?_ ⟨by omega, by omega, sm_refl P _, fun j a b => by omega⟩ ?_ (Or.inl ⟨rfl, fun j a b => by omega⟩) up_eq (fun e a b => ?_) ?_ ?_
  · rw [up_ne (by decide), up_ne (by decide), up_eq]
  · rw [up_ne (by decide), up_eq]
  · rw [up_nk (by omega), up_ne (by decide), up_ne (by decide), if_neg (by omega)]
    omega
  · rw [up_ne (by decide), up_ne (by decide), up_ne (by decide), e10]
    refine bs_congr (fun j _ _ => ?_)
    rw [decide_eq_false (show ¬ w < w by omega), Bool.and_false, Bool.or_false]
  · rw [up_ne (by decide), up_ne (by decide), up_ne (by decide), e11]
    refine bs_congr (fun j _ _ => ?_)
    rw [decide_eq_false (show ¬ (-1 : Int) ≠ -1 by omega), Bool.and_false, Bool.or_false]
end
