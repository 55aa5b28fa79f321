/-! the reference: a rule is told -/
theorem RKp_adR {μ : jMu} {P : jP} (hB : RKp μ P) (hp : WP P) {c k s : Int} (h12 : nR P < 12) (hk : k ≤ 3) (hpre : ∀ i, 0 ≤ i → i < k → μ 91 (4 * nR P + i) = tf P (4 * nR P + i) ∧ μ 92 (4 * nR P + i) = bh P (tf P (4 * nR P + i)) - tf P (4 * nR P + i)) (hgv : μ 91 (4 * nR P + 3) = s ∧ μ 92 (4 * nR P + 3) = bh P s - s) (hnm : μ 88 (nR P) = e27 c) : RKp (j_up (j_up μ 93 (nR P) k) 87 0 (nR P + 1)) (adR P c k s) := by
  obtain ⟨⟨⟨a1, a2, a3⟩, ac, ad, af⟩, ⟨c1, c2, c3⟩, r1, s1, s2, t1, d1, k1, k2⟩ := hB
  have hn := hp.1.1
  unfold WFn at hn
  have ei : ∀ (i : Nat) x, i ≠ 7 → i ≠ 1 → i ≠ 11 → i ≠ 0 → adR P c k s i x = P i x := fun i x a1 a2 a3 a4 => by
    unfold adR; rw [up_ne a4, up_ne a3, up_ne a2, up_ne a1]
  have e0 : ∀ x, adR P c k s 0 x = if x = 0 then nR P + 1 else P 0 x := fun x => by
    unfold adR; rw [up_if, up_ne (by decide), up_ne (by decide), up_ne (by decide)]
  have e11 : ∀ x, adR P c k s 11 x = if x = nR P then c else P 11 x := fun x => by
    unfold adR; rw [up_ne (by decide), up_if, up_ne (by decide), up_ne (by decide)]
  have e1 : ∀ x, pr (adR P c k s) x = if x = nR P then k else pr P x := fun x => by
    show adR P c k s 1 x = _
    unfold adR; rw [up_ne (by decide), up_ne (by decide), up_if, up_ne (by decide)]; rfl
  have e7 : ∀ x, tf (adR P c k s) x = if x = 4 * nR P + 3 then s else tf P x := fun x => by
    show adR P c k s 7 x = _
    unfold adR; rw [up_ne (by decide), up_ne (by decide), up_ne (by decide), up_if]; rfl
  have eo : ∀ x, x ≠ 0 → adR P c k s 0 x = P 0 x := fun x hx => by rw [e0, if_neg hx]
  have eR : nR (adR P c k s) = nR P + 1 := by show adR P c k s 0 0 = _; rw [e0, if_pos rfl]
  have eD : nD (adR P c k s) = nD P := eo 1 (by decide)
  have eG : nG (adR P c k s) = nG P := eo 2 (by decide)
  have eH : nH (adR P c k s) = nH P := eo 3 (by decide)
  have eS : nS (adR P c k s) = nS P := eo 4 (by decide)
  have eC : nC (adR P c k s) = nC P := eo 6 (by decide)
  have er : ∀ x, ru (adR P c k s) x = ru P x := fun x => ei 2 x (by decide) (by decide) (by decide) (by decide)
  have eb : ∀ x, bh (adR P c k s) x = bh P x := fun x => ei 5 x (by decide) (by decide) (by decide) (by decide)
  have m : ∀ (i : Nat) x, i ≠ 93 → i ≠ 87 → (j_up (j_up μ 93 (nR P) k) 87 0 (nR P + 1)) i x = μ i x := fun i x h1 h2 => by rw [up_ne h2, up_ne h1]
  refine ⟨⟨⟨?_, ?_, ?_⟩, fun g x y => ?_, fun i x y => ?_, fun z x y => ?_⟩, ⟨up_eq.trans eR.symm, ?_, ?_⟩, fun r a c' => ?_, fun x a c' => ?_, fun x y a c' d f => ?_, fun w hw => ?_, fun d a c' => ?_, fun i a c' => ?_, fun i a c' => ?_⟩
  · rw [up_nk (by decide), up_ne (by decide), a1, eG]
  · rw [up_nk (by decide), up_ne (by decide), a2, eH]
  · rw [m 76 23 (by decide) (by decide), a3, eC]
  · rw [m 88 _ (by decide) (by decide), m 89 _ (by decide) (by decide)]
    have := ac g x (by omega)
    refine ⟨this.1.trans ?_, this.2.trans (ei 6 g (by decide) (by decide) (by decide) (by decide)).symm⟩
    congr 1
    show P 11 (24 * 2 + g) = adR P c k s 11 (24 * 2 + g)
    rw [e11, if_neg (by omega)]
  · rw [m 88 _ (by decide) (by decide)]
    refine (ad i x (by omega)).trans ?_
    congr 1
    show P 11 (24 * 3 + i) = adR P c k s 11 (24 * 3 + i)
    rw [e11, if_neg (by omega)]
  · rw [m 90 _ (by decide) (by decide)]
    exact (af z x (by omega)).trans (ei 4 z (by decide) (by decide) (by decide) (by decide)).symm
  · rw [up_nk (by decide), up_ne (by decide), c2, eD]
  · rw [up_nk (by decide), up_ne (by decide), c3, eS]
  · rw [up_ne (by decide), up_if, e1]
    by_cases hr : r = nR P
    · rw [if_pos hr, if_pos hr]
    · rw [if_neg hr, if_neg hr]; exact r1 r a (by omega)
  · rw [m 94 _ (by decide) (by decide), er]; exact s1 x a (by omega)
  · have hru := hp.2.2.2.1 x a (by omega)
    have epn : pn (adR P c k s) x = pn P x := by unfold pn; rw [er, e1, if_neg (by omega)]
    rw [m 95 _ (by decide) (by decide)]
    exact (s2 x y a (by omega) d (by omega)).trans (ei 3 _ (by decide) (by decide) (by decide) (by decide)).symm
  · rw [m 91 _ (by decide) (by decide), m 92 _ (by decide) (by decide), e7, eb]
    rcases hw with hw | ⟨r, y, b0, b1, b2, b3, b4⟩
    · rw [if_neg (by omega)]; exact t1 w (Or.inl (by omega))
    · rw [e1] at b3
      by_cases hr : r = nR P
      · rw [if_pos hr] at b3
        by_cases hy : y = 3
        · rw [if_pos (by omega), b4, hr, hy]; exact hgv
        · rw [if_neg (by omega), b4, hr]; exact hpre y b2 (by omega)
      · rw [if_neg hr] at b3
        have := hp.2.2.1 r b0 (by omega)
        rw [if_neg (by omega)]; exact t1 w (Or.inr ⟨r, y, b0, by omega, b2, b3, b4⟩)
  · rw [m 96 _ (by decide) (by decide), m 97 _ (by decide) (by decide), m 98 _ (by decide) (by decide)]
    have := d1 d a (by omega)
    exact ⟨this.1.trans (ei 8 _ (by decide) (by decide) (by decide) (by decide)).symm, this.2.1.trans (ei 9 _ (by decide) (by decide) (by decide) (by decide)).symm, this.2.2.trans (ei 10 _ (by decide) (by decide) (by decide) (by decide)).symm⟩
  · rw [m 88 _ (by decide) (by decide)]
    show _ = e27 (adR P c k s 11 (24 * 0 + i))
    rw [e11]
    by_cases hi : i = nR P
    · rw [if_pos (by omega), hi]; exact hnm
    · rw [if_neg (by omega)]; exact k1 i a (by omega)
  · rw [m 88 _ (by decide) (by decide)]
    show _ = e27 (adR P c k s 11 (24 * 1 + i))
    rw [e11, if_neg (by omega)]; exact k2 i a (by omega)
