/-! the reference: a reader told -/
theorem RKp_adD {μ : jMu} {P : jP} (hB : RKp μ P) (hp : WP P) {c v a0 b0 : Int} (h6 : nD P < 6) (hnm : μ 88 (24 + nD P) = e27 c) : RKp (j_up (j_up (j_up (j_up μ 96 (nD P) v) 97 (nD P) a0) 98 (nD P) b0) 87 1 (nD P + 1)) (adD P c v a0 b0) := by
  obtain ⟨⟨⟨a1, a2, a3⟩, ac, ad, af⟩, ⟨c1, c2, c3⟩, r1, s1, s2, t1, d1, k1, k2⟩ := hB
  have hn := hp.1.1
  unfold WFn at hn
  have ei : ∀ (i : Nat) x, i ≠ 8 → i ≠ 9 → i ≠ 10 → i ≠ 11 → i ≠ 0 → adD P c v a0 b0 i x = P i x := fun i x a1 a2 a3 a4 a5 => by
    unfold adD; rw [up_ne a5, up_ne a4, up_ne a3, up_ne a2, up_ne a1]
  have e0 : ∀ x, adD P c v a0 b0 0 x = if x = 1 then nD P + 1 else P 0 x := fun x => by
    unfold adD; rw [up_if, up_ne (by decide), up_ne (by decide), up_ne (by decide), up_ne (by decide)]
  have e11 : ∀ x, adD P c v a0 b0 11 x = if x = 24 + nD P then c else P 11 x := fun x => by
    unfold adD; rw [up_ne (by decide), up_if, up_ne (by decide), up_ne (by decide), up_ne (by decide)]
  have e8 : ∀ x, od (adD P c v a0 b0) x = if x = nD P then v else od P x := fun x => by
    show adD P c v a0 b0 8 x = _
    unfold adD; rw [up_ne (by decide), up_ne (by decide), up_ne (by decide), up_ne (by decide), up_if]; rfl
  have e9 : ∀ x, rf (adD P c v a0 b0) x = if x = nD P then a0 else rf P x := fun x => by
    show adD P c v a0 b0 9 x = _
    unfold adD; rw [up_ne (by decide), up_ne (by decide), up_ne (by decide), up_if, up_ne (by decide)]; rfl
  have e10 : ∀ x, rt (adD P c v a0 b0) x = if x = nD P then b0 else rt P x := fun x => by
    show adD P c v a0 b0 10 x = _
    unfold adD; rw [up_ne (by decide), up_ne (by decide), up_if, up_ne (by decide), up_ne (by decide)]; rfl
  have eo : ∀ x, x ≠ 1 → adD P c v a0 b0 0 x = P 0 x := fun x hx => by rw [e0, if_neg hx]
  have eD : nD (adD P c v a0 b0) = nD P + 1 := by show adD P c v a0 b0 0 1 = _; rw [e0, if_pos rfl]
  have eR : nR (adD P c v a0 b0) = nR P := eo 0 (by decide)
  have eG : nG (adD P c v a0 b0) = nG P := eo 2 (by decide)
  have eH : nH (adD P c v a0 b0) = nH P := eo 3 (by decide)
  have eS : nS (adD P c v a0 b0) = nS P := eo 4 (by decide)
  have eC : nC (adD P c v a0 b0) = nC P := eo 6 (by decide)
  have ep : ∀ x, pr (adD P c v a0 b0) x = pr P x := fun x => ei 1 x (by decide) (by decide) (by decide) (by decide) (by decide)
  have er : ∀ x, ru (adD P c v a0 b0) x = ru P x := fun x => ei 2 x (by decide) (by decide) (by decide) (by decide) (by decide)
  have eb : ∀ x, bh (adD P c v a0 b0) x = bh P x := fun x => ei 5 x (by decide) (by decide) (by decide) (by decide) (by decide)
  have et : ∀ x, tf (adD P c v a0 b0) x = tf P x := fun x => ei 7 x (by decide) (by decide) (by decide) (by decide) (by decide)
  have em : ∀ x y, nm (adD P c v a0 b0) x y = nm P x y := fun x y => ei 3 _ (by decide) (by decide) (by decide) (by decide) (by decide)
  have m : ∀ (i : Nat) x, i ≠ 96 → i ≠ 97 → i ≠ 98 → i ≠ 87 → (j_up (j_up (j_up (j_up μ 96 (nD P) v) 97 (nD P) a0) 98 (nD P) b0) 87 1 (nD P + 1)) i x = μ i x := fun i x h1 h2 h3 h4 => by rw [up_ne h4, up_ne h3, up_ne h2, up_ne h1]
  refine ⟨⟨⟨?_, ?_, ?_⟩, fun g x y => ?_, fun i x y => ?_, fun z x y => ?_⟩, ⟨?_, up_eq.trans eD.symm, ?_⟩, fun r' a c' => ?_, fun x a c' => ?_, fun x y a c' d f => ?_, fun w hw => ?_, fun d a c' => ?_, fun i a c' => ?_, fun i a c' => ?_⟩
  · rw [up_nk (by decide), up_ne (by decide), up_ne (by decide), up_ne (by decide), a1, eG]
  · rw [up_nk (by decide), up_ne (by decide), up_ne (by decide), up_ne (by decide), a2, eH]
  · rw [m 76 23 (by decide) (by decide) (by decide) (by decide), a3, eC]
  · rw [m 88 _ (by decide) (by decide) (by decide) (by decide), m 89 _ (by decide) (by decide) (by decide) (by decide)]
    have := ac g x (by omega)
    refine ⟨this.1.trans ?_, this.2.trans (ei 6 g (by decide) (by decide) (by decide) (by decide) (by decide)).symm⟩
    congr 1
    show P 11 (24 * 2 + g) = adD P c v a0 b0 11 (24 * 2 + g)
    rw [e11, if_neg (by omega)]
  · rw [m 88 _ (by decide) (by decide) (by decide) (by decide)]
    refine (ad i x (by omega)).trans ?_
    congr 1
    show P 11 (24 * 3 + i) = adD P c v a0 b0 11 (24 * 3 + i)
    rw [e11, if_neg (by omega)]
  · rw [m 90 _ (by decide) (by decide) (by decide) (by decide)]
    exact (af z x (by omega)).trans (ei 4 z (by decide) (by decide) (by decide) (by decide) (by decide)).symm
  · rw [up_nk (by decide), up_ne (by decide), up_ne (by decide), up_ne (by decide), c1, eR]
  · rw [up_nk (by decide), up_ne (by decide), up_ne (by decide), up_ne (by decide), c3, eS]
  · rw [m 93 _ (by decide) (by decide) (by decide) (by decide), ep]; exact r1 r' a (by omega)
  · rw [m 94 _ (by decide) (by decide) (by decide) (by decide), er]; exact s1 x a (by omega)
  · have : pn (adD P c v a0 b0) x = pn P x := by unfold pn; rw [er, ep]
    rw [m 95 _ (by decide) (by decide) (by decide) (by decide), em]; exact s2 x y a (by omega) d (by omega)
  · rw [m 91 _ (by decide) (by decide) (by decide) (by decide), m 92 _ (by decide) (by decide) (by decide) (by decide), et, eb]
    refine t1 w ?_
    rcases hw with hw | ⟨r', y, b0', b1, b2, b3, b4⟩
    · exact Or.inl (by omega)
    · rw [ep] at b3
      exact Or.inr ⟨r', y, b0', by omega, b2, b3, b4⟩
  · rw [up_ne (by decide), up_ne (by decide), up_ne (by decide), up_if, up_ne (by decide), up_ne (by decide), up_if, up_ne (by decide), up_ne (by decide), up_if, up_ne (by decide), up_ne (by decide), e8, e9, e10]
    by_cases hd : d = nD P
    · rw [if_pos hd, if_pos hd, if_pos hd, if_pos hd, if_pos hd, if_pos hd]; exact ⟨rfl, rfl, rfl⟩
    · rw [if_neg hd, if_neg hd, if_neg hd, if_neg hd, if_neg hd, if_neg hd]; exact d1 d a (by omega)
  · rw [m 88 _ (by decide) (by decide) (by decide) (by decide)]
    show _ = e27 (adD P c v a0 b0 11 (24 * 0 + i))
    rw [e11, if_neg (by omega)]; exact k1 i a (by omega)
  · rw [m 88 _ (by decide) (by decide) (by decide) (by decide)]
    show _ = e27 (adD P c v a0 b0 11 (24 * 1 + i))
    rw [e11]
    by_cases hi : i = nD P
    · rw [if_pos (by omega), hi]; exact hnm
    · rw [if_neg (by omega)]; exact k2 i a (by omega)
