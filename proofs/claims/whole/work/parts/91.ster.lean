/-! the reference: a step, a reader told -/
theorem RKp_adS {μ : jMu} {P : jP} (hB : RKp μ P) (hp : WP P) {s r : Int} (h40 : nS P < 40) (hm : ∀ i, 0 ≤ i → i < pr P r → μ 95 (3 * nS P + i) = P 3 (3 * nS P + i)) (hru : μ 94 (nS P) = r) (hgv : μ 91 (48 + nS P) = s ∧ μ 92 (48 + nS P) = bh P s - s) : RKp (j_up μ 87 4 (nS P + 1)) (adS P s r) := by
  obtain ⟨⟨⟨a1, a2, a3⟩, ac, ad, af⟩, ⟨c1, c2, c3⟩, r1, s1, s2, t1, d1, k1, k2⟩ := hB
  have hn := hp.1.1
  unfold WFn at hn
  have ei : ∀ (i : Nat) x, i ≠ 7 → i ≠ 2 → i ≠ 0 → adS P s r i x = P i x := fun i x a1 a2 a4 => by
    unfold adS; rw [up_ne a4, up_ne a2, up_ne a1]
  have e0 : ∀ x, adS P s r 0 x = if x = 4 then nS P + 1 else P 0 x := fun x => by
    unfold adS; rw [up_if, up_ne (by decide), up_ne (by decide)]
  have e2 : ∀ x, ru (adS P s r) x = if x = nS P then r else ru P x := fun x => by
    show adS P s r 2 x = _
    unfold adS; rw [up_ne (by decide), up_if, up_ne (by decide)]; rfl
  have e7 : ∀ x, tf (adS P s r) x = if x = 48 + nS P then s else tf P x := fun x => by
    show adS P s r 7 x = _
    unfold adS; rw [up_ne (by decide), up_ne (by decide), up_if]; rfl
  have eo : ∀ x, x ≠ 4 → adS P s r 0 x = P 0 x := fun x hx => by rw [e0, if_neg hx]
  have eS : nS (adS P s r) = nS P + 1 := by show adS P s r 0 4 = _; rw [e0, if_pos rfl]
  have eR : nR (adS P s r) = nR P := eo 0 (by decide)
  have eD : nD (adS P s r) = nD P := eo 1 (by decide)
  have eG : nG (adS P s r) = nG P := eo 2 (by decide)
  have eH : nH (adS P s r) = nH P := eo 3 (by decide)
  have eC : nC (adS P s r) = nC P := eo 6 (by decide)
  have ep : ∀ x, pr (adS P s r) x = pr P x := fun x => ei 1 x (by decide) (by decide) (by decide)
  have eb : ∀ x, bh (adS P s r) x = bh P x := fun x => ei 5 x (by decide) (by decide) (by decide)
  have em : ∀ x y, nm (adS P s r) x y = nm P x y := fun x y => ei 3 _ (by decide) (by decide) (by decide)
  have ek : ∀ kd i, nk (adS P s r) kd i = nk P kd i := fun kd i => ei 11 _ (by decide) (by decide) (by decide)
  have m : ∀ (i : Nat) x, i ≠ 87 → (j_up μ 87 4 (nS P + 1)) i x = μ i x := fun i x h2 => up_ne h2
  refine ⟨⟨⟨?_, ?_, ?_⟩, fun g x y => ?_, fun i x y => ?_, fun z x y => ?_⟩, ⟨?_, ?_, up_eq.trans eS.symm⟩, fun r' a c' => ?_, fun x a c' => ?_, fun x y a c' d f => ?_, fun w hw => ?_, fun d a c' => ?_, fun i a c' => ?_, fun i a c' => ?_⟩
  · rw [up_nk (by decide), a1, eG]
  · rw [up_nk (by decide), a2, eH]
  · rw [m 76 23 (by decide), a3, eC]
  · rw [m 88 _ (by decide), m 89 _ (by decide), ek]
    have := ac g x (by omega)
    exact ⟨this.1, this.2.trans (ei 6 g (by decide) (by decide) (by decide)).symm⟩
  · rw [m 88 _ (by decide), ek]; exact ad i x (by omega)
  · rw [m 90 _ (by decide)]
    exact (af z x (by omega)).trans (ei 4 z (by decide) (by decide) (by decide)).symm
  · rw [up_nk (by decide), c1, eR]
  · rw [up_nk (by decide), c2, eD]
  · rw [m 93 _ (by decide), ep]; exact r1 r' a (by omega)
  · rw [m 94 _ (by decide), e2]
    by_cases hx : x = nS P
    · rw [if_pos hx, hx]; exact hru
    · rw [if_neg hx]; exact s1 x a (by omega)
  · have epn : pn (adS P s r) x = if x = nS P then pr P r else pn P x := by
      unfold pn
      rw [e2, ep]
      split
      · rfl
      · rfl
    rw [epn] at f
    rw [m 95 _ (by decide), em]
    by_cases hx : x = nS P
    · rw [if_pos hx] at f
      rw [hx]; exact hm y d f
    · rw [if_neg hx] at f; exact s2 x y a (by omega) d f
  · rw [m 91 _ (by decide), m 92 _ (by decide), e7, eb]
    rcases hw with hw | ⟨r', y, b0, b1, b2, b3, b4⟩
    · by_cases hx : w = 48 + nS P
      · rw [if_pos hx, hx]; exact hgv
      · rw [if_neg hx]; exact t1 w (Or.inl (by omega))
    · rw [ep] at b3
      have := hp.2.2.1 r' b0 (by omega)
      rw [if_neg (by omega)]; exact t1 w (Or.inr ⟨r', y, b0, by omega, b2, b3, b4⟩)
  · rw [m 96 _ (by decide), m 97 _ (by decide), m 98 _ (by decide)]
    have := d1 d a (by omega)
    exact ⟨this.1.trans (ei 8 _ (by decide) (by decide) (by decide)).symm, this.2.1.trans (ei 9 _ (by decide) (by decide) (by decide)).symm, this.2.2.trans (ei 10 _ (by decide) (by decide) (by decide)).symm⟩
  · rw [m 88 _ (by decide), ek]; exact k1 i a (by omega)
  · rw [m 88 _ (by decide), ek]; exact k2 i a (by omega)
