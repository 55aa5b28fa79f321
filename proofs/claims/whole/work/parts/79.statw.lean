/-! statements: each keeps the proof in the making whole -/
theorem okT_gt {P P' : jP} (hg : GT P P') {w : Int} (h : okT P w) : okT P' w := by
  obtain ⟨y1, y2, y3⟩ := h
  have et : tf P' w = tf P w := hg.1 7 w (by decide) (by decide) (by decide) (by decide) (by decide)
  unfold okT
  rw [et, (hg.2.2.2.1 _ y2).2]
  have := hg.2.2.1
  exact ⟨y1, by omega, y3⟩
theorem not_inW_r {P : jP} (h : WP P) (h12 : nR P < 12) {j : Int} (h0 : 0 ≤ j) (h3 : j ≤ 3) : ¬ inW P (4 * nR P + j) := by
  have hn := h.1.1
  unfold WFn at hn
  rintro (hw | ⟨r, k, a0, a1, a2, a3, a4⟩)
  · omega
  · have := h.2.2.1 r a0 a1
    omega
theorem not_inW_s {P : jP} (h : WP P) : ¬ inW P (48 + nS P) := by
  have hn := h.1.1
  unfold WFn at hn
  rintro (hw | ⟨r, k, a0, a1, a2, a3, a4⟩)
  · omega
  · have := h.2.2.1 r a0 a1
    omega
theorem aNew_ok {n : Int} {t : Int → Int} {h e c h' e' : Int} {P : jP} (hh : Hd n t h e) (ha : aNew n t h e P = .ok (c, h', e')) : Hd n t h' e' ∧ okN c ∧ aName n t h e = .ok (c, h', e') ∧ fnd P 0 c = -1 ∧ fnd P 1 c = -1 := by
  unfold aNew at ha
  split at ha
  · cases ha
  · rename_i c1 h1 e1 hn
    split at ha
    · cases ha
    · rename_i hx
      cases ha
      have := aName_ok hh hn
      exact ⟨this.1, this.2.2.1, hn, by omega, by omega⟩
theorem aPrem_ok {n : Int} {t : Int → Int} : ∀ (f : Nat) (j h e : Int) (P : jP) (k h' e' : Int) (P' : jP), Hd n t h e → WP P → nR P < 12 → 0 ≤ j → j + f = 3 → (∀ i, 0 ≤ i → i < j → okT P (4 * nR P + i)) → aPrem n t f j h e P = .ok (k, h', e', P') → Hd n t h' e' ∧ WP P' ∧ nR P' = nR P ∧ (j ≤ k ∧ k ≤ 3) ∧ (∀ i, 0 ≤ i → i < k → okT P' (4 * nR P + i))
  | 0, j, h, e, P, k, h', e', P', hh, hp, h12, h0, hj, ht, ha => by
    cases ha
    exact ⟨hh, hp, rfl, by omega, ht⟩
  | f + 1, j, h, e, P, k, h', e', P', hh, hp, h12, h0, hj, ht, ha => by
    unfold aPrem at ha
    split at ha
    · cases ha
    · rename_i h1 e1 P1 hT
      obtain ⟨a1, a2, a3, a4⟩ := aT_WP hh hp hT
      have eR : nR P1 = nR P := a3.2.1 0 (by decide) (by decide) (by decide)
      have hnC := hp.1.1.2.2.2.2.2
      have hni := not_inW_r a2 (by omega) (j := j) h0 (by omega)
      rw [eR] at hni
      obtain ⟨b1, b2, b3⟩ := WP_t7 a2 (x := nC P) hni
      have ht2 : ∀ i, 0 ≤ i → i < j + 1 → okT (j_up P1 7 (4 * nR P + j) (nC P)) (4 * nR P + i) := by
        intro i i0 i1
        have etf : ∀ w, tf (j_up P1 7 (4 * nR P + j) (nC P)) w = if w = 4 * nR P + j then nC P else tf P1 w := fun w => up_if
        have ebh : ∀ x, bh (j_up P1 7 (4 * nR P + j) (nC P)) x = bh P1 x := fun x => up_ne (by decide)
        unfold okT
        rw [etf, b3]
        by_cases hi : i = j
        · rw [if_pos (by omega), ebh]; omega
        · rw [if_neg (by omega), ebh]
          exact okT_gt a3 (ht i i0 (by omega))
      split at ha
      · rename_i hc
        have hm := of_decide_eq_true hc.2
        have g1 := a1.1
        have r := aPrem_ok f (j + 1) _ _ _ k h' e' P' (sk_hd (by omega) (by omega) (by omega) (by omega)).1 b1 (by omega) (by omega) (by omega) (by rw [b2, eR]; exact ht2) ha
        rw [b2, eR] at r
        exact ⟨r.1, r.2.1, r.2.2.1, by omega, r.2.2.2.2⟩
      · cases ha
        exact ⟨a1, b1, by rw [b2, eR], by omega, ht2⟩
theorem adR_ok {P : jP} (h : WP P) {c k s : Int} (h12 : nR P < 12) (hk : 0 ≤ k ∧ k ≤ 3) (ht : ∀ i, 0 ≤ i → i < k → okT P (4 * nR P + i)) (hs : 0 ≤ s ∧ s < nC P ∧ bh P s - s ≤ 24) (hc : okN c) : WP (adR P c k s) := by
  obtain ⟨wb, wc_, wr, ws, wm, wt, wd, wg⟩ := h
  have hn := wb.1
  unfold WFn at hn
  have ei : ∀ (i : Nat) x, i ≠ 7 → i ≠ 1 → i ≠ 11 → i ≠ 0 → adR P c k s i x = P i x := fun i x a1 a2 a3 a4 => by
    unfold adR; rw [up_ne a4, up_ne a3, up_ne a2, up_ne a1]
  have e0 : ∀ x, adR P c k s 0 x = if x = 0 then nR P + 1 else P 0 x := fun x => by
    unfold adR; rw [up_if, up_ne (by decide), up_ne (by decide), up_ne (by decide)]
  have e11 : ∀ x, adR P c k s 11 x = if x = nR P then c else P 11 x := fun x => by
    unfold adR; rw [up_ne (by decide), up_if, up_ne (by decide), up_ne (by decide)]
  have e1 : ∀ x, pr (adR P c k s) x = if x = nR P then k else pr P x := fun x => by
    show adR P c k s 1 x = _
    unfold adR; rw [up_ne (by decide), up_ne (by decide), up_if, up_ne (by decide)]; rfl
  have e7 : ∀ x, tf (adR P c k s) x = if x = 4 * nR P + 3 then s else tf P x := fun x => by
    show adR P c k s 7 x = _
    unfold adR; rw [up_ne (by decide), up_ne (by decide), up_ne (by decide), up_if]; rfl
  have eR : nR (adR P c k s) = nR P + 1 := by show adR P c k s 0 0 = _; rw [e0, if_pos rfl]
  have eo : ∀ x, x ≠ 0 → adR P c k s 0 x = P 0 x := fun x hx => by rw [e0, if_neg hx]
  have eD : nD (adR P c k s) = nD P := eo 1 (by decide)
  have eG : nG (adR P c k s) = nG P := eo 2 (by decide)
  have eH : nH (adR P c k s) = nH P := eo 3 (by decide)
  have eS : nS (adR P c k s) = nS P := eo 4 (by decide)
  have eg : gl (adR P c k s) = gl P := eo 5 (by decide)
  have eC : nC (adR P c k s) = nC P := eo 6 (by decide)
  have er : ∀ x, ru (adR P c k s) x = ru P x := fun x => ei 2 x (by decide) (by decide) (by decide) (by decide)
  have eb : ∀ x, bh (adR P c k s) x = bh P x := fun x => ei 5 x (by decide) (by decide) (by decide) (by decide)
  refine ⟨WB_out wb ?_ (fun kd i a b c' d => ?_) eG (fun g => ei 6 g (by decide) (by decide) (by decide) (by decide)), AllC_out wc_ eC eG eH (fun g => ei 6 g (by decide) (by decide) (by decide) (by decide)) (fun g => ei 4 g (by decide) (by decide) (by decide) (by decide)) eb, fun r a b => ?_, fun x a b => ?_, fun x y a b a' b' => ?_, fun w hw => ?_, fun d a b => ?_, by omega⟩
  · unfold WFn; omega
  · show okN (adR P c k s 11 (24 * kd + i))
    rw [e11]
    by_cases hx : 24 * kd + i = nR P
    · rw [if_pos hx]; exact hc
    · rw [if_neg hx]
      refine wb.2.1 kd i a b c' ?_
      have : nN (adR P c k s) kd = if kd = 0 then nR P + 1 else nN P kd := e0 kd
      rw [this] at d
      by_cases hk0 : kd = 0
      · rw [if_pos hk0] at d
        subst hk0
        show i < nR P
        omega
      · rw [if_neg hk0] at d; exact d
  · rw [e1]
    split
    · omega
    · exact wr r a (by omega)
  · rw [er, eR]
    have := ws x a (by omega)
    omega
  · have hr := ws x a (by omega)
    have : pn (adR P c k s) x = pn P x := by
      unfold pn; rw [er, e1, if_neg (by omega)]
    have em : nm (adR P c k s) x y = nm P x y := ei 3 _ (by decide) (by decide) (by decide) (by decide)
    rw [em]; exact wm x y a (by omega) a' (by omega)
  · unfold okT
    rw [e7, eC, eb]
    rcases hw with hw | ⟨r, y, a0, a1, a2, a3, a4⟩
    · rw [if_neg (by omega)]; exact wt w (Or.inl (by omega))
    · rw [e1] at a3
      by_cases hr : r = nR P
      · rw [if_pos hr] at a3
        by_cases hy : y = 3
        · rw [if_pos (by omega)]; exact ⟨hs.1, hs.2.1, hs.2.2⟩
        · rw [if_neg (by omega), a4, hr]; exact ht y a2 (by omega)
      · rw [if_neg hr] at a3
        have := wr r a0 (by omega)
        rw [if_neg (by omega)]; exact wt w (Or.inr ⟨r, y, a0, by omega, a2, a3, a4⟩)
  · have e8 : od (adR P c k s) d = od P d := ei 8 d (by decide) (by decide) (by decide) (by decide)
    have e9 : rf (adR P c k s) d = rf P d := ei 9 d (by decide) (by decide) (by decide) (by decide)
    have e10 : rt (adR P c k s) d = rt P d := ei 10 d (by decide) (by decide) (by decide) (by decide)
    rw [e8, e9, e10, eS]; exact wd d a (by omega)
/-- a row of which no told entry is touched -/
theorem WP_t3 {P : jP} (h : WP P) {x v : Int} (hx : 3 * nS P ≤ x) : WP (j_up P 3 x v) ∧ nS (j_up P 3 x v) = nS P := by
  obtain ⟨wb, wc_, wr, ws, wm, wt, wd, wg⟩ := h
  refine ⟨⟨wb, AllC_out wc_ rfl rfl rfl (fun g => up_ne (by decide)) (fun g => up_ne (by decide)) (fun g => up_ne (by decide)), wr, ws, fun s k a b c d => ?_, wt, wd, wg⟩, rfl⟩
  have hp := wr _ (ws s a b).1 (ws s a b).2
  have hp : 0 ≤ pn P s ∧ pn P s ≤ 3 := hp
  have d : k < pn P s := d
  have b : s < nS P := b
  have : nm (j_up P 3 x v) s k = nm P s k := up_nk (by omega)
  rw [this]; exact wm s k a b c d
theorem aNms_ok {n : Int} {t : Int → Int} : ∀ (f : Nat) (j h e : Int) (P : jP) (h' e' : Int) (P' : jP), Hd n t h e → WP P → 0 ≤ j → j + f ≤ 3 → (∀ i, 0 ≤ i → i < j → 0 ≤ P 3 (3 * nS P + i) ∧ P 3 (3 * nS P + i) < nS P) → aNms n t f j h e P = .ok (h', e', P') → Hd n t h' e' ∧ WP P' ∧ (∀ i k, i ≠ 3 → P' i k = P i k) ∧ (∀ i, 0 ≤ i → i < j + f → 0 ≤ P' 3 (3 * nS P + i) ∧ P' 3 (3 * nS P + i) < nS P)
  | 0, j, h, e, P, h', e', P', hh, hp, h0, hj, ht, ha => by
    cases ha
    exact ⟨hh, hp, fun _ _ _ => rfl, fun i a b => ht i a (by omega)⟩
  | f + 1, j, h, e, P, h', e', P', hh, hp, h0, hj, ht, ha => by
    unfold aNms at ha
    split at ha
    · cases ha
    · rename_i v h1 e1 hN
      have ho := aNum_ok hh hN
      obtain ⟨b1, b2⟩ := WP_t3 hp (x := 3 * nS P + j) (v := v) (by omega)
      have r := aNms_ok f (j + 1) h1 e1 _ h' e' P' ho.1 b1 (by omega) (by omega) (fun i i0 i1 => by
        rw [b2, up_if]
        by_cases hi : i = j
        · rw [if_pos (by omega)]; omega
        · rw [if_neg (by omega)]; exact ht i i0 (by omega)) ha
      rw [b2] at r
      exact ⟨r.1, r.2.1, fun i k hi => (r.2.2.1 i k hi).trans (up_ne hi), fun i i0 i1 => r.2.2.2 i i0 (by omega)⟩
theorem adS_ok {P : jP} (h : WP P) {s r : Int} (h40 : nS P < 40) (hr : 0 ≤ r ∧ r < nR P) (hm : ∀ i, 0 ≤ i → i < pr P r → 0 ≤ P 3 (3 * nS P + i) ∧ P 3 (3 * nS P + i) < nS P) (hs : 0 ≤ s ∧ s < nC P ∧ bh P s - s ≤ 24) : WP (adS P s r) := by
  obtain ⟨wb, wc_, wr, ws, wm, wt, wd, wg⟩ := h
  have hn := wb.1
  unfold WFn at hn
  have ei : ∀ (i : Nat) x, i ≠ 7 → i ≠ 2 → i ≠ 0 → adS P s r i x = P i x := fun i x a1 a2 a4 => by
    unfold adS; rw [up_ne a4, up_ne a2, up_ne a1]
  have e0 : ∀ x, adS P s r 0 x = if x = 4 then nS P + 1 else P 0 x := fun x => by
    unfold adS; rw [up_if, up_ne (by decide), up_ne (by decide)]
  have e2 : ∀ x, ru (adS P s r) x = if x = nS P then r else ru P x := fun x => by
    show adS P s r 2 x = _
    unfold adS; rw [up_ne (by decide), up_if, up_ne (by decide)]; rfl
  have e7 : ∀ x, tf (adS P s r) x = if x = 48 + nS P then s else tf P x := fun x => by
    show adS P s r 7 x = _
    unfold adS; rw [up_ne (by decide), up_ne (by decide), up_if]; rfl
  have eS : nS (adS P s r) = nS P + 1 := by show adS P s r 0 4 = _; rw [e0, if_pos rfl]
  have eo : ∀ x, x ≠ 4 → adS P s r 0 x = P 0 x := fun x hx => by rw [e0, if_neg hx]
  have eR : nR (adS P s r) = nR P := eo 0 (by decide)
  have eD : nD (adS P s r) = nD P := eo 1 (by decide)
  have eG : nG (adS P s r) = nG P := eo 2 (by decide)
  have eH : nH (adS P s r) = nH P := eo 3 (by decide)
  have eg : gl (adS P s r) = gl P := eo 5 (by decide)
  have eC : nC (adS P s r) = nC P := eo 6 (by decide)
  have ep : ∀ x, pr (adS P s r) x = pr P x := fun x => ei 1 x (by decide) (by decide) (by decide)
  have eb : ∀ x, bh (adS P s r) x = bh P x := fun x => ei 5 x (by decide) (by decide) (by decide)
  have em : ∀ x y, nm (adS P s r) x y = nm P x y := fun x y => ei 3 _ (by decide) (by decide) (by decide)
  refine ⟨WB_out wb ?_ (fun kd i a b c' d => ?_) eG (fun g => ei 6 g (by decide) (by decide) (by decide)), AllC_out wc_ eC eG eH (fun g => ei 6 g (by decide) (by decide) (by decide)) (fun g => ei 4 g (by decide) (by decide) (by decide)) eb, fun x a b => ?_, fun x a b => ?_, fun x y a b a' b' => ?_, fun w hw => ?_, fun d a b => ?_, by omega⟩
  · unfold WFn; omega
  · show okN (adS P s r 11 (24 * kd + i))
    rw [ei 11 _ (by decide) (by decide) (by decide)]
    refine wb.2.1 kd i a b c' ?_
    have : nN (adS P s r) kd = nN P kd := eo kd (by omega)
    omega
  · rw [ep]; exact wr x a (by omega)
  · rw [e2, eR]
    split
    · exact hr
    · exact ws x a (by omega)
  · have epn : pn (adS P s r) x = if x = nS P then pr P r else pn P x := by
      unfold pn
      rw [e2, ep]
      split
      · rfl
      · rfl
    rw [epn] at b'
    rw [em]
    by_cases hx : x = nS P
    · rw [if_pos hx] at b'
      rw [hx]; exact hm y a' b'
    · rw [if_neg hx] at b'; exact wm x y a (by omega) a' b'
  · unfold okT
    rw [e7, eC, eb]
    rcases hw with hw | ⟨r', y, a0, a1, a2, a3, a4⟩
    · by_cases hx : w = 48 + nS P
      · rw [if_pos hx]; exact ⟨hs.1, hs.2.1, hs.2.2⟩
      · rw [if_neg hx]; exact wt w (Or.inl (by omega))
    · rw [ep] at a3
      have := wr r' a0 (by omega)
      rw [if_neg (by omega)]; exact wt w (Or.inr ⟨r', y, a0, by omega, a2, a3, a4⟩)
  · have e8 : od (adS P s r) d = od P d := ei 8 d (by decide) (by decide) (by decide)
    have e9 : rf (adS P s r) d = rf P d := ei 9 d (by decide) (by decide) (by decide)
    have e10 : rt (adS P s r) d = rt P d := ei 10 d (by decide) (by decide) (by decide)
    have := wd d a (by omega)
    rw [e8, e9, e10, eS]; omega
theorem adD_ok {P : jP} (h : WP P) {c v a b : Int} (h6 : nD P < 6) (hv : 0 ≤ v ∧ v ≤ 100) (ha : 0 ≤ a ∧ a ≤ b ∧ b < nS P) (hc : okN c) : WP (adD P c v a b) := by
  obtain ⟨wb, wc_, wr, ws, wm, wt, wd, wg⟩ := h
  have hn := wb.1
  unfold WFn at hn
  have ei : ∀ (i : Nat) x, i ≠ 8 → i ≠ 9 → i ≠ 10 → i ≠ 11 → i ≠ 0 → adD P c v a b i x = P i x := fun i x a1 a2 a3 a4 a5 => by
    unfold adD; rw [up_ne a5, up_ne a4, up_ne a3, up_ne a2, up_ne a1]
  have e0 : ∀ x, adD P c v a b 0 x = if x = 1 then nD P + 1 else P 0 x := fun x => by
    unfold adD; rw [up_if, up_ne (by decide), up_ne (by decide), up_ne (by decide), up_ne (by decide)]
  have e11 : ∀ x, adD P c v a b 11 x = if x = 24 + nD P then c else P 11 x := fun x => by
    unfold adD; rw [up_ne (by decide), up_if, up_ne (by decide), up_ne (by decide), up_ne (by decide)]
  have e8 : ∀ x, od (adD P c v a b) x = if x = nD P then v else od P x := fun x => by
    show adD P c v a b 8 x = _
    unfold adD; rw [up_ne (by decide), up_ne (by decide), up_ne (by decide), up_ne (by decide), up_if]; rfl
  have e9 : ∀ x, rf (adD P c v a b) x = if x = nD P then a else rf P x := fun x => by
    show adD P c v a b 9 x = _
    unfold adD; rw [up_ne (by decide), up_ne (by decide), up_ne (by decide), up_if, up_ne (by decide)]; rfl
  have e10 : ∀ x, rt (adD P c v a b) x = if x = nD P then b else rt P x := fun x => by
    show adD P c v a b 10 x = _
    unfold adD; rw [up_ne (by decide), up_ne (by decide), up_if, up_ne (by decide), up_ne (by decide)]; rfl
  have eD : nD (adD P c v a b) = nD P + 1 := by show adD P c v a b 0 1 = _; rw [e0, if_pos rfl]
  have eo : ∀ x, x ≠ 1 → adD P c v a b 0 x = P 0 x := fun x hx => by rw [e0, if_neg hx]
  have eR : nR (adD P c v a b) = nR P := eo 0 (by decide)
  have eG : nG (adD P c v a b) = nG P := eo 2 (by decide)
  have eH : nH (adD P c v a b) = nH P := eo 3 (by decide)
  have eS : nS (adD P c v a b) = nS P := eo 4 (by decide)
  have eg : gl (adD P c v a b) = gl P := eo 5 (by decide)
  have eC : nC (adD P c v a b) = nC P := eo 6 (by decide)
  have ep : ∀ x, pr (adD P c v a b) x = pr P x := fun x => ei 1 x (by decide) (by decide) (by decide) (by decide) (by decide)
  have er : ∀ x, ru (adD P c v a b) x = ru P x := fun x => ei 2 x (by decide) (by decide) (by decide) (by decide) (by decide)
  have eb : ∀ x, bh (adD P c v a b) x = bh P x := fun x => ei 5 x (by decide) (by decide) (by decide) (by decide) (by decide)
  have et : ∀ x, tf (adD P c v a b) x = tf P x := fun x => ei 7 x (by decide) (by decide) (by decide) (by decide) (by decide)
  have em : ∀ x y, nm (adD P c v a b) x y = nm P x y := fun x y => ei 3 _ (by decide) (by decide) (by decide) (by decide) (by decide)
  refine ⟨WB_out wb ?_ (fun kd i a1 b1 c' d => ?_) eG (fun g => ei 6 g (by decide) (by decide) (by decide) (by decide) (by decide)), AllC_out wc_ eC eG eH (fun g => ei 6 g (by decide) (by decide) (by decide) (by decide) (by decide)) (fun g => ei 4 g (by decide) (by decide) (by decide) (by decide) (by decide)) eb, fun x a1 b1 => ?_, fun x a1 b1 => ?_, fun x y a1 b1 a' b' => ?_, fun w hw => ?_, fun d a1 b1 => ?_, by omega⟩
  · unfold WFn; omega
  · show okN (adD P c v a b 11 (24 * kd + i))
    rw [e11]
    by_cases hx : 24 * kd + i = 24 + nD P
    · rw [if_pos hx]; exact hc
    · rw [if_neg hx]
      refine wb.2.1 kd i a1 b1 c' ?_
      have : nN (adD P c v a b) kd = if kd = 1 then nD P + 1 else nN P kd := e0 kd
      rw [this] at d
      by_cases hk0 : kd = 1
      · rw [if_pos hk0] at d
        subst hk0
        show i < nD P
        omega
      · rw [if_neg hk0] at d; exact d
  · rw [ep]; exact wr x a1 (by omega)
  · rw [er, eR]; exact ws x a1 (by omega)
  · have : pn (adD P c v a b) x = pn P x := by unfold pn; rw [er, ep]
    rw [em]; exact wm x y a1 (by omega) a' (by omega)
  · unfold okT
    rw [et, eC, eb]
    refine wt w ?_
    rcases hw with hw | ⟨r', y, a0, a1, a2, a3, a4⟩
    · exact Or.inl (by omega)
    · rw [ep] at a3
      exact Or.inr ⟨r', y, a0, by omega, a2, a3, a4⟩
  · rw [e8, e9, e10, eS]
    by_cases hx : d = nD P
    · rw [if_pos hx, if_pos hx, if_pos hx]; omega
    · rw [if_neg hx, if_neg hx, if_neg hx]; exact wd d a1 (by omega)
