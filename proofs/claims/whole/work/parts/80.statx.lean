/-! a read text is a whole proof -/
section
variable {n : Int} {t : Int → Int} {h e h' e' : Int} {P P' : jP}
theorem aPre_ok {k : Int} (hh : Hd n t h e) (hp : WP P) (h12 : nR P < 12) (ha : aPre n t h e P = .ok (k, h', e', P')) : Hd n t h' e' ∧ WP P' ∧ nR P' = nR P ∧ (0 ≤ k ∧ k ≤ 3) ∧ (∀ i, 0 ≤ i → i < k → okT P' (4 * nR P + i)) := by
  unfold aPre at ha
  split at ha
  · cases ha
    exact ⟨hh, hp, rfl, by omega, fun i a b => by omega⟩
  · exact aPrem_ok 3 0 h e P k h' e' P' hh hp h12 (by omega) (by omega) (fun i a b => by omega) ha
theorem aRul2_ok {c k : Int} (hh : Hd n t h e) (hp : WP P) (h12 : nR P < 12) (hk : 0 ≤ k ∧ k ≤ 3) (ht : ∀ i, 0 ≤ i → i < k → okT P (4 * nR P + i)) (hc : okN c) (ha : aRul2 n t c k h e P = .ok (h', e', P')) : Hd n t h' e' ∧ WP P' := by
  unfold aRul2 at ha
  split at ha
  · cases ha
  · rename_i h3 e3 hw
    have w := aWord_ok hh hw
    split at ha
    · cases ha
    · rename_i h4 e4 P4 hT
      obtain ⟨a1, a2, a3, a4⟩ := aT_WP w.1 hp hT
      have eR : nR P4 = nR P := a3.2.1 0 (by decide) (by decide) (by decide)
      have hn := hp.1.1.2.2.2.2.2
      cases ha
      exact ⟨a1, adR_ok a2 (by omega) hk (fun i i0 i1 => by rw [eR]; exact okT_gt a3 (ht i i0 i1)) (by omega) hc⟩
theorem aRule_ok (hh : Hd n t h e) (hp : WP P) (h12 : nR P < 12) (ha : aRule n t h e P = .ok (h', e', P')) : Hd n t h' e' ∧ WP P' := by
  unfold aRule at ha
  split at ha
  · cases ha
  · rename_i c h1 e1 hN
    have hN := aNew_ok hh hN
    split at ha
    · cases ha
    · rename_i k h2 e2 P2 hP
      obtain ⟨a1, a2, a3, a4, a5⟩ := aPre_ok hN.1 hp h12 hP
      exact aRul2_ok a1 a2 (by omega) a4 (by rw [a3]; exact a5) hN.2.1 ha
theorem fnd_r {kd c : Int} (hf : fnd P kd c ≠ -1) : 0 ≤ fnd P kd c ∧ fnd P kd c < nN P kd := by
  rcases fnd_c (P := P) (kd := kd) (c := c) with g | g
  · exact absurd g.1 hf
  · exact ⟨g.1, g.2.1⟩
theorem aStp2_ok {s : Int} (hh : Hd n t h e) (hp : WP P) (h40 : nS P < 40) (hs : 0 ≤ s ∧ s < nC P ∧ bh P s - s ≤ 24) (ha : aStp2 n t s h e P = .ok (h', e', P')) : Hd n t h' e' ∧ WP P' := by
  unfold aStp2 at ha
  split at ha
  · cases ha
  · rename_i h2 e2 hw
    have w := aWord_ok hh hw
    split at ha
    · cases ha
    · rename_i c h3 e3 hN
      have hN := aName_ok w.1 hN
      split at ha
      · cases ha
      · rename_i hf
        split at ha
        · cases ha
        · rename_i h4 e4 P4 hM
          have hr := fnd_r hf
          have hr2 : fnd P 0 c < nR P := hr.2
          have hp3 := hp.2.2.1 _ hr.1 hr2
          obtain ⟨b1, b2, b3, b4⟩ := aNms_ok _ 0 h3 e3 P h4 e4 P4 hN.1 hp (by omega) (by omega) (fun i a b => by omega) hM
          have eS : nS P4 = nS P := b3 0 4 (by decide)
          have eR : nR P4 = nR P := b3 0 0 (by decide)
          have eC : nC P4 = nC P := b3 0 6 (by decide)
          have ep : pr P4 (fnd P 0 c) = pr P (fnd P 0 c) := b3 1 _ (by decide)
          have eb : bh P4 s = bh P s := b3 5 _ (by decide)
          cases ha
          exact ⟨b1, adS_ok b2 (by omega) (by omega) (fun i i0 i1 => by rw [eS]; exact b4 i i0 (by omega)) (by omega)⟩
theorem aStep_ok (hh : Hd n t h e) (hp : WP P) (h40 : nS P < 40) (ha : aStep n t h e P = .ok (h', e', P')) : Hd n t h' e' ∧ WP P' := by
  unfold aStep at ha
  split at ha
  · cases ha
  · rename_i h1 e1 P1 hT
    obtain ⟨a1, a2, a3, a4⟩ := aT_WP hh hp hT
    have eS : nS P1 = nS P := a3.2.1 4 (by decide) (by decide) (by decide)
    have hn := hp.1.1.2.2.2.2.2
    exact aStp2_ok a1 a2 (by omega) (by omega) ha
theorem WP_goal (hp : WP P) {v : Int} (hv : (-1 ≤ v ∧ v < nS P) ∨ v = -1) : WP (j_up P 0 5 v) := by
  obtain ⟨wb, wc_, wr, ws, wm, wt, wd, wg⟩ := hp
  have hG : gl (j_up P 0 5 v) = v := up_eq
  have eo : ∀ x, x ≠ 5 → j_up P 0 5 v 0 x = P 0 x := fun x hx => up_nk hx
  have eS : nS (j_up P 0 5 v) = nS P := eo 4 (by decide)
  have ei : ∀ (i : Nat) x, i ≠ 0 → j_up P 0 5 v i x = P i x := fun i x hi => up_ne hi
  refine ⟨WB_out wb wb.1 (fun kd i a b c d => wb.2.1 kd i a b c ?_) (eo 2 (by decide)) (fun g => ei 6 g (by decide)), AllC_out wc_ (eo 6 (by decide)) (eo 2 (by decide)) (eo 3 (by decide)) (fun g => ei 6 g (by decide)) (fun g => ei 4 g (by decide)) (fun g => ei 5 g (by decide)), wr, ws, wm, wt, wd, by rw [hG, eS]; exact hv⟩
  have : nN (j_up P 0 5 v) kd = nN P kd := eo kd (by omega)
  omega
theorem aGoal_ok (hh : Hd n t h e) (hp : WP P) (ha : aGoal n t h e P = .ok (h', e', P')) : Hd n t h' e' ∧ WP P' := by
  unfold aGoal at ha
  split at ha
  · cases ha
  · rename_i v h1 e1 hN
    have hN := aNum_ok hh hN
    cases ha
    exact ⟨hN.1, WP_goal hp (by omega)⟩
theorem aReader_ok (hh : Hd n t h e) (hp : WP P) (h6 : nD P < 6) (ha : aReader n t h e P = .ok (h', e', P')) : Hd n t h' e' ∧ WP P' := by
  unfold aReader at ha
  split at ha
  · cases ha
  · rename_i c h1 e1 hN
    have hN := aNew_ok hh hN
    unfold aRea1 at ha
    split at ha
    · cases ha
    · rename_i h2 e2 hw
      have w1 := aWord_ok hN.1 hw
      split at ha
      · cases ha
      · rename_i v h3 e3 hv
        have v1 := aNum_ok w1.1 hv
        unfold aRea2 at ha
        split at ha
        · cases ha
        · rename_i h4 e4 hw2
          have w2 := aWord_ok v1.1 hw2
          split at ha
          · cases ha
          · rename_i a h5 e5 hv2
            have v2 := aNum_ok w2.1 hv2
            unfold aRea3 at ha
            split at ha
            · cases ha
            · rename_i h7 e7 hw3
              have w3 := aWord_ok v2.1 hw3
              split at ha
              · cases ha
              · rename_i b h8 e8 hv3
                have v3 := aNum_ok w3.1 hv3
                cases ha
                exact ⟨v3.1, adD_ok hp h6 (by omega) (by omega) hN.2.1⟩
theorem isW_hd {c : Int} (hh : Hd n t h e) (hw : isW n t h e c = true) : Hd n t (sk n t (wl n t h)) (wl n t h) ∧ h < sk n t (wl n t h) := aWord_ok (c := c) hh (by unfold aWord; rw [if_pos hw])
theorem aStat0_ok (hh : Hd n t h e) (hp : WP P) (ha : aStat0 n t h e P = .ok (h', e', P')) : Hd n t h' e' ∧ WP P' := by
  unfold aStat0 at ha
  split at ha
  · rename_i hw
    split at ha
    · cases ha
    · exact aRule_ok (isW_hd hh hw).1 hp (by omega) ha
  · split at ha
    · rename_i hw
      split at ha
      · cases ha
      · exact aStep_ok (isW_hd hh hw).1 hp (by omega) ha
    · split at ha
      · rename_i hw
        exact aGoal_ok (isW_hd hh hw).1 hp ha
      · split at ha
        · rename_i hw
          split at ha
          · cases ha
          · exact aReader_ok (isW_hd hh hw).1 hp (by omega) ha
        · cases ha
theorem aStat_ok (hh : Hd n t h e) (hp : WP P) (ha : aStat n t h e P = .ok (h', e', P')) : Hd n t h' e' ∧ WP P' := by
  unfold aStat at ha
  split at ha
  · cases ha
  · rename_i h1 e1 P1 h0
    have s := aStat0_ok hh hp h0
    split at ha
    · cases ha
    · rename_i h2 e2 hm
      have m := aMark_ok s.1 hm
      cases ha
      exact ⟨m.1, s.2⟩
theorem WP_00 : WP P00 := by
  have z : ∀ (i : Nat) k, i ≠ 0 → P00 i k = 0 := fun i k hi => by unfold P00; rw [if_neg (fun hh => hi hh.1)]
  have z0 : ∀ k, k ≠ 5 → P00 0 k = 0 := fun k hk => by unfold P00; rw [if_neg (fun hh => hk hh.2)]
  have e0 : nR P00 = 0 := z0 0 (by decide)
  have e1 : nD P00 = 0 := z0 1 (by decide)
  have e2 : nG P00 = 0 := z0 2 (by decide)
  have e3 : nH P00 = 0 := z0 3 (by decide)
  have e4 : nS P00 = 0 := z0 4 (by decide)
  have e6 : nC P00 = 0 := z0 6 (by decide)
  have e5 : gl P00 = -1 := rfl
  refine ⟨⟨by unfold WFn; omega, fun kd i a b c d => ?_, fun g a b => by omega⟩, ⟨fun z a b => by omega, fun x a b => by omega⟩, fun r a b => by omega, fun r a b => by omega, fun r k a b => by omega, fun w hw => ?_, fun d a b => by omega, Or.inr e5⟩
  · have : nN P00 kd = 0 := z0 kd (by omega)
    omega
  · rcases hw with hw | ⟨r, y, a0, a1, _⟩
    · omega
    · omega
theorem goalP_WF (hp : WP P) : WF (goalP P) := by
  have hn := hp.1.1
  unfold WFn at hn
  have hg := hp.2.2.2.2.2.2.2
  have hq := WP_goal hp (v := if gl P = -1 then nS P - 1 else gl P) (by split <;> omega)
  obtain ⟨wb, wc_, wr, ws, wm, wt, wd, wg⟩ := hq
  have hG : gl (goalP P) = if gl P = -1 then nS P - 1 else gl P := by
    show goalP P 0 5 = _
    unfold goalP
    rw [up_eq]
  have eS : nS (goalP P) = nS P := by
    show goalP P 0 4 = P 0 4
    unfold goalP
    rw [up_nk (by decide)]
  refine ⟨wb.1, ⟨fun h0 => ?_, fun h0 => ?_⟩, wr, ws, wm, fun x a b => ?_, wt, wd, wb.2.1⟩
  · rw [hG]
    split <;> omega
  · rw [hG]
    split <;> omega
  · have c := wc_.2 x a b
    have m := wc_.1 x a b
    exact ⟨m.1, m.2, fun g => by
      obtain ⟨c1, c2, c3⟩ := c.1 g
      exact ⟨c1.1, c1.2, c2.1, c2.2, c3⟩, c.2⟩
end
