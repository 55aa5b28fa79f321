/-! the reference reads a rule: its premises -/
section
variable {E : jE} {μ μ1 : jMu} {Q : Int → jMu → Prop} {Q0 : jMu → Prop} {n h e : Int} {t : Int → Int} {P P' : jP}
theorem sM_ruleBad {l1 l2 l3 l4 : Int} (hb : μ 76 5 ≠ 0) (h2 : 0 ≤ l2 ∧ l2 < 12) (k : Q0 μ) : K 121 E mM_ruleTold 41 [some (jvR 76), some (jvI l1), some (jvI l2), some (jvI l3), some (jvI l4)] [] μ (fun v μ1 => v = none ∧ Q0 μ1) :=
  vM_ruleTold_41 ⟨fun _ => sM_asks_b hb (wd := 79) (wn := 5) rfl (by decide) (by decide) ⟨by omega, sM_termTold_b hb ⟨fun c => absurd c hb, fun _ => ⟨rfl, k⟩⟩⟩, fun c => absurd c hb⟩
theorem sM_premises {c r0 l1 : Int} (hr0 : 0 ≤ r0 ∧ r0 < 12) : ∀ (f : Nat) (j h e : Int) (P : jP) (μ : jMu), 0 ≤ j → j + f = 3 → 0 < f → HR μ n t h e → Wds μ → RKp μ P → WP P → G91 μ → nR P = r0 → (∀ i, 0 ≤ i → i < j → μ 91 (4 * r0 + i) = tf P (4 * r0 + i) ∧ μ 92 (4 * r0 + i) = bh P (tf P (4 * r0 + i)) - tf P (4 * r0 + i)) → (∀ i, 0 ≤ i → i < j → okT P (4 * r0 + i)) → μ 88 r0 = e27 c → (∀ g, aPrem n t f j h e P = .error g → ∀ μ1, Fr Wru μ μ1 → Bd μ1 g → G91 μ1 → μ1 87 0 = r0 → Q0 μ1) → (∀ k h' e' P', aPrem n t f j h e P = .ok (k, h', e', P') → ∀ μ1, Fr Wru μ μ1 → HR μ1 n t h' e' → RKp μ1 P' → G91 μ1 → (∀ i, 0 ≤ i → i < k → μ1 91 (4 * r0 + i) = tf P' (4 * r0 + i) ∧ μ1 92 (4 * r0 + i) = bh P' (tf P' (4 * r0 + i)) - tf P' (4 * r0 + i)) → μ1 88 r0 = e27 c → gl P' = gl P → K 121 E mM_ruleTold 41 [some (jvR 76), some (jvI l1), some (jvI r0), some (jvI k), some (jvI 0)] [] μ1 (fun v μ1 => v = none ∧ Q0 μ1)) → K 121 E mM_ruleTold 41 [some (jvR 76), some (jvI l1), some (jvI r0), some (jvI j), some (jvI 1)] [] μ (fun v μ1 => v = none ∧ Q0 μ1)
  | 0, j, h, e, P, μ, g0, g1, g2, hr, hwd, hB, hp, hG, hR, hm, hok, hnm, kf, kt => by omega
  | f + 1, j, h, e, P, μ, g0, g1, g2, hr, hwd, hB, hp, hG, hR, hm, hok, hnm, kf, kt => by
    have hn := hp.1.1.2.2.2.2.2
    refine vM_ruleTold_41 ⟨fun c => absurd hr.2.2.2.2 c, fun _ => ⟨fun c => absurd c (by decide), fun _ => ⟨by omega, ?_⟩⟩⟩
    refine sM_termTold hr hwd hB.1 hp.1 hp.2.1 (by omega) (fun g hg μ1 f1 b1 v1 => ?_) (fun h1 e1 P1 hT μ1 f1 x1 T1 v1 u1 => ?_)
    · have hb5 : μ1 76 5 ≠ 0 := by rw [b1.1]; exact b1.2.2
      have q := kf g (aPrem_e hg) μ1 (f1.mono (Wtt.ru (by omega) (by omega))) b1 (hG.tt f1 v1 hn) (by rw [f1 87 0 (by unfold Wtt Wr3 Wr2; omega), hB.2.1.1, hR])
      exact ⟨by omega, fun _ => sM_ruleBad hb5 hr0 q, fun _ => sM_takesSign_b hb5 ⟨fun _ => sM_ruleBad hb5 hr0 q, fun c => absurd rfl c⟩⟩
    obtain ⟨a1, a2, a3, a4⟩ := aT_WP hr.2.1 hp hT
    have ea := aPrem_s (f := f) (j := j) hT
    rw [hR] at ea
    have eR : nR P1 = nR P := a3.2.1 0 (by decide) (by decide) (by decide)
    have eg : gl P1 = gl P := a3.2.1 5 (by decide) (by decide) (by decide)
    have hni := not_inW_r hp (by omega) (j := j) g0 (by omega)
    rw [hR] at hni
    have hni1 := not_inW_r a2 (by omega) (j := j) g0 (by omega)
    rw [eR, hR] at hni1
    have B1 := RKp_gt hB hp hni f1 T1 a3
    obtain ⟨b1, b2, b3⟩ := WP_t7 a2 (x := nC P) hni1
    have f1' : Fr Wru μ μ1 := f1.mono (Wtt.ru (by omega) (by omega))
    have G1 := hG.tt f1 v1 hn
    have etf : ∀ w, tf (j_up P1 7 (4 * r0 + j) (nC P)) w = if w = 4 * r0 + j then nC P else tf P1 w := fun w => up_if
    have ebh : ∀ x, bh (j_up P1 7 (4 * r0 + j) (nC P)) x = bh P1 x := fun x => up_ne (by decide)
    have B2 : RKp μ1 (j_up P1 7 (4 * r0 + j) (nC P)) := by
      obtain ⟨y0, y1, y2, y3, y4, y5, y6, y7, y8⟩ := B1
      refine ⟨y0, y1, y2, y3, y4, fun w hw => ?_, y6, y7, y8⟩
      have hw' : inW P1 w := hw
      have hne : w ≠ 4 * r0 + j := fun hh => hni1 (hh ▸ hw')
      rw [etf, if_neg hne, ebh]
      exact y5 w hw'
    have m2 : ∀ i, 0 ≤ i → i < j + 1 → μ1 91 (4 * r0 + i) = tf (j_up P1 7 (4 * r0 + j) (nC P)) (4 * r0 + i) ∧ μ1 92 (4 * r0 + i) = bh (j_up P1 7 (4 * r0 + j) (nC P)) (tf (j_up P1 7 (4 * r0 + j) (nC P)) (4 * r0 + i)) - tf (j_up P1 7 (4 * r0 + j) (nC P)) (4 * r0 + i) := by
      intro i i0 i1
      rw [etf, ebh]
      by_cases hi : i = j
      · rw [if_pos (by omega), hi, a4.2.1]; exact ⟨v1, u1⟩
      · have ho := hok i i0 (by omega)
        have et : tf P1 (4 * r0 + i) = tf P (4 * r0 + i) := a3.1 7 _ (by decide) (by decide) (by decide) (by decide) (by decide)
        rw [if_neg (by omega), et, (a3.2.2.2.1 _ ho.2.1).2, f1 91 _ (by unfold Wtt Wr3 Wr2; omega), f1 92 _ (by unfold Wtt Wr3 Wr2; omega)]
        exact hm i i0 (by omega)
    have ok2 : ∀ i, 0 ≤ i → i < j + 1 → okT (j_up P1 7 (4 * r0 + j) (nC P)) (4 * r0 + i) := by
      intro i i0 i1
      unfold okT
      rw [etf, b3]
      by_cases hi : i = j
      · rw [if_pos (by omega), ebh]; omega
      · rw [if_neg (by omega), ebh]
        exact okT_gt a3 (hok i i0 (by omega))
    have nm2 : μ1 88 r0 = e27 c := by rw [f1 88 _ (by unfold Wtt Wr3 Wr2; omega)]; exact hnm
    refine ⟨by omega, fun c1 => ?_, fun c1 => sM_takesSign x1 (by decide) (fun hM μ2 f2 x2 p2 => ⟨fun _ => ?_, fun c => absurd rfl c⟩) (fun hM μ2 f2 x2 => ⟨fun c => absurd c (by decide), fun _ => ?_⟩)⟩
    · rw [if_neg (by omega)] at ea
      exact kt _ _ _ _ ea μ1 f1' x1 B2 G1 m2 nm2 eg
    · rw [if_neg (fun hx => by rw [hM] at hx; cases hx.2)] at ea
      exact kt _ _ _ _ ea μ2 (f1'.tr (f2.mono W76.ru)) x2 (RKp_tk B2 b1 f2) (G1.tk f2) (fun i i0 i1 => by rw [f2 91 _ (by unfold W76; omega), f2 92 _ (by unfold W76; omega)]; exact m2 i i0 i1) (by rw [f2 88 _ (by unfold W76; omega)]; exact nm2) eg
    · rw [if_pos ⟨by omega, hM⟩] at ea
      have f2' : Fr Wru μ μ2 := f1'.tr (f2.mono W76.ru)
      exact sM_premises hr0 f (j + 1) _ _ _ μ2 (by omega) (by omega) (by omega) x2 (hwd.ru f2') (RKp_tk B2 b1 f2) b1 (G1.tk f2) (by rw [b2, eR, hR]) (fun i i0 i1 => by rw [f2 91 _ (by unfold W76; omega), f2 92 _ (by unfold W76; omega)]; exact m2 i i0 i1) ok2 (by rw [f2 88 _ (by unfold W76; omega)]; exact nm2) (fun g hg μ4 f4 b4 G4 c4 => kf g (by rw [ea]; exact hg) μ4 (f2'.tr f4) b4 G4 c4) (fun k h' e' P' hok' μ4 f4 x4 B4 G4 m4 n4 gl4 => kt k h' e' P' (by rw [ea]; exact hok') μ4 (f2'.tr f4) x4 B4 G4 m4 n4 (gl4.trans eg))
end
