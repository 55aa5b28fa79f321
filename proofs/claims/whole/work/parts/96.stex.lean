/-! the reference reads a step, whole -/
def W95 (i : Nat) (k : Int) : Prop := W76 i k ∨ (i = 95 ∧ 0 ≤ k ∧ k < 120)
def Wps (i : Nat) (k : Int) : Prop := Wru i k ∨ (i = 87 ∧ (k = 1 ∨ k = 4)) ∨ (i = 94 ∧ 0 ≤ k ∧ k < 40) ∨ (i = 95 ∧ 0 ≤ k ∧ k < 120) ∨ ((i = 96 ∨ i = 97 ∨ i = 98) ∧ 0 ≤ k ∧ k < 6)
theorem Wru.ps : ∀ i k, Wru i k → Wps i k := fun i k h => Or.inl h
theorem W76.ps : ∀ i k, W76 i k → Wps i k := fun i k h => Or.inl (W76.ru i k h)
theorem W95.ps : ∀ i k, W95 i k → Wps i k := fun i k h => by
  rcases h with h | h
  · exact W76.ps i k h
  · exact Or.inr (Or.inr (Or.inr (Or.inl h)))
section
variable {E : jE} {μ μ1 : jMu} {Q : Int → jMu → Prop} {Q0 : jMu → Prop} {n h e : Int} {t : Int → Int} {P P' : jP}
theorem Wds.ps (h : Wds μ) (hf : Fr Wps μ μ1) : Wds μ1 := h.fr (hf.mono (fun i k hh => by unfold Wps Wru Wr3 Wr2 at hh; omega))
theorem RKp_94 (hB : RKp μ P) {v : Int} : RKp (j_up μ 94 (nS P) v) P := by
  obtain ⟨y0, y1, y2, y3, y4, y5, y6, y7, y8⟩ := hB
  exact ⟨y0, y1, y2, fun s a b => by rw [up_nk (by omega)]; exact y3 s a b, y4, y5, y6, y7, y8⟩
theorem pn3 (hp : WP P) {s : Int} (h0 : 0 ≤ s) (h1 : s < nS P) : pn P s ≤ 3 := by
  have a := hp.2.2.2.1 s h0 h1
  have b := hp.2.2.1 (ru P s) a.1 a.2
  unfold pn
  exact b.2
theorem RKp_t3 (hB : RKp μ P) (hp : WP P) {j v : Int} (hj : 0 ≤ j) : RKp (j_up μ 95 (3 * nS P + j) v) (j_up P 3 (3 * nS P + j) v) := by
  obtain ⟨y0, y1, y2, y3, y4, y5, y6, y7, y8⟩ := hB
  refine ⟨y0, y1, y2, y3, fun s k a b c d => ?_, y5, y6, y7, y8⟩
  have b' : s < nS P := b
  have d' : k < pn P s := d
  have := pn3 hp a b'
  rw [up_nk (by omega)]
  show _ = (j_up P 3 (3 * nS P + j) v) 3 (3 * s + k)
  rw [up_nk (by omega)]
  exact y4 s k a b' c d'
theorem sM_stepBad {r s0 l1 l3 : Int} (hr0 : 0 ≤ r ∧ r < 24) (hs0 : 0 ≤ s0 ∧ s0 < 40) : ∀ (f : Nat) (j : Int) (μ : jMu), 0 ≤ j → j + f = 3 → μ 93 r ≤ 3 → μ 76 5 ≠ 0 → (∀ μ1, Fr W95 μ μ1 → (∀ k, μ1 76 k = μ 76 k) → Q0 μ1) → K 121 E mM_stepTold 89 [some (jvR 76), some (jvI l1), some (jvI s0), some (jvL l3), none, some (jvI r), some (jvI j)] [] μ (fun v μ1 => v = none ∧ Q0 μ1)
  | 0, j, μ, g0, g1, g3, hb, k => vM_stepTold_89 ⟨hr0, fun _ => ⟨fun _ => ⟨rfl, k μ Fr.rf (fun _ => rfl)⟩, fun c => absurd c hb⟩, fun c => absurd (by omega) c⟩
  | f + 1, j, μ, g0, g1, g3, hb, k => by
    refine vM_stepTold_89 ⟨hr0, fun _ => ⟨fun _ => ⟨rfl, k μ Fr.rf (fun _ => rfl)⟩, fun c => absurd c hb⟩, fun c => ⟨by omega, sM_number_b hb ⟨by omega, ?_⟩⟩⟩
    exact sM_stepBad hr0 hs0 f (j + 1) _ (by omega) (by omega) (by rw [up_ne (by decide)]; exact g3) (by rw [up_ne (by decide)]; exact hb) (fun μ1 f1 q1 => k μ1 ((Fr.up (Or.inr ⟨rfl, by omega⟩)).tr f1) (fun x => by rw [q1, up_ne (by decide)]))
theorem sM_stepLoop {r s0 l1 l3 : Int} (hs0 : 0 ≤ s0 ∧ s0 < 40) : ∀ (f : Nat) (j h e : Int) (P : jP) (μ : jMu), 0 ≤ j → j + f = pr P r → (0 ≤ r ∧ r < nR P) → HR μ n t h e → RKp μ P → WP P → nS P = s0 → (∀ i, 0 ≤ i → i < j → μ 95 (3 * s0 + i) = P 3 (3 * s0 + i)) → (∀ g, aNms n t f j h e P = .error g → ∀ μ1, Fr W95 μ μ1 → Bd μ1 g → Q0 μ1) → (∀ h' e' P', aNms n t f j h e P = .ok (h', e', P') → ∀ μ1, Fr W95 μ μ1 → HR μ1 n t h' e' → RKp μ1 P' → (∀ i, 0 ≤ i → i < pr P r → μ1 95 (3 * s0 + i) = P' 3 (3 * s0 + i)) → Q0 (j_up μ1 87 4 (s0 + 1))) → K 121 E mM_stepTold 89 [some (jvR 76), some (jvI l1), some (jvI s0), some (jvL l3), none, some (jvI r), some (jvI j)] [] μ (fun v μ1 => v = none ∧ Q0 μ1)
  | 0, j, h, e, P, μ, g0, g1, g2, hr, hB, hp, hS, hm, kf, kt => by
    have hn := hp.1.1
    unfold WFn at hn
    have e1 : μ 93 r = pr P r := hB.2.2.1 r g2.1 g2.2
    refine vM_stepTold_89 ?_
    rw [e1, hB.2.1.2.2, hS]
    exact ⟨by omega, fun _ => ⟨fun c => absurd hr.2.2.2.2 c, fun _ => ⟨by omega, rfl, kt h e P rfl μ Fr.rf hr hB (fun i a b => hm i a (by omega))⟩⟩, fun c => absurd (by omega) c⟩
  | f + 1, j, h, e, P, μ, g0, g1, g2, hr, hB, hp, hS, hm, kf, kt => by
    have hn := hp.1.1
    unfold WFn at hn
    have e1 : μ 93 r = pr P r := hB.2.2.1 r g2.1 g2.2
    have hp3 := hp.2.2.1 r g2.1 g2.2
    refine vM_stepTold_89 ?_
    rw [e1]
    refine ⟨by omega, fun c => absurd c (by omega), fun _ => ⟨by omega, sM_number hr (fun g hg v μ1 f1 b1 => ⟨by omega, ?_⟩) (fun v h1 e1 hv μ1 f1 x1 => ⟨by omega, ?_⟩)⟩⟩
    · have hb5 : μ1 76 5 ≠ 0 := by rw [b1.1]; exact b1.2.2
      have eg : aNms n t (f + 1) j h e P = .error g := by unfold aNms; rw [hS, hg]
      obtain ⟨f', hf'⟩ : ∃ f' : Nat, j + 1 + f' = 3 := ⟨(3 - (j + 1)).toNat, by omega⟩
      exact sM_stepBad (by omega) hs0 f' (j + 1) _ (by omega) hf' (by rw [up_ne (by decide), f1 93 r (by unfold W76; omega), e1]; omega) (by rw [up_ne (by decide)]; exact hb5) (fun μ2 f2 q2 => kf g eg μ2 (((f1.mono (fun i k hh => Or.inl hh)).put (Or.inr ⟨rfl, by omega⟩)).tr f2) ⟨by rw [q2, up_ne (by decide)]; exact b1.1, by rw [q2, up_ne (by decide)]; exact b1.2.1, b1.2.2⟩)
    · have ea : aNms n t (f + 1) j h e P = aNms n t f (j + 1) h1 e1 (j_up P 3 (3 * s0 + j) v) := by
        conv => lhs; unfold aNms
        rw [hS, hv]
      have B2 := RKp_t3 (v := v) (RKp_tk hB hp f1) hp g0
      have P2 := (WP_t3 (v := v) hp (x := 3 * nS P + j) (by omega)).1
      rw [hS] at B2 P2
      have f2 : Fr W95 μ (j_up μ1 95 (3 * s0 + j) v) := (f1.mono (fun i k hh => Or.inl hh)).put (Or.inr ⟨rfl, by omega⟩)
      refine sM_stepLoop hs0 f (j + 1) h1 e1 (j_up P 3 (3 * s0 + j) v) _ (by omega) (show j + 1 + (f : Int) = pr P r by omega) g2 (x1.fr (Fr.up (by omega))) B2 P2 hS (fun i a b => ?_) (fun g hg μ3 f3 b3 => kf g (by rw [ea]; exact hg) μ3 (f2.tr f3) b3) (fun h' e' P' hg μ3 f3 x3 B3 m3 => kt h' e' P' (by rw [ea]; exact hg) μ3 (f2.tr f3) x3 B3 m3)
      by_cases hi : i = j
      · rw [hi, up_eq, up_eq]
      · rw [up_nk (by omega), up_nk (by omega), f1 95 _ (by unfold W76; omega)]
        exact hm i a (by omega)
theorem G91.fr (hG : G91 μ) (hf : Fr (fun i _ => i ≠ 91) μ μ1) : G91 μ1 := fun v a b => by rw [hf 91 v (by omega)]; exact hG v a b
theorem sM_stepTold {a0 : Int} (hr : HR μ n t h e) (hwd : Wds μ) (hB : RKp μ P) (hp : WP P) (hG : G91 μ) (k5 : 40 ≤ nS P → ∀ μ1, Fr Wps μ μ1 → Bd μ1 (5, a0) → G91 μ1 → Q0 μ1) (kf : nS P < 40 → ∀ g, aStep n t h e P = .error g → ∀ μ1, Fr Wps μ μ1 → Bd μ1 g → G91 μ1 → Q0 μ1) (kt : nS P < 40 → ∀ h' e' P', aStep n t h e P = .ok (h', e', P') → ∀ μ1, Fr Wps μ μ1 → HR μ1 n t h' e' → RKp μ1 P' → G91 μ1 → gl P' = gl P → Q0 μ1) : Cv E mM_stepTold [jvR 76, jvI a0] μ Q0 := by
  have hn := hp.1.1
  unfold WFn at hn
  have hC := hp.1.1.2.2.2.2.2
  refine vM_stepTold_0 (sM_isFull hr.2.2.2.2 (by omega) (fun c μ1 f1 b1 => ⟨fun c => absurd c (by decide), fun _ => ⟨rfl, k5 (by rw [hB.2.1.2.2] at c; omega) μ1 (f1.mono W76.ps) b1 (hG.tk f1)⟩⟩) (fun c => ⟨fun _ => ?_, fun c => absurd rfl c⟩))
  rw [hB.2.1.2.2] at c
  have h40 : nS P < 40 := by omega
  rw [hB.2.1.2.2]
  refine ⟨by omega, sM_termTold hr hwd hB.1 hp.1 hp.2.1 (by omega) (fun g hg μ1 f1 b1 v1 => ?_) (fun h1 e1 P1 hT μ1 f1 x1 T1 v1 u1 => ?_)⟩
  · have hb : μ1 76 5 ≠ 0 := by rw [b1.1]; exact b1.2.2
    have q := kf h40 g (by unfold aStep; rw [hg]) μ1 (f1.mono (fun i k hh => Wru.ps i k (Wtt.ru (by omega) (by omega) i k hh))) b1 (hG.tt f1 v1 hC)
    exact sM_asks_b hb (wd := 81) (wn := 2) rfl (by decide) (by decide) (sM_name_b hb (sM_nameOf_b (by omega) (by rw [f1 87 0 (by unfold Wtt Wr3 Wr2; omega), hB.2.1.1]; omega) (fun r => ⟨fun _ => ⟨fun c => absurd c hb, fun _ => ⟨rfl, q⟩⟩, fun c => absurd c hb⟩)))
  obtain ⟨a1, a2, a3, a4⟩ := aT_WP hr.2.1 hp hT
  have B1 := RKp_gt hB hp (not_inW_s hp) f1 T1 a3
  have eS : nS P1 = nS P := a3.2.1 4 (by decide) (by decide) (by decide)
  have eR : nR P1 = nR P := a3.2.1 0 (by decide) (by decide) (by decide)
  have eg : gl P1 = gl P := a3.2.1 5 (by decide) (by decide) (by decide)
  have f1p : Fr Wps μ μ1 := f1.mono (fun i k hh => Wru.ps i k (Wtt.ru (by omega) (by omega) i k hh))
  have G1 := hG.tt f1 v1 hC
  have est : aStep n t h e P = aStp2 n t (nC P) h1 e1 P1 := by unfold aStep; rw [hT]
  refine sM_asks x1 (wd := 81) rfl (by decide) (by decide) (hwd.ps f1p).2.2.2.1 (fun g hg μ2 f2 b2 => ?_) (fun h2 e2 hw μ2 f2 x2 => ?_)
  · have hb : μ2 76 5 ≠ 0 := by rw [b2.1]; exact b2.2.2
    have q := kf h40 g (by rw [est]; unfold aStp2; rw [hg]) μ2 (f1p.tr (f2.mono W76.ps)) b2 (G1.tk f2)
    exact sM_name_b hb (sM_nameOf_b (by omega) (by rw [f2 87 0 (by unfold W76; omega), B1.2.1.1]; omega) (fun r => ⟨fun _ => ⟨fun c => absurd c hb, fun _ => ⟨rfl, q⟩⟩, fun c => absurd c hb⟩))
  have f2p := f1p.tr (f2.mono W76.ps)
  have B2 := RKp_tk B1 a2 f2
  refine sM_name x2 (hwd.ps f2p) (fun g hg μ3 f3 b3 => ?_) (fun cc h3 e3 hN μ3 f3 x3 p3 => ?_)
  · have hb : μ3 76 5 ≠ 0 := by rw [b3.1]; exact b3.2.2
    have q := kf h40 g (by rw [est]; unfold aStp2; rw [hw]; dsimp only; rw [hg]) μ3 (f2p.tr (f3.mono W76.ps)) b3 ((G1.tk f2).tk f3)
    exact sM_nameOf_b (by omega) (by rw [f3 87 0 (by unfold W76; omega), B2.2.1.1]; omega) (fun r => ⟨fun _ => ⟨fun c => absurd c hb, fun _ => ⟨rfl, q⟩⟩, fun c => absurd c hb⟩)
  have f3p := f2p.tr (f3.mono W76.ps)
  have B3 := RKp_tk B2 a2 f3
  have G3 := (G1.tk f2).tk f3
  have hno := aName_ok x2.2.1 hN
  refine sM_fnd B3 a2 (Or.inl rfl) hno.2.2.1 ⟨fun c5 => absurd x3.2.2.2.2 c5, fun _ => ⟨fun cr => ⟨fun _ => ⟨by omega, ?_⟩, fun c5 => absurd x3.2.2.2.2 c5⟩, fun cr => ?_⟩⟩
  · have hfr : 0 ≤ fnd P1 0 cc ∧ fnd P1 0 cc < nR P1 := fnd_r cr
    have hp3 := a2.2.2.1 _ hfr.1 hfr.2
    have ew : ∀ x, aNms n t (pr P1 (fnd P1 0 cc)).toNat 0 h3 e3 P1 = x → aStep n t h e P = (match x with | .error f => .error f | .ok (h4, e4, P4) => .ok (h4, e4, adS P4 (nC P) (fnd P1 0 cc))) := fun x hx => by
      rw [est]; unfold aStp2; rw [hw]; dsimp only; rw [hN]; dsimp only; rw [if_neg cr, hx]
      cases x with
      | error f => rfl
      | ok v => obtain ⟨v1, v2, v3⟩ := v; rfl
    have B4 := RKp_94 (v := fnd P1 0 cc) B3
    rw [eS] at B4
    have f4p : Fr Wps μ (j_up μ3 94 (nS P) (fnd P1 0 cc)) := f3p.put (Or.inr (Or.inr (Or.inl ⟨rfl, by omega⟩)))
    have G4 : G91 (j_up μ3 94 (nS P) (fnd P1 0 cc)) := G3.fr (Fr.up (by decide))
    refine sM_stepLoop (by omega) (pr P1 (fnd P1 0 cc)).toNat 0 h3 e3 P1 _ (by decide) (by omega) hfr (x3.fr (Fr.up (by omega))) B4 a2 eS (fun i a b => by omega) (fun g hg μ5 f5 b5 => kf h40 g (ew _ hg) μ5 (f4p.tr (f5.mono W95.ps)) b5 (G4.fr (f5.mono (fun i k hh => by unfold W95 W76 at hh; omega)))) (fun h' e' P' hg μ5 f5 x5 B5 m5 => ?_)
    obtain ⟨w1, w2, w3, w4⟩ := aNms_ok _ 0 h3 e3 P1 h' e' P' hno.1 a2 (by decide) (by omega) (fun i a b => by omega) hg
    have es : nS P' = nS P := (w3 0 4 (by decide)).trans eS
    have ep : ∀ r, pr P' r = pr P1 r := fun r => w3 1 r (by decide)
    have eb : ∀ r, bh P' r = bh P1 r := fun r => w3 5 r (by decide)
    have B6 := RKp_adS (s := nC P) (r := fnd P1 0 cc) B5 w2 (by omega) (fun i i0 i1 => by rw [es]; exact m5 i i0 (by rw [← ep]; exact i1)) (by rw [es, f5 94 _ (by unfold W95 W76; omega), up_eq]) (by
      rw [es, eb, a4.2.1, f5 91 _ (by unfold W95 W76; omega), f5 92 _ (by unfold W95 W76; omega), up_ne (by decide), up_ne (by decide), f3 91 _ (by unfold W76; omega), f3 92 _ (by unfold W76; omega), f2 91 _ (by unfold W76; omega), f2 92 _ (by unfold W76; omega)]
      exact ⟨v1, u1⟩)
    rw [es] at B6
    refine kt h40 h' e' _ (ew _ hg) _ ((f4p.tr (f5.mono W95.ps)).put (Or.inr (Or.inl ⟨rfl, Or.inr rfl⟩))) (x5.fr (Fr.up (by omega))) B6 ((G4.fr (f5.mono (fun i k hh => by unfold W95 W76 at hh; omega))).fr (Fr.up (by decide))) ?_
    show adS P' (nC P) (fnd P1 0 cc) 0 5 = _
    unfold adS
    rw [up_nk (by decide), up_ne (by decide), up_ne (by decide), w3 0 5 (by decide)]
    exact eg
  · rw [p3]
    refine sM_fail x3.2.2.2.2 (by decide) (fun μ4 f4 b4 => ⟨fun c5 => absurd (b4.1.symm.trans c5) b4.2.2, fun _ => ⟨rfl, kf h40 (3, h2) (by rw [est]; unfold aStp2; rw [hw]; dsimp only; rw [hN]; dsimp only; rw [if_pos cr]) μ4 (f3p.tr (f4.mono (fun i k hh => W76.ps i k ⟨hh.1, by omega⟩))) b4 (G3.fr (f4.mono (fun i k hh => by omega)))⟩⟩)
end
