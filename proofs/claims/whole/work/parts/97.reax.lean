/-! the reference reads a reader, whole -/
section
variable {E : jE} {μ μ1 : jMu} {Q : Int → jMu → Prop} {Q0 : jMu → Prop} {n h e : Int} {t : Int → Int} {P P' : jP}
theorem Wrn.ps : ∀ i k, Wrn i k → Wps i k := fun i k h => Wru.ps i k (Wrn.ru i k h)
theorem sM_readerTold {a0 : Int} (hr : HR μ n t h e) (hwd : Wds μ) (hB : RKp μ P) (hp : WP P) (hG : G91 μ) (k5 : 6 ≤ nD P → ∀ μ1, Fr Wps μ μ1 → Bd μ1 (5, a0) → G91 μ1 → Q0 μ1) (kf : nD P < 6 → ∀ g, aReader n t h e P = .error g → ∀ μ1, Fr Wps μ μ1 → Bd μ1 g → G91 μ1 → Q0 μ1) (kt : nD P < 6 → ∀ h' e' P', aReader n t h e P = .ok (h', e', P') → ∀ μ1, Fr Wps μ μ1 → HR μ1 n t h' e' → RKp μ1 P' → G91 μ1 → gl P' = gl P → Q0 μ1) : Cv E mM_readerTold [jvR 76, jvI a0] μ Q0 := by
  have hn := hp.1.1
  unfold WFn at hn
  refine vM_readerTold_0 (sM_isFull hr.2.2.2.2 (by omega) (fun c μ1 f1 b1 => ⟨fun c => absurd c (by decide), fun _ => ⟨rfl, k5 (by rw [hB.2.1.2.1] at c; omega) μ1 (f1.mono W76.ps) b1 (hG.tk f1)⟩⟩) (fun c => ⟨fun _ => ?_, fun c => absurd rfl c⟩))
  rw [hB.2.1.2.1] at c
  have h6 : nD P < 6 := by omega
  refine sM_newName hr hwd hB hp (Or.inr rfl) hB.2.1.2.1 (by omega) (fun g hg μ1 f1 b1 => ?_) (fun cc h1 e1 hN μ1 f1 x1 n1 v1 => ?_)
  · have hb : μ1 76 5 ≠ 0 := by rw [b1.1]; exact b1.2.2
    have e4 : μ1 87 4 = nS P := by rw [f1 87 4 (by unfold W76; omega)]; exact hB.2.1.2.2
    have q := kf h6 g (by unfold aReader; rw [hg]) μ1 (f1.mono W76.ps) b1 (hG.tk f1)
    refine sM_asks_b hb (wd := 84) (wn := 4) rfl (by decide) (by decide) (sM_number_b hb (sM_asks_b hb (wd := 85) (wn := 4) rfl (by decide) (by decide) ⟨by omega, sM_number_b hb (sM_asks_b hb (wd := 86) (wn := 2) rfl (by decide) (by decide) ⟨by omega, sM_number_b hb ⟨fun c => absurd c hb, fun _ => ⟨rfl, q⟩⟩⟩)⟩))
  have B1 := RKp_nn hB hp (Or.inr ⟨rfl, rfl⟩) f1 n1
  have hno := aNew_ok hr.2.1 hN
  have f1p : Fr Wps μ μ1 := f1.mono Wrn.ps
  have W1 := hwd.ps f1p
  have G1 := hG.rn f1
  have e0 : aReader n t h e P = aRea1 n t cc h1 e1 P := by unfold aReader; rw [hN]
  refine sM_asks x1 (wd := 84) rfl (by decide) (by decide) W1.2.2.2.2.2.2.1 (fun g hg μ2 f2 b2 => ?_) (fun h2 e2 hw μ2 f2 x2 => ?_)
  · have hb : μ2 76 5 ≠ 0 := by rw [b2.1]; exact b2.2.2
    have e4 : μ2 87 4 = nS P := by rw [f2 87 4 (by unfold W76; omega)]; exact B1.2.1.2.2
    have q := kf h6 g (by rw [e0]; unfold aRea1; rw [hg]) μ2 (f1p.tr (f2.mono W76.ps)) b2 (G1.tk f2)
    refine sM_number_b hb (sM_asks_b hb (wd := 85) (wn := 4) rfl (by decide) (by decide) ⟨by omega, sM_number_b hb (sM_asks_b hb (wd := 86) (wn := 2) rfl (by decide) (by decide) ⟨by omega, sM_number_b hb ⟨fun c => absurd c hb, fun _ => ⟨rfl, q⟩⟩⟩)⟩)
  have f2p := f1p.tr (f2.mono W76.ps)
  have B2 := RKp_tk B1 hp f2
  have W2 := hwd.ps f2p
  have G2 := G1.tk f2
  refine sM_number x2 (fun g hg v μ3 f3 b3 => ?_) (fun v h3 e3 hv μ3 f3 x3 => ?_)
  · have hb : μ3 76 5 ≠ 0 := by rw [b3.1]; exact b3.2.2
    have e4 : μ3 87 4 = nS P := by rw [f3 87 4 (by unfold W76; omega)]; exact B2.2.1.2.2
    have q := kf h6 g (by rw [e0]; unfold aRea1; rw [hw]; dsimp only; rw [hg]) μ3 (f2p.tr (f3.mono W76.ps)) b3 (G2.tk f3)
    refine sM_asks_b hb (wd := 85) (wn := 4) rfl (by decide) (by decide) ⟨by omega, sM_number_b hb (sM_asks_b hb (wd := 86) (wn := 2) rfl (by decide) (by decide) ⟨by omega, sM_number_b hb ⟨fun c => absurd c hb, fun _ => ⟨rfl, q⟩⟩⟩)⟩
  have e1' : aReader n t h e P = aRea2 n t cc v h3 e3 P := by rw [e0]; unfold aRea1; rw [hw]; dsimp only; rw [hv]
  have f3p := f2p.tr (f3.mono W76.ps)
  have B3 := RKp_tk B2 hp f3
  have W3 := hwd.ps f3p
  have G3 := G2.tk f3
  refine sM_asks x3 (wd := 85) rfl (by decide) (by decide) W3.2.2.2.2.2.2.2.1 (fun g hg μ4 f4 b4 => ?_) (fun h4 e4 hw4 μ4 f4 x4 => ?_)
  · have hb : μ4 76 5 ≠ 0 := by rw [b4.1]; exact b4.2.2
    have e4 : μ4 87 4 = nS P := by rw [f4 87 4 (by unfold W76; omega)]; exact B3.2.1.2.2
    have q := kf h6 g (by rw [e1']; unfold aRea2; rw [hg]) μ4 (f3p.tr (f4.mono W76.ps)) b4 (G3.tk f4)
    refine ⟨by omega, sM_number_b hb (sM_asks_b hb (wd := 86) (wn := 2) rfl (by decide) (by decide) ⟨by omega, sM_number_b hb ⟨fun c => absurd c hb, fun _ => ⟨rfl, q⟩⟩⟩)⟩
  have f4p := f3p.tr (f4.mono W76.ps)
  have B4 := RKp_tk B3 hp f4
  have W4 := hwd.ps f4p
  have G4 := G3.tk f4
  rw [B4.2.1.2.2]
  refine ⟨by omega, sM_number x4 (fun g hg a μ5 f5 b5 => ?_) (fun a h5 e5 hv5 μ5 f5 x5 => ?_)⟩
  · have hb : μ5 76 5 ≠ 0 := by rw [b5.1]; exact b5.2.2
    have e4 : μ5 87 4 = nS P := by rw [f5 87 4 (by unfold W76; omega)]; exact B4.2.1.2.2
    have q := kf h6 g (by rw [e1']; unfold aRea2; rw [hw4]; dsimp only; rw [hg]) μ5 (f4p.tr (f5.mono W76.ps)) b5 (G4.tk f5)
    refine sM_asks_b hb (wd := 86) (wn := 2) rfl (by decide) (by decide) ⟨by omega, sM_number_b hb ⟨fun c => absurd c hb, fun _ => ⟨rfl, q⟩⟩⟩
  have e2' : aReader n t h e P = aRea3 n t cc v a h5 e5 P := by rw [e1']; unfold aRea2; rw [hw4]; dsimp only; rw [hv5]
  have f5p := f4p.tr (f5.mono W76.ps)
  have B5 := RKp_tk B4 hp f5
  have W5 := hwd.ps f5p
  have G5 := G4.tk f5
  refine sM_asks x5 (wd := 86) rfl (by decide) (by decide) W5.2.2.2.2.2.2.2.2 (fun g hg μ6 f6 b6 => ?_) (fun h6' e6 hw6 μ6 f6 x6 => ?_)
  · have hb : μ6 76 5 ≠ 0 := by rw [b6.1]; exact b6.2.2
    have e4 : μ6 87 4 = nS P := by rw [f6 87 4 (by unfold W76; omega)]; exact B5.2.1.2.2
    have q := kf h6 g (by rw [e2']; unfold aRea3; rw [hg]) μ6 (f5p.tr (f6.mono W76.ps)) b6 (G5.tk f6)
    refine ⟨by omega, sM_number_b hb ⟨fun c => absurd c hb, fun _ => ⟨rfl, q⟩⟩⟩
  have f6p := f5p.tr (f6.mono W76.ps)
  have B6 := RKp_tk B5 hp f6
  have G6 := G5.tk f6
  rw [B6.2.1.2.2]
  refine ⟨by omega, sM_number x6 (fun g hg r μ7 f7 b7 => ?_) (fun z h7 e7 hv7 μ7 f7 x7 => ?_)⟩
  · have hb : μ7 76 5 ≠ 0 := by rw [b7.1]; exact b7.2.2
    have q := kf h6 g (by rw [e2']; unfold aRea3; rw [hw6]; dsimp only; rw [hg]) μ7 (f6p.tr (f7.mono W76.ps)) b7 (G6.tk f7)
    exact ⟨fun c => absurd c hb, fun _ => ⟨rfl, q⟩⟩
  have f7p := f6p.tr (f7.mono W76.ps)
  have B7 := RKp_tk B6 hp f7
  have G7 := G6.tk f7
  have nm7 : μ7 88 (24 + nD P) = e27 cc := by
    rw [f7 88 _ (by unfold W76; omega), f6 88 _ (by unfold W76; omega), f5 88 _ (by unfold W76; omega), f4 88 _ (by unfold W76; omega), f3 88 _ (by unfold W76; omega), f2 88 _ (by unfold W76; omega), ← v1]
    congr 1
  have B8 := RKp_adD (c := cc) (v := v) (a0 := a) (b0 := z) B7 hp h6 nm7
  refine ⟨fun _ => ?_, fun c5 => absurd x7.2.2.2.2 c5⟩
  rw [B7.2.1.2.1]
  have w5 : ∀ k : Int, 0 ≤ k → k < 6 → Wps 96 k ∧ Wps 97 k ∧ Wps 98 k := fun k a b => by unfold Wps; omega
  have ww := w5 (nD P) (by omega) h6
  refine ⟨by omega, rfl, kt h6 h7 e7 _ (by rw [e2']; unfold aRea3; rw [hw6]; dsimp only; rw [hv7]) _ ((((f7p.put ww.1).put ww.2.1).put ww.2.2).put (Or.inr (Or.inl ⟨rfl, Or.inl rfl⟩))) ((((x7.r9 (by decide)).r9 (by decide)).r9 (by decide)).r9 (by decide)) B8 ((((G7.fr (Fr.up (by decide))).fr (Fr.up (by decide))).fr (Fr.up (by decide))).fr (Fr.up (by decide))) ?_⟩
  show adD P cc v a z 0 5 = _
  unfold adD
  rw [up_nk (by decide), up_ne (by decide), up_ne (by decide), up_ne (by decide), up_ne (by decide)]
  rfl
end
