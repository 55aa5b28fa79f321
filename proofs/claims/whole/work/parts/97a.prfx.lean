/-! the reference reads a statement and a proof -/
def Wpq (i : Nat) (k : Int) : Prop := Wps i k ∨ (i = 76 ∧ (k = 32 ∨ k = 34))
theorem Wps.pq : ∀ i k, Wps i k → Wpq i k := fun i k h => Or.inl h
theorem W76.pq : ∀ i k, W76 i k → Wpq i k := fun i k h => Or.inl (W76.ps i k h)
theorem isW_wc {n : Int} {t : Int → Int} {h e c : Int} (hw : isW n t h e c = true) : wc n t h = c := by
  unfold isW at hw
  simp only [Bool.and_eq_true, decide_eq_true_eq] at hw
  exact hw.2
theorem isW_no {n : Int} {t : Int → Int} {h e c c' : Int} (hw : isW n t h e c = true) (hc : c ≠ c') : ¬ isW n t h e c' = true := fun h2 => hc ((isW_wc hw).symm.trans (isW_wc h2))
section
variable {E : jE} {μ μ1 : jMu} {Q : Int → jMu → Prop} {Q0 : jMu → Prop} {n h e : Int} {t : Int → Int} {P P' : jP}
theorem Wds.pq (h : Wds μ) (hf : Fr Wpq μ μ1) : Wds μ1 := h.fr (hf.mono (fun i k hh => by unfold Wpq Wps Wru Wr3 Wr2 at hh; omega))
theorem RKp_32 (hB : RKp μ P) {v x : Int} : RKp (j_up μ 76 32 v) (j_up P 0 5 x) := by
  obtain ⟨⟨⟨z1, z2, z3⟩, z4, z5, z6⟩, y1, y2, y3, y4, y5, y6, y7, y8⟩ := hB
  have h23 : (j_up μ 76 32 v) 76 23 = μ 76 23 := up_nk (by decide)
  have h6 : nC (j_up P 0 5 x) = nC P := up_nk (by decide)
  have h4 : nS (j_up P 0 5 x) = nS P := up_nk (by decide)
  have h0 : nR (j_up P 0 5 x) = nR P := up_nk (by decide)
  have h1 : nD (j_up P 0 5 x) = nD P := up_nk (by decide)
  have h2 : nG (j_up P 0 5 x) = nG P := up_nk (by decide)
  have h3 : nH (j_up P 0 5 x) = nH P := up_nk (by decide)
  refine ⟨⟨⟨by rw [h2]; exact z1, by rw [h3]; exact z2, by rw [h23, h6]; exact z3⟩, fun g a b => z4 g a (by omega), fun g a b => z5 g a (by omega), fun g a b => z6 g a (by omega)⟩, ⟨by rw [h0]; exact y1.1, by rw [h1]; exact y1.2.1, by rw [h4]; exact y1.2.2⟩, fun r a b => y2 r a (by omega), fun r a b => y3 r a (by omega), fun s k a b c d => y4 s k a (by omega) c d, fun w hw => ?_, fun d a b => y6 d a (by omega), fun d a b => y7 d a (by omega), fun d a b => y8 d a (by omega)⟩
  have hw' : inW P w := by
    rcases hw with hh | ⟨r, k, a0, a1, a2, a3, a4⟩
    · exact Or.inl (by omega)
    · exact Or.inr ⟨r, k, a0, by omega, a2, a3, a4⟩
  exact y5 w hw'
theorem RKp_34 (hB : RKp μ P) {v : Int} : RKp (j_up μ 76 34 v) P := by
  obtain ⟨⟨⟨z1, z2, z3⟩, z4, z5, z6⟩, y⟩ := hB
  exact ⟨⟨⟨z1, z2, by rw [up_nk (by decide)]; exact z3⟩, z4, z5, z6⟩, y⟩
/-- a statement's end -/
theorem sM_statEnd {k l1 : Int} (hk : 0 ≤ k ∧ k ≤ 80) (hr : HR μ n t h e) (hB : RKp μ P) (hp : WP P) (hG : G91 μ) (h34 : μ 76 34 = k) (h32 : μ 76 32 = gl P) (kf : ∀ g, aMark n t h e 59 = .error g → ∀ μ1, Fr Wpq μ μ1 → Bd μ1 g → G91 μ1 → Q0 μ1) (kt : ∀ h' e', aMark n t h e 59 = .ok (h', e') → ∀ μ1, Fr Wpq μ μ1 → HR μ1 n t h' e' → RKp μ1 P → G91 μ1 → μ1 76 34 = k + 1 → μ1 76 32 = gl P → Q0 μ1) : K 121 E mM_proofTold 103 [some (jvR 76), some (jvI l1)] [] μ (fun v μ1 => v = none ∧ Q0 μ1) := by
  refine vM_proofTold_103 (sM_asksSign hr (by decide) (fun g hg μ1 f1 b1 => ?_) (fun h' e' hg μ1 f1 x1 => ?_))
  · have e34 : μ1 76 34 = k := by rw [f1 76 34 (by unfold W76; omega)]; exact h34
    rw [e34]
    exact ⟨by omega, rfl, kf g hg _ ((f1.mono W76.pq).put (Or.inr ⟨rfl, Or.inr rfl⟩)) ⟨by rw [up_nk (by decide)]; exact b1.1, by rw [up_nk (by decide)]; exact b1.2.1, b1.2.2⟩ ((hG.tk f1).fr (Fr.up (by decide)))⟩
  · have e34 : μ1 76 34 = k := by rw [f1 76 34 (by unfold W76; omega)]; exact h34
    rw [e34]
    exact ⟨by omega, rfl, kt h' e' hg _ ((f1.mono W76.pq).put (Or.inr ⟨rfl, Or.inr rfl⟩)) (x1.fr (Fr.up (by omega))) (RKp_34 (RKp_tk hB hp f1)) ((hG.tk f1).fr (Fr.up (by decide))) up_eq (by rw [up_nk (by decide), f1 76 32 (by unfold W76; omega)]; exact h32)⟩
theorem sM_statBad {k l1 : Int} (hk : 0 ≤ k ∧ k ≤ 80) (hb : μ 76 5 ≠ 0) (h34 : μ 76 34 = k) (kf : Q0 (j_up μ 76 34 (k + 1))) : K 121 E mM_proofTold 103 [some (jvR 76), some (jvI l1)] [] μ (fun v μ1 => v = none ∧ Q0 μ1) := by
  refine vM_proofTold_103 (sM_asksSign_b hb ?_)
  rw [h34]
  exact ⟨by omega, rfl, kf⟩
theorem sM_proofTold {k : Int} (hk : 0 ≤ k ∧ k ≤ 80) (hr : HR μ n t h e) (h2 : μ 76 2 = h) (hwd : Wds μ) (hB : RKp μ P) (hp : WP P) (hG : G91 μ) (h34 : μ 76 34 = k) (h32 : μ 76 32 = gl P) (k5 : k = 80 → ∀ μ1, Fr Wpq μ μ1 → Bd μ1 (5, h) → G91 μ1 → Q0 μ1) (kf : k ≠ 80 → ∀ g, aStat n t h e P = .error g → ∀ μ1, Fr Wpq μ μ1 → Bd μ1 g → G91 μ1 → Q0 μ1) (kt : k ≠ 80 → ∀ h' e' P', aStat n t h e P = .ok (h', e', P') → ∀ μ1, Fr Wpq μ μ1 → HR μ1 n t h' e' → RKp μ1 P' → G91 μ1 → μ1 76 34 = k + 1 → μ1 76 32 = gl P' → Q0 μ1) : Cv E mM_proofTold [jvR 76] μ Q0 := by
  have hn := hp.1.1
  unfold WFn at hn
  refine vM_proofTold_0 ?_
  rw [h34, h2]
  refine ⟨fun c => ?_, fun c => sM_fail hr.2.2.2.2 (by decide) (fun μ1 f1 b1 => ⟨rfl, k5 c μ1 (f1.mono (fun i k hh => W76.pq i k ⟨hh.1, by omega⟩)) b1 (hG.fr (f1.mono (fun i k hh => by omega)))⟩)⟩
  -- a fault in the statement
  have bad : ∀ g, aStat0 n t h e P = .error g → ∀ μ1, Fr Wpq μ μ1 → Bd μ1 g → G91 μ1 → μ1 76 34 = k → K 121 E mM_proofTold 103 [some (jvR 76), some (jvI h)] [] μ1 (fun v μ1 => v = none ∧ Q0 μ1) := fun g hg μ1 f1 b1 G1 e1 => sM_statBad hk (by rw [b1.1]; exact b1.2.2) e1 (kf c g (by unfold aStat; rw [hg]) _ (f1.put (Or.inr ⟨rfl, Or.inr rfl⟩)) ⟨by rw [up_nk (by decide)]; exact b1.1, by rw [up_nk (by decide)]; exact b1.2.1, b1.2.2⟩ (G1.fr (Fr.up (by decide))))
  have good : ∀ h' e' P', aStat0 n t h e P = .ok (h', e', P') → ∀ μ1, Fr Wpq μ μ1 → HR μ1 n t h' e' → RKp μ1 P' → G91 μ1 → μ1 76 34 = k → μ1 76 32 = gl P' → K 121 E mM_proofTold 103 [some (jvR 76), some (jvI h)] [] μ1 (fun v μ1 => v = none ∧ Q0 μ1) := fun h' e' P' hg μ1 f1 x1 B1 G1 e1 e2 => by
    have hp' := (aStat0_ok hr.2.1 hp hg).2
    exact sM_statEnd hk x1 B1 hp' G1 e1 e2 (fun g hm μ2 f2 b2 G2 => kf c g (by unfold aStat; rw [hg]; dsimp only; rw [hm]) μ2 (f1.tr f2) b2 G2) (fun h3 e3 hm μ2 f2 x2 B2 G2 z1 z2 => kt c h3 e3 P' (by unfold aStat; rw [hg]; dsimp only; rw [hm]) μ2 (f1.tr f2) x2 B2 G2 z1 z2)
  have pp : ∀ {μ1}, Fr Wps μ μ1 → μ1 76 34 = k ∧ μ1 76 32 = gl P := fun f1 => ⟨by rw [f1 76 34 (by unfold Wps Wru Wr3 Wr2; omega)]; exact h34, by rw [f1 76 32 (by unfold Wps Wru Wr3 Wr2; omega)]; exact h32⟩
  refine sM_takes hr (wd := 78) rfl (by decide) (by decide) hwd.1 (fun hw μ1 f1 x1 p1 => ⟨fun _ => ?_, fun c => absurd rfl c⟩) (fun hw μ1 f1 x1 => ⟨fun c => absurd c (by decide), fun _ => ?_⟩)
  · have nw1 : ¬ isW n t h e 626398208 = true := by rw [hw]; decide
    have f1p : Fr Wps μ μ1 := f1.mono W76.ps
    refine sM_takes x1 (wd := 80) rfl (by decide) (by decide) (hwd.ps f1p).2.2.1 (fun hw2 μ2 f2 x2 p2 => ⟨fun _ => ?_, fun c => absurd rfl c⟩) (fun hw2 μ2 f2 x2 => ⟨fun c => absurd c (by decide), fun _ => ?_⟩)
    · have nw2 : ¬ isW n t h e 658685952 = true := by rw [hw2]; decide
      have f2p : Fr Wps μ μ2 := f1p.tr (f2.mono W76.ps)
      refine sM_takes x2 (wd := 83) rfl (by decide) (by decide) (hwd.ps f2p).2.2.2.2.2.1 (fun hw3 μ3 f3 x3 p3 => ⟨fun _ => ?_, fun c => absurd rfl c⟩) (fun hw3 μ3 f3 x3 => ⟨fun c => absurd c (by decide), fun _ => ?_⟩)
      · have nw3 : ¬ isW n t h e 609259698 = true := by rw [hw3]; decide
        have f3p : Fr Wps μ μ3 := f2p.tr (f3.mono W76.ps)
        have B3 := RKp_tk (RKp_tk (RKp_tk hB hp f1) hp f2) hp f3
        have G3 := ((hG.tk f1).tk f2).tk f3
        refine sM_asks x3 (wd := 82) rfl (by decide) (by decide) (hwd.ps f3p).2.2.2.2.1 (fun g hg μ4 f4 b4 => ?_) (fun h4 e4 hg μ4 f4 x4 => ?_)
        · have hb : μ4 76 5 ≠ 0 := by rw [b4.1]; exact b4.2.2
          have f4p : Fr Wps μ μ4 := f3p.tr (f4.mono W76.ps)
          have e4 : μ4 87 4 = nS P := by rw [f4 87 4 (by unfold W76; omega)]; exact B3.2.1.2.2
          have hgg : ¬ isW n t h e 250654720 = true ∧ g = (1, h) := by
            unfold aWord at hg
            split at hg
            · cases hg
            · rename_i hq; cases hg; exact ⟨hq, rfl⟩
          have ea : aStat0 n t h e P = .error g := by unfold aStat0; rw [if_neg nw1, if_neg nw2, if_neg hgg.1, if_neg nw3, hgg.2]
          refine ⟨by omega, sM_number_b hb (bad g ea _ ((f4p.mono Wps.pq).put (Or.inr ⟨rfl, Or.inl rfl⟩)) ⟨by rw [up_nk (by decide)]; exact b4.1, by rw [up_nk (by decide)]; exact b4.2.1, b4.2.2⟩ ((G3.tk f4).fr (Fr.up (by decide))) (by rw [up_nk (by decide)]; exact (pp f4p).1))⟩
        · have hgg : isW n t h e 250654720 = true ∧ h4 = sk n t (wl n t h) ∧ e4 = wl n t h := by
            unfold aWord at hg
            split at hg
            · rename_i hq; cases hg; exact ⟨hq, rfl, rfl⟩
            · cases hg
          have f4p : Fr Wps μ μ4 := f3p.tr (f4.mono W76.ps)
          have B4 := RKp_tk B3 hp f4
          have ea : aStat0 n t h e P = aGoal n t h4 e4 P := by unfold aStat0; rw [if_neg nw1, if_neg nw2, if_pos hgg.1, hgg.2.1, hgg.2.2]
          rw [B4.2.1.2.2]
          refine ⟨by omega, sM_number x4 (fun g hg' v μ5 f5 b5 => ?_) (fun v h5 e5 hv μ5 f5 x5 => ?_)⟩
          · have f5p : Fr Wps μ μ5 := f4p.tr (f5.mono W76.ps)
            exact bad g (by rw [ea]; unfold aGoal; rw [hg']) _ ((f5p.mono Wps.pq).put (Or.inr ⟨rfl, Or.inl rfl⟩)) ⟨by rw [up_nk (by decide)]; exact b5.1, by rw [up_nk (by decide)]; exact b5.2.1, b5.2.2⟩ (((G3.tk f4).tk f5).fr (Fr.up (by decide))) (by rw [up_nk (by decide)]; exact (pp f5p).1)
          · have f5p : Fr Wps μ μ5 := f4p.tr (f5.mono W76.ps)
            exact good h5 e5 _ (by rw [ea]; unfold aGoal; rw [hv]) _ ((f5p.mono Wps.pq).put (Or.inr ⟨rfl, Or.inl rfl⟩)) (x5.fr (Fr.up (by omega))) (RKp_32 (RKp_tk B4 hp f5)) (((G3.tk f4).tk f5).fr (Fr.up (by decide))) (by rw [up_nk (by decide)]; exact (pp f5p).1) (by rw [up_eq]; exact up_eq.symm)
      · have nw3 : ¬ isW n t h e 250654720 = true := isW_no hw3 (by decide)
        have f3p : Fr Wps μ μ3 := f2p.tr (f3.mono W76.ps)
        have B3 := RKp_tk (RKp_tk (RKp_tk hB hp f1) hp f2) hp f3
        have G3 := ((hG.tk f1).tk f2).tk f3
        have ea : aStat0 n t h e P = (if 6 ≤ nD P then .error (5, h) else aReader n t (sk n t (wl n t h)) (wl n t h) P) := by unfold aStat0; rw [if_neg nw1, if_neg nw2, if_neg nw3, if_pos hw3]
        exact sM_readerTold x3 (hwd.ps f3p) B3 hp G3 (fun c6 μ4 f4 b4 G4 => bad _ (by rw [ea, if_pos c6]) μ4 ((f3p.tr f4).mono Wps.pq) b4 G4 (pp (f3p.tr f4)).1) (fun c6 g hg μ4 f4 b4 G4 => bad g (by rw [ea, if_neg (by omega)]; exact hg) μ4 ((f3p.tr f4).mono Wps.pq) b4 G4 (pp (f3p.tr f4)).1) (fun c6 h' e' P' hg μ4 f4 x4 B4 G4 gl4 => good h' e' P' (by rw [ea, if_neg (by omega)]; exact hg) μ4 ((f3p.tr f4).mono Wps.pq) x4 B4 G4 (pp (f3p.tr f4)).1 ((pp (f3p.tr f4)).2.trans gl4.symm))
    · have f2p : Fr Wps μ μ2 := f1p.tr (f2.mono W76.ps)
      have B2 := RKp_tk (RKp_tk hB hp f1) hp f2
      have G2 := (hG.tk f1).tk f2
      have ea : aStat0 n t h e P = (if 40 ≤ nS P then .error (5, h) else aStep n t (sk n t (wl n t h)) (wl n t h) P) := by unfold aStat0; rw [if_neg nw1, if_pos hw2]
      exact sM_stepTold x2 (hwd.ps f2p) B2 hp G2 (fun c6 μ4 f4 b4 G4 => bad _ (by rw [ea, if_pos c6]) μ4 ((f2p.tr f4).mono Wps.pq) b4 G4 (pp (f2p.tr f4)).1) (fun c6 g hg μ4 f4 b4 G4 => bad g (by rw [ea, if_neg (by omega)]; exact hg) μ4 ((f2p.tr f4).mono Wps.pq) b4 G4 (pp (f2p.tr f4)).1) (fun c6 h' e' P' hg μ4 f4 x4 B4 G4 gl4 => good h' e' P' (by rw [ea, if_neg (by omega)]; exact hg) μ4 ((f2p.tr f4).mono Wps.pq) x4 B4 G4 (pp (f2p.tr f4)).1 ((pp (f2p.tr f4)).2.trans gl4.symm))
  · have f1p : Fr Wps μ μ1 := f1.mono W76.ps
    have B1 := RKp_tk hB hp f1
    have G1 := hG.tk f1
    have ea : aStat0 n t h e P = (if 12 ≤ nR P then .error (5, h) else aRule n t (sk n t (wl n t h)) (wl n t h) P) := by unfold aStat0; rw [if_pos hw]
    exact sM_ruleTold x1 (hwd.ps f1p) B1 hp G1 (fun c6 μ4 f4 b4 G4 => bad _ (by rw [ea, if_pos c6]) μ4 ((f1p.tr (f4.mono Wru.ps)).mono Wps.pq) b4 G4 (pp (f1p.tr (f4.mono Wru.ps))).1) (fun c6 g hg μ4 f4 b4 G4 => bad g (by rw [ea, if_neg (by omega)]; exact hg) μ4 ((f1p.tr (f4.mono Wru.ps)).mono Wps.pq) b4 G4 (pp (f1p.tr (f4.mono Wru.ps))).1) (fun c6 h' e' P' hg μ4 f4 x4 B4 G4 gl4 => good h' e' P' (by rw [ea, if_neg (by omega)]; exact hg) μ4 ((f1p.tr (f4.mono Wru.ps)).mono Wps.pq) x4 B4 G4 (pp (f1p.tr (f4.mono Wru.ps))).1 ((pp (f1p.tr (f4.mono Wru.ps))).2.trans gl4.symm))
end
