/-! the reference reads a term: the loop -/
def Wtt (w : Int) (i : Nat) (k : Int) : Prop := Wr3 i k ∨ ((i = 91 ∨ i = 92) ∧ k = w)
theorem Wr3.tt {w : Int} : ∀ i k, Wr3 i k → Wtt w i k := fun i k h => Or.inl h
section
variable {E : jE} {μ μ1 : jMu} {Q : Int → jMu → Prop} {Q0 : jMu → Prop} {n h e start : Int} {t : Int → Int} {P : jP}
theorem HR.r9 (hr : HR μ n t h e) {i : Nat} {k x : Int} (hi : 87 ≤ i) : HR (j_up μ i k x) n t h e := hr.fr (Fr.up (by omega))
theorem sM_termToldL {P0 : jP} {a0 : Int} (ha0 : 0 ≤ a0 ∧ a0 < 88) (h00 : nC P0 = start) (hs0 : 0 ≤ start ∧ start ≤ 400) : ∀ (f m : Nat) (c p q : Int → Int) (h e : Int) (P : jP) (μ : jMu), nC P - start + f = 25 → nC P - start ≤ 24 → HR μ n t h e → Wds μ → TRf μ P → WB P → GT P0 P → SKR μ P m c p q → m ≤ 6 → Sk P start m c q 0 → (∀ g, aTerm n t start f m c p q h e P = .error g → ∀ μ1, Fr (Wtt a0) μ μ1 → Bd μ1 g → μ1 91 a0 = μ 91 a0 → Q0 μ1) → (∀ h' e' P', aTerm n t start f m c p q h e P = .ok (h', e', P') → ∀ μ1, Fr (Wtt a0) μ μ1 → HR μ1 n t h' e' → TRf μ1 P' → μ1 91 a0 = μ 91 a0 → μ1 92 a0 = nC P' - start → Q0 μ1) → K 121 E mM_termTold 27 [some (jvR 76), some (jvI a0), some (jvI start), some (jvI 1)] [] μ (fun v μ1 => v = none ∧ Q0 μ1)
  | 0, m, c, p, q, h, e, P, μ, g0, g1, hr, hwd, hT, hw, hg, hS, hm, hk, kf, kt => by omega
  | f + 1, m, c, p, q, h, e, P, μ, g0, g1, hr, hwd, hT, hw, hg, hS, hm, hk, kf, kt => by
    have hn := hw.1
    unfold WFn at hn
    have hst := hk.1
    have bad : ∀ (l3 : Int) (g : jF) (μ1 : jMu), aTerm n t start (f + 1) m c p q h e P = .error g → Fr Wr3 μ μ1 → Bd μ1 g → Lb μ1 → K 121 E mM_termTold 27 [some (jvR 76), some (jvI a0), some (jvI start), some (jvI l3)] [] μ1 (fun v μ1 => v = none ∧ Q0 μ1) := by
      intro l3 g μ1 hgf f1 b1 l1
      unfold Lb at l1
      refine vM_termTold_27 ⟨fun _ => ⟨by omega, rfl, kf g hgf _ ((f1.mono Wr3.tt).put (Or.inr ⟨Or.inr rfl, rfl⟩)) ⟨?_, ?_, b1.2.2⟩ ?_⟩, fun c => absurd (b1.1.symm.trans c) b1.2.2⟩
      · rw [up_ne (by decide)]; exact b1.1
      · rw [up_ne (by decide)]; exact b1.2.1
      · rw [up_ne (by decide), f1 91 a0 (by unfold Wr3 Wr2; omega)]
    have badI : ∀ (g : jF) (μ1 : jMu), aTerm n t start (f + 1) m c p q h e P = .error g → Fr Wr3 μ μ1 → Bd μ1 g → Lb μ1 → (((1 : Int) = 0 → (K 121 E mM_termTold 27 [some (jvR 76), some (jvI a0), some (jvI start), some (jvI 1)] [] μ1 (fun v μ1 => v = none ∧ Q0 μ1))) ∧ (¬ ((1 : Int) = 0) → (Ci E mM_goesOn [jvR 76] μ1 (fun r16 μ13 => ((r16 = 0 → (K 121 E mM_termTold 27 [some (jvR 76), some (jvI a0), some (jvI start), some (jvI 0)] [] μ13 (fun v μ1 => v = none ∧ Q0 μ1))) ∧ (¬ (r16 = 0) → (K 121 E mM_termTold 27 [some (jvR 76), some (jvI a0), some (jvI start), some (jvI 1)] [] μ13 (fun v μ1 => v = none ∧ Q0 μ1)))))))) := fun g μ1 hgf f1 b1 l1 => ⟨fun c => absurd c (by decide), fun _ => vM_goesOn_0 ⟨fun _ => ⟨_, rfl, fun _ => bad 0 g μ1 hgf f1 b1 l1, fun c => absurd rfl c⟩, fun c => absurd (b1.1.symm.trans c) b1.2.2⟩⟩
    refine vM_termTold_27 ⟨fun c => absurd hr.2.2.2.2 c, fun _ => ⟨fun c => absurd c (by decide), fun _ => ?_⟩⟩
    have hcs : ∀ i : Int, 0 ≤ i → i < m → 0 ≤ c i ∧ c i < nC P := fun i a b => by
      have := (hk.2.2.2.1 i a b).1
      omega
    refine sM_isEnded hr hwd hT hw hS hm hcs (by omega) (fun g hg' μ1 f1 b1 l1 => badI g μ1 (aTerm_e hg') f1 b1 l1) (fun w h1 e1 P1 hc hB h6 μ1 f1 b1 l1 => badI _ μ1 (by rw [aTerm_s hc, if_pos hB, if_pos h6]) f1 b1 l1) (fun w h1 e1 P1 hc hB h6 μ1 f1 x1 T1 S1 => ⟨fun _ => ?_, fun c => absurd rfl c⟩) (fun w h1 e1 P1 hc hB ho μ1 f1 b1 l1 => badI _ μ1 (by rw [aTerm_s hc, if_neg hB, if_pos ho]) f1 b1 l1) (fun w h1 e1 P1 hc hB ho μ1 f1 x1 T1 S1 => ⟨fun c => absurd c (by decide), fun _ => ?_⟩)
    · obtain ⟨a1, a2, PA, a3, a4, a5, a6, a7⟩ := aCell_ok hr.2.1 hw hc
      have et := aTerm_s (f := f) (m := m) (c := c) (p := p) (q := q) hc
      rw [if_pos hB, if_neg (by omega)] at et
      subst a6
      have hs2 := hk.mono a4 a5
      have hg2 := hg.tr a4
      have wa := WB_addC a3 (w := w) (by omega)
      have eC := addC_C (P := PA) (w := w)
      have hnG := a3.1.2.2.1.2
      rw [show nC (addC PA w) - 1 = nC PA by omega] at et S1
      exact sM_termToldL ha0 h00 hs0 f (m + 1) _ _ _ _ _ _ μ1 (by omega) (by omega) x1 (hwd.r3 f1) T1 wa.1 (hg2.tr wa.2) S1 (by omega) (Sk_push hs2 (by omega)) (fun g hgf μ4 f4 b4 v4 => kf g (by rw [et]; exact hgf) μ4 ((f1.mono Wr3.tt).tr f4) b4 (by rw [v4, f1 91 a0 (by unfold Wr3 Wr2; omega)])) (fun h3 e3 P3 hok3 μ4 f4 x4 T4 v4 u4 => kt h3 e3 P3 (by rw [et]; exact hok3) μ4 ((f1.mono Wr3.tt).tr f4) x4 T4 (by rw [v4, f1 91 a0 (by unfold Wr3 Wr2; omega)]) u4)
    · obtain ⟨a1, a2, PA, a3, a4, a5, a6, a7⟩ := aCell_ok hr.2.1 hw hc
      have et := aTerm_s (f := f) (m := m) (c := c) (p := p) (q := q) hc
      rw [if_neg hB, if_neg ho] at et
      subst a6
      have hs2 := hk.mono a4 a5
      have hg2 := hg.tr a4
      have wa := WB_addC a3 (w := w) (by omega)
      have eC := addC_C (P := PA) (w := w)
      have hnG := a3.1.2.2.1.2
      have e1C : nC (addC PA w) - 1 = nC PA := by omega
      rw [e1C] at et T1 S1 ho
      have hsk := Sk_cell a3 hs2 a7 (fun hw => by
        cases hx : endO (addC PA w) (nC PA) 0 with
        | true => rfl
        | false => exact absurd ⟨hw, hx⟩ ho)
      have wb : WB (if w < 100 then endP (addC PA w) (nC PA) 0 else addC PA w) ∧ GT P0 (if w < 100 then endP (addC PA w) (nC PA) 0 else addC PA w) ∧ nC (if w < 100 then endP (addC PA w) (nC PA) 0 else addC PA w) = nC PA + 1 := by
        split
        · exact ⟨WB_endP wa.1 (by omega), GT_endP (hg2.tr wa.2) (by omega), (endP_n (by decide) (by decide)).trans addC_C⟩
        · exact ⟨wa.1, hg2.tr wa.2, addC_C⟩
      refine sM_goesOn (Q := fun r16 μ13 => (r16 = 0 → (K 121 E mM_termTold 27 [some (jvR 76), some (jvI a0), some (jvI start), some (jvI 0)] [] μ13 (fun v μ1 => v = none ∧ Q0 μ1))) ∧ (¬ (r16 = 0) → (K 121 E mM_termTold 27 [some (jvR 76), some (jvI a0), some (jvI start), some (jvI 1)] [] μ13 (fun v μ1 => v = none ∧ Q0 μ1)))) h00 m q h1 e1 _ μ1 x1 T1 wb.1 wb.2.1 S1 hm hsk (fun g hgf μ3 f3 b3 l3 => ⟨fun _ => bad 0 g μ3 (by rw [et, hgf]) (f1.tr f3) b3 l3, fun c => absurd rfl c⟩) (fun m' q' h2 e2 P2 hok μ3 f3 x3 T3 S3 => ?_)
      rw [hok] at et
      have et : aTerm n t start (f + 1) m c p q h e P = if m' = 0 then .ok (h2, e2, P2) else aTerm n t start f m' c p q' h2 e2 P2 := et
      obtain ⟨b1, b2, b3, b4, b5, b6⟩ := aClose_ok h00 _ _ _ _ _ _ _ _ _ _ a1 wb.1 wb.2.1 hsk hok
      have f3' : Fr Wr3 μ μ3 := f1.tr f3
      by_cases hm0 : m' = 0
      · rw [if_pos hm0] at et
        rw [if_pos hm0]
        have hn2 := b2.1.2.2.2.2.2
        refine ⟨fun _ => vM_termTold_27 ⟨fun c => absurd x3.2.2.2.2 c, fun _ => ⟨fun _ => ?_, fun c => absurd rfl c⟩⟩, fun c => absurd rfl c⟩
        rw [T3.1.2.2]
        refine ⟨by omega, rfl, kt _ _ _ et _ ((f3'.mono Wr3.tt).put (Or.inr ⟨Or.inr rfl, rfl⟩)) (x3.r9 (by decide)) (T3.fr (Fr.up (by omega))) ?_ up_eq⟩
        rw [up_ne (by decide), f3' 91 a0 (by unfold Wr3 Wr2; omega)]
      · rw [if_neg hm0] at et
        rw [if_neg hm0]
        have hs6 : Sk P2 start m' c q' 0 := by
          rcases b6 with b6 | b6
          · omega
          · exact b6.2
        refine ⟨fun c => absurd c (by decide), fun _ => ?_⟩
        exact sM_termToldL ha0 h00 hs0 f m' c p q' h2 e2 P2 μ3 (by omega) (by omega) x3 (hwd.r3 f3') T3 b2 b3 S3 (by omega) hs6 (fun g hgf μ4 f4 b4 v4 => kf g (by rw [et]; exact hgf) μ4 ((f3'.mono Wr3.tt).tr f4) b4 (by rw [v4, f3' 91 a0 (by unfold Wr3 Wr2; omega)])) (fun h3 e3 P3 hok3 μ4 f4 x4 T4 v4 u4 => kt h3 e3 P3 (by rw [et]; exact hok3) μ4 ((f3'.mono Wr3.tt).tr f4) x4 T4 (by rw [v4, f3' 91 a0 (by unfold Wr3 Wr2; omega)]) u4)
theorem sM_termTold (hr : HR μ n t h e) (hwd : Wds μ) (hT : TRf μ P) (hw : WB P) (ha : AllC P) {a0 : Int} (ha0 : 0 ≤ a0 ∧ a0 < 88) (kf : ∀ g, aT n t h e P = .error g → ∀ μ1, Fr (Wtt a0) μ μ1 → Bd μ1 g → μ1 91 a0 = nC P → Q0 μ1) (kt : ∀ h' e' P', aT n t h e P = .ok (h', e', P') → ∀ μ1, Fr (Wtt a0) μ μ1 → HR μ1 n t h' e' → TRf μ1 P' → μ1 91 a0 = nC P → μ1 92 a0 = nC P' - nC P → Q0 μ1) : Cv E mM_termTold [jvR 76, jvI a0] μ Q0 := by
  have hn := hw.1.2.2.2.2.2
  refine vM_termTold_0 ⟨fun _ => ⟨by omega, ?_⟩, fun c => absurd hr.2.2.2.2 c⟩
  rw [hT.1.2.2]
  have f0 : Fr (Wtt a0) μ (j_up (j_up μ 91 a0 (nC P)) 76 38 0) := (Fr.up (Or.inr ⟨Or.inl rfl, rfl⟩)).put (Or.inl (Or.inr (Or.inl ⟨rfl, rfl⟩)))
  have e91 : (j_up (j_up μ 91 a0 (nC P)) 76 38 0) 91 a0 = nC P := by rw [up_ne (by decide), up_eq]
  exact sM_termToldL ha0 rfl hn 25 0 (fun _ => 0) (fun _ => 0) (fun _ => 0) h e P _ (by omega) (by omega) (hr.fr ((Fr.up (by omega)).put (by omega))) (hwd.fr ((Fr.up (by omega)).put (by omega))) (hT.fr ((Fr.up (by omega)).put (by omega))) hw GT.rf ⟨up_eq, fun i a b => by omega⟩ (by omega) (Sk_0 hw ha) (fun g hgf μ1 f1 b1 v1 => kf g hgf μ1 (f0.tr f1) b1 (by rw [v1, e91])) (fun h' e' P' hok μ1 f1 x1 T1 v1 u1 => kt h' e' P' hok μ1 (f0.tr f1) x1 T1 (by rw [v1, e91]) u1)
theorem sM_termTold_b (hb : μ 76 5 ≠ 0) {a0 : Int} (k : Q0 μ) : Cv E mM_termTold [jvR 76, jvI a0] μ Q0 := vM_termTold_0 ⟨fun c => absurd c hb, fun _ => ⟨rfl, k⟩⟩
end
