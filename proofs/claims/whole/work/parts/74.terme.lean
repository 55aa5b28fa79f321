/-! the class reads a term -/
section
variable {E : jE} {μ μ1 : jMu} {Q : Int → jMu → Prop} {Q0 : jMu → Prop} {n h e start : Int} {t : Int → Int} {P : jP} {b : Nat}
theorem aTerm_s {f m : Nat} {c p q : Int → Int} {w h1 e1 : Int} {P1 : jP} (hc : aCell n t start h e P = .ok (w, h1, e1, P1)) : aTerm n t start (f + 1) m c p q h e P = if w < 100 ∧ isM n t h1 40 = true then (if 6 ≤ m then .error (4, h1) else aTerm n t start f (m + 1) (hup c m (nC P1 - 1)) (hup p m (hAt n t h)) (hup q m 1) (sk n t (h1 + 1)) e1 P1) else if w < 100 ∧ endO P1 (nC P1 - 1) 0 = false then .error (3, hAt n t h) else
      match aClose n t c p m q h1 e1 (if w < 100 then endP P1 (nC P1 - 1) 0 else P1) with
      | .error g => .error g
      | .ok (m', q', h2, e2, P2) => if m' = 0 then .ok (h2, e2, P2) else aTerm n t start f m' c p q' h2 e2 P2 := by
  conv => lhs; unfold aTerm
  rw [hc]
  dsimp only
  generalize aClose n t c p m q h1 e1 (if w < 100 then endP P1 (nC P1 - 1) 0 else P1) = z
  cases z with
  | error g => rfl
  | ok v => obtain ⟨v1, v2, v3, v4, v5⟩ := v; rfl
theorem aTerm_e {f m : Nat} {c p q : Int → Int} {g : jF} (hc : aCell n t start h e P = .error g) : aTerm n t start (f + 1) m c p q h e P = .error g := by
  unfold aTerm
  rw [hc]
theorem sPa_readTermL (hb : isB b) {P0 : jP} (h00 : nC P0 = start) (hs0 : 0 ≤ start) : ∀ (f m : Nat) (c p q : Int → Int) (h e : Int) (P : jP) (μ : jMu) (l2 : Int), l2 + f = 25 → nC P - start = l2 → HC μ n t h e → PL b μ → TCl b μ P → WB P → GT P0 P → SKC μ m c p q → m ≤ 6 → Sk P start m c q 0 → (∀ g, aTerm n t start f m c p q h e P = .error g → ∀ μ1, Fr (Wtm b) μ μ1 → Flt μ1 g → Q (-1) μ1) → (∀ h' e' P', aTerm n t start f m c p q h e P = .ok (h', e', P') → ∀ μ1, Fr (Wtm b) μ μ1 → HC μ1 n t h' e' → TCl b μ1 P' → Q start μ1) → l2 ≤ 24 → K 121 E mPa_readTerm 18 [some (jvR 3), some (jvI start), some (jvI l2), none, none, none] [] μ (fun v μ1 => ∃ r, v = some (jvI r) ∧ Q r μ1)
  | 0, m, c, p, q, h, e, P, μ, l2, g0, g1, hc, hL, hT, hw, hg, hS, hm, hk, kf, kt, hl => by omega
  | f + 1, m, c, p, q, h, e, P, μ, l2, g0, g1, hc, hL, hT, hw, hg, hS, hm, hk, kf, kt, hl => by
    have hB := isB_7 hb
    refine vPa_readTerm_18 ⟨fun c1 => by omega, fun c1 => ?_⟩
    refine sPa_readCell hb hc hL hT hw (by have := hk.1; omega) (fun g hgf μ1 f1 l1 => ⟨fun c => absurd rfl c, fun _ => ⟨_, rfl, kf g (aTerm_e hgf) μ1 (f1.mono Wcl.tm) l1⟩⟩) (fun w h1 e1 P1 hcell μ1 f1 x1 T1 p1 => ?_)
    obtain ⟨a1, a2, PA, a3, a4, a5, a6, a7⟩ := aCell_ok hc.hd hw hcell
    have et := aTerm_s (f := f) (m := m) (c := c) (p := p) (q := q) hcell
    subst a6
    have hs2 := hk.mono a4 a5
    have hg2 := hg.tr a4
    have wa := WB_addC a3 (w := w) (by omega)
    have eC := addC_C (P := PA) (w := w)
    have hnG := a3.1.2.2.1.2
    rw [show nC (addC PA w) - 1 = nC PA by omega] at et
    have f1' : Fr (Wtm b) μ μ1 := f1.mono Wcl.tm
    have L1 := hL.frB hb f1'
    have S1 : SKC μ1 m c p q := hS.fr (f1.mono (fun i k hh => by unfold Wcl at hh; omega))
    have goon : ∀ (a0 : Int) (μ2 : jMu), ¬ (w < 100 ∧ isM n t h1 40 = true) → ¬ (w < 100 ∧ endO (addC PA w) (nC PA) 0 = false) → Fr (Wtm b) μ μ2 → HC μ2 n t h1 e1 → PL b μ2 → TCl b μ2 (if w < 100 then endP (addC PA w) (nC PA) 0 else addC PA w) → SKC μ2 m c p q → K 121 E mPa_closeBrackets 47 [some (jvR 3), some (jvI a0), some (jvI (m - 1))] [] μ2 (fun v μ1 => ∃ r, v = some (jvI r) ∧ ((¬ r = 0 → ((¬ (μ1 3 3) = 0 → (-2147483648 ≤ (l2 + 1) ∧ (l2 + 1) < 2147483648) ∧ (K 121 E mPa_readTerm 18 [some (jvR 3), some (jvI start), some (jvI (l2 + 1)), none, none, none] [] μ1 (fun v μ1 => ∃ r, v = some (jvI r) ∧ Q r μ1))) ∧ ((μ1 3 3) = 0 → ∃ r, some (jvI start) = some (jvI r) ∧ Q r μ1))) ∧ (r = 0 → ∃ r, some (jvI (-1)) = some (jvI r) ∧ Q r μ1))) := by
      intro a0 μ2 hn1 hn2 f2 x2 L2 T2 S2
      rw [if_neg hn1, if_neg hn2] at et
      have hsk := Sk_cell a3 hs2 a7 (fun hw => by
        cases hx : endO (addC PA w) (nC PA) 0 with
        | true => rfl
        | false => exact absurd ⟨hw, hx⟩ hn2)
      have hst := hs2.1
      have wb : WB (if w < 100 then endP (addC PA w) (nC PA) 0 else addC PA w) ∧ GT P0 (if w < 100 then endP (addC PA w) (nC PA) 0 else addC PA w) ∧ nC (if w < 100 then endP (addC PA w) (nC PA) 0 else addC PA w) = nC PA + 1 := by
        split
        · exact ⟨WB_endP wa.1 (by omega), GT_endP (hg2.tr wa.2) (by omega), (endP_n (by decide) (by decide)).trans addC_C⟩
        · exact ⟨wa.1, hg2.tr wa.2, addC_C⟩
      refine sPa_closeUp (Q := fun r μ1 => (¬ r = 0 → ((¬ (μ1 3 3) = 0 → (-2147483648 ≤ (l2 + 1) ∧ (l2 + 1) < 2147483648) ∧ (K 121 E mPa_readTerm 18 [some (jvR 3), some (jvI start), some (jvI (l2 + 1)), none, none, none] [] μ1 (fun v μ1 => ∃ r, v = some (jvI r) ∧ Q r μ1))) ∧ ((μ1 3 3) = 0 → ∃ r, some (jvI start) = some (jvI r) ∧ Q r μ1))) ∧ (r = 0 → ∃ r, some (jvI (-1)) = some (jvI r) ∧ Q r μ1)) hb h00 m q h1 e1 _ μ2 x2 L2 T2 wb.1 wb.2.1 S2 hm hsk (fun g hgf μ3 f3 l3 => ⟨fun c => absurd rfl c, fun _ => ⟨_, rfl, kf g (by rw [et, hgf]) μ3 (f2.tr f3) l3⟩⟩) (fun m' q' h2 e2 P2 hok μ3 f3 x3 T3 S3 => ⟨fun _ => ?_, fun c => absurd c (by decide)⟩)
      rw [hok] at et
      have et : aTerm n t start (f + 1) m c p q h e P = if m' = 0 then .ok (h2, e2, P2) else aTerm n t start f m' c p q' h2 e2 P2 := et
      obtain ⟨b1, b2, b3, b4, b5, b6⟩ := aClose_ok h00 _ _ _ _ _ _ _ _ _ _ a1 wb.1 wb.2.1 hsk hok
      rw [S3.1]
      refine ⟨fun c2 => ⟨by omega, ?_⟩, fun c2 => ⟨_, rfl, ?_⟩⟩
      · rw [if_neg (by omega)] at et
        have hs6 : Sk P2 start m' c q' 0 := by
          rcases b6 with b6 | b6
          · omega
          · exact b6.2
        exact sPa_readTermL hb h00 hs0 f m' c p q' h2 e2 P2 μ3 (l2 + 1) (by omega) (by omega) x3 (L2.frB hb f3) T3 b2 b3 S3 (by omega) hs6 (fun g hgf μ4 f4 l4 => kf g (by rw [et]; exact hgf) μ4 ((f2.tr f3).tr f4) l4) (fun h3 e3 P3 hok3 μ4 f4 x4 T4 => kt h3 e3 P3 (by rw [et]; exact hok3) μ4 ((f2.tr f3).tr f4) x4 T4) (by omega)
      · rw [if_pos (by omega)] at et
        exact kt _ _ _ et μ3 (f2.tr f3) x3 T3
    have hw1 : w ≠ -1 := by omega
    have hst0 := hk.1
    have hnm : nC (addC PA w) ≤ 400 := wa.1.1.2.2.2.2.2.2
    have h0A : 0 ≤ nC PA := a3.1.2.2.2.2.2.1
    refine ⟨fun _ => ⟨fun c2 => ?_, fun c2 => ⟨L1.1, sTa_isMark x1 (by decide) (by decide) ⟨fun c3 => ?_, fun c3 => ?_⟩⟩⟩, fun cz => absurd cz hw1⟩
    · have T1' : TCl b μ1 (if w < 100 then endP (addC PA w) (nC PA) 0 else addC PA w) := by rw [if_neg (by omega)]; exact T1
      refine vPa_closeBrackets_0 hb ⟨fun _ => ?_, fun c => absurd rfl c⟩
      rw [S1.1]
      exact ⟨by omega, goon 0 μ1 (by omega) (by omega) f1' x1 L1 T1' S1⟩
    · have hM := b2i_b0 c3
      refine vPa_closeBrackets_0 hb ⟨fun c => absurd c (by decide), fun _ => ?_⟩
      rw [T1.1.2.2, show nC (addC PA w) - 1 = nC PA by omega]
      have esy : sy (addC PA w) (nC PA) = w := by rw [addC_s, if_pos rfl]
      have eG : nG (addC PA w) = nG PA := addC_n (by decide)
      refine ⟨⟨L1.2, L1.2, by omega⟩, sTe_endParts hb T1 hnm (by omega) h0A (by omega) (by rw [esy, eG]; omega) (fun μ2 f2 T2 => ?_)⟩
      have f2' : Fr (Wtm b) μ μ2 := f1'.tr (f2.mono (fun i k hh => by unfold Wbk at hh; unfold Wtm; omega))
      have S2 : SKC μ2 m c p q := S1.fr (f2.mono (fun i k hh => by unfold Wbk at hh; omega))
      rw [S2.1]
      refine ⟨fun c4 => ⟨by omega, ?_⟩, fun c4 => ?_⟩
      · refine goon 1 μ2 (fun hx => by rw [hM] at hx; cases hx.2) (fun hx => by rw [b2i_b c4] at hx; cases hx.2) f2' (x1.frB hb (f2.mono (fun i k hh => by unfold Wbk at hh; omega))) (hL.frB hb f2') ?_ S2
        rw [if_pos (by omega)]; exact T2
      · rw [if_neg (fun hx => by rw [hM] at hx; cases hx.2), if_pos ⟨by omega, b2i_b0 c4⟩] at et
        rw [show μ2 3 7 = hAt n t h by rw [f2 3 7 (by unfold Wbk; omega)]; exact p1]
        exact sPa_refuse (fun μ3 f3 l3 => ⟨Or.inl rfl, _, rfl, fun c => absurd rfl c, fun _ => ⟨_, rfl, kf _ et μ3 (f2'.tr (f3.mono (fun i k hh => by unfold Wtm; omega))) l3⟩⟩)
    · have hM := b2i_b c3
      rw [if_pos ⟨by omega, hM⟩] at et
      refine sPa_openBracket hb x1 L1 T1 wa.1 S1 hm hM (fun h6 μ2 f2 l2' => ⟨fun c => absurd rfl c, fun _ => ⟨_, rfl, kf _ (by rw [et, if_pos (by omega)]) μ2 (f1'.tr f2) l2'⟩⟩) (fun h6 μ2 f2 x2 T2 S2 => ⟨fun _ => ?_, fun c => absurd c (by decide)⟩)
      rw [if_neg (by omega)] at et
      rw [p1, show nC (addC PA w) - 1 = nC PA by omega] at S2
      rw [S2.1]
      refine ⟨fun _ => ⟨by omega, ?_⟩, fun c => by omega⟩
      exact sPa_readTermL hb h00 hs0 f (m + 1) _ _ _ _ _ _ μ2 (l2 + 1) (by omega) (by omega) x2 (L1.frB hb f2) T2 wa.1 (hg2.tr wa.2) S2 (by omega) (Sk_push hs2 (by omega)) (fun g hgf μ4 f4 l4 => kf g (by rw [et]; exact hgf) μ4 ((f1'.tr f2).tr f4) l4) (fun h3 e3 P3 hok3 μ4 f4 x4 T4 => kt h3 e3 P3 (by rw [et]; exact hok3) μ4 ((f1'.tr f2).tr f4) x4 T4) (by omega)
theorem sPa_readTerm (hb : isB b) (hc : HC μ n t h e) (hL : PL b μ) (hT : TCl b μ P) (hw : WB P) (ha : AllC P) (kf : ∀ g, aT n t h e P = .error g → ∀ μ1, Fr (Wtm b) μ μ1 → Flt μ1 g → Q (-1) μ1) (kt : ∀ h' e' P', aT n t h e P = .ok (h', e', P') → ∀ μ1, Fr (Wtm b) μ μ1 → HC μ1 n t h' e' → TCl b μ1 P' → Q (nC P) μ1) : Ci E mPa_readTerm [jvR 3] μ Q := by
  have hB := isB_7 hb
  have hn := hw.1.2.2.2.2.2
  refine vPa_readTerm_0 hb ⟨hL.2, ?_⟩
  rw [hT.1.2.2]
  have f0 : Fr (Wtm b) μ (j_up μ 3 3 0) := Fr.up (Or.inr (Or.inl ⟨rfl, Or.inl rfl⟩))
  exact sPa_readTermL hb rfl hn.1 25 0 (fun _ => 0) (fun _ => 0) (fun _ => 0) h e P (j_up μ 3 3 0) 0 (by omega) (by omega) (hc.frB hb (Fr.up (Or.inl ⟨rfl, Or.inl rfl⟩))) (hL.frB hb f0) (hT.fr (Fr.up (by omega))) hw GT.rf ⟨up_eq, fun i a b => by omega⟩ (by omega) (Sk_0 hw ha) (fun g hgf μ1 f1 l1 => kf g hgf μ1 (f0.tr f1) l1) (fun h' e' P' hok μ1 f1 x1 T1 => kt h' e' P' hok μ1 (f0.tr f1) x1 T1) (by omega)
end
