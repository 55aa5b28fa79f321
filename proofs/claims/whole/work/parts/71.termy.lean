/-! terms: a read term is whole -/
theorem WB_addC {P : jP} (h : WB P) {w : Int} (hC : nC P < 400) : WB (addC P w) ∧ GT P (addC P w) := by
  obtain ⟨⟨n1, n2, n3, n4, n5, n6⟩, wk, wa⟩ := h
  have eC := addC_C (P := P) (w := w)
  have e : ∀ k, k ≠ 6 → addC P w 0 k = P 0 k := fun k hk => addC_n hk
  have e0 : nR (addC P w) = nR P := e 0 (by decide)
  have e1 : nD (addC P w) = nD P := e 1 (by decide)
  have e2 : nG (addC P w) = nG P := e 2 (by decide)
  have e3 : nH (addC P w) = nH P := e 3 (by decide)
  have e4 : nS (addC P w) = nS P := e 4 (by decide)
  have ek : ∀ kd i, nk (addC P w) kd i = nk P kd i := fun kd i => addC_o (by decide) (by decide) (by decide)
  have ea : ∀ g, ar (addC P w) g = ar P g := fun g => addC_o (by decide) (by decide) (by decide)
  refine ⟨⟨⟨by omega, by omega, by omega, by omega, by omega, by omega⟩, fun kd i a1 a2 a3 a4 => ?_, fun g a b => ?_⟩, fun i k x0 x4 x5 x6 x11 => addC_o x0 x4 x5, fun k x2 x3 x6 => e k x6, by omega, fun x hx => ⟨by rw [addC_s, if_neg (by omega)], by rw [addC_b, if_neg (by omega)]⟩, fun kd i _ _ _ _ => ek kd i, fun g _ _ _ => ea g⟩
  · rw [ek]
    refine wk kd i a1 a2 a3 ?_
    have : nN (addC P w) kd = nN P kd := e kd (by omega)
    omega
  · rw [ea]; exact wa g a (by omega)
theorem WB_endP {P : jP} (h : WB P) {a q : Int} (hq : 0 ≤ q ∧ q ≤ 3) : WB (endP P a q) := by
  obtain ⟨⟨n1, n2, n3, n4, n5, n6⟩, wk, wa⟩ := h
  have e : ∀ k, endP P a q 0 k = P 0 k := fun k => endP_n (by decide) (by decide)
  have e0 : nR (endP P a q) = nR P := e 0
  have e1 : nD (endP P a q) = nD P := e 1
  have e2 : nG (endP P a q) = nG P := e 2
  have e3 : nH (endP P a q) = nH P := e 3
  have e4 : nS (endP P a q) = nS P := e 4
  have e6 : nC (endP P a q) = nC P := e 6
  have ek : ∀ kd i, nk (endP P a q) kd i = nk P kd i := fun kd i => endP_n (by decide) (by decide)
  refine ⟨⟨by omega, by omega, by omega, by omega, by omega, by omega⟩, fun kd i a1 a2 a3 a4 => ?_, fun g a b => ?_⟩
  · rw [ek]
    refine wk kd i a1 a2 a3 ?_
    have : nN (endP P a q) kd = nN P kd := e kd
    omega
  · rw [endP_a]
    split
    · omega
    · exact wa g a (by omega)
theorem GT_endP {P0 P : jP} (h : GT P0 P) {a q : Int} (ha : nC P0 ≤ a) : GT P0 (endP P a q) := by
  obtain ⟨a1, a2, a3, a4, a5, a6⟩ := h
  have e : ∀ k, endP P a q 0 k = P 0 k := fun k => endP_n (by decide) (by decide)
  have e2 : nG (endP P a q) = nG P := e 2
  have e3 : nH (endP P a q) = nH P := e 3
  have e6 : nC (endP P a q) = nC P := e 6
  refine ⟨fun i k x0 x4 x5 x6 x11 => (endP_n x5 x6).trans (a1 i k x0 x4 x5 x6 x11), fun k x2 x3 x6 => (e k).trans (a2 k x2 x3 x6), by omega, fun x hx => ⟨(show sy (endP P a q) x = sy P x from endP_n (by decide) (by decide)).trans (a4 x hx).1, by rw [endP_b, if_neg (by omega)]; exact (a4 x hx).2⟩, fun kd i x1 x2 x3 x4 => (show nk (endP P a q) kd i = nk P kd i from endP_n (by decide) (by decide)).trans (a5 kd i x1 x2 x3 x4), fun g x1 x2 x3 => ?_⟩
  have := a6 g x1 x2 x3
  rw [endP_old (by omega)]; exact this
theorem fnd_c {P : jP} {kd c : Int} : (fnd P kd c = -1 ∧ ∀ i, 0 ≤ i → i < nN P kd → nk P kd i ≠ c) ∨ (0 ≤ fnd P kd c ∧ fnd P kd c < nN P kd ∧ nk P kd (fnd P kd c) = c ∧ ∀ i, 0 ≤ i → i < fnd P kd c → nk P kd i ≠ c) := by
  rcases ff_cases (fun i => nk P kd i == c) (nN P kd) with ⟨g1, g2⟩ | ⟨g1, g2, g3, g4⟩
  · exact Or.inl ⟨g1, fun i a b => beq_eq_false_iff_ne.mp (g2 i a b)⟩
  · exact Or.inr ⟨g1, g2, beq_iff_eq.mp g3, fun i a b => beq_eq_false_iff_ne.mp (g4 i a b)⟩
theorem kd_c (b : Bool) : (kdOf b = 2 ∧ hOf b = 0 ∧ b = false) ∨ (kdOf b = 3 ∧ hOf b = 100 ∧ b = true) := by
  cases b
  · exact Or.inl ⟨rfl, rfl, rfl⟩
  · exact Or.inr ⟨rfl, rfl, rfl⟩
theorem hAt_hd {n : Int} {t : Int → Int} {h e : Int} (hh : Hd n t h e) : Hd n t (hAt n t h) e ∧ h ≤ hAt n t h := by
  unfold hAt
  have h1 := hh.1
  split
  · rename_i hm
    have hm := of_decide_eq_true hm
    have := sk_hd (n := n) (t := t) (a := h + 1) (e := e) (by omega) (by omega) (by omega) (by omega)
    exact ⟨this.1, by omega⟩
  · exact ⟨hh, by omega⟩
/-- a known name: its number and what is known then -/
theorem kno_ok {P : jP} (h : WB P) {kd c : Int} (hk : kd = 2 ∨ kd = 3) (hc : okN c) (hf : ¬ (fnd P kd c = -1 ∧ nN P kd = rm kd)) : WB (knoP P kd c) ∧ GT P (knoP P kd c) ∧ nC (knoP P kd c) = nC P ∧ (0 ≤ knoV P kd c ∧ knoV P kd c < nN (knoP P kd c) kd) := by
  unfold knoP knoV
  rcases fnd_c (P := P) (kd := kd) (c := c) with ⟨g1, g2⟩ | ⟨g1, g2, g3, g4⟩
  · rw [if_pos g1, if_pos g1]
    obtain ⟨a1, a2, a3, a4, a5⟩ := WB_addN h hk (fun hh => hf ⟨g1, hh⟩) hc
    have : 0 ≤ nN P kd := by
      have := h.1
      unfold WFn at this
      rcases hk with rfl | rfl
      · show 0 ≤ nG P; omega
      · show 0 ≤ nH P; omega
    exact ⟨a1, a2, a3, by omega⟩
  · rw [if_neg (by omega), if_neg (by omega)]
    exact ⟨h, GT.rf, rfl, by omega⟩
theorem aCell_ok {n : Int} {t : Int → Int} {start h e w h1 e1 : Int} {P P1 : jP} (hh : Hd n t h e) (hb : WB P) (ha : aCell n t start h e P = .ok (w, h1, e1, P1)) : Hd n t h1 e1 ∧ (nC P - start < 24 ∧ nC P < 400) ∧ ∃ P0, WB P0 ∧ GT P P0 ∧ nC P0 = nC P ∧ P1 = addC P0 w ∧ ((0 ≤ w ∧ w < nG P0) ∨ (100 ≤ w ∧ w < 100 + nH P0)) := by
  unfold aCell at ha
  have hd := (hAt_hd hh).1
  split at ha
  · cases ha
  · rename_i c h2 e2 hn
    have nk := aName_ok hd hn
    split at ha
    · cases ha
    · rename_i hc
      have hko := kd_c (isM n t h 63)
      have hkd : kdOf (isM n t h 63) = 2 ∨ kdOf (isM n t h 63) = 3 := by
        rcases hko with hko | hko
        · exact Or.inl hko.1
        · exact Or.inr hko.1
      obtain ⟨k1, k2, k3, k4⟩ := kno_ok (P := P) (kd := kdOf (isM n t h 63)) (c := c) hb hkd nk.2.2.1 (fun hx => hc (Or.inr (Or.inr hx)))
      cases ha
      refine ⟨nk.1, by omega, _, k1, k2, k3, rfl, ?_⟩
      rcases hko with ⟨q1, q2, q3⟩ | ⟨q1, q2, q3⟩
      · left
        rw [q1] at k4
        rw [q1, q2]
        have : nN (knoP P 2 c) 2 = nG (knoP P 2 c) := rfl
        omega
      · right
        rw [q1] at k4
        rw [q1, q2]
        have : nN (knoP P 3 c) 3 = nH (knoP P 3 c) := rfl
        omega
theorem aClose_ok {n : Int} {t c p : Int → Int} {start : Int} {P0 : jP} (h00 : nC P0 = start) : ∀ (m : Nat) (q : Int → Int) (h e : Int) (P : jP) (m' : Nat) (q' : Int → Int) (h' e' : Int) (P' : jP), Hd n t h e → WB P → GT P0 P → Sk P start m c q 1 → aClose n t c p m q h e P = .ok (m', q', h', e', P') → Hd n t h' e' ∧ WB P' ∧ GT P0 P' ∧ nC P' = nC P ∧ m' ≤ m ∧ ((m' = 0 ∧ Sk P' start 0 c q' 1) ∨ (0 < m' ∧ Sk P' start m' c q' 0))
  | 0, q, h, e, P, m', q', h', e', P', hh, hb, hg, hs, ha => by
    cases ha
    exact ⟨hh, hb, hg, rfl, by omega, Or.inl ⟨rfl, hs⟩⟩
  | m + 1, q, h, e, P, m', q', h', e', P', hh, hb, hg, hs, ha => by
    unfold aClose at ha
    split at ha
    · rename_i hc
      have hm := of_decide_eq_true hc.2
      have h1 := hh.1
      cases ha
      exact ⟨(sk_hd (by omega) (by omega) (by omega) (by omega)).1, hb, hg, rfl, by omega, Or.inr ⟨by omega, Sk_comma hs hc.1⟩⟩
    · split at ha
      · cases ha
      · rename_i h2 e2 hm
        split at ha
        · rename_i ho
          have hmk := aMark_ok hh hm
          have hop := hs.2.2.2.1 m (by omega) (by omega)
          have r := aClose_ok h00 m q h2 e2 _ m' q' h' e' P' hmk.1 (WB_endP hb (by omega)) (GT_endP hg (by omega)) (Sk_close hs hb.1.2.2.1.2 ho) ha
          have eC : nC (endP P (c m) (q m)) = nC P := endP_n (by decide) (by decide)
          rw [eC] at r
          exact ⟨r.1, r.2.1, r.2.2.1, r.2.2.2.1, by omega, r.2.2.2.2.2⟩
        · cases ha
theorem Cmp_leafs {P : jP} {w : Int} (hb : WB P) (hw : 0 ≤ w ∧ w < nG P) (ho : endO (addC P w) (nC P) 0 = true) : Cmp (endP (addC P w) (nC P) 0) (nC P) := by
  have hn := hb.1.2.2.1.2
  have es : sy (endP (addC P w) (nC P) 0) (nC P) = w := by
    rw [show sy (endP (addC P w) (nC P) 0) (nC P) = sy (addC P w) (nC P) from endP_n (by decide) (by decide), addC_s, if_pos rfl]
  have ea := endP_ok ho
  rw [show sy (addC P w) (nC P) = w by rw [addC_s, if_pos rfl]] at ea
  refine ⟨fun g => ?_, fun g => by rw [es] at g; omega⟩
  rw [es, ea]
  have eG : nG (endP (addC P w) (nC P) 0) = nG P := (endP_n (by decide) (by decide)).trans (addC_n (by decide))
  refine ⟨by omega, by omega, ?_⟩
  show nC P + 1 = bh (endP (addC P w) (nC P) 0) (nC P)
  rw [endP_b, if_pos rfl, addC_C]
theorem Sk_cell {P : jP} {start w : Int} {m : Nat} {c q : Int → Int} (hb : WB P) (hs : Sk P start m c q 0) (hw : (0 ≤ w ∧ w < nG P) ∨ (100 ≤ w ∧ w < 100 + nH P)) (ho : w < 100 → endO (addC P w) (nC P) 0 = true) : Sk (if w < 100 then endP (addC P w) (nC P) 0 else addC P w) start m c q 1 := by
  have hn := hb.1.2.2.1.2
  by_cases h1 : w < 100
  · rw [if_pos h1]
    have hw' : 0 ≤ w ∧ w < nG P := by omega
    refine Sk_leaf hs ?_ ?_ ?_ (fun x hx => ?_) (fun x hx => ?_) ?_ (fun g hg => ?_) (Cmp_leafs hb hw' (ho h1))
    · exact (endP_n (by decide) (by decide)).trans addC_C
    · exact (endP_n (by decide) (by decide)).trans (addC_n (by decide))
    · exact (endP_n (by decide) (by decide)).trans (addC_n (by decide))
    · rw [show sy (endP (addC P w) (nC P) 0) x = sy (addC P w) x from endP_n (by decide) (by decide), addC_s, if_neg (by omega)]
    · rw [endP_b, if_neg (by omega), addC_b, if_neg (by omega)]
    · rw [endP_b, if_pos rfl, addC_C]
    · have : ar (addC P w) g = ar P g := addC_o (by decide) (by decide) (by decide)
      rw [endP_old (by omega)]; exact this
  · rw [if_neg h1]
    refine Sk_leaf hs addC_C (addC_n (by decide)) (addC_n (by decide)) (fun x hx => by rw [addC_s, if_neg (by omega)]) (fun x hx => by rw [addC_b, if_neg (by omega)]) (by rw [addC_b, if_pos rfl]) (fun g _ => addC_o (by decide) (by decide) (by decide)) ⟨fun g => ?_, fun g => ?_⟩
    · rw [addC_s, if_pos rfl] at g; omega
    · rw [addC_s, if_pos rfl, addC_b, if_pos rfl]
      have eH : nH (addC P w) = nH P := addC_n (by decide)
      omega
theorem aTerm_ok {n : Int} {t : Int → Int} {start : Int} {P0 : jP} (h00 : nC P0 = start) : ∀ (f m : Nat) (c p q : Int → Int) (h e : Int) (P : jP) (h' e' : Int) (P' : jP), Hd n t h e → WB P → GT P0 P → Sk P start m c q 0 → aTerm n t start f m c p q h e P = .ok (h', e', P') → Hd n t h' e' ∧ WB P' ∧ GT P0 P' ∧ nC P' - start ≤ 24 ∧ ∃ c' q', Sk P' start 0 c' q' 1
  | 0, m, c, p, q, h, e, P, h', e', P', hh, hb, hg, hs, ha => by cases ha
  | f + 1, m, c, p, q, h, e, P, h', e', P', hh, hb, hg, hs, ha => by
    unfold aTerm at ha
    split at ha
    · cases ha
    · rename_i w h1 e1 P1 hcell
      obtain ⟨a1, a2, PA, a3, a4, a5, a6, a7⟩ := aCell_ok hh hb hcell
      subst a6
      have hs2 := hs.mono a4 a5
      have hg2 := hg.tr a4
      have wa := WB_addC a3 (w := w) (by omega)
      have eC := addC_C (P := PA) (w := w)
      rw [show nC (addC PA w) - 1 = nC PA by omega] at ha
      have hn := a3.1.2.2.1.2
      have hst := hs2.1
      split at ha
      · rename_i hc
        split at ha
        · cases ha
        · have hm := of_decide_eq_true hc.2
          have g1 := a1.1
          exact aTerm_ok h00 f _ _ _ _ _ _ _ _ _ _ (sk_hd (by omega) (by omega) (by omega) (by omega)).1 wa.1 (hg2.tr wa.2) (Sk_push hs2 (by omega)) ha
      · split at ha
        · cases ha
        · rename_i ho
          have hsk := Sk_cell a3 hs2 a7 (fun hw => by
            cases hx : endO (addC PA w) (nC PA) 0 with
            | true => rfl
            | false => exact absurd ⟨hw, hx⟩ ho)
          have wb : WB (if w < 100 then endP (addC PA w) (nC PA) 0 else addC PA w) ∧ GT P0 (if w < 100 then endP (addC PA w) (nC PA) 0 else addC PA w) ∧ nC (if w < 100 then endP (addC PA w) (nC PA) 0 else addC PA w) = nC PA + 1 := by
            split
            · exact ⟨WB_endP wa.1 (by omega), GT_endP (hg2.tr wa.2) (by omega), (endP_n (by decide) (by decide)).trans addC_C⟩
            · exact ⟨wa.1, hg2.tr wa.2, addC_C⟩
          split at ha
          · cases ha
          · rename_i m' q' h2 e2 P2 hcl
            obtain ⟨b1, b2, b3, b4, b5, b6⟩ := aClose_ok h00 _ _ _ _ _ _ _ _ _ _ a1 wb.1 wb.2.1 hsk hcl
            split at ha
            · rename_i hm0
              cases ha
              refine ⟨b1, b2, b3, by omega, c, q', ?_⟩
              rcases b6 with b6 | b6
              · exact b6.2
              · omega
            · rename_i hm0
              refine aTerm_ok h00 f _ _ _ _ _ _ _ _ _ _ b1 b2 b3 ?_ ha
              rcases b6 with b6 | b6
              · exact absurd b6.1 hm0
              · exact b6.2
def AllC (P : jP) : Prop := Mo P ∧ ∀ x, 0 ≤ x → x < nC P → Cmp P x
theorem Sk_0 {P : jP} (hb : WB P) (h : AllC P) {c q : Int → Int} : Sk P (nC P) 0 c q 0 := by
  have := hb.1.2.2.2.2.2
  exact ⟨by omega, h.1, fun x a b => Or.inr (h.2 x a b), fun i a b => by omega, fun i a b => by omega, fun x i _ _ a b => by omega, fun hh => by omega, fun _ _ => rfl, fun _ hh => absurd hh (by decide)⟩
theorem aT_ok {n : Int} {t : Int → Int} {h e h' e' : Int} {P P' : jP} (hh : Hd n t h e) (hb : WB P) (hc : AllC P) (ha : aT n t h e P = .ok (h', e', P')) : Hd n t h' e' ∧ WB P' ∧ GT P P' ∧ AllC P' ∧ (nC P < nC P' ∧ bh P' (nC P) = nC P' ∧ nC P' - nC P ≤ 24) := by
  obtain ⟨a1, a2, a3, a4, c', q', a5⟩ := aTerm_ok rfl _ _ _ _ _ _ _ _ _ _ _ hh hb GT.rf (Sk_0 hb hc) ha
  obtain ⟨s0, mo, cm, op, up, be, c0, e0, e1⟩ := a5
  refine ⟨a1, a2, a3, ⟨mo, fun x a b => ?_⟩, (e1 rfl rfl).1, (e1 rfl rfl).2, a4⟩
  rcases cm x a b with ⟨i, i0, i1, _⟩ | hx
  · omega
  · exact hx
