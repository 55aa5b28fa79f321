/-! the reference reads a term -/
def Lb (μ : jMu) : Prop := 0 ≤ μ 76 23 ∧ μ 76 23 ≤ 400
section
variable {E : jE} {μ μ1 : jMu} {Q : Int → jMu → Prop} {Q0 : jMu → Prop} {n h e start : Int} {t : Int → Int} {P : jP}
theorem SKR.to {P' : jP} {m : Nat} {c p q : Int → Int} (hS : SKR μ P m c p q) (hs : ∀ i : Int, 0 ≤ i → i < m → sy P' (c i) = sy P (c i)) : SKR μ P' m c p q := ⟨hS.1, fun i a b => by rw [hs i a b]; exact hS.2 i a b⟩
theorem Wds.r3 (h : Wds μ) (hf : Fr Wr3 μ μ1) : Wds μ1 := h.fr (hf.mono (fun i k hh => by unfold Wr3 Wr2 at hh; omega))
theorem sM_isEnded (hr : HR μ n t h e) (hwd : Wds μ) (hT : TRf μ P) (hw : WB P) {m : Nat} {c p q : Int → Int} (hS : SKR μ P m c p q) (hm : m ≤ 6) (hcs : ∀ i : Int, 0 ≤ i → i < m → 0 ≤ c i ∧ c i < nC P) (h0 : 0 ≤ start ∧ start ≤ nC P ∧ nC P - start ≤ 24)
    (k1 : ∀ g, aCell n t start h e P = .error g → ∀ μ1, Fr Wr3 μ μ1 → Bd μ1 g → Lb μ1 → Q 1 μ1)
    (k2 : ∀ w h1 e1 P1, aCell n t start h e P = .ok (w, h1, e1, P1) → w < 100 ∧ isM n t h1 40 = true → 6 ≤ m → ∀ μ1, Fr Wr3 μ μ1 → Bd μ1 (4, h1) → Lb μ1 → Q 1 μ1)
    (k3 : ∀ w h1 e1 P1, aCell n t start h e P = .ok (w, h1, e1, P1) → w < 100 ∧ isM n t h1 40 = true → m < 6 → ∀ μ1, Fr Wr3 μ μ1 → HR μ1 n t (sk n t (h1 + 1)) e1 → TRf μ1 P1 → SKR μ1 P1 (m + 1) (hup c m (nC P1 - 1)) (hup p m (hAt n t h)) (hup q m 1) → Q 0 μ1)
    (k4 : ∀ w h1 e1 P1, aCell n t start h e P = .ok (w, h1, e1, P1) → ¬ (w < 100 ∧ isM n t h1 40 = true) → w < 100 ∧ endO P1 (nC P1 - 1) 0 = false → ∀ μ1, Fr Wr3 μ μ1 → Bd μ1 (3, hAt n t h) → Lb μ1 → Q 1 μ1)
    (k5 : ∀ w h1 e1 P1, aCell n t start h e P = .ok (w, h1, e1, P1) → ¬ (w < 100 ∧ isM n t h1 40 = true) → ¬ (w < 100 ∧ endO P1 (nC P1 - 1) 0 = false) → ∀ μ1, Fr Wr3 μ μ1 → HR μ1 n t h1 e1 → TRf μ1 (if w < 100 then endP P1 (nC P1 - 1) 0 else P1) → SKR μ1 (if w < 100 then endP P1 (nC P1 - 1) 0 else P1) m c p q → Q 1 μ1) : Ci E mM_isEnded [jvR 76, jvI start] μ Q := by
  have hn := hw.1
  unfold WFn at hn
  refine vM_isEnded_0 (sM_takesSign hr (by decide) (fun hM μ1 f1 x1 p1 => ⟨fun _ => ?_, fun c => absurd rfl c⟩) (fun hM μ1 f1 x1 => ⟨fun c => absurd c (by decide), fun _ => ?_⟩))
  · have eh : hAt n t h = h := by unfold hAt; rw [hM, if_neg (by decide)]
    have f1' : Fr Wr3 μ μ1 := (f1.mono W76.r2).mono Wr2.r3
    have ce : ∀ g, aName n t h e = .error g → aCell n t start h e P = .error g := fun g hg => by unfold aCell; rw [eh, hg]
    have co : ∀ c h' e', aName n t h e = .ok (c, h', e') → aCell n t start h e P = if 24 ≤ nC P - start ∨ 400 ≤ nC P ∨ (fnd P 2 c = -1 ∧ nN P 2 = rm 2) then .error (5, h) else .ok (knoV P 2 c + 0, h', e', addC (knoP P 2 c) (knoV P 2 c + 0)) := fun c h' e' hg => by unfold aCell; rw [eh, hg, hM]; rfl
    refine sM_known x1 (hwd.r3 f1') (hT.tk f1) hw (Or.inl rfl) (by unfold rm; rw [if_pos rfl]) (fun g hg μ2 f2 b2 l2 => sM_lays_b (by rw [b2.1]; exact b2.2.2) ⟨fun c => absurd (b2.1.symm.trans c) b2.2.2, fun _ => ⟨_, rfl, k1 g (ce g hg) μ2 (f1'.tr (f2.mono Wr2.r3)) b2 ⟨by omega, by omega⟩⟩⟩) (fun c h' e' hok hx μ2 f2 b2 l2 => sM_lays_b (by rw [b2.1]; exact b2.2.2) ⟨fun c => absurd (b2.1.symm.trans c) b2.2.2, fun _ => ⟨_, rfl, k1 _ (by rw [co c h' e' hok, if_pos (Or.inr (Or.inr hx))]) μ2 (f1'.tr (f2.mono Wr2.r3)) b2 ⟨by omega, by omega⟩⟩⟩) (fun cc h' e' hok hx μ2 f2 x2 T2 p2 => ?_)
    have hno := aName_ok hr.2.1 hok
    have kk := kno_ok (P := P) hw (Or.inl rfl) hno.2.2.1 hx
    have ec := co cc h' e' hok
    have f2' : Fr Wr3 μ μ2 := f1'.tr (f2.mono Wr2.r3)
    rw [Int.add_zero] at ec
    generalize hw0 : knoV P 2 cc = w at *
    refine sM_lays (w := w) x2 T2 (by omega) (by omega) (fun hx2 μ3 f3 b3 l3 => ⟨fun c => absurd (b3.1.symm.trans c) b3.2.2, fun _ => ⟨_, rfl, k1 (5, h) (by rw [ec, if_pos (by omega)]) μ3 (f2'.tr (f3.mono Wr2.r3)) (by rw [p2] at b3; exact b3) ⟨by omega, by omega⟩⟩⟩) (fun hx2 μ3 f3 x3 T3 p3 => ⟨fun _ => ?_, fun c => absurd x3.2.2.2.2 c⟩)
    rw [if_neg (by omega)] at ec
    have f3' : Fr Wr3 μ μ3 := f2'.tr (f3.mono Wr2.r3)
    have eC := addC_C (P := knoP P 2 cc) (w := w)
    have hG0 : w < nG (knoP P 2 cc) := kk.2.2.2.2
    have hG1 := kk.1.1.2.2.1.2
    have S3 : SKR μ3 (addC (knoP P 2 cc) w) m c p q := by
      refine (hS.fr (f1.mono (fun i k hh => by unfold W76 at hh; omega) |>.tr (((f2.mono (fun i k hh => by unfold Wr2 at hh; omega)).tr (f3.mono (fun i k hh => by unfold Wr2 at hh; omega)))))).to (fun i a b => ?_)
      have := hcs i a b
      rw [addC_s, if_neg (by omega)]
      exact (kk.2.1.2.2.2.1 (c i) this.2).1
    refine sM_look x3 (fun μ4 f4 x4 p4 => ?_)
    have f4' : Fr Wr3 μ μ4 := f3'.tr (f4.mono (fun i k hh => Or.inl (Or.inl ⟨hh.1, Or.inl hh.2⟩)))
    have T4 : TRf μ4 (addC (knoP P 2 cc) w) := T3.fr (f4.mono (fun i k hh => by omega))
    have S4 := S3.fr (f4.mono (fun i k hh => by omega))
    have hb40 : (if h' < n then t h' else -1) = 40 ↔ isM n t h' 40 = true := by
      unfold isM
      rw [decide_eq_true_iff]
      by_cases hh : h' < n
      · rw [if_pos hh]; exact ⟨fun z => ⟨hh, z⟩, fun z => z.2⟩
      · rw [if_neg hh]; exact ⟨fun z => absurd z (by decide), fun z => absurd z.1 hh⟩
    have l4 : Lb μ4 := by unfold Lb; rw [T4.1.2.2]; omega
    rw [p2, S4.1, p4]
    have hH4 := x4.2.1.1
    have hT4 := x4.1.2.1
    refine ⟨fun c5 => ?_, fun c5 => ?_⟩
    · have hB := hb40.mp c5
      have hlt : h' < n := (of_decide_eq_true hB).1
      refine ⟨fun c6 => ⟨by omega, _, rfl, ?_⟩, fun c6 => ?_⟩
      · have f5 : Fr (fun i k => (i = 76 ∧ (k = 2 ∨ k = 38)) ∨ (99 ≤ i ∧ i ≤ 101)) μ4 (j_up (j_up (j_up (j_up (j_up μ4 76 2 (h' + 1)) 99 m w) 100 m h) 101 m 0) 76 38 (m + 1)) := ((((Fr.up (Or.inl ⟨rfl, Or.inl rfl⟩)).put (Or.inr (by omega))).put (Or.inr (by omega))).put (Or.inr (by omega))).put (Or.inl ⟨rfl, Or.inr rfl⟩)
        refine k3 w h' e' _ ec ⟨by omega, hB⟩ (by omega) _ (f4'.tr (f5.mono (fun i k hh => by unfold Wr3 Wr2; omega))) ?_ (T4.fr (f5.mono (fun i k hh => by omega))) ⟨?_, fun i a b => ?_⟩
        · refine ⟨x4.1.fr (f5.mono (fun i k hh => by omega)), (sk_hd (by omega) (by omega) (by omega) (by omega)).1, ⟨?_, ?_⟩, ?_, ?_⟩
          · rw [up_nk (by decide), up_ne (by decide), up_ne (by decide), up_ne (by decide), up_eq]; omega
          · rw [up_nk (by decide), up_ne (by decide), up_ne (by decide), up_ne (by decide), up_eq]
          · rw [f5 76 4 (by omega)]; exact x4.2.2.2.1
          · rw [f5 76 5 (by omega)]; exact x4.2.2.2.2
        · rw [up_eq]; omega
        · rw [up_ne (by decide), up_ne (by decide), up_ne (by decide), up_if, up_ne (by decide), up_ne (by decide), up_ne (by decide), up_if, up_ne (by decide), up_ne (by decide), up_ne (by decide), up_if, up_ne (by decide), up_ne (by decide), up_ne (by decide), eh]
          by_cases hi : i = m
          · rw [if_pos hi, if_pos hi, if_pos hi, hi, hup_eq, hup_eq, hup_eq, addC_s, if_pos (by omega)]
            exact ⟨rfl, rfl, by omega⟩
          · rw [if_neg hi, if_neg hi, if_neg hi, hup_ne hi, hup_ne hi, hup_ne hi]
            exact S4.2 i a (by omega)
      · exact sM_fail x4.2.2.2.2 (by decide) (fun μ5 f5 b5 => ⟨_, rfl, k2 w h' e' _ ec ⟨by omega, hB⟩ (by omega) μ5 (f4'.tr (f5.mono (fun i k hh => Or.inl (Or.inl ⟨hh.1, by omega⟩)))) b5 (by unfold Lb; rw [f5 76 23 (by omega)]; exact l4)⟩)
    · have hB : ¬ (w < 100 ∧ isM n t h' 40 = true) := fun hh => c5 (hb40.mpr hh.2)
      have e1 : nC (addC (knoP P 2 cc) w) - 1 = nC (knoP P 2 cc) := by omega
      have esy : sy (addC (knoP P 2 cc) w) (nC (addC (knoP P 2 cc) w) - 1) = w := by rw [e1, addC_s, if_pos rfl]
      have eG : nG (addC (knoP P 2 cc) w) = nG (knoP P 2 cc) := addC_n (by decide)
      refine sM_ends (a := nC (addC (knoP P 2 cc) w) - 1) x4 T4 esy.symm (by rw [esy, eG]; omega) (by omega) (fun ho μ5 f5 b5 l5 => ⟨_, rfl, k4 w h' e' _ ec hB ⟨by omega, ho⟩ μ5 (f4'.tr (f5.mono Wr2.r3)) (by rw [eh]; exact b5) (by unfold Lb; omega)⟩) (fun ho μ5 f5 x5 T5 => ⟨_, rfl, k5 w h' e' _ ec hB (fun hh => by rw [ho] at hh; cases hh.2) μ5 (f4'.tr (f5.mono Wr2.r3)) x5 ?_ ?_⟩)
      · rw [if_pos (by omega)]; exact T5
      · rw [if_pos (by omega)]
        exact (S4.fr (f5.mono (fun i k hh => by unfold Wr2 at hh; omega))).to (fun i a b => endP_n (by decide) (by decide))
  · have eh : hAt n t h = sk n t (h + 1) := by unfold hAt; rw [if_pos hM]
    have f1' : Fr Wr3 μ μ1 := (f1.mono W76.r2).mono Wr2.r3
    have ce : ∀ g, aName n t (sk n t (h + 1)) e = .error g → aCell n t start h e P = .error g := fun g hg => by unfold aCell; rw [eh, hg]
    have co : ∀ c h' e', aName n t (sk n t (h + 1)) e = .ok (c, h', e') → aCell n t start h e P = if 24 ≤ nC P - start ∨ 400 ≤ nC P ∨ (fnd P 3 c = -1 ∧ nN P 3 = rm 3) then .error (5, sk n t (h + 1)) else .ok (knoV P 3 c + 100, h', e', addC (knoP P 3 c) (knoV P 3 c + 100)) := fun c h' e' hg => by unfold aCell; rw [eh, hg, hM]; rfl
    refine sM_known x1 (hwd.r3 f1') (hT.tk f1) hw (Or.inr rfl) (by unfold rm; rw [if_neg (by decide)]) (fun g hg μ2 f2 b2 l2 => ⟨by omega, sM_lays_b (by rw [b2.1]; exact b2.2.2) ⟨_, rfl, k1 g (ce g hg) μ2 (f1'.tr (f2.mono Wr2.r3)) b2 ⟨by omega, by omega⟩⟩⟩) (fun c h' e' hok hx μ2 f2 b2 l2 => ⟨by omega, sM_lays_b (by rw [b2.1]; exact b2.2.2) ⟨_, rfl, k1 _ (by rw [co c h' e' hok, if_pos (Or.inr (Or.inr hx))]) μ2 (f1'.tr (f2.mono Wr2.r3)) b2 ⟨by omega, by omega⟩⟩⟩) (fun cc h' e' hok hx μ2 f2 x2 T2 p2 => ?_)
    have hno := aName_ok x1.2.1 hok
    have kk := kno_ok (P := P) hw (Or.inr rfl) hno.2.2.1 hx
    have ec := co cc h' e' hok
    have f2' : Fr Wr3 μ μ2 := f1'.tr (f2.mono Wr2.r3)
    have hH0 : knoV P 3 cc < nH (knoP P 3 cc) := kk.2.2.2.2
    have hH1 := kk.1.1.2.2.2.1.2
    rw [show 100 + knoV P 3 cc = knoV P 3 cc + 100 by omega]
    generalize hw0 : knoV P 3 cc + 100 = w at *
    refine ⟨by omega, sM_lays (w := w) x2 T2 (by omega) (by omega) (fun hx2 μ3 f3 b3 l3 => ⟨_, rfl, k1 (5, sk n t (h + 1)) (by rw [ec, if_pos (by omega)]) μ3 (f2'.tr (f3.mono Wr2.r3)) (by rw [p2] at b3; exact b3) ⟨by omega, by omega⟩⟩) (fun hx2 μ3 f3 x3 T3 p3 => ⟨_, rfl, ?_⟩)⟩
    rw [if_neg (by omega)] at ec
    refine k5 w h' e' _ ec (by omega) (by omega) μ3 (f2'.tr (f3.mono Wr2.r3)) x3 ?_ ?_
    · rw [if_neg (by omega)]; exact T3
    · rw [if_neg (by omega)]
      refine (hS.fr (f1.mono (fun i k hh => by unfold W76 at hh; omega) |>.tr (((f2.mono (fun i k hh => by unfold Wr2 at hh; omega)).tr (f3.mono (fun i k hh => by unfold Wr2 at hh; omega)))))).to (fun i a b => ?_)
      have := hcs i a b
      rw [addC_s, if_neg (by omega)]
      exact (kk.2.1.2.2.2.1 (c i) this.2).1
theorem sM_goesOn {c p : Int → Int} {P0 : jP} (h00 : nC P0 = start) : ∀ (m : Nat) (q : Int → Int) (h e : Int) (P : jP) (μ : jMu), HR μ n t h e → TRf μ P → WB P → GT P0 P → SKR μ P m c p q → m ≤ 6 → Sk P start m c q 1 → (∀ f, aClose n t c p m q h e P = .error f → ∀ μ1, Fr Wr3 μ μ1 → Bd μ1 f → Lb μ1 → Q 0 μ1) → (∀ m' q' h' e' P', aClose n t c p m q h e P = .ok (m', q', h', e', P') → ∀ μ1, Fr Wr3 μ μ1 → HR μ1 n t h' e' → TRf μ1 P' → SKR μ1 P' m' c p q' → Q (if m' = 0 then 0 else 1) μ1) → K 121 E mM_goesOn 0 [some (jvR 76), none] [] μ (fun v μ1 => ∃ r, v = some (jvI r) ∧ Q r μ1)
  | 0, q, h, e, P, μ, hr, hT, hw, hg, hS, hm, hk, kf, kt => by
    refine vM_goesOn_0 ⟨fun c => absurd hr.2.2.2.2 c, fun _ => ?_⟩
    rw [hS.1]
    refine ⟨fun _ => ⟨_, rfl, ?_⟩, fun c => by omega⟩
    have := kt 0 q h e P rfl μ Fr.rf hr hT hS
    rw [if_pos rfl] at this; exact this
  | m + 1, q, h, e, P, μ, hr, hT, hw, hg, hS, hm, hk, kf, kt => by
    have hn := hw.1
    unfold WFn at hn
    have ops := hk.2.2.2.1 m (by omega) (by omega)
    have hst := hk.1
    have em : (((m + 1 : Nat) : Int) - 1) = m := by omega
    have hsk := hS.2 m (by omega) (by omega)
    refine vM_goesOn_0 ⟨fun c => absurd hr.2.2.2.2 c, fun _ => ?_⟩
    rw [hS.1, em, hsk.2.2, show q m - 1 + 1 = q m by omega, up_eq]
    have f0 : Fr Wr3 μ (j_up μ 101 m (q m)) := Fr.up (Or.inr (Or.inr (by omega)))
    have x0 : HR (j_up μ 101 m (q m)) n t h e := hr.fr (Fr.up (by omega))
    have T0 : TRf (j_up μ 101 m (q m)) P := hT.fr (Fr.up (by omega))
    have v0 : ∀ i : Int, 0 ≤ i → i < ((m + 1 : Nat) : Int) → (j_up μ 101 m (q m)) 99 i = sy P (c i) ∧ (j_up μ 101 m (q m)) 100 i = p i ∧ (j_up μ 101 m (q m)) 101 i = (if i = m then q m else q i - 1) := fun i a b => by
      rw [up_ne (by decide), up_ne (by decide), up_if]
      have := hS.2 i a b
      refine ⟨this.1, this.2.1, ?_⟩
      split
      · rfl
      · exact this.2.2
    have v38 : (j_up μ 101 m (q m)) 76 38 = ((m + 1 : Nat) : Int) := by rw [up_ne (by decide)]; exact hS.1
    have cls : ∀ μ0, Fr W76 (j_up μ 101 m (q m)) μ0 → HR μ0 n t h e → ¬ (q m < 3 ∧ isM n t h 44 = true) → Cv E mM_asksSign [jvR 76, jvI 41] μ0 (fun μ9 => (((μ9 76 5) = 0 → ((0 ≤ (m : Int) ∧ (m : Int) < 7) ∧ (0 ≤ (m : Int) ∧ (m : Int) < 7) ∧ (0 ≤ (m : Int) ∧ (m : Int) < 7)) ∧ (Cv E mM_ends [jvR 76, jvI (μ9 99 m), jvI (μ9 101 m), jvI (μ9 100 m)] μ9 (fun μ14 => (-2147483648 ≤ ((μ14 76 38) - 1) ∧ ((μ14 76 38) - 1) < 2147483648) ∧ (K 121 E mM_goesOn 0 [some (jvR 76), none] [] (j_up μ14 76 38 ((μ14 76 38) - 1)) (fun v μ1 => ∃ r, v = some (jvI r) ∧ Q r μ1))))) ∧ (¬ ((μ9 76 5) = 0) → (∃ r, some (jvI 0) = some (jvI r) ∧ Q r μ9)))) := by
      intro μ0 g0 y0 hno
      have ea : aClose n t c p (m + 1) q h e P = match aMark n t h e 41 with
        | .error f => .error f
        | .ok (h', e') => if endO P (c m) (q m) = true then aClose n t c p m q h' e' (endP P (c m) (q m)) else .error (3, p m) := by
        show (if q m < 3 ∧ isM n t h 44 = true then _ else _) = _
        rw [if_neg hno]
        cases aMark n t h e 41 with
        | error f => rfl
        | ok v => obtain ⟨v1, v2⟩ := v; rfl
      have g0' : Fr Wr3 μ μ0 := f0.tr ((g0.mono W76.r2).mono Wr2.r3)
      refine sM_asksSign y0 (by decide) (fun f hf μ1 f1 b1 => ⟨fun c => absurd (b1.1.symm.trans c) b1.2.2, fun _ => ⟨_, rfl, kf f (by rw [ea, hf]) μ1 (g0'.tr ((f1.mono W76.r2).mono Wr2.r3)) b1 ?_⟩⟩) (fun h' e' hok μ1 f1 x1 => ⟨fun _ => ?_, fun c => absurd x1.2.2.2.2 c⟩)
      · unfold Lb
        rw [f1 76 23 (by unfold W76; omega), g0 76 23 (by unfold W76; omega), T0.1.2.2]
        omega
      rw [hok] at ea
      have ea : aClose n t c p (m + 1) q h e P = if endO P (c m) (q m) = true then aClose n t c p m q h' e' (endP P (c m) (q m)) else .error (3, p m) := ea
      have g1 : Fr W76 (j_up μ 101 m (q m)) μ1 := g0.tr f1
      have g1' : Fr Wr3 μ μ1 := f0.tr ((g1.mono W76.r2).mono Wr2.r3)
      have v1 := v0 m (by omega) (by omega)
      rw [g1 99 m (by unfold W76; omega), g1 100 m (by unfold W76; omega), g1 101 m (by unfold W76; omega), v1.1, v1.2.1, v1.2.2, if_pos rfl]
      refine ⟨by omega, sM_ends (a := c m) x1 (T0.tk g1) rfl ops.2.1 (by omega) (fun ho μ2 f2 b2 l2 => ?_) (fun ho μ2 f2 x2 T2 => ?_)⟩
      · rw [ho, if_neg (by decide)] at ea
        have e38 : μ2 76 38 = ((m + 1 : Nat) : Int) := by rw [f2 76 38 (by unfold Wr2; omega), g1 76 38 (by unfold W76; omega)]; exact v38
        rw [e38]
        refine ⟨by omega, vM_goesOn_0 ⟨fun _ => ⟨_, rfl, ?_⟩, fun c => ?_⟩⟩
        · refine kf _ ea _ ((g1'.tr (f2.mono Wr2.r3)).put (Or.inr (Or.inl ⟨rfl, rfl⟩))) ⟨?_, ?_, b2.2.2⟩ ?_
          · rw [up_nk (by decide)]; exact b2.1
          · rw [up_nk (by decide)]; exact b2.2.1
          · unfold Lb; rw [up_nk (by decide)]; omega
        · rw [up_nk (by decide)] at c
          exact absurd (b2.1.symm.trans c) b2.2.2
      · rw [ho, if_pos rfl] at ea
        have e38 : μ2 76 38 = ((m + 1 : Nat) : Int) := by rw [f2 76 38 (by unfold Wr2; omega), g1 76 38 (by unfold W76; omega)]; exact v38
        rw [e38, em]
        have f3 : Fr Wr3 μ (j_up μ2 76 38 m) := (g1'.tr (f2.mono Wr2.r3)).put (Or.inr (Or.inl ⟨rfl, rfl⟩))
        refine ⟨by omega, sM_goesOn h00 m q h' e' (endP P (c m) (q m)) (j_up μ2 76 38 m) (x2.fr (Fr.up (by omega))) (T2.fr (Fr.up (by omega))) (WB_endP hw (by omega)) (GT_endP hg (by omega)) ⟨up_eq, fun i a b => ?_⟩ (by omega) (Sk_close hk (by omega) ho) (fun f hf μ4 f4 b4 l4 => kf f (by rw [ea]; exact hf) μ4 (f3.tr f4) b4 l4) (fun m' q' h3 e3 P3 hok3 μ4 f4 x4 T4 S4 => kt m' q' h3 e3 P3 (by rw [ea]; exact hok3) μ4 (f3.tr f4) x4 T4 S4)⟩
        rw [up_ne (by decide), up_ne (by decide), up_ne (by decide), f2 99 i (by unfold Wr2; omega), f2 100 i (by unfold Wr2; omega), f2 101 i (by unfold Wr2; omega), g1 99 i (by unfold W76; omega), g1 100 i (by unfold W76; omega), g1 101 i (by unfold W76; omega), show sy (endP P (c m) (q m)) (c i) = sy P (c i) from endP_n (by decide) (by decide)]
        have v2 := v0 i a (by omega)
        rw [if_neg (by omega)] at v2
        exact v2
    refine ⟨fun c1 => by omega, fun c1 => ⟨by omega, fun c2 => cls _ Fr.rf x0 (by omega), fun c2 => ?_⟩⟩
    refine sM_takesSign x0 (by decide) (fun hM μ2 f2 x2 p2 => ⟨fun _ => cls μ2 f2 x2 (fun hx => by rw [hM] at hx; cases hx.2), fun c => absurd rfl c⟩) (fun hM μ2 f2 x2 => ⟨fun c => absurd c (by decide), fun _ => ⟨_, rfl, ?_⟩⟩)
    have := kt (m + 1) (hup q m (q m + 1)) (sk n t (h + 1)) e P (by
      show (if q m < 3 ∧ isM n t h 44 = true then _ else _) = _
      rw [if_pos ⟨by omega, hM⟩]) μ2 (f0.tr ((f2.mono W76.r2).mono Wr2.r3)) x2 (T0.tk f2) ⟨by rw [f2 76 38 (by unfold W76; omega)]; exact v38, fun i a b => ?_⟩
    · rw [if_neg (by omega)] at this; exact this
    · rw [f2 99 i (by unfold W76; omega), f2 100 i (by unfold W76; omega), f2 101 i (by unfold W76; omega)]
      have v2 := v0 i a b
      refine ⟨v2.1, v2.2.1, ?_⟩
      rw [v2.2.2]
      unfold hup
      split
      · omega
      · rfl
end
