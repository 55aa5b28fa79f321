/-! the class reads a term: cells, brackets -/
section
variable {E : jE} {μ μ1 : jMu} {Q : Int → jMu → Prop} {Q0 : jMu → Prop} {n h e start : Int} {t : Int → Int} {P : jP} {b : Nat}
theorem HC.frB (hb : isB b) (hc : HC μ n t h e) (hf : Fr (fun i k => (i = 3 ∧ (k = 3 ∨ k = 6 ∨ k = 7)) ∨ (4 ≤ i ∧ i ≤ 6) ∨ (b ≤ i ∧ i ≤ b + 18)) μ μ1) : HC μ1 n t h e := hc.fr (hf.mono (fun i k hh => by have := isB_7 hb; omega))
theorem PL.frB (hb : isB b) (hL : PL b μ) (hf : Fr (Wtm b) μ μ1) : PL b μ1 := hL.fr (hf.mono (fun i k hh => by unfold Wtm at hh; have := isB_7 hb; omega))
theorem sPa_readCell (hb : isB b) (hc : HC μ n t h e) (hL : PL b μ) (hT : TCl b μ P) (hw : WB P) (h0 : 0 ≤ start ∧ start ≤ nC P) (kf : ∀ f, aCell n t start h e P = .error f → ∀ μ1, Fr (Wcl b) μ μ1 → Flt μ1 f → Q (-1) μ1) (kt : ∀ w h1 e1 P1, aCell n t start h e P = .ok (w, h1, e1, P1) → ∀ μ1, Fr (Wcl b) μ μ1 → HC μ1 n t h1 e1 → TCl b μ1 P1 → μ1 3 7 = hAt n t h → Q w μ1) : Ci E mPa_readCell [jvR 3, jvI start] μ Q := by
  have hB := isB_7 hb
  have hn := hw.1.2.2.2.2.2
  have core : ∀ (μ0 : jMu) (l3 : Int), l3 = b2i (isM n t h 63) → Fr (Wcl b) μ μ0 → HC μ0 n t (hAt n t h) e → PL b μ0 → TCl b μ0 P → K 121 E mPa_readCell 29 [some (jvR 3), some (jvI start), some (jvR ((b + 1 : Nat) : Int)), some (jvI l3), none, none] [] μ0 (fun v μ1 => ∃ r, v = some (jvI r) ∧ Q r μ1) := by
    intro μ0 l3 g0 g1 g2 g3 g4
    have fw : ∀ {μ1}, Fr Wtk3 μ0 μ1 → Fr (Wcl b) μ μ1 := fun f => g1.tr (f.mono (fun i k hh => by unfold Wtk3 at hh; unfold Wcl; omega))
    refine vPa_readCell_29 hb (sPa_takeName g2 g3.1 (fun f hf μ1 f1 l1 => ⟨fun c => absurd rfl c, fun _ => ⟨_, rfl, kf f (by unfold aCell; rw [hf]) μ1 (fw f1) l1⟩⟩) (fun c h2 e2 hn2 μ1 f1 x1 p1 => ?_))
    have hno := aName_ok g2.hd hn2
    have ec : aCell n t start h e P = if 24 ≤ nC P - start ∨ 400 ≤ nC P ∨ (fnd P (kdOf (isM n t h 63)) c = -1 ∧ nN P (kdOf (isM n t h 63)) = rm (kdOf (isM n t h 63))) then .error (5, hAt n t h) else .ok (knoV P (kdOf (isM n t h 63)) c + hOf (isM n t h 63), h2, e2, addC (knoP P (kdOf (isM n t h 63)) c) (knoV P (kdOf (isM n t h 63)) c + hOf (isM n t h 63))) := by
      unfold aCell
      rw [hn2]
    have T1 : TCl b μ1 P := g4.fr (f1.mono (fun i k hh => by unfold Wtk3 at hh; omega))
    have bad : (24 ≤ nC P - start ∨ 400 ≤ nC P ∨ (fnd P (kdOf (isM n t h 63)) c = -1 ∧ nN P (kdOf (isM n t h 63)) = rm (kdOf (isM n t h 63)))) → ∀ l4 : Int, K 121 E mPa_readCell 87 [some (jvR 3), some (jvI start), some (jvR ((b + 1 : Nat) : Int)), some (jvI l3), some (jvI l4), some (jvI (-1))] [] μ1 (fun v μ1 => ∃ r, v = some (jvI r) ∧ Q r μ1) := by
      intro hx l4
      rw [if_pos hx] at ec
      refine vPa_readCell_87 hb ⟨fun c => absurd rfl c, fun _ => ?_⟩
      rw [p1]
      exact sPa_refuse (fun μ2 f2 l2 => ⟨_, rfl, kf _ ec μ2 ((fw f1).tr (f2.mono (fun i k hh => by unfold Wcl; omega))) l2⟩)
    rw [T1.1.2.2]
    refine ⟨fun _ => ⟨by omega, fun c1 => bad (Or.inl c1) c, fun c1 => ⟨fun c2 => bad (Or.inr (Or.inl c2)) c, fun c2 => ?_⟩⟩, fun cz => absurd cz (okN_0 hno.2.2.1)⟩
    have good : ∀ (μ2 : jMu) (w : Int), Fr (Wbk b) μ1 μ2 → ¬ (fnd P (kdOf (isM n t h 63)) c = -1 ∧ nN P (kdOf (isM n t h 63)) = rm (kdOf (isM n t h 63))) → w = knoV P (kdOf (isM n t h 63)) c + hOf (isM n t h 63) → TCl b μ2 (knoP P (kdOf (isM n t h 63)) c) → K 121 E mPa_readCell 87 [some (jvR 3), some (jvI start), some (jvR ((b + 1 : Nat) : Int)), some (jvI l3), some (jvI c), some (jvI w)] [] μ2 (fun v μ1 => ∃ r, v = some (jvI r) ∧ Q r μ1) := by
      intro μ2 w f2 hx hwv T2
      have hkd : kdOf (isM n t h 63) = 2 ∨ kdOf (isM n t h 63) = 3 := by
        rcases kd_c (isM n t h 63) with hko | hko
        · exact Or.inl hko.1
        · exact Or.inr hko.1
      have hho : 0 ≤ hOf (isM n t h 63) := by
        rcases kd_c (isM n t h 63) with hko | hko
        · omega
        · omega
      have kk := kno_ok (P := P) hw hkd hno.2.2.1 hx
      rw [if_neg (by omega), ← hwv] at ec
      refine vPa_readCell_87 hb ⟨fun _ => ?_, fun cz => by omega⟩
      refine sTe_add hb T2 (by omega) (by omega) (fun μ3 f3 T3 => ⟨_, rfl, kt _ _ _ _ ec μ3 ?_ ?_ T3 ?_⟩)
      · exact (fw f1).tr ((f2.tr f3).mono (fun i k hh => by unfold Wbk at hh; unfold Wcl; omega))
      · exact x1.frB hb ((f2.tr f3).mono (fun i k hh => by unfold Wbk at hh; omega))
      · rw [(f2.tr f3) 3 7 (by unfold Wbk; omega)]; exact p1
    refine ⟨fun c3 => ?_, fun c3 => ?_⟩
    · have hm : isM n t h 63 = false := b2i_b0 (g0.symm.trans c3)
      rw [hm] at bad good
      exact sTe_signFor hb T1 hw (fun hx => bad (Or.inr (Or.inr hx)) c) (fun hx μ2 f2 T2 => good μ2 _ f2 hx (by show _ = knoV P 2 c + 0; omega) T2)
    · have hm : isM n t h 63 = true := b2i_b (fun e => c3 (g0.trans e))
      rw [hm] at bad good
      exact sTe_holeFor hb T1 hw (fun hx => bad (Or.inr (Or.inr hx)) c) (fun hx μ2 f2 T2 => good μ2 _ f2 hx rfl T2)
  refine vPa_readCell_0 hb ⟨⟨hL.2, hL.1⟩, sTa_isMark hc (by decide) (by decide) ⟨fun c1 => core μ _ rfl Fr.rf ?_ hL hT, fun c1 => ⟨hL.1, ?_⟩⟩⟩
  · unfold hAt; rw [b2i_b0 c1, if_neg (by decide)]; exact hc
  · have hm := b2i_b c1
    refine sTa_pastM hc (by decide) (by decide) hm (fun μ1 f1 x1 => core μ1 _ rfl (f1.mono (fun i k hh => Or.inl hh)) ?_ (hL.fr (f1.mono (fun i k hh => by unfold WTk at hh; omega))) (hT.fr (f1.mono (fun i k hh => by unfold WTk at hh; omega))))
    unfold hAt; rw [if_pos hm]; exact x1
theorem sPa_openBracket (hb : isB b) (hc : HC μ n t h e) (hL : PL b μ) (hT : TCl b μ P) (hw : WB P) {m : Nat} {c p q : Int → Int} (hS : SKC μ m c p q) (hm : m ≤ 6) (hM : isM n t h 40 = true) (k6 : m = 6 → ∀ μ1, Fr (Wtm b) μ μ1 → Flt μ1 (4, h) → Q 0 μ1) (kt : m < 6 → ∀ μ1, Fr (Wtm b) μ μ1 → HC μ1 n t (sk n t (h + 1)) e → TCl b μ1 P → SKC μ1 (m + 1) (hup c m (nC P - 1)) (hup p m (μ 3 7)) (hup q m 1) → Q 1 μ1) : Ci E mPa_openBracket [jvR 3] μ Q := by
  have hB := isB_7 hb
  have hn := hw.1.2.2.2.2.2
  refine vPa_openBracket_0 hb ?_
  rw [hS.1, hT.1.2.2]
  refine ⟨fun c1 => ⟨⟨hL.2, by omega, by omega, by omega, by omega, by omega, hL.1⟩, ?_⟩, fun c1 => ⟨hL.1, ?_⟩⟩
  · have f1 : Fr (fun i k => (i = 3 ∧ k = 3) ∨ (4 ≤ i ∧ i ≤ 6)) μ (j_up (j_up (j_up (j_up μ 4 m (nC P - 1)) 5 m (μ 3 7)) 6 m 1) 3 3 (m + 1)) := (((Fr.up (show _ ∨ _ from Or.inr (by omega))).put (Or.inr (by omega))).put (Or.inr (by omega))).put (Or.inl ⟨rfl, rfl⟩)
    have hc1 := hc.frB hb (f1.mono (fun i k hh => by omega))
    refine sTa_pastM hc1 (by decide) (by decide) hM (fun μ2 f2 x2 => ⟨_, rfl, kt (by omega) μ2 ?_ x2 ?_ ⟨?_, fun i a b => ?_⟩⟩)
    · exact (f1.mono (fun i k hh => by unfold Wtm; omega)).tr (f2.mono (fun i k hh => Or.inl hh))
    · exact hT.fr ((f1.mono (fun i k hh => by omega)).tr (f2.mono (fun i k hh => by unfold WTk at hh; omega)))
    · rw [f2 3 3 (by unfold WTk; omega), up_eq]; omega
    · rw [f2 4 i (by unfold WTk; omega), f2 5 i (by unfold WTk; omega), f2 6 i (by unfold WTk; omega), up_ne (by decide), up_ne (by decide), up_ne (by decide), up_if, up_ne (by decide), up_ne (by decide), up_if, up_ne (by decide), up_ne (by decide), up_if, up_ne (by decide), up_ne (by decide)]
      unfold hup
      by_cases hi : i = m
      · rw [if_pos hi, if_pos hi, if_pos hi, if_pos hi, if_pos hi, if_pos hi]; exact ⟨rfl, rfl, rfl⟩
      · rw [if_neg hi, if_neg hi, if_neg hi, if_neg hi, if_neg hi, if_neg hi]; exact hS.2 i a (by omega)
  · rw [hc.2.2.2.1.1]
    exact sPa_refuse (fun μ1 f1 l1 => ⟨Or.inl rfl, _, rfl, k6 (by omega) μ1 (f1.mono (fun i k hh => by unfold Wtm; omega)) l1⟩)
theorem sPa_closeUp (hb : isB b) {c p : Int → Int} {a0 : Int} {P0 : jP} (h00 : nC P0 = start) : ∀ (m : Nat) (q : Int → Int) (h e : Int) (P : jP) (μ : jMu), HC μ n t h e → PL b μ → TCl b μ P → WB P → GT P0 P → SKC μ m c p q → m ≤ 6 → Sk P start m c q 1 → (∀ f, aClose n t c p m q h e P = .error f → ∀ μ1, Fr (Wtm b) μ μ1 → Flt μ1 f → Q 0 μ1) → (∀ m' q' h' e' P', aClose n t c p m q h e P = .ok (m', q', h', e', P') → ∀ μ1, Fr (Wtm b) μ μ1 → HC μ1 n t h' e' → TCl b μ1 P' → SKC μ1 m' c p q' → Q 1 μ1) → K 121 E mPa_closeBrackets 47 [some (jvR 3), some (jvI a0), some (jvI (m - 1))] [] μ (fun v μ1 => ∃ r, v = some (jvI r) ∧ Q r μ1)
  | 0, q, h, e, P, μ, hc, hL, hT, hw, hg, hS, hm, hk, kf, kt => by
    refine vPa_closeBrackets_47 hb ⟨fun _ => ⟨_, rfl, kt 0 q h e P rfl μ Fr.rf hc hT hS⟩, fun c1 => absurd (show ((0 : Nat) : Int) - 1 < 0 by omega) c1⟩
  | m + 1, q, h, e, P, μ, hc, hL, hT, hw, hg, hS, hm, hk, kf, kt => by
    have hB := isB_7 hb
    have hn := hw.1.2.2.2.2.2
    have hnG := hw.1.2.2.1
    have ops := hk.2.2.2.1 m (by omega) (by omega)
    have hst := hk.1
    have em : (((m + 1 : Nat) : Int) - 1) = m := by omega
    have hsk := hS.2 m (by omega) (by omega)
    have cls : ∀ μ0, Fr (Wtm b) μ μ0 → HC μ0 n t h e → PL b μ0 → TCl b μ0 P → SKC μ0 (m + 1) c p q → ¬ (q m < 3 ∧ isM n t h 44 = true) → Ci E mPa_takeMark [jvR 3, jvI 41] μ0 (fun r9 μ6 => ((¬ r9 = 0 → ((μ6 3 5) = ((b : Nat) : Int) ∧ (0 ≤ (m : Int) ∧ (m : Int) < 6) ∧ (0 ≤ (m : Int) ∧ (m : Int) < 6)) ∧ (Ci E mTe_endParts [jvR ((b + 1 : Nat) : Int), jvI (μ6 4 m), jvI (μ6 6 m)] μ6 (fun r15 μ12 => ((¬ r15 = 0 → (-2147483648 ≤ (m : Int) - 1 ∧ (m : Int) - 1 < 2147483648) ∧ (K 121 E mPa_closeBrackets 47 [some (jvR 3), some (jvI a0), some (jvI ((m : Int) - 1))] [] (j_up μ12 3 3 m) (fun v μ1 => ∃ r, v = some (jvI r) ∧ Q r μ1))) ∧ (r15 = 0 → ((0 ≤ (m : Int) ∧ (m : Int) < 6)) ∧ (Ci E mPa_refuse [jvR 3, jvI 3, jvI (μ12 5 m)] μ12 (fun r21 μ18 => ((r21 = 0 ∨ r21 = 1)) ∧ (∃ r, some (jvI r21) = some (jvI r) ∧ Q r μ18)))))))) ∧ (r9 = 0 → (∃ r, some (jvI 0) = some (jvI r) ∧ Q r μ6)))) := by
      intro μ0 f0 c0 L0 T0 S0 hno
      have ea : aClose n t c p (m + 1) q h e P = match aMark n t h e 41 with
        | .error f => .error f
        | .ok (h', e') => if endO P (c m) (q m) = true then aClose n t c p m q h' e' (endP P (c m) (q m)) else .error (3, p m) := by
        show (if q m < 3 ∧ isM n t h 44 = true then _ else _) = _
        rw [if_neg hno]
        cases aMark n t h e 41 with
        | error f => rfl
        | ok v => obtain ⟨v1, v2⟩ := v; rfl
      refine sPa_takeMark c0 L0.1 (by decide) (by decide) (fun f hf μ1 f1 l1 => ⟨fun c => absurd rfl c, fun _ => ⟨_, rfl, kf f (by rw [ea, hf]) μ1 (f0.tr (f1.mono (fun i k hh => by unfold Wtk3 at hh; unfold Wtm; omega))) l1⟩⟩) (fun h' e' hok μ1 f1 x1 => ⟨fun _ => ?_, fun c => absurd c (by decide)⟩)
      rw [hok] at ea
      have ea : aClose n t c p (m + 1) q h e P = if endO P (c m) (q m) = true then aClose n t c p m q h' e' (endP P (c m) (q m)) else .error (3, p m) := ea
      have f1' : Fr (Wtm b) μ μ1 := f0.tr (f1.mono (fun i k hh => Or.inl hh))
      have L1 : PL b μ1 := L0.fr (f1.mono (fun i k hh => by unfold WTk at hh; omega))
      have T1 : TCl b μ1 P := T0.fr (f1.mono (fun i k hh => by unfold WTk at hh; omega))
      have S1 : SKC μ1 (m + 1) c p q := S0.fr (f1.mono (fun i k hh => by unfold WTk at hh; omega))
      have s1 := S1.2 m (by omega) (by omega)
      rw [s1.1, s1.2.2]
      refine ⟨⟨L1.2, by omega, by omega⟩, sTe_endParts hb T1 hn.2 hnG.2 (by omega) ops.1.2 ops.2.1 (fun μ2 f2 T2 => ?_)⟩
      have f2' : Fr (Wtm b) μ μ2 := f1'.tr (f2.mono (fun i k hh => by unfold Wbk at hh; unfold Wtm; omega))
      have S2 : SKC μ2 (m + 1) c p q := S1.fr (f2.mono (fun i k hh => by unfold Wbk at hh; omega))
      refine ⟨fun c2 => ⟨by omega, ?_⟩, fun c2 => ⟨by omega, ?_⟩⟩
      · have ho := b2i_b c2
        rw [if_pos ho] at ea
        have f3 : Fr (Wtm b) μ (j_up μ2 3 3 m) := f2'.put (Or.inr (Or.inl ⟨rfl, Or.inl rfl⟩))
        have x2 : HC μ2 n t h' e' := x1.frB hb (f2.mono (fun i k hh => by unfold Wbk at hh; omega))
        refine sPa_closeUp hb h00 m q h' e' (endP P (c m) (q m)) (j_up μ2 3 3 m) (x2.frB hb (Fr.up (Or.inl ⟨rfl, Or.inl rfl⟩))) (hL.frB hb f3) (T2.fr (Fr.up (by omega))) (WB_endP hw (by omega)) (GT_endP hg (by omega)) ⟨up_eq, fun i a b => ?_⟩ (by omega) (Sk_close hk hnG.2 ho) (fun f hf μ4 f4 l4 => kf f (by rw [ea]; exact hf) μ4 (f3.tr f4) l4) (fun m' q' h3 e3 P3 hok3 μ4 f4 x4 T4 S4 => kt m' q' h3 e3 P3 (by rw [ea]; exact hok3) μ4 (f3.tr f4) x4 T4 S4)
        rw [up_ne (by decide), up_ne (by decide), up_ne (by decide)]
        exact S2.2 i a (by omega)
      · have ho := b2i_b0 c2
        rw [ho, if_neg (by decide)] at ea
        rw [(S2.2 m (by omega) (by omega)).2.1]
        exact sPa_refuse (fun μ3 f3 l3 => ⟨Or.inl rfl, _, rfl, kf _ ea μ3 (f2'.tr (f3.mono (fun i k hh => by unfold Wtm; omega))) l3⟩)
    refine vPa_closeBrackets_47 hb ?_
    rw [em, hsk.2.2]
    refine ⟨fun c1 => by omega, fun c1 => ⟨by omega, fun c2 => cls μ Fr.rf hc hL hT hS (fun hx => by omega), fun c2 => ⟨hL.1, sTa_isMark hc (by decide) (by decide) ⟨fun c3 => cls μ Fr.rf hc hL hT hS (fun hx => by rw [hx.2] at c3; cases c3), fun c3 => ?_⟩⟩⟩⟩
    have hM := b2i_b c3
    rw [hsk.2.2]
    have f1 : Fr (Wtm b) μ (j_up μ 6 m (q m + 1)) := Fr.up (Or.inr (Or.inr (Or.inl (by omega))))
    refine ⟨⟨by omega, by omega, by omega, hL.1⟩, sTa_pastM (hc.frB hb (Fr.up (Or.inr (Or.inl (by omega))))) (by decide) (by decide) hM (fun μ2 f2 x2 => ⟨_, rfl, kt (m + 1) (hup q m (q m + 1)) _ _ P ?_ μ2 (f1.tr (f2.mono (fun i k hh => Or.inl hh))) x2 ?_ ⟨?_, fun i a b => ?_⟩⟩)⟩
    · show (if q m < 3 ∧ isM n t h 44 = true then _ else _) = _
      rw [if_pos ⟨by omega, hM⟩]
    · exact (hT.fr (Fr.up (by omega))).fr (f2.mono (fun i k hh => by unfold WTk at hh; omega))
    · rw [f2 3 3 (by unfold WTk; omega), up_ne (by decide)]; exact hS.1
    · rw [f2 4 i (by unfold WTk; omega), f2 5 i (by unfold WTk; omega), f2 6 i (by unfold WTk; omega), up_ne (by decide), up_ne (by decide), up_if]
      have := hS.2 i a b
      refine ⟨this.1, this.2.1, ?_⟩
      unfold hup
      split
      · rfl
      · exact this.2.2
end
