/-! the class reads goals, readers, statements -/
section
variable {E : jE} {μ μ1 : jMu} {Q : Int → jMu → Prop} {Q0 : jMu → Prop} {n h e : Int} {t : Int → Int} {P P' : jP} {b : Nat}
theorem sBk_addReader (hb : isB b) (hB : BKp b μ P) (hp : WP P) {c v a0 b0 : Int} (h6 : nD P < 6) (kt : ∀ μ1, Fr (fun i _ => i = b ∨ (b + 8 ≤ i ∧ i ≤ b + 18)) μ μ1 → BKp b μ1 (adD P c v a0 b0) → Q0 μ1) : Cv E mBk_addReader [jvR ((b : Nat) : Int), jvI c, jvI v, jvI a0, jvI b0] μ Q0 := by
  have hB7 := isB_7 hb
  obtain ⟨hT, ⟨c1, c2, c3⟩, r1, r2, s1, s2, d1, k1, k2⟩ := hB
  have hn := hp.1.1
  unfold WFn at hn
  refine vBk_addReader_0 hb ?_
  simp (disch := omega) only [up_ne, up_eq]
  rw [c3]
  refine ⟨by omega, trivial, ?_⟩
  have ei : ∀ (i : Nat) x, i ≠ 8 → i ≠ 9 → i ≠ 10 → i ≠ 11 → i ≠ 0 → adD P c v a0 b0 i x = P i x := fun i x a1 a2 a3 a4 a5 => by
    unfold adD; rw [up_ne a5, up_ne a4, up_ne a3, up_ne a2, up_ne a1]
  have e0 : ∀ x, adD P c v a0 b0 0 x = if x = 1 then nD P + 1 else P 0 x := fun x => by
    unfold adD; rw [up_if, up_ne (by decide), up_ne (by decide), up_ne (by decide), up_ne (by decide)]
  have e11 : ∀ x, adD P c v a0 b0 11 x = if x = 24 + nD P then c else P 11 x := fun x => by
    unfold adD; rw [up_ne (by decide), up_if, up_ne (by decide), up_ne (by decide), up_ne (by decide)]
  have e8 : ∀ x, od (adD P c v a0 b0) x = if x = nD P then v else od P x := fun x => by
    show adD P c v a0 b0 8 x = _
    unfold adD; rw [up_ne (by decide), up_ne (by decide), up_ne (by decide), up_ne (by decide), up_if]; rfl
  have e9 : ∀ x, rf (adD P c v a0 b0) x = if x = nD P then a0 else rf P x := fun x => by
    show adD P c v a0 b0 9 x = _
    unfold adD; rw [up_ne (by decide), up_ne (by decide), up_ne (by decide), up_if, up_ne (by decide)]; rfl
  have e10 : ∀ x, rt (adD P c v a0 b0) x = if x = nD P then b0 else rt P x := fun x => by
    show adD P c v a0 b0 10 x = _
    unfold adD; rw [up_ne (by decide), up_ne (by decide), up_if, up_ne (by decide), up_ne (by decide)]; rfl
  have eD : nD (adD P c v a0 b0) = nD P + 1 := by show adD P c v a0 b0 0 1 = _; rw [e0, if_pos rfl]
  have eo : ∀ x, x ≠ 1 → adD P c v a0 b0 0 x = P 0 x := fun x hx => by rw [e0, if_neg hx]
  have eR : nR (adD P c v a0 b0) = nR P := eo 0 (by decide)
  have eS : nS (adD P c v a0 b0) = nS P := eo 4 (by decide)
  have ep : ∀ x, pr (adD P c v a0 b0) x = pr P x := fun x => ei 1 x (by decide) (by decide) (by decide) (by decide) (by decide)
  have er : ∀ x, ru (adD P c v a0 b0) x = ru P x := fun x => ei 2 x (by decide) (by decide) (by decide) (by decide) (by decide)
  have et : ∀ x, tf (adD P c v a0 b0) x = tf P x := fun x => ei 7 x (by decide) (by decide) (by decide) (by decide) (by decide)
  have em : ∀ x y, nm (adD P c v a0 b0) x y = nm P x y := fun x y => ei 3 _ (by decide) (by decide) (by decide) (by decide) (by decide)
  generalize hμ : j_up (j_up (j_up (j_up (j_up μ (b + 15) (nD P) c) (b + 16) (nD P) v) (b + 17) (nD P) a0) (b + 18) (nD P) b0) b 14 (nD P + 1) = μ2
  have f1 : Fr (fun i _ => i = b ∨ (b + 8 ≤ i ∧ i ≤ b + 18)) μ μ2 := by
    rw [← hμ]
    exact ((((Fr.up (Or.inr (by omega))).put (Or.inr (by omega))).put (Or.inr (by omega))).put (Or.inr (by omega))).put (Or.inl rfl)
  have mo : ∀ (o : Nat) k, 8 ≤ o → o < 15 → μ2 (b + o) k = μ (b + o) k := fun o k x y => by
    rw [← hμ, up_ne (by omega), up_ne (by omega), up_ne (by omega), up_ne (by omega), up_ne (by omega)]
  have hT1 : TCl b μ2 (adD P c v a0 b0) := by
    obtain ⟨⟨a1, a2, a3⟩, ac, ad, af⟩ := hT.fr (μ1 := μ2) (f1.mono (fun i k hh => by omega))
    have eG : nG (adD P c v a0 b0) = nG P := eo 2 (by decide)
    have eH : nH (adD P c v a0 b0) = nH P := eo 3 (by decide)
    have eC : nC (adD P c v a0 b0) = nC P := eo 6 (by decide)
    refine ⟨⟨by rw [a1, eG], by rw [a2, eH], by rw [a3, eC]⟩, fun g x y => ?_, fun i x y => ?_, fun z x y => ?_⟩
    · have := ac g x (by omega)
      refine ⟨this.1.trans ?_, this.2.trans (ei 6 g (by decide) (by decide) (by decide) (by decide) (by decide)).symm⟩
      show P 11 (24 * 2 + g) = adD P c v a0 b0 11 (24 * 2 + g)
      rw [e11, if_neg (by omega)]
    · refine (ad i x (by omega)).trans ?_
      show P 11 (24 * 3 + i) = adD P c v a0 b0 11 (24 * 3 + i)
      rw [e11, if_neg (by omega)]
    · have := af z x (by omega)
      exact ⟨this.1.trans (ei 4 z (by decide) (by decide) (by decide) (by decide) (by decide)).symm, this.2.trans (ei 5 z (by decide) (by decide) (by decide) (by decide) (by decide)).symm⟩
  refine kt μ2 f1 ⟨hT1, ⟨?_, ?_, ?_⟩, fun r' a c' => ?_, fun r' y a c' d f => ?_, fun x a c' => ?_, fun x y a c' d f => ?_, fun d a c' => ?_, fun i a c' => ?_, fun i a c' => ?_⟩
  · rw [← hμ, up_nk (by decide), up_ne (by omega), up_ne (by omega), up_ne (by omega), up_ne (by omega), c1, eR]
  · rw [← hμ, up_nk (by decide), up_ne (by omega), up_ne (by omega), up_ne (by omega), up_ne (by omega), c2, eS]
  · rw [← hμ, up_eq, eD]
  · rw [mo 9 _ (by omega) (by omega), mo 11 _ (by omega) (by omega), ep, et]; exact r1 r' a (by omega)
  · rw [ep] at f
    rw [mo 10 _ (by omega) (by omega), et]; exact r2 r' y a (by omega) d f
  · rw [mo 12 _ (by omega) (by omega), mo 13 _ (by omega) (by omega), er, et]; exact s1 x a (by omega)
  · have : pn (adD P c v a0 b0) x = pn P x := by unfold pn; rw [er, ep]
    rw [mo 14 _ (by omega) (by omega), em]; exact s2 x y a (by omega) d (by omega)
  · have m16 : μ2 (b + 16) d = if d = nD P then v else μ (b + 16) d := by
      rw [← hμ, up_ne (by omega), up_ne (by omega), up_ne (by omega), up_if, up_ne (by omega)]
    have m17 : μ2 (b + 17) d = if d = nD P then a0 else μ (b + 17) d := by
      rw [← hμ, up_ne (by omega), up_ne (by omega), up_if, up_ne (by omega), up_ne (by omega)]
    have m18 : μ2 (b + 18) d = if d = nD P then b0 else μ (b + 18) d := by
      rw [← hμ, up_ne (by omega), up_if, up_ne (by omega), up_ne (by omega), up_ne (by omega)]
    rw [m16, m17, m18, e8, e9, e10]
    by_cases hd : d = nD P
    · rw [if_pos hd, if_pos hd, if_pos hd, if_pos hd, if_pos hd, if_pos hd]; exact ⟨rfl, rfl, rfl⟩
    · rw [if_neg hd, if_neg hd, if_neg hd, if_neg hd, if_neg hd, if_neg hd]; exact d1 d a (by omega)
  · rw [mo 8 _ (by omega) (by omega)]
    show _ = adD P c v a0 b0 11 (24 * 0 + i)
    rw [e11, if_neg (by omega)]; exact k1 i a (by omega)
  · have m15 : μ2 (b + 15) i = if i = nD P then c else μ (b + 15) i := by
      rw [← hμ, up_ne (by omega), up_ne (by omega), up_ne (by omega), up_ne (by omega), up_if]
    rw [m15]
    show _ = adD P c v a0 b0 11 (24 * 1 + i)
    rw [e11]
    by_cases hi : i = nD P
    · rw [if_pos hi, if_pos (by omega)]
    · rw [if_neg hi, if_neg (by omega)]; exact k2 i a (by omega)
theorem sPa_readReader (hb : isB b) (hc : HC μ n t h e) (hL : PL b μ) (hB : BKp b μ P) (hp : WP P) (h6 : nD P < 6) (hw : isW n t h e 609259698 = true) (kf : ∀ g, aReader n t (sk n t (wl n t h)) (wl n t h) P = .error g → ∀ μ1, Fr (Wsr b) μ μ1 → Flt μ1 g → Q 0 μ1) (kt : ∀ h' e' P', aReader n t (sk n t (wl n t h)) (wl n t h) P = .ok (h', e', P') → ∀ μ1, Fr (Wsr b) μ μ1 → HC μ1 n t h' e' → BKp b μ1 P' → gl P' = gl P → Q 1 μ1) : Ci E mPa_readReader [jvR 3] μ Q := by
  have hn := hp.1.1
  unfold WFn at hn
  refine vPa_readReader_0 hb ⟨hL.1, sTa_pastW hc hw (fun μ1 f1 x1 => ?_)⟩
  have g1 : Fr (Wsr b) μ μ1 := f1.mono WTk.sr
  have L1 := hL.sr hb g1
  have B1 := hB.tk hb hp (f1.mono WTk.t3)
  refine sPa_takeNewName hb x1 L1 B1 hp (fun g hg μ2 f2 l2 => ⟨fun _ => ⟨_, rfl, kf g (by unfold aReader; rw [hg]) μ2 (g1.tr (f2.mono Wtk3.sr)) l2⟩, fun c => absurd rfl c⟩) (fun c h1 e1 hN μ2 f2 x2 => ?_)
  have hno := aNew_ok x1.hd hN
  have ea : aReader n t (sk n t (wl n t h)) (wl n t h) P = aRea1 n t c h1 e1 P := by unfold aReader; rw [hN]
  rw [ea] at kf kt
  have g2 : Fr (Wsr b) μ μ2 := g1.tr (f2.mono Wtk3.sr)
  have L2 := hL.sr hb g2
  have B2 := B1.tk hb hp f2
  refine ⟨fun cz => absurd cz (okN_0 hno.2.1), fun _ => sPa_takeWord x2 L2.1 (fun g hg μ3 f3 l3 => ⟨fun c => absurd rfl c, fun _ => ⟨_, rfl, kf g (by unfold aRea1; rw [hg]) μ3 (g2.tr (f3.mono Wtk3.sr)) l3⟩⟩) (fun h2 e2 hW μ3 f3 x3 => ⟨fun _ => ?_, fun c => absurd c (by decide)⟩)⟩
  have g3 : Fr (Wsr b) μ μ3 := g2.tr (f3.mono WTk.sr)
  have L3 := hL.sr hb g3
  have B3 := B2.tk hb hp (f3.mono WTk.t3)
  refine sPa_takeNumber x3 L3.1 (fun g hg μ4 f4 l4 => ⟨fun _ => ⟨_, rfl, kf g (by unfold aRea1; rw [hW]; dsimp only; rw [hg]) μ4 (g3.tr (f4.mono Wtk3.sr)) l4⟩, fun c => absurd rfl c⟩) (fun v h3 e3 hV μ4 f4 x4 => ?_)
  have v4 := aNum_ok x3.hd hV
  have ea2 : aRea1 n t c h1 e1 P = aRea2 n t c v h3 e3 P := by unfold aRea1; rw [hW]; dsimp only; rw [hV]
  rw [ea2] at kf kt
  have g4 : Fr (Wsr b) μ μ4 := g3.tr (f4.mono WTk.sr)
  have L4 := hL.sr hb g4
  have B4 := B3.tk hb hp (f4.mono WTk.t3)
  refine ⟨fun cz => by omega, fun _ => sPa_takeWord x4 L4.1 (fun g hg μ5 f5 l5 => ⟨fun c => absurd rfl c, fun _ => ⟨_, rfl, kf g (by unfold aRea2; rw [hg]) μ5 (g4.tr (f5.mono Wtk3.sr)) l5⟩⟩) (fun h4 e4 hW2 μ5 f5 x5 => ⟨fun _ => ?_, fun c => absurd c (by decide)⟩)⟩
  have g5 : Fr (Wsr b) μ μ5 := g4.tr (f5.mono WTk.sr)
  have L5 := hL.sr hb g5
  have B5 := B4.tk hb hp (f5.mono WTk.t3)
  rw [B5.2.1.2.1]
  refine ⟨⟨L5.2, by omega⟩, sPa_takeNumber x5 L5.1 (fun g hg μ6 f6 l6 => ⟨fun _ => ⟨_, rfl, kf g (by unfold aRea2; rw [hW2]; dsimp only; rw [hg]) μ6 (g5.tr (f6.mono Wtk3.sr)) l6⟩, fun c => absurd rfl c⟩) (fun a h5 e5 hA μ6 f6 x6 => ?_)⟩
  have v6 := aNum_ok x5.hd hA
  have ea3 : aRea2 n t c v h3 e3 P = aRea3 n t c v a h5 e5 P := by unfold aRea2; rw [hW2]; dsimp only; rw [hA]
  rw [ea3] at kf kt
  have g6 : Fr (Wsr b) μ μ6 := g5.tr (f6.mono WTk.sr)
  have L6 := hL.sr hb g6
  have B6 := B5.tk hb hp (f6.mono WTk.t3)
  refine ⟨fun cz => by omega, fun _ => sPa_takeWord x6 L6.1 (fun g hg μ7 f7 l7 => ⟨fun c => absurd rfl c, fun _ => ⟨_, rfl, kf g (by unfold aRea3; rw [hg]) μ7 (g6.tr (f7.mono Wtk3.sr)) l7⟩⟩) (fun h7 e7 hW3 μ7 f7 x7 => ⟨fun _ => ?_, fun c => absurd c (by decide)⟩)⟩
  have g7 : Fr (Wsr b) μ μ7 := g6.tr (f7.mono WTk.sr)
  have L7 := hL.sr hb g7
  have B7 := B6.tk hb hp (f7.mono WTk.t3)
  rw [B7.2.1.2.1]
  refine ⟨⟨L7.2, by omega⟩, sPa_takeNumber x7 L7.1 (fun g hg μ8 f8 l8 => ⟨fun c => absurd rfl c, fun _ => ⟨_, rfl, kf g (by unfold aRea3; rw [hW3]; dsimp only; rw [hg]) μ8 (g7.tr (f8.mono Wtk3.sr)) l8⟩⟩) (fun bb h8 e8 hBn μ8 f8 x8 => ?_)⟩
  have v8 := aNum_ok x7.hd hBn
  have ea4 : aRea3 n t c v a h5 e5 P = .ok (h8, e8, adD P c v a bb) := by unfold aRea3; rw [hW3]; dsimp only; rw [hBn]
  have g8 : Fr (Wsr b) μ μ8 := g7.tr (f8.mono WTk.sr)
  have L8 := hL.sr hb g8
  have B8 := B7.tk hb hp (f8.mono WTk.t3)
  refine ⟨fun _ => ⟨L8.2, sBk_addReader hb B8 hp h6 (fun μ9 f9 B9 => ⟨_, rfl, kt _ _ _ ea4 μ9 (g8.tr (f9.mono (fun i k hh => Or.inr hh))) (x8.frB hb (f9.mono (fun i k hh => by omega))) B9 ?_⟩)⟩, fun cz => by omega⟩
  show adD P c v a bb 0 5 = _
  unfold adD
  rw [up_nk (by decide), up_ne (by decide), up_ne (by decide), up_ne (by decide), up_ne (by decide)]
  rfl
theorem BKp.gl (hB : BKp b μ P) {v : Int} : BKp b μ (j_up P 0 5 v) := hB
end
