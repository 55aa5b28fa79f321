/-! the class reads a step -/
section
variable {E : jE} {μ μ1 : jMu} {Q : Int → jMu → Prop} {Q0 : jMu → Prop} {n h e : Int} {t : Int → Int} {P P' : jP} {b : Nat}
theorem BKp.t3 (hb : isB b) (hB : BKp b μ P) (hp : WP P) {x v : Int} (hx : 3 * nS P ≤ x) : BKp b (j_up μ (b + 14) x v) (j_up P 3 x v) := by
  have hB7 := isB_7 hb
  obtain ⟨hT, ⟨c1, c2, c3⟩, r1, r2, s1, s2, d1, k1, k2⟩ := hB
  have T1 : TCl b (j_up μ (b + 14) x v) P := hT.fr (Fr.up (by omega))
  refine ⟨T1, ⟨?_, ?_, ?_⟩, fun r a c => ?_, fun r k a c d f => ?_, fun s a c => ?_, fun s k a c d f => ?_, fun d a c => ?_, fun i a c => ?_, fun i a c => ?_⟩
  · rw [up_ne (by omega)]; exact c1
  · rw [up_ne (by omega)]; exact c2
  · rw [up_ne (by omega)]; exact c3
  · rw [up_ne (by omega), up_ne (by omega)]; exact r1 r a c
  · rw [up_ne (by omega)]; exact r2 r k a c d f
  · rw [up_ne (by omega), up_ne (by omega)]; exact s1 s a c
  · have c : s < nS P := c
    have f : k < pn P s := f
    have hpp := hp.2.2.1 _ (hp.2.2.2.1 s a c).1 (hp.2.2.2.1 s a c).2
    have hpp : 0 ≤ pn P s ∧ pn P s ≤ 3 := hpp
    show _ = (j_up P 3 x v) 3 (3 * s + k)
    rw [up_nk (by omega), up_nk (by omega)]; exact s2 s k a c d f
  · rw [up_ne (by omega), up_ne (by omega), up_ne (by omega)]; exact d1 d a c
  · rw [up_ne (by omega)]; exact k1 i a c
  · rw [up_ne (by omega)]; exact k2 i a c
theorem sBk_addStep (hb : isB b) (hB : BKp b μ P) (hp : WP P) {s r : Int} (h40 : nS P < 40) (hm : ∀ i, 0 ≤ i → i < pr P r → μ (b + 14) (3 * nS P + i) = P 3 (3 * nS P + i)) (kt : ∀ μ1, Fr (fun i _ => i = b ∨ (b + 8 ≤ i ∧ i ≤ b + 18)) μ μ1 → BKp b μ1 (adS P s r) → Q0 μ1) : Cv E mBk_addStep [jvR ((b : Nat) : Int), jvI s, jvI r] μ Q0 := by
  have hB7 := isB_7 hb
  obtain ⟨hT, ⟨c1, c2, c3⟩, r1, r2, s1, s2, d1, k1, k2⟩ := hB
  have hn := hp.1.1
  unfold WFn at hn
  refine vBk_addStep_0 hb ?_
  simp (disch := omega) only [up_ne, up_eq]
  rw [c2]
  refine ⟨by omega, trivial, ?_⟩
  have ei : ∀ (i : Nat) x, i ≠ 7 → i ≠ 2 → i ≠ 0 → adS P s r i x = P i x := fun i x a1 a2 a4 => by
    unfold adS; rw [up_ne a4, up_ne a2, up_ne a1]
  have e0 : ∀ x, adS P s r 0 x = if x = 4 then nS P + 1 else P 0 x := fun x => by
    unfold adS; rw [up_if, up_ne (by decide), up_ne (by decide)]
  have e2 : ∀ x, ru (adS P s r) x = if x = nS P then r else ru P x := fun x => by
    show adS P s r 2 x = _
    unfold adS; rw [up_ne (by decide), up_if, up_ne (by decide)]; rfl
  have e7 : ∀ x, tf (adS P s r) x = if x = 48 + nS P then s else tf P x := fun x => by
    show adS P s r 7 x = _
    unfold adS; rw [up_ne (by decide), up_ne (by decide), up_if]; rfl
  have eS : nS (adS P s r) = nS P + 1 := by show adS P s r 0 4 = _; rw [e0, if_pos rfl]
  have eo : ∀ x, x ≠ 4 → adS P s r 0 x = P 0 x := fun x hx => by rw [e0, if_neg hx]
  have eR : nR (adS P s r) = nR P := eo 0 (by decide)
  have eD : nD (adS P s r) = nD P := eo 1 (by decide)
  have ep : ∀ x, pr (adS P s r) x = pr P x := fun x => ei 1 x (by decide) (by decide) (by decide)
  have em : ∀ x y, nm (adS P s r) x y = nm P x y := fun x y => ei 3 _ (by decide) (by decide) (by decide)
  have ek : ∀ kd i, nk (adS P s r) kd i = nk P kd i := fun kd i => ei 11 _ (by decide) (by decide) (by decide)
  have f1 : Fr (fun i _ => i = b ∨ (b + 8 ≤ i ∧ i ≤ b + 18)) μ (j_up (j_up (j_up μ (b + 13) (nS P) s) (b + 12) (nS P) r) b 13 (nS P + 1)) := ((Fr.up (Or.inr (by omega))).put (Or.inr (by omega))).put (Or.inl rfl)
  have hT1 : TCl b (j_up (j_up (j_up μ (b + 13) (nS P) s) (b + 12) (nS P) r) b 13 (nS P + 1)) (adS P s r) := by
    have g := hT.fr (μ1 := j_up (j_up (j_up μ (b + 13) (nS P) s) (b + 12) (nS P) r) b 13 (nS P + 1)) (f1.mono (fun i k hh => by omega))
    obtain ⟨⟨a1, a2, a3⟩, ac, ad, af⟩ := g
    have eG : nG (adS P s r) = nG P := eo 2 (by decide)
    have eH : nH (adS P s r) = nH P := eo 3 (by decide)
    have eC : nC (adS P s r) = nC P := eo 6 (by decide)
    refine ⟨⟨by rw [a1, eG], by rw [a2, eH], by rw [a3, eC]⟩, fun g x y => ?_, fun i x y => ?_, fun z x y => ?_⟩
    · have := ac g x (by omega)
      rw [ek]
      exact ⟨this.1, this.2.trans (ei 6 g (by decide) (by decide) (by decide)).symm⟩
    · rw [ek]; exact ad i x (by omega)
    · have := af z x (by omega)
      exact ⟨this.1.trans (ei 4 z (by decide) (by decide) (by decide)).symm, this.2.trans (ei 5 z (by decide) (by decide) (by decide)).symm⟩
  refine kt _ f1 ⟨hT1, ⟨?_, ?_, ?_⟩, fun r' a c' => ?_, fun r' y a c' d f => ?_, fun x a c' => ?_, fun x y a c' d f => ?_, fun d a c' => ?_, fun i a c' => ?_, fun i a c' => ?_⟩
  · rw [up_nk (by decide), up_ne (by omega), up_ne (by omega), c1, eR]
  · rw [up_eq, eS]
  · rw [up_nk (by decide), up_ne (by omega), up_ne (by omega), c3, eD]
  · simp (disch := omega) only [up_ne]
    rw [ep, e7, if_neg (by omega)]; exact r1 r' a (by omega)
  · rw [ep] at f
    have hw := hp.2.2.1 r' a (by omega)
    simp (disch := omega) only [up_ne]
    rw [e7, if_neg (by omega)]; exact r2 r' y a (by omega) d f
  · rw [up_ne (by omega), up_if, up_ne (by omega), up_ne (by omega), up_ne (by omega), up_if, e2, e7]
    by_cases hx : x = nS P
    · rw [if_pos hx, if_pos hx, if_pos hx, if_pos (by omega)]; exact ⟨rfl, rfl⟩
    · rw [if_neg hx, if_neg hx, if_neg hx, if_neg (by omega)]; exact s1 x a (by omega)
  · have epn : pn (adS P s r) x = if x = nS P then pr P r else pn P x := by
      unfold pn
      rw [e2, ep]
      split
      · rfl
      · rfl
    rw [epn] at f
    simp (disch := omega) only [up_ne]
    rw [em]
    by_cases hx : x = nS P
    · rw [if_pos hx] at f
      rw [hx]; exact hm y d f
    · rw [if_neg hx] at f; exact s2 x y a (by omega) d f
  · simp (disch := omega) only [up_ne]
    have := d1 d a (by omega)
    exact ⟨this.1.trans (ei 8 _ (by decide) (by decide) (by decide)).symm, this.2.1.trans (ei 9 _ (by decide) (by decide) (by decide)).symm, this.2.2.trans (ei 10 _ (by decide) (by decide) (by decide)).symm⟩
  · simp (disch := omega) only [up_ne]
    rw [ek]; exact k1 i a (by omega)
  · simp (disch := omega) only [up_ne]
    rw [ek]; exact k2 i a (by omega)
theorem sPa_stepNames (hb : isB b) {s0 c r k0 : Int} (hr0 : 0 ≤ r) (hk0 : 0 ≤ k0 ∧ k0 < 40) : ∀ (f : Nat) (j h e : Int) (P : jP) (μ : jMu), 0 ≤ j → j + f = pr P r → HC μ n t h e → PL b μ → BKp b μ P → WP P → nS P = k0 → r < nR P → (∀ i, 0 ≤ i → i < j → μ (b + 14) (3 * k0 + i) = P 3 (3 * k0 + i)) → (∀ g, aNms n t f j h e P = .error g → ∀ μ1, Fr (Wsr b) μ μ1 → Flt μ1 g → Q 0 μ1) → (∀ h' e' P', aNms n t f j h e P = .ok (h', e', P') → ∀ μ1, Fr (Wsr b) μ μ1 → HC μ1 n t h' e' → BKp b μ1 (adS P' s0 r) → Q 1 μ1) → K 121 E mPa_readStep 76 [some (jvR 3), some (jvI k0), some (jvI s0), some (jvI c), some (jvI r), some (jvI j), none] [] μ (fun v μ1 => ∃ r, v = some (jvI r) ∧ Q r μ1)
  | 0, j, h, e, P, μ, g0, g1, hc, hL, hB, hp, hS, hr, hm, kf, kt => by
    have hn := hp.1.1
    unfold WFn at hn
    refine vPa_readStep_76 hb ?_
    rw [(hB.2.2.1 r hr0 hr).1]
    refine ⟨⟨hL.2, by omega⟩, fun _ => ⟨hL.2, sBk_addStep hb hB hp (by omega) (fun i i0 i1 => by rw [hS]; exact hm i i0 (by omega)) (fun μ3 f3 B3 => ⟨_, rfl, kt h e P rfl μ3 (f3.mono (fun i k hh => Or.inr hh)) (hc.frB hb (f3.mono (fun i k hh => by omega))) B3⟩)⟩, fun c => by omega⟩
  | f + 1, j, h, e, P, μ, g0, g1, hc, hL, hB, hp, hS, hr, hm, kf, kt => by
    have hB7 := isB_7 hb
    have hn := hp.1.1
    unfold WFn at hn
    have hp3 := hp.2.2.1 r hr0 hr
    have ee : ∀ g, aNum n t h e 0 (nS P - 1) = .error g → aNms n t (f + 1) j h e P = .error g := fun g hg => by unfold aNms; rw [hg]
    have eo : ∀ v h1 e1, aNum n t h e 0 (nS P - 1) = .ok (v, h1, e1) → aNms n t (f + 1) j h e P = aNms n t f (j + 1) h1 e1 (j_up P 3 (3 * nS P + j) v) := fun v h1 e1 hg => by conv => lhs; unfold aNms; rw [hg]
    rw [hS] at ee eo
    refine vPa_readStep_76 hb ?_
    rw [(hB.2.2.1 r hr0 hr).1]
    refine ⟨⟨hL.2, by omega⟩, fun c => by omega, fun _ => ⟨by omega, sPa_takeNumber hc hL.1 (fun g hg μ1 f1 l1 => ⟨fun c => absurd rfl c, fun _ => ⟨_, rfl, kf g (ee g hg) μ1 (f1.mono Wtk3.sr) l1⟩⟩) (fun v h1 e1 hok μ1 f1 x1 => ?_)⟩⟩
    have ho := aNum_ok hc.hd hok
    have ea := eo v h1 e1 hok
    have f1' : Fr (Wsr b) μ μ1 := f1.mono WTk.sr
    have L1 := hL.sr hb f1'
    have B1 := hB.tk hb hp (f1.mono WTk.t3)
    refine ⟨fun _ => ⟨⟨L1.2, by omega, by omega, by omega, by omega⟩, ?_⟩, fun cz => by omega⟩
    have f2 : Fr (Wsr b) μ (j_up μ1 (b + 14) (3 * k0 + j) v) := f1'.put (Or.inr (Or.inr (by omega)))
    have B2 := B1.t3 hb hp (x := 3 * k0 + j) (v := v) (by omega)
    have W2 := WP_t3 hp (x := 3 * k0 + j) (v := v) (by omega)
    refine sPa_stepNames hb hr0 hk0 f (j + 1) h1 e1 (j_up P 3 (3 * k0 + j) v) _ (by omega) (show j + 1 + (f : Int) = pr P r by omega) (x1.frB hb (Fr.up (by omega))) (hL.sr hb f2) B2 W2.1 (by rw [W2.2]; exact hS) hr (fun i i0 i1 => ?_) (fun g hg μ4 f4 l4 => kf g (by rw [ea]; exact hg) μ4 (f2.tr f4) l4) (fun h' e' P' hok' μ4 f4 x4 B4 => kt h' e' P' (by rw [ea]; exact hok') μ4 (f2.tr f4) x4 B4)
    rw [up_if, up_if]
    by_cases hi : i = j
    · rw [if_pos (by omega), if_pos (by omega)]
    · rw [if_neg (by omega), if_neg (by omega), f1 (b + 14) _ (by unfold WTk; omega)]; exact hm i i0 (by omega)
theorem sPa_readStep (hb : isB b) (hc : HC μ n t h e) (hL : PL b μ) (hB : BKp b μ P) (hp : WP P) (h40 : nS P < 40) (hw : isW n t h e 658685952 = true) (kf : ∀ g, aStep n t (sk n t (wl n t h)) (wl n t h) P = .error g → ∀ μ1, Fr (Wsr b) μ μ1 → Flt μ1 g → Q 0 μ1) (kt : ∀ h' e' P', aStep n t (sk n t (wl n t h)) (wl n t h) P = .ok (h', e', P') → ∀ μ1, Fr (Wsr b) μ μ1 → HC μ1 n t h' e' → BKp b μ1 P' → gl P' = gl P → Q 1 μ1) : Ci E mPa_readStep [jvR 3] μ Q := by
  have hn := hp.1.1
  unfold WFn at hn
  have hw2 := isW_hd hc.hd hw
  refine vPa_readStep_0 hb ⟨⟨hL.2, hL.1⟩, sTa_pastW hc hw (fun μ1 f1 x1 => ?_)⟩
  have f1' : Fr (Wsr b) μ μ1 := f1.mono WTk.sr
  have L1 := hL.sr hb f1'
  have B1 := hB.tk hb hp (f1.mono WTk.t3)
  rw [hB.2.1.2.1]
  refine sPa_readTerm hb x1 L1 B1.1 hp.1 hp.2.1 (fun g hg μ2 f2 l2 => ⟨fun _ => ⟨_, rfl, kf g (by unfold aStep; rw [hg]) μ2 (f1'.tr (f2.mono Wtm.sr)) l2⟩, fun c => absurd rfl c⟩) (fun h1 e1 P1 hT μ2 f2 x2 T2 => ?_)
  obtain ⟨a1, a2, a3, a4⟩ := aT_WP hw2.1 hp hT
  have ea : aStep n t (sk n t (wl n t h)) (wl n t h) P = aStp2 n t (nC P) h1 e1 P1 := by unfold aStep; rw [hT]
  have B2 := B1.gt hb hp f2 T2 a3
  have eS : nS P1 = nS P := a3.2.1 4 (by decide) (by decide) (by decide)
  have eg : gl P1 = gl P := a3.2.1 5 (by decide) (by decide) (by decide)
  have f2' : Fr (Wsr b) μ μ2 := f1'.tr (f2.mono Wtm.sr)
  have L2 := hL.sr hb f2'
  refine ⟨fun cz => by omega, fun _ => sPa_takeWord x2 L2.1 (fun g hg μ3 f3 l3 => ⟨fun c => absurd rfl c, fun _ => ⟨_, rfl, kf g (by rw [ea]; unfold aStp2; rw [hg]) μ3 (f2'.tr (f3.mono Wtk3.sr)) l3⟩⟩) (fun h2 e2 hW μ3 f3 x3 => ⟨fun _ => ?_, fun c => absurd c (by decide)⟩)⟩
  have f3' : Fr (Wsr b) μ μ3 := f2'.tr (f3.mono WTk.sr)
  have L3 := hL.sr hb f3'
  have B3 := B2.tk hb a2 (f3.mono WTk.t3)
  have w3 := aWord_ok a1 hW
  refine sPa_takeName x3 L3.1 (fun g hg μ4 f4 l4 => ⟨fun c => absurd rfl c, fun _ => ⟨_, rfl, kf g (by rw [ea]; unfold aStp2; rw [hW]; dsimp only; rw [hg]) μ4 (f3'.tr (f4.mono Wtk3.sr)) l4⟩⟩) (fun c h3 e3 hN μ4 f4 x4 p4 => ?_)
  have hno := aName_ok w3.1 hN
  have f4' : Fr (Wsr b) μ μ4 := f3'.tr (f4.mono Wtk3.sr)
  have L4 := hL.sr hb f4'
  have B4 := B3.tk hb a2 f4
  refine ⟨fun _ => ⟨L4.2, sBk_ruleNamed hb B4 a2 ⟨fun c1 => ?_, fun c1 => ?_⟩⟩, fun cz => absurd cz (okN_0 hno.2.2.1)⟩
  · have hr := fnd_r c1
    have hr2 : fnd P1 0 c < nR P1 := hr.2
    have hp3 := a2.2.2.1 _ hr.1 hr2
    have ee : ∀ g, aNms n t (pr P1 (fnd P1 0 c)).toNat 0 h3 e3 P1 = .error g → aStp2 n t (nC P) h1 e1 P1 = .error g := fun g hg => by
      unfold aStp2; rw [hW]; dsimp only; rw [hN]; dsimp only; rw [if_neg c1, hg]
    have eo : ∀ h4 e4 P4, aNms n t (pr P1 (fnd P1 0 c)).toNat 0 h3 e3 P1 = .ok (h4, e4, P4) → aStp2 n t (nC P) h1 e1 P1 = .ok (h4, e4, adS P4 (nC P) (fnd P1 0 c)) := fun h4 e4 P4 hg => by
      unfold aStp2; rw [hW]; dsimp only; rw [hN]; dsimp only; rw [if_neg c1, hg]
    refine sPa_stepNames hb hr.1 (by omega) (pr P1 (fnd P1 0 c)).toNat 0 h3 e3 P1 μ4 (by omega) (by omega) x4 L4 B4 a2 eS hr2 (fun i i0 i1 => by omega) (fun g hg μ5 f5 l5 => kf g (by rw [ea]; exact ee g hg) μ5 (f4'.tr f5) l5) (fun h4 e4 P4 hok μ5 f5 x5 B5 => kt h4 e4 _ (by rw [ea]; exact eo h4 e4 P4 hok) μ5 (f4'.tr f5) x5 B5 ?_)
    obtain ⟨b1, b2, b3, b4⟩ := aNms_ok _ 0 h3 e3 P1 h4 e4 P4 hno.1 a2 (by omega) (by omega) (fun i a b => by omega) hok
    show adS P4 (nC P) (fnd P1 0 c) 0 5 = _
    unfold adS
    rw [up_nk (by decide), up_ne (by decide), up_ne (by decide), b3 0 5 (by decide)]
    exact eg
  · rw [p4]
    exact sPa_refuse (fun μ5 f5 l5 => ⟨Or.inl rfl, _, rfl, kf _ (by rw [ea]; unfold aStp2; rw [hW]; dsimp only; rw [hN]; dsimp only; rw [if_pos c1]) μ5 (f4'.tr (f5.mono (fun i k hh => Or.inl (by unfold Wtm; omega)))) l5⟩)
end
