/-! the class reads statements: the book in the making -/
def BKp (b : Nat) (μ : jMu) (P : jP) : Prop := TCl b μ P ∧ (μ b 12 = nR P ∧ μ b 13 = nS P ∧ μ b 14 = nD P) ∧ (∀ r, 0 ≤ r → r < nR P → μ (b + 9) r = pr P r ∧ μ (b + 11) r = tf P (4 * r + 3)) ∧ (∀ r k, 0 ≤ r → r < nR P → 0 ≤ k → k < pr P r → μ (b + 10) (3 * r + k) = tf P (4 * r + k)) ∧ (∀ s, 0 ≤ s → s < nS P → μ (b + 12) s = ru P s ∧ μ (b + 13) s = tf P (48 + s)) ∧ (∀ s k, 0 ≤ s → s < nS P → 0 ≤ k → k < pn P s → μ (b + 14) (3 * s + k) = nm P s k) ∧ (∀ d, 0 ≤ d → d < nD P → μ (b + 16) d = od P d ∧ μ (b + 17) d = rf P d ∧ μ (b + 18) d = rt P d) ∧ (∀ i, 0 ≤ i → i < nR P → μ (b + 8) i = nk P 0 i) ∧ (∀ i, 0 ≤ i → i < nD P → μ (b + 15) i = nk P 1 i)
def Wss (b : Nat) (i : Nat) (k : Int) : Prop := Wtm b i k ∨ (i = 3 ∧ k = 6) ∨ i = b ∨ (b + 8 ≤ i ∧ i ≤ b + 18)
theorem Wtm.ss {b : Nat} : ∀ i k, Wtm b i k → Wss b i k := fun i k h => Or.inl h
theorem WTk.ss {b : Nat} : ∀ i k, WTk i k → Wss b i k := fun i k h => Or.inl (Or.inl h)
theorem Wtk3.ss {b : Nat} : ∀ i k, Wtk3 i k → Wss b i k := fun i k h => Or.inl (by unfold Wtk3 at h; unfold Wtm; omega)
section
variable {E : jE} {μ μ1 : jMu} {Q : Int → jMu → Prop} {Q0 : jMu → Prop} {n h e : Int} {t : Int → Int} {P P' : jP} {b : Nat}
theorem PL.ss (hb : isB b) (hL : PL b μ) (hf : Fr (Wss b) μ μ1) : PL b μ1 := hL.fr (hf.mono (fun i k hh => by unfold Wss Wtm at hh; have := isB_7 hb; omega))
theorem BKp.gt (hb : isB b) (hB : BKp b μ P) (hp : WP P) (hf : Fr (Wtm b) μ μ1) (hT : TCl b μ1 P') (hg : GT P P') : BKp b μ1 P' := by
  have hB7 := isB_7 hb
  obtain ⟨_, ⟨c1, c2, c3⟩, r1, r2, s1, s2, d1, k1, k2⟩ := hB
  have hn := hp.1.1
  unfold WFn at hn
  have m : ∀ (o : Nat) k, o = 0 ∨ (8 ≤ o ∧ o ≤ 18) → μ1 (b + o) k = μ (b + o) k := fun o k ho => hf (b + o) k (by unfold Wtm; omega)
  have m0 : ∀ k, μ1 b k = μ b k := fun k => m 0 k (Or.inl rfl)
  have e0 : nR P' = nR P := hg.2.1 0 (by decide) (by decide) (by decide)
  have e1 : nD P' = nD P := hg.2.1 1 (by decide) (by decide) (by decide)
  have e4 : nS P' = nS P := hg.2.1 4 (by decide) (by decide) (by decide)
  have ei : ∀ (i : Nat) k, i ≠ 0 → i ≠ 4 → i ≠ 5 → i ≠ 6 → i ≠ 11 → P' i k = P i k := hg.1
  have ep : ∀ r, pr P' r = pr P r := fun r => ei 1 r (by decide) (by decide) (by decide) (by decide) (by decide)
  have er : ∀ r, ru P' r = ru P r := fun r => ei 2 r (by decide) (by decide) (by decide) (by decide) (by decide)
  have em : ∀ s k, nm P' s k = nm P s k := fun s k => ei 3 _ (by decide) (by decide) (by decide) (by decide) (by decide)
  have et : ∀ w, tf P' w = tf P w := fun w => ei 7 w (by decide) (by decide) (by decide) (by decide) (by decide)
  have eo : ∀ d, od P' d = od P d := fun d => ei 8 d (by decide) (by decide) (by decide) (by decide) (by decide)
  have ef : ∀ d, rf P' d = rf P d := fun d => ei 9 d (by decide) (by decide) (by decide) (by decide) (by decide)
  have eg : ∀ d, rt P' d = rt P d := fun d => ei 10 d (by decide) (by decide) (by decide) (by decide) (by decide)
  have ek : ∀ kd i, 0 ≤ kd → kd ≤ 3 → 0 ≤ i → i < nN P kd → nk P' kd i = nk P kd i := hg.2.2.2.2.1
  refine ⟨hT, ⟨?_, ?_, ?_⟩, fun r a c => ?_, fun r k a c d f => ?_, fun s a c => ?_, fun s k a c d f => ?_, fun d a c => ?_, fun i a c => ?_, fun i a c => ?_⟩
  · rw [m0, c1, e0]
  · rw [m0, c2, e4]
  · rw [m0, c3, e1]
  · rw [m 9 r (by omega), m 11 r (by omega), ep, et]; exact r1 r a (by omega)
  · rw [ep] at f
    rw [m 10 _ (by omega), et]; exact r2 r k a (by omega) d f
  · rw [m 12 s (by omega), m 13 s (by omega), er, et]; exact s1 s a (by omega)
  · have epn : pn P' s = pn P s := by unfold pn; rw [er, ep]
    rw [m 14 _ (by omega), em]; exact s2 s k a (by omega) d (by omega)
  · rw [m 16 d (by omega), m 17 d (by omega), m 18 d (by omega), eo, ef, eg]; exact d1 d a (by omega)
  · rw [m 8 i (by omega), ek 0 i (by omega) (by omega) a (show i < nR P by omega)]; exact k1 i a (by omega)
  · rw [m 15 i (by omega), ek 1 i (by omega) (by omega) a (show i < nD P by omega)]; exact k2 i a (by omega)
theorem BKp.tk (hb : isB b) (hB : BKp b μ P) (hp : WP P) (hf : Fr Wtk3 μ μ1) : BKp b μ1 P := hB.gt hb hp (hf.mono (fun i k hh => by unfold Wtk3 at hh; unfold Wtm; omega)) (hB.1.fr (hf.mono (fun i k hh => by unfold Wtk3 at hh; have := isB_7 hb; omega))) GT.rf
theorem sBk_ruleNamed (hb : isB b) (hB : BKp b μ P) (hp : WP P) {c : Int} (k : Q (fnd P 0 c) μ) : Ci E mBk_ruleNamed [jvR ((b : Nat) : Int), jvI c] μ Q := by
  obtain ⟨_, ⟨c1, c2, c3⟩, r1, r2, s1, s2, d1, k1, k2⟩ := hB
  have hn := hp.1.1
  unfold WFn at hn
  have e0 : nN P 0 = nR P := rfl
  refine vBk_ruleNamed_0 hb ?_
  have lp : ∀ l2 : Int, 0 ≤ l2 → l2 ≤ nR P → (∀ i, 0 ≤ i → i < l2 → nk P 0 i ≠ c) → K 121 E mBk_ruleNamed 2 [some (jvR ((b : Nat) : Int)), some (jvI c), some (jvI l2)] [] μ (fun v μ1 => ∃ r, v = some (jvI r) ∧ Q r μ1) := by
    refine up_ind (nR P) _ ?_
    intro l2 ih g0 g1 g2
    refine vBk_ruleNamed_2 hb ?_
    rw [c1]
    refine ⟨fun x => ⟨_, rfl, ?_⟩, fun x => ⟨by omega, ?_⟩⟩
    · rw [show fnd P 0 c = -1 from ff_none (fun i x y => beq_eq_false_iff_ne.mpr (g2 i x (by omega)))] at k; exact k
    · rw [k1 l2 g0 (by omega)]
      refine ⟨fun c2 => ⟨by omega, ih (by omega) (by omega) (by omega) (fun i x y => ?_)⟩, fun c2 => ⟨_, rfl, ?_⟩⟩
      · by_cases hi : i = l2
        · rw [hi]; exact c2
        · exact g2 i x (by omega)
      · rw [show fnd P 0 c = l2 from ff_eq g0 (by omega) (beq_iff_eq.mpr c2) (fun i x y => beq_eq_false_iff_ne.mpr (g2 i x y))] at k; exact k
  exact lp 0 (by omega) (by omega) (fun i x y => by omega)
theorem sBk_hasReaderNamed (hb : isB b) (hB : BKp b μ P) (hp : WP P) {c : Int} (k : Q (b2i (decide (fnd P 1 c ≠ -1))) μ) : Ci E mBk_hasReaderNamed [jvR ((b : Nat) : Int), jvI c] μ Q := by
  obtain ⟨_, ⟨c1, c2, c3⟩, r1, r2, s1, s2, d1, k1, k2⟩ := hB
  have hn := hp.1.1
  unfold WFn at hn
  have e0 : nN P 1 = nD P := rfl
  refine vBk_hasReaderNamed_0 hb ?_
  have lp : ∀ l2 : Int, 0 ≤ l2 → l2 ≤ nD P → (∀ i, 0 ≤ i → i < l2 → nk P 1 i ≠ c) → K 121 E mBk_hasReaderNamed 2 [some (jvR ((b : Nat) : Int)), some (jvI c), some (jvI l2)] [] μ (fun v μ1 => ∃ r, v = some (jvI r) ∧ Q r μ1) := by
    refine up_ind (nD P) _ ?_
    intro l2 ih g0 g1 g2
    refine vBk_hasReaderNamed_2 hb ?_
    rw [c3]
    refine ⟨fun x => ⟨_, rfl, ?_⟩, fun x => ⟨by omega, ?_⟩⟩
    · rw [show fnd P 1 c = -1 from ff_none (fun i x y => beq_eq_false_iff_ne.mpr (g2 i x (by omega)))] at k; exact k
    · rw [k2 l2 g0 (by omega)]
      refine ⟨fun c2 => ⟨by omega, ih (by omega) (by omega) (by omega) (fun i x y => ?_)⟩, fun c2 => ⟨_, rfl, ?_⟩⟩
      · by_cases hi : i = l2
        · rw [hi]; exact c2
        · exact g2 i x (by omega)
      · rw [show fnd P 1 c = l2 from ff_eq g0 (by omega) (beq_iff_eq.mpr c2) (fun i x y => beq_eq_false_iff_ne.mpr (g2 i x y)), decide_eq_true (by omega)] at k; exact k
  exact lp 0 (by omega) (by omega) (fun i x y => by omega)
theorem sPa_takeNewName (hb : isB b) (hc : HC μ n t h e) (hL : PL b μ) (hB : BKp b μ P) (hp : WP P) (kf : ∀ f, aNew n t h e P = .error f → ∀ μ1, Fr Wtk3 μ μ1 → Flt μ1 f → Q 0 μ1) (kt : ∀ c h' e', aNew n t h e P = .ok (c, h', e') → ∀ μ1, Fr Wtk3 μ μ1 → HC μ1 n t h' e' → Q c μ1) : Ci E mPa_takeNewName [jvR 3] μ Q := by
  refine vPa_takeNewName_0 hb (sPa_takeName hc hL.1 (fun f hf μ1 f1 l1 => ⟨fun _ => ⟨_, rfl, kf f (by unfold aNew; rw [hf]) μ1 f1 l1⟩, fun c => absurd rfl c⟩) (fun c h' e' hN μ1 f1 x1 p1 => ?_))
  have hno := aName_ok hc.hd hN
  have en : aNew n t h e P = if fnd P 0 c ≠ -1 ∨ fnd P 1 c ≠ -1 then .error (3, h) else .ok (c, h', e') := by unfold aNew; rw [hN]
  have B1 := hB.tk hb hp f1
  have L1 := hL.ss hb (f1.mono Wtk3.ss)
  have bad : (fnd P 0 c ≠ -1 ∨ fnd P 1 c ≠ -1) → Ci E mPa_refuse [jvR 3, jvI 3, jvI (μ1 3 7)] μ1 (fun _ μ3 => ∃ r, some (jvI 0) = some (jvI r) ∧ Q r μ3) := fun hx => by
    rw [p1]
    exact sPa_refuse (fun μ2 f2 l2 => ⟨_, rfl, kf _ (by rw [en, if_pos hx]) μ2 (f1.tr (f2.mono (fun i k hh => Or.inr (by omega)))) l2⟩)
  refine ⟨fun cz => absurd cz (okN_0 hno.2.2.1), fun _ => ⟨L1.2, sBk_ruleNamed hb B1 hp ⟨fun c1 => bad (Or.inl c1), fun c1 => ⟨L1.2, sBk_hasReaderNamed hb B1 hp ⟨fun c2 => ⟨_, rfl, ?_⟩, fun c2 => bad (Or.inr (of_decide_eq_true (b2i_b c2)))⟩⟩⟩⟩⟩
  have h2 := of_decide_eq_false (b2i_b0 c2)
  rw [if_neg (by omega)] at en
  exact kt _ _ _ en μ1 f1 x1
theorem sBk_addRule (hb : isB b) (hB : BKp b μ P) (hp : WP P) {c k s : Int} (h12 : nR P < 12) (hk : k ≤ 3) (hpr : ∀ i, 0 ≤ i → i < k → μ (b + 10) (3 * nR P + i) = tf P (4 * nR P + i)) (kt : ∀ μ1, Fr (fun i _ => i = b ∨ (b + 8 ≤ i ∧ i ≤ b + 18)) μ μ1 → BKp b μ1 (adR P c k s) → Q0 μ1) : Cv E mBk_addRule [jvR ((b : Nat) : Int), jvI c, jvI k, jvI s] μ Q0 := by
  have hB7 := isB_7 hb
  obtain ⟨hT, ⟨c1, c2, c3⟩, r1, r2, s1, s2, d1, k1, k2⟩ := hB
  have hn := hp.1.1
  unfold WFn at hn
  refine vBk_addRule_0 hb ?_
  simp (disch := omega) only [up_ne, up_eq]
  rw [c1]
  refine ⟨by omega, trivial, ?_⟩
  have ei : ∀ (i : Nat) x, i ≠ 7 → i ≠ 1 → i ≠ 11 → i ≠ 0 → adR P c k s i x = P i x := fun i x a1 a2 a3 a4 => by
    unfold adR; rw [up_ne a4, up_ne a3, up_ne a2, up_ne a1]
  have e0 : ∀ x, adR P c k s 0 x = if x = 0 then nR P + 1 else P 0 x := fun x => by
    unfold adR; rw [up_if, up_ne (by decide), up_ne (by decide), up_ne (by decide)]
  have e11 : ∀ x, adR P c k s 11 x = if x = nR P then c else P 11 x := fun x => by
    unfold adR; rw [up_ne (by decide), up_if, up_ne (by decide), up_ne (by decide)]
  have e1 : ∀ x, pr (adR P c k s) x = if x = nR P then k else pr P x := fun x => by
    show adR P c k s 1 x = _
    unfold adR; rw [up_ne (by decide), up_ne (by decide), up_if, up_ne (by decide)]; rfl
  have e7 : ∀ x, tf (adR P c k s) x = if x = 4 * nR P + 3 then s else tf P x := fun x => by
    show adR P c k s 7 x = _
    unfold adR; rw [up_ne (by decide), up_ne (by decide), up_ne (by decide), up_if]; rfl
  have eR : nR (adR P c k s) = nR P + 1 := by show adR P c k s 0 0 = _; rw [e0, if_pos rfl]
  have eo : ∀ x, x ≠ 0 → adR P c k s 0 x = P 0 x := fun x hx => by rw [e0, if_neg hx]
  have eD : nD (adR P c k s) = nD P := eo 1 (by decide)
  have eS : nS (adR P c k s) = nS P := eo 4 (by decide)
  have er : ∀ x, ru (adR P c k s) x = ru P x := fun x => ei 2 x (by decide) (by decide) (by decide) (by decide)
  have f1 : Fr (fun i _ => i = b ∨ (b + 8 ≤ i ∧ i ≤ b + 18)) μ (j_up (j_up (j_up (j_up μ (b + 8) (nR P) c) (b + 9) (nR P) k) (b + 11) (nR P) s) b 12 (nR P + 1)) := (((Fr.up (Or.inr (by omega))).put (Or.inr (by omega))).put (Or.inr (by omega))).put (Or.inl rfl)
  have hT1 : TCl b (j_up (j_up (j_up (j_up μ (b + 8) (nR P) c) (b + 9) (nR P) k) (b + 11) (nR P) s) b 12 (nR P + 1)) (adR P c k s) := by
    have g := hT.fr (μ1 := j_up (j_up (j_up (j_up μ (b + 8) (nR P) c) (b + 9) (nR P) k) (b + 11) (nR P) s) b 12 (nR P + 1)) (f1.mono (fun i k hh => by omega))
    obtain ⟨⟨a1, a2, a3⟩, ac, ad, af⟩ := g
    have eG : nG (adR P c k s) = nG P := eo 2 (by decide)
    have eH : nH (adR P c k s) = nH P := eo 3 (by decide)
    have eC : nC (adR P c k s) = nC P := eo 6 (by decide)
    refine ⟨⟨by rw [a1, eG], by rw [a2, eH], by rw [a3, eC]⟩, fun g x y => ?_, fun i x y => ?_, fun z x y => ?_⟩
    · have := ac g x (by omega)
      refine ⟨this.1.trans ?_, this.2.trans (ei 6 g (by decide) (by decide) (by decide) (by decide)).symm⟩
      show P 11 (24 * 2 + g) = adR P c k s 11 (24 * 2 + g)
      rw [e11, if_neg (by omega)]
    · refine (ad i x (by omega)).trans ?_
      show P 11 (24 * 3 + i) = adR P c k s 11 (24 * 3 + i)
      rw [e11, if_neg (by omega)]
    · have := af z x (by omega)
      exact ⟨this.1.trans (ei 4 z (by decide) (by decide) (by decide) (by decide)).symm, this.2.trans (ei 5 z (by decide) (by decide) (by decide) (by decide)).symm⟩
  refine kt _ f1 ⟨hT1, ⟨?_, ?_, ?_⟩, fun r a c' => ?_, fun r y a c' d f => ?_, fun x a c' => ?_, fun x y a c' d f => ?_, fun d a c' => ?_, fun i a c' => ?_, fun i a c' => ?_⟩
  · rw [up_eq, eR]
  · rw [up_nk (by decide), up_ne (by omega), up_ne (by omega), up_ne (by omega), c2, eS]
  · rw [up_nk (by decide), up_ne (by omega), up_ne (by omega), up_ne (by omega), c3, eD]
  · rw [up_ne (by omega), up_ne (by omega), up_if, up_ne (by omega), up_ne (by omega), up_if, up_ne (by omega), up_ne (by omega), e1, e7]
    by_cases hr : r = nR P
    · rw [if_pos hr, if_pos hr, if_pos hr, if_pos (by omega)]; exact ⟨rfl, rfl⟩
    · rw [if_neg hr, if_neg hr, if_neg hr, if_neg (by omega)]; exact r1 r a (by omega)
  · rw [up_ne (by omega), up_ne (by omega), up_ne (by omega), up_ne (by omega), e7]
    rw [e1] at f
    by_cases hr : r = nR P
    · rw [if_pos hr] at f
      rw [hr, if_neg (by omega)]; exact hpr y d f
    · rw [if_neg hr] at f
      have hw := hp.2.2.1 r a (by omega)
      rw [if_neg (by omega)]; exact r2 r y a (by omega) d f
  · rw [up_ne (by omega), up_ne (by omega), up_ne (by omega), up_ne (by omega), up_ne (by omega), up_ne (by omega), up_ne (by omega), up_ne (by omega), er, e7, if_neg (by omega)]
    exact s1 x a (by omega)
  · have hru := hp.2.2.2.1 x a (by omega)
    have epn : pn (adR P c k s) x = pn P x := by unfold pn; rw [er, e1, if_neg (by omega)]
    rw [up_ne (by omega), up_ne (by omega), up_ne (by omega), up_ne (by omega)]
    exact (s2 x y a (by omega) d (by omega)).trans (ei 3 _ (by decide) (by decide) (by decide) (by decide)).symm
  · simp (disch := omega) only [up_ne]
    have := d1 d a (by omega)
    exact ⟨this.1.trans (ei 8 _ (by decide) (by decide) (by decide) (by decide)).symm, this.2.1.trans (ei 9 _ (by decide) (by decide) (by decide) (by decide)).symm, this.2.2.trans (ei 10 _ (by decide) (by decide) (by decide) (by decide)).symm⟩
  · rw [up_ne (by omega), up_ne (by omega), up_ne (by omega), up_if]
    show _ = adR P c k s 11 (24 * 0 + i)
    rw [e11]
    by_cases hi : i = nR P
    · rw [if_pos hi, if_pos (by omega)]
    · rw [if_neg hi, if_neg (by omega)]; exact k1 i a (by omega)
  · rw [up_ne (by omega), up_ne (by omega), up_ne (by omega), up_ne (by omega)]
    show _ = adR P c k s 11 (24 * 1 + i)
    rw [e11, if_neg (by omega)]; exact k2 i a (by omega)
end
