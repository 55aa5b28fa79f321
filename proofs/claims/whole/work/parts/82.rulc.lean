/-! the class reads a rule -/
def Wsr (b : Nat) (i : Nat) (k : Int) : Prop := Wtm b i k ∨ i = b ∨ (b + 8 ≤ i ∧ i ≤ b + 18)
theorem Wtm.sr {b : Nat} : ∀ i k, Wtm b i k → Wsr b i k := fun i k h => Or.inl h
theorem WTk.sr {b : Nat} : ∀ i k, WTk i k → Wsr b i k := fun i k h => Or.inl (Or.inl h)
theorem Wtk3.sr {b : Nat} : ∀ i k, Wtk3 i k → Wsr b i k := fun i k h => Or.inl (by unfold Wtk3 at h; unfold Wtm; omega)
section
variable {E : jE} {μ μ1 : jMu} {Q : Int → jMu → Prop} {Q0 : jMu → Prop} {n h e : Int} {t : Int → Int} {P P' : jP} {b : Nat}
theorem PL.sr (hb : isB b) (hL : PL b μ) (hf : Fr (Wsr b) μ μ1) : PL b μ1 := hL.fr (hf.mono (fun i k hh => by unfold Wsr Wtm at hh; have := isB_7 hb; omega))
theorem BKp.t7 (hb : isB b) (hB : BKp b μ P) (hp : WP P) {w x y z : Int} (hw : ¬ inW P w) (hy : 3 * nR P ≤ y) : BKp b (j_up μ (b + 10) y z) (j_up P 7 w x) := by
  have hB7 := isB_7 hb
  obtain ⟨hT, ⟨c1, c2, c3⟩, r1, r2, s1, s2, d1, k1, k2⟩ := hB
  have et : ∀ v, v ≠ w → tf (j_up P 7 w x) v = tf P v := fun v hv => up_nk hv
  have T1 : TCl b (j_up μ (b + 10) y z) P := hT.fr (Fr.up (by omega))
  refine ⟨T1, ⟨?_, ?_, ?_⟩, fun r a c => ?_, fun r k a c d f => ?_, fun s a c => ?_, fun s k a c d f => ?_, fun d a c => ?_, fun i a c => ?_, fun i a c => ?_⟩
  · rw [up_ne (by omega)]; exact c1
  · rw [up_ne (by omega)]; exact c2
  · rw [up_ne (by omega)]; exact c3
  · have c : r < nR P := c
    rw [up_ne (by omega), up_ne (by omega), et _ (fun hh => hw (hh ▸ inW_g a c))]; exact r1 r a c
  · have c : r < nR P := c
    have f : k < pr P r := f
    have := hp.2.2.1 r a c
    rw [up_nk (by omega), et _ (fun hh => hw (hh ▸ inW_p a c d f))]; exact r2 r k a c d f
  · have c : s < nS P := c
    rw [up_ne (by omega), up_ne (by omega), et _ (fun hh => hw (hh ▸ inW_s a c))]; exact s1 s a c
  · rw [up_ne (by omega)]; exact s2 s k a c d f
  · rw [up_ne (by omega), up_ne (by omega), up_ne (by omega)]; exact d1 d a c
  · rw [up_ne (by omega)]; exact k1 i a c
  · rw [up_ne (by omega)]; exact k2 i a c
theorem aPrem_s {f : Nat} {j h1 e1 : Int} {P1 : jP} (hT : aT n t h e P = .ok (h1, e1, P1)) : aPrem n t (f + 1) j h e P = if j + 1 < 3 ∧ isM n t h1 44 = true then aPrem n t f (j + 1) (sk n t (h1 + 1)) e1 (j_up P1 7 (4 * nR P + j) (nC P)) else .ok (j + 1, h1, e1, j_up P1 7 (4 * nR P + j) (nC P)) := by
  conv => lhs; unfold aPrem
  rw [hT]
theorem aPrem_e {f : Nat} {j : Int} {g : jF} (hT : aT n t h e P = .error g) : aPrem n t (f + 1) j h e P = .error g := by
  unfold aPrem
  rw [hT]
theorem sPa_premises (hb : isB b) {c r0 : Int} (h12 : 0 ≤ r0 ∧ r0 < 12) : ∀ (f : Nat) (j h e : Int) (P : jP) (μ : jMu), 0 ≤ j → j + f = 3 → 0 < f → HC μ n t h e → PL b μ → BKp b μ P → WP P → nR P = r0 → (∀ i, 0 ≤ i → i < j → μ (b + 10) (3 * r0 + i) = tf P (4 * r0 + i)) → (∀ g, aPrem n t f j h e P = .error g → ∀ μ1, Fr (Wsr b) μ μ1 → Flt μ1 g → Q 0 μ1) → (∀ k h' e' P', aPrem n t f j h e P = .ok (k, h', e', P') → ∀ μ1, Fr (Wsr b) μ μ1 → HC μ1 n t h' e' → BKp b μ1 P' → (∀ i, 0 ≤ i → i < k → μ1 (b + 10) (3 * r0 + i) = tf P' (4 * r0 + i)) → gl P' = gl P → K 121 E mPa_readRule 47 [some (jvR 3), some (jvI r0), some (jvI k), some (jvI c), some (jvI 0), none] [] μ1 (fun v μ1 => ∃ r, v = some (jvI r) ∧ Q r μ1)) → K 121 E mPa_readRule 47 [some (jvR 3), some (jvI r0), some (jvI j), some (jvI c), some (jvI 1), none] [] μ (fun v μ1 => ∃ r, v = some (jvI r) ∧ Q r μ1)
  | 0, j, h, e, P, μ, g0, g1, g2, hc, hL, hB, hp, hr, hm, kf, kt => by omega
  | f + 1, j, h, e, P, μ, g0, g1, g2, hc, hL, hB, hp, hr, hm, kf, kt => by
    have hB7 := isB_7 hb
    refine vPa_readRule_47 hb ⟨fun c => absurd c (by decide), fun _ => ⟨fun c => by omega, fun _ => ?_⟩⟩
    refine sPa_readTerm hb hc hL hB.1 hp.1 hp.2.1 (fun g hg μ1 f1 l1 => ⟨fun c => absurd rfl c, fun _ => ⟨_, rfl, kf g (aPrem_e hg) μ1 (f1.mono Wtm.sr) l1⟩⟩) (fun h1 e1 P1 hT μ1 f1 x1 T1 => ?_)
    obtain ⟨a1, a2, a3, a4⟩ := aT_WP hc.hd hp hT
    have ea := aPrem_s (f := f) (j := j) hT
    have B1 := hB.gt hb hp f1 T1 a3
    have eR : nR P1 = nR P := a3.2.1 0 (by decide) (by decide) (by decide)
    have eg : gl P1 = gl P := a3.2.1 5 (by decide) (by decide) (by decide)
    have hni := not_inW_r a2 (by omega) (j := j) g0 (by omega)
    obtain ⟨b1, b2, b3⟩ := WP_t7 a2 (x := nC P) hni
    have hn0 := hp.1.1.2.2.2.2.2.1
    have B2 := B1.t7 hb a2 (x := nC P) (y := 3 * nR P1 + j) (z := nC P) hni (by omega)
    rw [eR, hr] at B2 b1 b2 b3
    rw [hr] at ea
    have f2 : Fr (Wsr b) μ (j_up μ1 (b + 10) (3 * r0 + j) (nC P)) := (f1.mono Wtm.sr).put (Or.inr (Or.inr (by omega)))
    have x2 : HC (j_up μ1 (b + 10) (3 * r0 + j) (nC P)) n t h1 e1 := x1.frB hb (Fr.up (by omega))
    have L2 := hL.sr hb f2
    have m2 : ∀ i, 0 ≤ i → i < j + 1 → (j_up μ1 (b + 10) (3 * r0 + j) (nC P)) (b + 10) (3 * r0 + i) = tf (j_up P1 7 (4 * r0 + j) (nC P)) (4 * r0 + i) := by
      intro i i0 i1
      show _ = (j_up P1 7 (4 * r0 + j) (nC P)) 7 (4 * r0 + i)
      rw [up_if, up_if]
      by_cases hi : i = j
      · rw [if_pos (by omega), if_pos (by omega)]
      · rw [if_neg (by omega), if_neg (by omega), f1 (b + 10) _ (by unfold Wtm; omega), hm i i0 (by omega)]
        exact (a3.1 7 _ (by decide) (by decide) (by decide) (by decide) (by decide)).symm
    have eg2 : gl (j_up P1 7 (4 * r0 + j) (nC P)) = gl P := eg
    have stop : ¬ (j + 1 < 3 ∧ isM n t h1 44 = true) → K 121 E mPa_readRule 111 [some (jvR 3), some (jvI r0), some (jvI (j + 1)), some (jvI c), some (jvI 1), some (jvI (nC P))] [jvI 0] (j_up μ1 (b + 10) (3 * r0 + j) (nC P)) (fun v μ1 => ∃ r, v = some (jvI r) ∧ Q r μ1) := by
      intro hno
      rw [if_neg hno] at ea
      exact vPa_readRule_111 ⟨fun _ => kt _ _ _ _ ea _ f2 x2 B2 m2 eg2, fun c => absurd rfl c⟩
    refine ⟨fun _ => ⟨⟨(hL.sr hb (f1.mono Wtm.sr)).2, by omega, by omega, by omega, by omega⟩, fun c1 => stop (by omega), fun c1 => ⟨L2.1, sTa_isMark x2 (by decide) (by decide) ⟨fun c2 => stop (fun hx => by rw [hx.2] at c2; cases c2), fun c2 => ?_⟩⟩⟩, fun cz => by omega⟩
    have hM := b2i_b c2
    rw [if_pos ⟨by omega, hM⟩] at ea
    refine vPa_readRule_111 ⟨fun c => absurd c (by decide), fun _ => ⟨L2.1, sTa_pastM x2 (by decide) (by decide) hM (fun μ3 f3 x3 => ?_)⟩⟩
    have f3' : Fr (Wsr b) μ μ3 := f2.tr (f3.mono WTk.sr)
    refine sPa_premises hb h12 f (j + 1) _ _ _ μ3 (by omega) (by omega) (by omega) x3 (hL.sr hb f3') (B2.tk hb b1 (f3.mono WTk.t3)) b1 b2 (fun i i0 i1 => ?_) (fun g hg μ4 f4 l4 => kf g (by rw [ea]; exact hg) μ4 (f3'.tr f4) l4) (fun k h' e' P' hok μ4 f4 x4 B4 m4 gl4 => kt k h' e' P' (by rw [ea]; exact hok) μ4 (f3'.tr f4) x4 B4 m4 (gl4.trans eg2))
    rw [f3 (b + 10) _ (by unfold WTk; omega)]; exact m2 i i0 i1
theorem sPa_ruleEnd (hb : isB b) {c k r0 : Int} (h12 : 0 ≤ r0 ∧ r0 < 12) (hc : HC μ n t h e) (hL : PL b μ) (hB : BKp b μ P) (hp : WP P) (hr : nR P = r0) (hk : 0 ≤ k ∧ k ≤ 3) (hm : ∀ i, 0 ≤ i → i < k → μ (b + 10) (3 * r0 + i) = tf P (4 * r0 + i)) (kf : ∀ g, aRul2 n t c k h e P = .error g → ∀ μ1, Fr (Wsr b) μ μ1 → Flt μ1 g → Q 0 μ1) (kt : ∀ h' e' P', aRul2 n t c k h e P = .ok (h', e', P') → ∀ μ1, Fr (Wsr b) μ μ1 → HC μ1 n t h' e' → BKp b μ1 P' → gl P' = gl P → Q 1 μ1) : K 121 E mPa_readRule 47 [some (jvR 3), some (jvI r0), some (jvI k), some (jvI c), some (jvI 0), none] [] μ (fun v μ1 => ∃ r, v = some (jvI r) ∧ Q r μ1) := by
  have hB7 := isB_7 hb
  refine vPa_readRule_47 hb ⟨fun _ => ?_, fun c => absurd rfl c⟩
  refine sPa_takeWord hc hL.1 (fun g hg μ1 f1 l1 => ⟨fun c => absurd rfl c, fun _ => ⟨_, rfl, kf g (by unfold aRul2; rw [hg]) μ1 (f1.mono Wtk3.sr) l1⟩⟩) (fun h3 e3 hw μ1 f1 x1 => ⟨fun _ => ?_, fun c => absurd c (by decide)⟩)
  have ea : aRul2 n t c k h e P = match aT n t h3 e3 P with
    | .error f => .error f
    | .ok (h4, e4, P4) => .ok (h4, e4, adR P4 c k (nC P)) := by
    unfold aRul2
    rw [hw]
    dsimp only
    cases aT n t h3 e3 P with
    | error f => rfl
    | ok v => obtain ⟨v1, v2, v3⟩ := v; rfl
  have w := aWord_ok hc.hd hw
  have f1' : Fr (Wsr b) μ μ1 := f1.mono WTk.sr
  have L1 := hL.sr hb f1'
  have B1 := hB.tk hb hp (f1.mono WTk.t3)
  refine sPa_readTerm hb x1 L1 B1.1 hp.1 hp.2.1 (fun g hg μ2 f2 l2 => ⟨fun c => absurd rfl c, fun _ => ⟨_, rfl, kf g (by rw [ea, hg]) μ2 (f1'.tr (f2.mono Wtm.sr)) l2⟩⟩) (fun h4 e4 P4 hT μ2 f2 x2 T2 => ?_)
  rw [hT] at ea
  have ea : aRul2 n t c k h e P = .ok (h4, e4, adR P4 c k (nC P)) := ea
  obtain ⟨a1, a2, a3, a4⟩ := aT_WP w.1 hp hT
  have B2 := B1.gt hb hp f2 T2 a3
  have eR : nR P4 = nR P := a3.2.1 0 (by decide) (by decide) (by decide)
  have eg : gl P4 = gl P := a3.2.1 5 (by decide) (by decide) (by decide)
  have hn0 := hp.1.1.2.2.2.2.2.1
  have f2' : Fr (Wsr b) μ μ2 := f1'.tr (f2.mono Wtm.sr)
  refine ⟨fun _ => ⟨(hL.sr hb f2').2, sBk_addRule hb B2 a2 (by omega) hk.2 (fun i i0 i1 => ?_) (fun μ3 f3 B3 => ⟨_, rfl, kt _ _ _ ea μ3 (f2'.tr (f3.mono (fun i k hh => Or.inr hh))) (x2.frB hb (f3.mono (fun i k hh => by omega))) B3 ?_⟩)⟩, fun cz => by omega⟩
  · rw [eR, hr, f2 (b + 10) _ (by unfold Wtm; omega), f1 (b + 10) _ (by unfold WTk; omega), hm i i0 i1]
    exact (a3.1 7 _ (by decide) (by decide) (by decide) (by decide) (by decide)).symm
  · show adR P4 c k (nC P) 0 5 = _
    unfold adR
    rw [up_nk (by decide), up_ne (by decide), up_ne (by decide), up_ne (by decide)]
    exact eg
theorem sPa_readRule (hb : isB b) (hc : HC μ n t h e) (hL : PL b μ) (hB : BKp b μ P) (hp : WP P) (h12 : nR P < 12) (hw : isW n t h e 626398208 = true) (kf : ∀ g, aRule n t (sk n t (wl n t h)) (wl n t h) P = .error g → ∀ μ1, Fr (Wsr b) μ μ1 → Flt μ1 g → Q 0 μ1) (kt : ∀ h' e' P', aRule n t (sk n t (wl n t h)) (wl n t h) P = .ok (h', e', P') → ∀ μ1, Fr (Wsr b) μ μ1 → HC μ1 n t h' e' → BKp b μ1 P' → gl P' = gl P → Q 1 μ1) : Ci E mPa_readRule [jvR 3] μ Q := by
  have hn := hp.1.1
  unfold WFn at hn
  refine vPa_readRule_0 hb ⟨⟨hL.2, hL.1⟩, sTa_pastW hc hw (fun μ1 f1 x1 => ?_)⟩
  have f1' : Fr (Wsr b) μ μ1 := f1.mono WTk.sr
  have L1 := hL.sr hb f1'
  have B1 := hB.tk hb hp (f1.mono WTk.t3)
  rw [hB.2.1.1]
  refine sPa_takeNewName hb x1 L1 B1 hp (fun g hg μ2 f2 l2 => ⟨fun c => absurd rfl c, fun _ => ⟨_, rfl, kf g (by unfold aRule; rw [hg]) μ2 (f1'.tr (f2.mono Wtk3.sr)) l2⟩⟩) (fun c h2 e2 hN μ2 f2 x2 => ?_)
  have hno := aNew_ok x1.hd hN
  have f2' : Fr (Wsr b) μ μ2 := f1'.tr (f2.mono Wtk3.sr)
  have L2 := hL.sr hb f2'
  have B2 := B1.tk hb hp f2
  have ea : aRule n t (sk n t (wl n t h)) (wl n t h) P = match aPre n t h2 e2 P with
    | .error f => .error f
    | .ok (k, h3, e3, P3) => aRul2 n t c k h3 e3 P3 := by
    unfold aRule
    rw [hN]
    dsimp only
    cases aPre n t h2 e2 P with
    | error f => rfl
    | ok v => obtain ⟨v1, v2, v3, v4⟩ := v; rfl
  have fin : ∀ k h3 e3 P3 μ3, aPre n t h2 e2 P = .ok (k, h3, e3, P3) → Fr (Wsr b) μ μ3 → HC μ3 n t h3 e3 → BKp b μ3 P3 → (∀ i, 0 ≤ i → i < k → μ3 (b + 10) (3 * nR P + i) = tf P3 (4 * nR P + i)) → gl P3 = gl P → K 121 E mPa_readRule 47 [some (jvR 3), some (jvI (nR P)), some (jvI k), some (jvI c), some (jvI 0), none] [] μ3 (fun v μ1 => ∃ r, v = some (jvI r) ∧ Q r μ1) := by
    intro k h3 e3 P3 μ3 hP f3 x3 B3 m3 g3
    obtain ⟨a1, a2, a3, a4, a5⟩ := aPre_ok hno.1 hp h12 hP
    rw [hP] at ea
    have ea : aRule n t (sk n t (wl n t h)) (wl n t h) P = aRul2 n t c k h3 e3 P3 := ea
    exact sPa_ruleEnd hb (by omega) x3 (hL.sr hb f3) B3 a2 a3 a4 m3 (fun g hg μ4 f4 l4 => kf g (by rw [ea]; exact hg) μ4 (f3.tr f4) l4) (fun h' e' P' hok μ4 f4 x4 B4 g4 => kt h' e' P' (by rw [ea]; exact hok) μ4 (f3.tr f4) x4 B4 (g4.trans g3))
  refine ⟨fun _ => ⟨L2.1, sTa_isWord x2 ⟨fun c1 => ?_, fun c1 => ?_⟩⟩, fun cz => absurd cz (okN_0 hno.2.1)⟩
  · exact fin 0 h2 e2 P μ2 (by unfold aPre; rw [if_pos (b2i_b c1)]) f2' x2 B2 (fun i a b => by omega) rfl
  · have ep : aPre n t h2 e2 P = aPrem n t 3 0 h2 e2 P := by unfold aPre; rw [b2i_b0 c1, if_neg (by decide)]
    exact sPa_premises hb (by omega) 3 0 h2 e2 P μ2 (by omega) (by omega) (by omega) x2 L2 B2 hp rfl (fun i a b => by omega) (fun g hg μ4 f4 l4 => kf g (by rw [ea, ep, hg]) μ4 (f2'.tr f4) l4) (fun k h' e' P' hok μ4 f4 x4 B4 m4 g4 => fin k h' e' P' μ4 (by rw [ep]; exact hok) (f2'.tr f4) x4 B4 m4 g4)
end
