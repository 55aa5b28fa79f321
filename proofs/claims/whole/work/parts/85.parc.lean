/-! the class reads goals, statements, the whole text -/
section
variable {E : jE} {μ μ1 : jMu} {Q : Int → jMu → Prop} {Q0 : jMu → Prop} {n h e : Int} {t : Int → Int} {P P' : jP} {b : Nat}
theorem Wsr.ss : ∀ i k, Wsr b i k → Wss b i k := fun i k hh => by
  rcases hh with hh | hh
  · exact Or.inl hh
  · exact Or.inr (Or.inr hh)
theorem HC.k0 (hc : HC μ n t h e) : μ 3 8 = 0 ∧ μ 3 9 = -1 := hc.2.2.2.1.2.2
theorem sPa_readGoal (hb : isB b) (hc : HC μ n t h e) (hL : PL b μ) (hB : BKp b μ P) (hp : WP P) (hw : isW n t h e 250654720 = true) (kf : ∀ g, aGoal n t (sk n t (wl n t h)) (wl n t h) P = .error g → ∀ μ1, Fr (Wss b) μ μ1 → Flt μ1 g → Q 0 μ1) (kt : ∀ h' e' P', aGoal n t (sk n t (wl n t h)) (wl n t h) P = .ok (h', e', P') → ∀ μ1, Fr (Wss b) μ μ1 → HC μ1 n t h' e' → BKp b μ1 P' → μ1 3 6 = gl P' → Q 1 μ1) : Ci E mPa_readGoal [jvR 3] μ Q := by
  have hB7 := isB_7 hb
  have hn := hp.1.1
  unfold WFn at hn
  refine vPa_readGoal_0 hb ⟨hL.1, sTa_pastW hc hw (fun μ1 f1 x1 => ?_)⟩
  have g1 : Fr (Wss b) μ μ1 := f1.mono WTk.ss
  have L1 := hL.ss hb g1
  have B1 := hB.tk hb hp (f1.mono WTk.t3)
  rw [B1.2.1.2.1]
  refine ⟨⟨L1.2, by omega⟩, sPa_takeNumber x1 L1.1 (fun g hg μ2 f2 l2 => ⟨fun c => absurd rfl c, fun _ => ⟨_, rfl, kf g (by unfold aGoal; rw [hg]) μ2 (g1.tr (f2.mono Wtk3.ss)) l2⟩⟩) (fun v h1 e1 hV μ2 f2 x2 => ?_)⟩
  have v1 := aNum_ok x1.hd hV
  have B2 := B1.tk hb hp (f2.mono WTk.t3)
  have g2 : Fr (Wss b) μ (j_up μ2 3 6 v) := (g1.tr (f2.mono WTk.ss)).put (Or.inr (Or.inl ⟨rfl, rfl⟩))
  refine ⟨fun _ => ⟨_, rfl, kt h1 e1 _ (by unfold aGoal; rw [hV]) _ g2 (x2.frB hb (Fr.up (Or.inl ⟨rfl, Or.inr (Or.inl rfl)⟩))) ?_ ?_⟩, fun cz => by omega⟩
  · have B3 : BKp b (j_up μ2 3 6 v) P := by
      obtain ⟨hT, ⟨c1, c2, c3⟩, r1, r2, s1, s2, d1, k1, k2⟩ := B2
      have m : ∀ (i : Nat) k, 7 ≤ i → (j_up μ2 3 6 v) i k = μ2 i k := fun i k hi => up_ne (by omega)
      refine ⟨hT.fr (Fr.up (by omega)), ⟨?_, ?_, ?_⟩, fun r a c => ?_, fun r k a c d f => ?_, fun s a c => ?_, fun s k a c d f => ?_, fun d a c => ?_, fun i a c => ?_, fun i a c => ?_⟩
      · rw [m _ _ (by omega)]; exact c1
      · rw [m _ _ (by omega)]; exact c2
      · rw [m _ _ (by omega)]; exact c3
      · rw [m _ _ (by omega), m _ _ (by omega)]; exact r1 r a c
      · rw [m _ _ (by omega)]; exact r2 r k a c d f
      · rw [m _ _ (by omega), m _ _ (by omega)]; exact s1 s a c
      · rw [m _ _ (by omega)]; exact s2 s k a c d f
      · rw [m _ _ (by omega), m _ _ (by omega), m _ _ (by omega)]; exact d1 d a c
      · rw [m _ _ (by omega)]; exact k1 i a c
      · rw [m _ _ (by omega)]; exact k2 i a c
    exact B3.gl
  · rw [up_eq]
    show v = (j_up P 0 5 v) 0 5
    rw [up_eq]
theorem sPa_readStatement (hb : isB b) (hc : HC μ n t h e) (hL : PL b μ) (hB : BKp b μ P) (hp : WP P) (hg : μ 3 6 = gl P) (kf : ∀ g, aStat n t h e P = .error g → ∀ μ1, Fr (Wss b) μ μ1 → Flt μ1 g → Q 0 μ1) (kt : ∀ h' e' P', aStat n t h e P = .ok (h', e', P') → ∀ μ1, Fr (Wss b) μ μ1 → HC μ1 n t h' e' → BKp b μ1 P' → μ1 3 6 = gl P' → Q 1 μ1) : Ci E mPa_readStatement [jvR 3] μ Q := by
  have hB7 := isB_7 hb
  have hn := hp.1.1
  unfold WFn at hn
  have e13 := hc.2.2.2.1.1
  have bad : ∀ (g : jF) (l1 : Int) (μ1 : jMu), aStat0 n t h e P = .error g → Fr (Wss b) μ μ1 → Flt μ1 g → K 121 E mPa_readStatement 158 [some (jvR 3), some (jvI l1), some (jvI 0)] [] μ1 (fun v μ1 => ∃ r, v = some (jvI r) ∧ Q r μ1) := fun g l1 μ1 hgf f1 b1 => vPa_readStatement_158 ⟨fun _ => ⟨_, rfl, kf g (by unfold aStat; rw [hgf]) μ1 f1 b1⟩, fun c => absurd rfl c⟩
  have good : ∀ (h' e' : Int) (P' : jP) (l1 : Int) (μ1 : jMu), aStat0 n t h e P = .ok (h', e', P') → Fr (Wss b) μ μ1 → HC μ1 n t h' e' → BKp b μ1 P' → μ1 3 6 = gl P' → K 121 E mPa_readStatement 158 [some (jvR 3), some (jvI l1), some (jvI 1)] [] μ1 (fun v μ1 => ∃ r, v = some (jvI r) ∧ Q r μ1) := by
    intro h' e' P' l1 μ1 hok f1 x1 B1 g1
    have s0 := aStat0_ok hc.hd hp hok
    refine vPa_readStatement_158 ⟨fun c => absurd c (by decide), fun _ => sPa_takeMark x1 (hL.ss hb f1).1 (by decide) (by decide) (fun g hgf μ2 f2 l2 => ⟨fun _ => ⟨_, rfl, kf g (by unfold aStat; rw [hok]; dsimp only; rw [hgf]) μ2 (f1.tr (f2.mono Wtk3.ss)) l2⟩, fun c => absurd rfl c⟩) (fun h2 e2 hM μ2 f2 x2 => ⟨fun c => absurd c (by decide), fun _ => ⟨_, rfl, kt h2 e2 P' (by unfold aStat; rw [hok]; dsimp only; rw [hM]) μ2 (f1.tr (f2.mono WTk.ss)) x2 (B1.tk hb s0.2 (f2.mono WTk.t3)) ?_⟩⟩)⟩
    rw [f2 3 6 (by unfold WTk; omega)]; exact g1
  have no : ∀ (a p : Int), aStat0 n t h e P = .error (a, p) → ∀ l1 : Int, Ci E mPa_refuse [jvR 3, jvI a, jvI p] μ (fun r28 μ25 => (K 121 E mPa_readStatement 158 [some (jvR 3), some (jvI l1), some (jvI r28)] [] μ25 (fun v μ1 => ∃ r, v = some (jvI r) ∧ Q r μ1))) := fun a p hx l1 => sPa_refuse (fun μ2 f2 l2 => bad (a, p) l1 μ2 hx (f2.mono (fun i k hh => Or.inl (by unfold Wtm; omega))) l2)
  have g36 : ∀ {μ1}, Fr (Wsr b) μ μ1 → ∀ {P1 : jP}, gl P1 = gl P → μ1 3 6 = gl P1 := fun f _ hx => by
    rw [f 3 6 (by unfold Wsr Wtm; omega), hx]; exact hg
  refine vPa_readStatement_0 hb ⟨⟨hL.1, hL.1⟩, sTa_isWord hc ⟨fun c1 => ⟨hL.1, sTa_isWord hc ⟨fun c2 => ⟨hL.1, sTa_isWord hc ⟨fun c3 => ⟨hL.1, sTa_isWord hc ⟨fun c4 => ?_, fun c4 => ⟨hL.2, ?_⟩⟩⟩, fun c3 => ?_⟩⟩, fun c2 => ⟨hL.2, ?_⟩⟩⟩, fun c1 => ⟨hL.2, ?_⟩⟩⟩
  · rw [e13]
    refine no 1 h ?_ h
    unfold aStat0
    rw [b2i_b0 c1, if_neg (by decide), b2i_b0 c2, if_neg (by decide), b2i_b0 c3, if_neg (by decide), b2i_b0 c4, if_neg (by decide)]
  · have ea : aStat0 n t h e P = if 6 ≤ nD P then .error (5, h) else aReader n t (sk n t (wl n t h)) (wl n t h) P := by
      unfold aStat0
      rw [b2i_b0 c1, if_neg (by decide), b2i_b0 c2, if_neg (by decide), b2i_b0 c3, if_neg (by decide), if_pos (b2i_b c4)]
    rw [hB.2.1.2.2, e13]
    refine ⟨fun c5 => no 5 h (by rw [ea, if_pos c5]) h, fun c5 => ?_⟩
    rw [if_neg c5] at ea
    exact sPa_readReader hb hc hL hB hp (by omega) (b2i_b c4) (fun g hgf μ1 f1 l1 => bad g h μ1 (by rw [ea]; exact hgf) (f1.mono Wsr.ss) l1) (fun h' e' P' hok μ1 f1 x1 B1 g1 => good h' e' P' h μ1 (by rw [ea]; exact hok) (f1.mono Wsr.ss) x1 B1 (g36 f1 g1))
  · have ea : aStat0 n t h e P = aGoal n t (sk n t (wl n t h)) (wl n t h) P := by
      unfold aStat0
      rw [b2i_b0 c1, if_neg (by decide), b2i_b0 c2, if_neg (by decide), if_pos (b2i_b c3)]
    rw [e13]
    exact sPa_readGoal hb hc hL hB hp (b2i_b c3) (fun g hgf μ1 f1 l1 => bad g h μ1 (by rw [ea]; exact hgf) f1 l1) (fun h' e' P' hok μ1 f1 x1 B1 g1 => good h' e' P' h μ1 (by rw [ea]; exact hok) f1 x1 B1 g1)
  · have ea : aStat0 n t h e P = if 40 ≤ nS P then .error (5, h) else aStep n t (sk n t (wl n t h)) (wl n t h) P := by
      unfold aStat0
      rw [b2i_b0 c1, if_neg (by decide), if_pos (b2i_b c2)]
    rw [hB.2.1.2.1, e13]
    refine ⟨fun c5 => no 5 h (by rw [ea, if_pos c5]) h, fun c5 => ?_⟩
    rw [if_neg c5] at ea
    exact sPa_readStep hb hc hL hB hp (by omega) (b2i_b c2) (fun g hgf μ1 f1 l1 => bad g h μ1 (by rw [ea]; exact hgf) (f1.mono Wsr.ss) l1) (fun h' e' P' hok μ1 f1 x1 B1 g1 => good h' e' P' h μ1 (by rw [ea]; exact hok) (f1.mono Wsr.ss) x1 B1 (g36 f1 g1))
  · have ea : aStat0 n t h e P = if 12 ≤ nR P then .error (5, h) else aRule n t (sk n t (wl n t h)) (wl n t h) P := by
      unfold aStat0
      rw [if_pos (b2i_b c1)]
    rw [hB.2.1.1, e13]
    refine ⟨fun c5 => no 5 h (by rw [ea, if_pos c5]) h, fun c5 => ?_⟩
    rw [if_neg c5] at ea
    exact sPa_readRule hb hc hL hB hp (by omega) (b2i_b c1) (fun g hgf μ1 f1 l1 => bad g h μ1 (by rw [ea]; exact hgf) (f1.mono Wsr.ss) l1) (fun h' e' P' hok μ1 f1 x1 B1 g1 => good h' e' P' h μ1 (by rw [ea]; exact hok) (f1.mono Wsr.ss) x1 B1 (g36 f1 g1))
end
