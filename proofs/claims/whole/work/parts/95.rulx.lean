/-! the reference reads a rule, whole -/
section
variable {E : jE} {μ μ1 : jMu} {Q : Int → jMu → Prop} {Q0 : jMu → Prop} {n h e : Int} {t : Int → Int} {P P' : jP}
theorem RKp_nn (hB : RKp μ P) (hp : WP P) {kd m : Int} (hk : (kd = 0 ∧ m = nR P) ∨ (kd = 1 ∧ m = nD P)) (hf : Fr Wrn μ μ1) (h88 : ∀ k, k ≠ 24 * kd + m → μ1 88 k = μ 88 k) : RKp μ1 P := by
  obtain ⟨⟨⟨y1, y2, y3⟩, y4, y5, y6⟩, ⟨c1, c2, c3⟩, r1, s1, s2, t1, d1, k1, k2⟩ := hB
  have hn := hp.1.1
  unfold WFn at hn
  have q : ∀ (i : Nat) (k : Int), 87 ≤ i → i ≠ 88 → μ1 i k = μ i k := fun i k a b => hf i k (by unfold Wrn W76; omega)
  refine ⟨⟨⟨?_, ?_, ?_⟩, fun g a b => ?_, fun i a b => ?_, fun x a b => ?_⟩, ⟨?_, ?_, ?_⟩, fun r a c => ?_, fun s a c => ?_, fun s k a c d f => ?_, fun w hw => ?_, fun d a c => ?_, fun i a c => ?_, fun i a c => ?_⟩
  · rw [q 87 _ (by decide) (by decide)]; exact y1
  · rw [q 87 _ (by decide) (by decide)]; exact y2
  · rw [hf 76 23 (by unfold Wrn W76; omega)]; exact y3
  · rw [q 89 _ (by decide) (by decide), h88 _ (by omega)]; exact y4 g a b
  · rw [h88 _ (by omega)]; exact y5 i a b
  · rw [q 90 _ (by decide) (by decide)]; exact y6 x a b
  · rw [q 87 _ (by decide) (by decide)]; exact c1
  · rw [q 87 _ (by decide) (by decide)]; exact c2
  · rw [q 87 _ (by decide) (by decide)]; exact c3
  · rw [q 93 _ (by decide) (by decide)]; exact r1 r a c
  · rw [q 94 _ (by decide) (by decide)]; exact s1 s a c
  · rw [q 95 _ (by decide) (by decide)]; exact s2 s k a c d f
  · rw [q 91 _ (by decide) (by decide), q 92 _ (by decide) (by decide)]; exact t1 w hw
  · rw [q 96 _ (by decide) (by decide), q 97 _ (by decide) (by decide), q 98 _ (by decide) (by decide)]; exact d1 d a c
  · rw [h88 _ (by omega)]; exact k1 i a c
  · rw [h88 _ (by omega)]; exact k2 i a c
theorem Wrn.ru : ∀ i k, Wrn i k → Wru i k := fun i k h => by
  rcases h with h | h
  · exact W76.ru i k h
  · exact Or.inr (Or.inr (Or.inl h))
theorem G91.rn (hG : G91 μ) (hf : Fr Wrn μ μ1) : G91 μ1 := fun v a b => by rw [hf 91 v (by unfold Wrn W76; omega)]; exact hG v a b
theorem sM_ruleTold {a0 : Int} (hr : HR μ n t h e) (hwd : Wds μ) (hB : RKp μ P) (hp : WP P) (hG : G91 μ) (k5 : 12 ≤ nR P → ∀ μ1, Fr Wru μ μ1 → Bd μ1 (5, a0) → G91 μ1 → Q0 μ1) (kf : nR P < 12 → ∀ g, aRule n t h e P = .error g → ∀ μ1, Fr Wru μ μ1 → Bd μ1 g → G91 μ1 → Q0 μ1) (kt : nR P < 12 → ∀ h' e' P', aRule n t h e P = .ok (h', e', P') → ∀ μ1, Fr Wru μ μ1 → HR μ1 n t h' e' → RKp μ1 P' → G91 μ1 → gl P' = gl P → Q0 μ1) : Cv E mM_ruleTold [jvR 76, jvI a0] μ Q0 := by
  have hn := hp.1.1
  unfold WFn at hn
  refine vM_ruleTold_0 (sM_isFull hr.2.2.2.2 (by omega) (fun c μ1 f1 b1 => ⟨fun c => absurd c (by decide), fun _ => ⟨rfl, k5 (by rw [hB.2.1.1] at c; omega) μ1 (f1.mono W76.ru) b1 (hG.tk f1)⟩⟩) (fun c => ⟨fun _ => ?_, fun c => absurd rfl c⟩))
  rw [hB.2.1.1] at c
  have h12 : nR P < 12 := by omega
  refine sM_newName hr hwd hB hp (Or.inl rfl) hB.2.1.1 (by omega) (fun g hg μ1 f1 b1 => ⟨fun c5 => ?_, fun c5 => absurd (b1.1.symm.trans c5) b1.2.2⟩) (fun cc h1 e1 hN μ1 f1 x1 n1 v1 => ⟨fun c5 => absurd x1.2.2.2.2 c5, fun _ => ?_⟩)
  · exact sM_asks_b c5 (wd := 79) (wn := 5) rfl (by decide) (by decide) ⟨by omega, sM_termTold_b c5 ⟨fun c => absurd c c5, fun _ => ⟨rfl, kf h12 g (by unfold aRule; rw [hg]) μ1 (f1.mono W76.ru) b1 (hG.tk f1)⟩⟩⟩
  have B1 := RKp_nn hB hp (Or.inl ⟨rfl, rfl⟩) f1 n1
  have hno := aNew_ok hr.2.1 hN
  have W1 := hwd.ru (f1.mono Wrn.ru)
  have nm1 : μ1 88 (nR P) = e27 cc := by rw [← v1]; congr 1; omega
  have ee : ∀ g, aPre n t h1 e1 P = .error g → aRule n t h e P = .error g := fun g hg => by unfold aRule; rw [hN]; dsimp only; rw [hg]
  have eo : ∀ k h2 e2 P2, aPre n t h1 e1 P = .ok (k, h2, e2, P2) → aRule n t h e P = aRul2 n t cc k h2 e2 P2 := fun k h2 e2 P2 hg => by unfold aRule; rw [hN]; dsimp only; rw [hg]
  refine sM_isHere x1 (wd := 79) rfl (by decide) (by decide) W1.2.1 (fun μ2 f2 x2 p2 => ⟨fun c2 => ?_, fun c2 => ?_⟩)
  · have hw : isW n t h1 e1 245044832 = true := by
      cases hq : isW n t h1 e1 245044832 with
      | true => rfl
      | false => rw [hq] at c2; exact absurd rfl c2
    have f2' : Fr W76 μ1 μ2 := f2.mono (fun i k hh => Fr2.w hh)
    have eq := eo 0 h1 e1 P (by unfold aPre; rw [if_pos hw])
    have f12 : Fr Wru μ μ2 := (f1.mono Wrn.ru).tr (f2'.mono W76.ru)
    exact sM_ruleEnd (c := cc) (k := 0) (by omega) x2 (W1.ru (f2'.mono W76.ru)) (RKp_tk B1 hp f2') hp ((hG.rn f1).tk f2') rfl (by omega) (fun i a b => by omega) (fun i a b => by omega) (by rw [f2' 88 _ (by unfold W76; omega)]; exact nm1) (fun g hg μ3 f3 b3 G3 _ => kf h12 g (by rw [eq]; exact hg) μ3 (f12.tr f3) b3 G3) (fun h' e' P' hg μ3 f3 x3 B3 G3 gl3 => kt h12 h' e' P' (by rw [eq]; exact hg) μ3 (f12.tr f3) x3 B3 G3 gl3)
  · have hw : ¬ isW n t h1 e1 245044832 = true := fun hq => by rw [hq] at c2; exact absurd c2 (by decide)
    have f2' : Fr W76 μ1 μ2 := f2.mono (fun i k hh => Fr2.w hh)
    have f12 : Fr Wru μ μ2 := (f1.mono Wrn.ru).tr (f2'.mono W76.ru)
    have epr : aPre n t h1 e1 P = aPrem n t 3 0 h1 e1 P := by unfold aPre; rw [if_neg hw]
    refine sM_premises (c := cc) (l1 := a0) (by omega) 3 0 h1 e1 P μ2 (by decide) (by decide) (by decide) x2 (W1.ru (f2'.mono W76.ru)) (RKp_tk B1 hp f2') hp ((hG.rn f1).tk f2') rfl (fun i a b => by omega) (fun i a b => by omega) (by rw [f2' 88 _ (by unfold W76; omega)]; exact nm1) (fun g hg μ3 f3 b3 G3 _ => kf h12 g (ee g (by rw [epr]; exact hg)) μ3 (f12.tr f3) b3 G3) (fun k h2 e2 P2 hg μ3 f3 x3 B3 G3 m3 nm3 gl3 => ?_)
    have ep : aPre n t h1 e1 P = .ok (k, h2, e2, P2) := by rw [epr]; exact hg
    have eq := eo k h2 e2 P2 ep
    obtain ⟨a1, a2, a3, a4, a5⟩ := aPre_ok hno.1 hp h12 ep
    refine vM_ruleTold_41 ⟨fun c5 => absurd x3.2.2.2.2 c5, fun _ => ⟨fun _ => ?_, fun c => absurd rfl c⟩⟩
    exact sM_ruleEnd (c := cc) (k := k) (by omega) x3 ((W1.ru (f2'.mono W76.ru)).ru f3) B3 a2 G3 a3 a4 m3 a5 nm3 (fun g hg μ4 f4 b4 G4 _ => kf h12 g (by rw [eq]; exact hg) μ4 ((f12.tr f3).tr f4) b4 G4) (fun h' e' P' hg μ4 f4 x4 B4 G4 gl4 => kt h12 h' e' P' (by rw [eq]; exact hg) μ4 ((f12.tr f3).tr f4) x4 B4 G4 (gl4.trans gl3))
end
