/-! the reference reads a rule -/
def Wru (i : Nat) (k : Int) : Prop := Wr3 i k ∨ ((i = 91 ∨ i = 92) ∧ 0 ≤ k ∧ k < 88) ∨ (i = 88 ∧ 0 ≤ k ∧ k < 48) ∨ (i = 87 ∧ k = 0) ∨ (i = 93 ∧ 0 ≤ k ∧ k < 12)
theorem W76.ru : ∀ i k, W76 i k → Wru i k := fun i k h => Or.inl (Wr2.r3 i k (W76.r2 i k h))
theorem Wtt.ru {w : Int} (h0 : 0 ≤ w) (h1 : w < 88) : ∀ i k, Wtt w i k → Wru i k := fun i k h => by
  rcases h with h | h
  · exact Or.inl h
  · exact Or.inr (Or.inl ⟨h.1, by omega⟩)
section
variable {E : jE} {μ μ1 : jMu} {Q : Int → jMu → Prop} {Q0 : jMu → Prop} {n h e : Int} {t : Int → Int} {P P' : jP}
theorem G91.tt (hG : G91 μ) {w x : Int} (hf : Fr (Wtt w) μ μ1) (h91 : μ1 91 w = x) (hx : 0 ≤ x ∧ x ≤ 400) : G91 μ1 := fun v a b => by
  by_cases hv : v = w
  · rw [hv, h91]; exact hx
  · rw [hf 91 v (by unfold Wtt Wr3 Wr2; omega)]; exact hG v a b
theorem G91.tk (hG : G91 μ) (hf : Fr W76 μ μ1) : G91 μ1 := fun v a b => by rw [hf 91 v (by unfold W76; omega)]; exact hG v a b
theorem Wds.ru (h : Wds μ) (hf : Fr Wru μ μ1) : Wds μ1 := h.fr (hf.mono (fun i k hh => by unfold Wru Wr3 Wr2 at hh; omega))
/-- the end of a rule: gives and its term -/
theorem sM_ruleEnd {c k r0 : Int} (hr0 : 0 ≤ r0 ∧ r0 < 12) (hr : HR μ n t h e) (hwd : Wds μ) (hB : RKp μ P) (hp : WP P) (hG : G91 μ) (hR : nR P = r0) (hk : 0 ≤ k ∧ k ≤ 3) (hpre : ∀ i, 0 ≤ i → i < k → μ 91 (4 * r0 + i) = tf P (4 * r0 + i) ∧ μ 92 (4 * r0 + i) = bh P (tf P (4 * r0 + i)) - tf P (4 * r0 + i)) (hok : ∀ i, 0 ≤ i → i < k → okT P (4 * r0 + i)) (hnm : μ 88 r0 = e27 c) (kf : ∀ g, aRul2 n t c k h e P = .error g → ∀ μ1, Fr Wru μ μ1 → Bd μ1 g → G91 μ1 → μ1 87 0 = r0 → Q0 μ1) (kt : ∀ h' e' P', aRul2 n t c k h e P = .ok (h', e', P') → ∀ μ1, Fr Wru μ μ1 → HR μ1 n t h' e' → RKp μ1 P' → G91 μ1 → gl P' = gl P → Q0 μ1) : Cv E mM_asks [jvR 76, jvR 79] μ (fun μ13 => ((-2147483648 ≤ (4 * r0) ∧ (4 * r0) < 2147483648) ∧ -2147483648 ≤ ((4 * r0) + 3) ∧ ((4 * r0) + 3) < 2147483648) ∧ (Cv E mM_termTold [jvR 76, jvI ((4 * r0) + 3)] μ13 (fun μ16 => (((μ16 76 5) = 0 → ((0 ≤ r0 ∧ r0 < 24) ∧ -2147483648 ≤ ((μ16 87 0) + 1) ∧ ((μ16 87 0) + 1) < 2147483648) ∧ (none = (none : Option AV) ∧ Q0 (j_up (j_up μ16 93 r0 k) 87 0 ((μ16 87 0) + 1)))) ∧ (¬ ((μ16 76 5) = 0) → (none = (none : Option AV) ∧ Q0 μ16)))))) := by
  have hn := hp.1.1.2.2.2.2.2
  refine sM_asks hr (wd := 79) rfl (by decide) (by decide) hwd.2.1 (fun g hg μ1 f1 b1 => ⟨by omega, sM_termTold_b (by rw [b1.1]; exact b1.2.2) ⟨fun c => absurd (b1.1.symm.trans c) b1.2.2, fun _ => ⟨rfl, kf g (by unfold aRul2; rw [hg]) μ1 (f1.mono W76.ru) b1 (hG.tk f1) (by rw [f1 87 0 (by unfold W76; omega), hB.2.1.1, hR])⟩⟩⟩) (fun h3 e3 hw μ1 f1 x1 => ⟨by omega, ?_⟩)
  have w := aWord_ok hr.2.1 hw
  have B1 := RKp_tk hB hp f1
  have ee : ∀ g, aT n t h3 e3 P = .error g → aRul2 n t c k h e P = .error g := fun g hg => by unfold aRul2; rw [hw]; dsimp only; rw [hg]
  have eo : ∀ h4 e4 P4, aT n t h3 e3 P = .ok (h4, e4, P4) → aRul2 n t c k h e P = .ok (h4, e4, adR P4 c k (nC P)) := fun h4 e4 P4 hg => by unfold aRul2; rw [hw]; dsimp only; rw [hg]
  refine sM_termTold x1 (hwd.ru (f1.mono W76.ru)) B1.1 hp.1 hp.2.1 (by omega) (fun g hg μ2 f2 b2 v2 => ⟨fun c => absurd (b2.1.symm.trans c) b2.2.2, fun _ => ⟨rfl, kf g (ee g hg) μ2 ((f1.mono W76.ru).tr (f2.mono (Wtt.ru (by omega) (by omega)))) b2 ((hG.tk f1).tt f2 v2 hn) (by rw [f2 87 0 (by unfold Wtt Wr3 Wr2; omega), B1.2.1.1, hR])⟩⟩) (fun h4 e4 P4 hT μ2 f2 x2 T2 v2 u2 => ⟨fun _ => ?_, fun c => absurd x2.2.2.2.2 c⟩)
  obtain ⟨a1, a2, a3, a4⟩ := aT_WP w.1 hp hT
  have eR : nR P4 = nR P := a3.2.1 0 (by decide) (by decide) (by decide)
  have hni := not_inW_r hp (by omega) (j := 3) (by omega) (by omega)
  rw [hR] at hni
  have B2 := RKp_gt B1 hp hni f2 T2 a3
  have f2' : Fr Wru μ μ2 := (f1.mono W76.ru).tr (f2.mono (Wtt.ru (by omega) (by omega)))
  have e87 : μ2 87 0 = r0 := by rw [B2.2.1.1, eR, hR]
  rw [e87]
  have B3 := RKp_adR (c := c) (k := k) (s := nC P) B2 a2 (by omega) hk.2 (fun i i0 i1 => by
    have ho := hok i i0 i1
    have et : tf P4 (4 * r0 + i) = tf P (4 * r0 + i) := a3.1 7 _ (by decide) (by decide) (by decide) (by decide) (by decide)
    rw [eR, hR, et, (a3.2.2.2.1 _ ho.2.1).2, f2 91 _ (by unfold Wtt Wr3 Wr2; omega), f2 92 _ (by unfold Wtt Wr3 Wr2; omega), f1 91 _ (by unfold W76; omega), f1 92 _ (by unfold W76; omega)]
    exact hpre i i0 i1) (by rw [eR, hR, a4.2.1]; exact ⟨v2, u2⟩) (by rw [eR, hR, f2 88 _ (by unfold Wtt Wr3 Wr2; omega), f1 88 _ (by unfold W76; omega)]; exact hnm)
  rw [eR, hR] at B3
  refine ⟨by omega, rfl, kt h4 e4 _ (eo h4 e4 P4 hT) _ ((f2'.put (Or.inr (Or.inr (Or.inr (Or.inr ⟨rfl, by omega⟩))))).put (Or.inr (Or.inr (Or.inr (Or.inl ⟨rfl, rfl⟩))))) (x2.fr ((Fr.up (by omega)).put (by omega))) B3 (fun v a b => by rw [up_ne (by decide), up_ne (by decide)]; exact ((hG.tk f1).tt f2 v2 hn) v a b) ?_⟩
  show adR P4 c k (nC P) 0 5 = _
  unfold adR
  rw [up_nk (by decide), up_ne (by decide), up_ne (by decide), up_ne (by decide)]
  exact a3.2.1 5 (by decide) (by decide) (by decide)
end
