/-! the reference reads statements: the proof in the making -/
def RKp (μ : jMu) (P : jP) : Prop := TRf μ P ∧ (μ 87 0 = nR P ∧ μ 87 1 = nD P ∧ μ 87 4 = nS P) ∧ (∀ r, 0 ≤ r → r < nR P → μ 93 r = pr P r) ∧ (∀ s, 0 ≤ s → s < nS P → μ 94 s = ru P s) ∧ (∀ s k, 0 ≤ s → s < nS P → 0 ≤ k → k < pn P s → μ 95 (3 * s + k) = nm P s k) ∧ (∀ w, inW P w → μ 91 w = tf P w ∧ μ 92 w = bh P (tf P w) - tf P w) ∧ (∀ d, 0 ≤ d → d < nD P → μ 96 d = od P d ∧ μ 97 d = rf P d ∧ μ 98 d = rt P d) ∧ (∀ i, 0 ≤ i → i < nR P → μ 88 i = e27 (nk P 0 i)) ∧ (∀ i, 0 ≤ i → i < nD P → μ 88 (24 + i) = e27 (nk P 1 i))
def G91 (μ : jMu) : Prop := ∀ w, 0 ≤ w → w < 88 → 0 ≤ μ 91 w ∧ μ 91 w ≤ 400
section
variable {E : jE} {μ μ1 : jMu} {Q : Int → jMu → Prop} {Q0 : jMu → Prop} {n h e : Int} {t : Int → Int} {P P' : jP}
theorem RKp_gt (hB : RKp μ P) (hp : WP P) {w0 : Int} (hw0 : ¬ inW P w0) (hf : Fr (Wtt w0) μ μ1) (hT : TRf μ1 P') (hg : GT P P') : RKp μ1 P' := by
  obtain ⟨_, ⟨c1, c2, c3⟩, r1, s1, s2, t1, d1, k1, k2⟩ := hB
  have hn := hp.1.1
  unfold WFn at hn
  have e0 : nR P' = nR P := hg.2.1 0 (by decide) (by decide) (by decide)
  have e1 : nD P' = nD P := hg.2.1 1 (by decide) (by decide) (by decide)
  have e4 : nS P' = nS P := hg.2.1 4 (by decide) (by decide) (by decide)
  have ei : ∀ (i : Nat) k, i ≠ 0 → i ≠ 4 → i ≠ 5 → i ≠ 6 → i ≠ 11 → P' i k = P i k := hg.1
  have ep : ∀ r, pr P' r = pr P r := fun r => ei 1 r (by decide) (by decide) (by decide) (by decide) (by decide)
  have er : ∀ r, ru P' r = ru P r := fun r => ei 2 r (by decide) (by decide) (by decide) (by decide) (by decide)
  have em : ∀ s k, nm P' s k = nm P s k := fun s k => ei 3 _ (by decide) (by decide) (by decide) (by decide) (by decide)
  have et : ∀ w, tf P' w = tf P w := fun w => ei 7 w (by decide) (by decide) (by decide) (by decide) (by decide)
  have eo : ∀ d, od P' d = od P d := fun d => ei 8 d (by decide) (by decide) (by decide) (by decide) (by decide)
  have ef : ∀ d, rf P' d = rf P d := fun d => ei 9 d (by decide) (by decide) (by decide) (by decide) (by decide)
  have eg : ∀ d, rt P' d = rt P d := fun d => ei 10 d (by decide) (by decide) (by decide) (by decide) (by decide)
  have ek : ∀ kd i, 0 ≤ kd → kd ≤ 3 → 0 ≤ i → i < nN P kd → nk P' kd i = nk P kd i := hg.2.2.2.2.1
  refine ⟨hT, ⟨?_, ?_, ?_⟩, fun r a c => ?_, fun s a c => ?_, fun s k a c d f => ?_, fun w hw => ?_, fun d a c => ?_, fun i a c => ?_, fun i a c => ?_⟩
  · rw [hf 87 0 (by unfold Wtt Wr3 Wr2; omega), c1, e0]
  · rw [hf 87 1 (by unfold Wtt Wr3 Wr2; omega), c2, e1]
  · rw [hf 87 4 (by unfold Wtt Wr3 Wr2; omega), c3, e4]
  · rw [hf 93 r (by unfold Wtt Wr3 Wr2; omega), ep]; exact r1 r a (by omega)
  · rw [hf 94 s (by unfold Wtt Wr3 Wr2; omega), er]; exact s1 s a (by omega)
  · have epn : pn P' s = pn P s := by unfold pn; rw [er, ep]
    rw [hf 95 _ (by unfold Wtt Wr3 Wr2; omega), em]; exact s2 s k a (by omega) d (by omega)
  · have hw' := inW_gt hg hw
    have hne : w ≠ w0 := fun hh => hw0 (hh ▸ hw')
    have ho := hp.2.2.2.2.2.1 w hw'
    rw [hf 91 w (by unfold Wtt Wr3 Wr2; omega), hf 92 w (by unfold Wtt Wr3 Wr2; omega), et, (hg.2.2.2.1 _ ho.2.1).2]
    exact t1 w hw'
  · rw [hf 96 d (by unfold Wtt Wr3 Wr2; omega), hf 97 d (by unfold Wtt Wr3 Wr2; omega), hf 98 d (by unfold Wtt Wr3 Wr2; omega), eo, ef, eg]; exact d1 d a (by omega)
  · rw [hf 88 i (by unfold Wtt Wr3 Wr2; omega), ek 0 i (by omega) (by omega) a (show i < nR P by omega)]; exact k1 i a (by omega)
  · rw [hf 88 _ (by unfold Wtt Wr3 Wr2; omega), ek 1 i (by omega) (by omega) a (show i < nD P by omega)]; exact k2 i a (by omega)
theorem RKp_tk (hB : RKp μ P) (hp : WP P) (hf : Fr W76 μ μ1) : RKp μ1 P := RKp_gt hB hp (not_inW_s hp) (((hf.mono W76.r2).mono Wr2.r3).mono Wr3.tt) (hB.1.tk hf) GT.rf
end
