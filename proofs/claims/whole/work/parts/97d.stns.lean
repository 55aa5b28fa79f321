/-! the reference: what stands then -/
section
variable {E : jE} {μ μ1 ν : jMu} {Q : Int → jMu → Prop} {Q0 : jMu → Prop} {P P' : jP} {N N' : Nat → Int}
theorem up_self {i : Nat} {k : Int} : j_up μ i k (μ i k) = μ := by
  funext a b
  by_cases h1 : a = i
  · subst h1
    by_cases h2 : b = k
    · subst h2; exact up_eq
    · exact up_nk h2
  · exact up_ne h1
theorem RKp_g (hB : RKp μ P) {x : Int} : RKp μ (j_up P 0 5 x) := by
  have := RKp_32 (v := μ 76 32) (x := x) hB
  rw [up_self] at this
  exact this
theorem S0.at {c : Nat} {i m : Int} (h : S0 μ N ν) (hc : 87 ≤ c ∧ c ≤ 98) (h0 : 0 ≤ i) (h1 : i < N c) (hm : m = oS c + i) : ν c m = aS c + μ c i := by rw [hm]; exact h.2.1 c i hc.1 hc.2 h0 h1
theorem S0_DR {ν2 : jMu} (hB : RKp μ P) (hp : WP P) (h : S0 μ (N9 (nC P)) ν) (e2 : ν2 = j_up ν 76 33 (gl P)) (hC : nC P ≤ 400) : DR ν2 P := by
  have hn := hp.1.1
  unfold WFn at hn
  obtain ⟨⟨⟨y1, y2, y3⟩, y4, y5, y6⟩, ⟨c1, c2, c3⟩, r1, s1, s2, t1, d1, k1, k2⟩ := hB
  have q : ∀ (c : Nat) (k : Int), c ≠ 76 → ν2 c k = ν c k := fun c k hc => by rw [e2, up_ne hc]
  have g88 : ∀ i m : Int, 0 ≤ i → i < 96 → m = 96 + i → ν2 88 m = 0 + μ 88 i := fun i m a b hm => by rw [q 88 _ (by decide)]; exact h.at (c := 88) (by decide) a b hm
  refine ⟨⟨?_, ?_, ?_, ?_, ?_, fun _ => ?_⟩, fun r a b => ?_, fun s a b => ?_, fun s k a b c d => ?_, fun x a b => ?_, fun g a b => ?_, fun w hw => ?_, fun d a b => ?_, fun kd i a b c d => ?_⟩
  · have e : ν 87 5 = 0 + μ 87 0 := h.at (c := 87) (i := 0) (by decide) (by decide) (show (0 : Int) < 5 by decide) rfl
    rw [q 87 _ (by decide), e]; omega
  · have e : ν 87 6 = 0 + μ 87 1 := h.at (c := 87) (i := 1) (by decide) (by decide) (show (1 : Int) < 5 by decide) rfl
    rw [q 87 _ (by decide), e]; omega
  · have e : ν 87 7 = 0 + μ 87 2 := h.at (c := 87) (i := 2) (by decide) (by decide) (show (2 : Int) < 5 by decide) rfl
    rw [q 87 _ (by decide), e]; omega
  · have e : ν 87 8 = 0 + μ 87 3 := h.at (c := 87) (i := 3) (by decide) (by decide) (show (3 : Int) < 5 by decide) rfl
    rw [q 87 _ (by decide), e]; omega
  · have e : ν 87 9 = 0 + μ 87 4 := h.at (c := 87) (i := 4) (by decide) (by decide) (show (4 : Int) < 5 by decide) rfl
    rw [q 87 _ (by decide), e]; omega
  · rw [e2, up_eq]
  · have e : ν 93 (12 + r) = 0 + μ 93 r := h.at (c := 93) (i := r) (by decide) a (show r < 12 by omega) rfl
    rw [q 93 _ (by decide), e, r1 r a b]; omega
  · have e : ν 94 (40 + s) = 0 + μ 94 s := h.at (c := 94) (i := s) (by decide) a (show s < 40 by omega) rfl
    rw [q 94 _ (by decide), e, s1 s a b]; omega
  · have := pn3 hp a b
    have e : ν 95 (120 + 3 * s + k) = 0 + μ 95 (3 * s + k) := h.at (c := 95) (i := 3 * s + k) (by decide) (by omega) (show 3 * s + k < 120 by omega) (show _ = 120 + (3 * s + k) by omega)
    rw [q 95 _ (by decide), e, s2 s k a b c d]; omega
  · have e : ν 90 (400 + x) = 0 + μ 90 x := h.at (c := 90) (i := x) (by decide) a (show x < nC P from b) rfl
    rw [q 90 _ (by decide), e, y6 x a b]; omega
  · have e : ν 89 (24 + g) = 0 + μ 89 g := h.at (c := 89) (i := g) (by decide) a (show g < 24 by omega) rfl
    rw [q 89 _ (by decide), e, (y4 g a b).2]; omega
  · have hw0 : 0 ≤ w ∧ w < 88 := by
      rcases hw with hh | ⟨r, k, a0, a1, a2, a3, a4⟩
      · omega
      · have := hp.2.2.1 r a0 a1
        omega
    have e : ν 91 (88 + w) = 400 + μ 91 w := h.at (c := 91) (i := w) (by decide) hw0.1 hw0.2 rfl
    have e' : ν 92 (88 + w) = 0 + μ 92 w := h.at (c := 92) (i := w) (by decide) hw0.1 hw0.2 rfl
    have tt := t1 w hw
    rw [q 91 _ (by decide), q 92 _ (by decide), e, e', tt.1, tt.2]
    exact ⟨rfl, by omega⟩
  · have e : ν 96 (6 + d) = 0 + μ 96 d := h.at (c := 96) (i := d) (by decide) a (show d < 6 by omega) rfl
    have e' : ν 97 (6 + d) = 0 + μ 97 d := h.at (c := 97) (i := d) (by decide) a (show d < 6 by omega) rfl
    have e'' : ν 98 (6 + d) = 0 + μ 98 d := h.at (c := 98) (i := d) (by decide) a (show d < 6 by omega) rfl
    have dd := d1 d a b
    rw [q 96 _ (by decide), q 97 _ (by decide), q 98 _ (by decide), e, e', e'', dd.1, dd.2.1, dd.2.2]
    omega
  · have hk : kd = 0 ∨ kd = 1 ∨ kd = 2 ∨ kd = 3 := by omega
    rcases hk with rfl | rfl | rfl | rfl
    · have d' : i < nR P := d
      rw [g88 i _ c (by omega) (by omega), k1 i c d']; omega
    · have d' : i < nD P := d
      rw [g88 (24 + i) _ (by omega) (by omega) (by omega), k2 i c d']; omega
    · have d' : i < nG P := d
      rw [g88 (48 + i) _ (by omega) (by omega) (by omega), (y4 i c d').1]; omega
    · have d' : i < nH P := d
      rw [g88 (72 + i) _ (by omega) (by omega) (by omega), y5 i c d']; omega
theorem sM_stands0 (hB : RKp μ P) (hp : WP P) (hG : G91 μ) (h32 : μ 76 32 = gl P) (k : ∀ μ1, Fr Wst0 μ μ1 → RS μ1 (goalP P) (fun _ => false) (fun _ => false) → Q0 μ1) : Cv E mM_stands0 [jvR 76] μ Q0 := by
  have hC := hp.1.1.2.2.2.2.2
  refine sM_stands0c hB hp hG h32 (fun ν hS => ?_)
  have hpg : WP (goalP P) := by
    unfold goalP
    have hg := hp.2.2.2.2.2.2.2
    have hn := hp.1.1
    unfold WFn at hn
    refine WP_goal hp ?_
    split
    · exact Or.inl (by omega)
    · omega
  have ec : nC (goalP P) = nC P := by unfold goalP; exact up_nk (by decide)
  have hS' : S0 μ (N9 (nC (goalP P))) ν := by rw [ec]; exact hS
  have B2 : RKp μ (goalP P) := RKp_g (x := if gl P = -1 then nS P - 1 else gl P) hB
  have D := S0_DR B2 hpg hS' rfl (by omega)
  have f1 : Fr Wst0 μ (j_up ν 76 33 (gl (goalP P))) := hS.1.put (Or.inr (Or.inr (Or.inr (Or.inl ⟨rfl, rfl⟩))))
  refine sM_knows ⟨goalP_WF hp, D⟩ (fun μ2 f2 K2 => k μ2 (f1.tr (f2.mono (fun i k hh => Or.inr (Or.inr (Or.inr (Or.inr hh)))))) ⟨K2, fun r a b => ?_, fun r a b => ?_⟩)
  · rw [f2 107 r (by unfold WK; omega), up_ne (by decide), hS.2.2 107 r (Or.inl rfl) a b]
    rfl
  · rw [f2 109 r (by unfold WK; omega), up_ne (by decide), hS.2.2 109 r (Or.inr rfl) a b]
    rfl
end
