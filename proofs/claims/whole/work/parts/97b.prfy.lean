/-! the reference reads a proof: its statements, one after another -/
def Wpr (i : Nat) (k : Int) : Prop := Wpq i k
section
variable {E : jE} {μ μ1 : jMu} {Q : Int → jMu → Prop} {Q0 : jMu → Prop} {n h e : Int} {t : Int → Int} {P P' : jP}
theorem sM_proofLoop {l1 : Int} : ∀ (f : Nat) (k h e : Int) (P : jP) (μ : jMu), k + f = 80 → 0 ≤ k → HR μ n t h e → Wds μ → RKp μ P → WP P → G91 μ → μ 76 34 = k → μ 76 32 = gl P → (∀ g, aAll n t f k h e P = .error g → ∀ μ1, Fr Wpq μ μ1 → Bd μ1 g → G91 μ1 → Q (-1) (j_up (j_up μ1 76 7 g.1) 76 8 g.2)) → (∀ k' P', aAll n t f k h e P = .ok (k', P') → ∀ μ1, Fr Wpq μ μ1 → RKp μ1 P' → WP P' → G91 μ1 → μ1 76 34 = k' → μ1 76 32 = gl P' → Cv E mM_stands0 [jvR 76] (j_up (j_up μ1 76 7 0) 76 8 (-1)) (fun μ5 => Q (μ5 76 34) μ5)) → K 121 E mM_proof 68 [some (jvR 76), some (jvI l1)] [] μ (fun v μ1 => ∃ r, v = some (jvI r) ∧ Q r μ1)
  | f, k, h, e, P, μ, g0, g1, hr, hwd, hB, hp, hG, h34, h32, kf, kt => by
    have bad : ∀ g μ1, aAll n t f k h e P = .error g → Fr Wpq μ μ1 → Bd μ1 g → G91 μ1 → K 121 E mM_proof 68 [some (jvR 76), some (jvI l1)] [] μ1 (fun v μ1 => ∃ r, v = some (jvI r) ∧ Q r μ1) := fun g μ1 hg f1 b1 G1 => by
      have hb : μ1 76 5 ≠ 0 := by rw [b1.1]; exact b1.2.2
      refine vM_proof_68 ⟨fun _ => ⟨fun c => absurd c hb, fun _ => ⟨_, rfl, ?_⟩⟩, fun c => absurd c hb⟩
      have := kf g hg μ1 f1 b1 G1
      rw [← b1.1, ← b1.2.1] at this
      exact this
    refine vM_proof_68 ⟨fun c => absurd hr.2.2.2.2 c, fun _ => sM_look hr (fun μ1 f1 x1 p1 => ?_)⟩
    have f1' : Fr W76 μ μ1 := f1.mono (fun i k hh => Fr2.w hh)
    have f1p : Fr Wpq μ μ1 := f1'.mono W76.pq
    have B1 := RKp_tk hB hp f1'
    have G1 := hG.tk f1'
    have e34 : μ1 76 34 = k := by rw [f1' 76 34 (by unfold W76; omega)]; exact h34
    have e32 : μ1 76 32 = gl P := by rw [f1' 76 32 (by unfold W76; omega)]; exact h32
    have hh0 := hr.2.1.1.1
    refine ⟨fun c => ⟨fun _ => ?_, fun c5 => absurd x1.2.2.2.2 c5⟩, fun c => ?_⟩
    · have hnh : n ≤ h := by
        by_cases hx : h < n
        · rw [if_pos hx] at c
          have := (hr.1.2.2 h hh0.1 hx).1
          omega
        · omega
      have ea : aAll n t f k h e P = .ok (k, P) := by
        cases f with
        | zero => show (if n ≤ h then _ else _) = _; rw [if_pos hnh]
        | succ f => show (if n ≤ h then _ else _) = _; rw [if_pos hnh]
      have := kt k P ea μ1 f1p B1 hp G1 e34 e32
      rw [x1.2.2.2.2, x1.1.2.1.2.2]
      exact Cv_mono this (fun μ5 q => ⟨_, rfl, q⟩)
    · have hnh : ¬ n ≤ h := fun hx => c (if_neg (by omega))
      refine sM_proofTold (by omega) x1 p1 (hwd.pq f1p) B1 hp G1 e34 e32 (fun c8 μ2 f2 b2 G2 => ?_) (fun c8 g hg μ2 f2 b2 G2 => ?_) (fun c8 h' e' P' hg μ2 f2 x2 B2 G2 z1 z2 => ?_)
      · have hf0 : f = 0 := by omega
        exact bad (5, h) μ2 (by subst hf0; show (if n ≤ h then _ else _) = _; rw [if_neg hnh]) (f1p.tr f2) b2 G2
      · obtain ⟨f', hf'⟩ : ∃ f', f = f' + 1 := ⟨f - 1, by omega⟩
        exact bad g μ2 (by subst hf'; show (if n ≤ h then _ else _) = _; rw [if_neg hnh, hg]) (f1p.tr f2) b2 G2
      · obtain ⟨f', hf'⟩ : ∃ f', f = f' + 1 := ⟨f - 1, by omega⟩
        subst hf'
        have ea : aAll n t (f' + 1) k h e P = aAll n t f' (k + 1) h' e' P' := by show (if n ≤ h then _ else _) = _; rw [if_neg hnh, hg]
        have hp' := (aStat_ok hr.2.1 hp hg).2
        exact sM_proofLoop f' (k + 1) h' e' P' μ2 (by omega) (by omega) x2 ((hwd.pq f1p).pq f2) B2 hp' G2 z1 z2 (fun g hg μ3 f3 b3 G3 => kf g (by rw [ea]; exact hg) μ3 ((f1p.tr f2).tr f3) b3 G3) (fun k' P'' hg μ3 f3 B3 hp3 G3 y1 y2 => kt k' P'' (by rw [ea]; exact hg) μ3 ((f1p.tr f2).tr f3) B3 hp3 G3 y1 y2)
end
