/-! the reference: new names, full rows -/
def Wrn (i : Nat) (k : Int) : Prop := W76 i k ∨ (i = 88 ∧ 0 ≤ k ∧ k < 48)
theorem W76.rn : ∀ i k, W76 i k → Wrn i k := fun i k h => Or.inl h
section
variable {E : jE} {μ μ1 : jMu} {Q : Int → jMu → Prop} {Q0 : jMu → Prop} {n h e : Int} {t : Int → Int} {P P' : jP}
theorem sM_isFull (h5 : μ 76 5 = 0) {kd rmk begun : Int} (h0 : 0 ≤ kd ∧ kd < 10) (kf : μ 87 kd = rmk → ∀ μ1, Fr W76 μ μ1 → Bd μ1 (5, begun) → Q 1 μ1) (kt : μ 87 kd ≠ rmk → Q 0 μ) : Ci E mM_isFull [jvR 76, jvI kd, jvI rmk, jvI begun] μ Q := by
  refine vM_isFull_0 ⟨fun c => absurd h5 c, fun _ => ⟨h0, fun c2 => ⟨fun _ => ⟨_, rfl, kt c2⟩, fun c => absurd h5 c⟩, fun c2 => ?_⟩⟩
  exact sM_fail h5 (by decide) (fun μ1 f1 b1 => ⟨fun c => absurd (b1.1.symm.trans c) b1.2.2, fun _ => ⟨_, rfl, kf c2 μ1 (f1.mono (fun i k hh => ⟨hh.1, by omega⟩)) b1⟩⟩)
theorem sM_fnd (hB : RKp μ P) (hp : WP P) {kd c : Int} (hk : kd = 0 ∨ kd = 1) (hc : okN c) (k : Q (fnd P kd c) μ) : Ci E mM_nameOf [jvR 76, jvI kd, jvL (e27 c)] μ Q := by
  obtain ⟨_, ⟨c1, c2, c3⟩, r1, s1, s2, t1, d1, k1, k2⟩ := hB
  have hn := hp.1.1
  unfold WFn at hn
  have hok := hp.1.2.1
  rcases hk with rfl | rfl
  · exact sM_nameOf (P := P) (by omega) c1 (show nR P ≤ 24 by omega) (fun i a b => by rw [show 24 * 0 + i = i by omega]; exact k1 i a b) (fun i a b => hok 0 i (by omega) (by omega) a b) hc k
  · exact sM_nameOf (P := P) (by omega) c2 (show nD P ≤ 24 by omega) (fun i a b => by rw [show 24 * 1 + i = 24 + i by omega]; exact k2 i a b) (fun i a b => hok 1 i (by omega) (by omega) a b) hc k
theorem sM_newName (hr : HR μ n t h e) (hwd : Wds μ) (hB : RKp μ P) (hp : WP P) {kd m : Int} (hk : kd = 0 ∨ kd = 1) (hm : μ 87 kd = m) (h24 : 0 ≤ m ∧ m < 24) (kf : ∀ f, aNew n t h e P = .error f → ∀ μ1, Fr W76 μ μ1 → Bd μ1 f → Q m μ1) (kt : ∀ c h' e', aNew n t h e P = .ok (c, h', e') → ∀ μ1, Fr Wrn μ μ1 → HR μ1 n t h' e' → (∀ k, k ≠ 24 * kd + m → μ1 88 k = μ 88 k) → μ1 88 (24 * kd + m) = e27 c → Q m μ1) : Ci E mM_newName [jvR 76, jvI kd] μ Q := by
  have bad : ∀ (f : jF) (v : Int) (μ1 : jMu), aNew n t h e P = .error f → Fr W76 μ μ1 → Bd μ1 f → K 121 E mM_newName 41 [some (jvR 76), some (jvI kd), some (jvL v), none, none] [] μ1 (fun v μ1 => ∃ r, v = some (jvI r) ∧ Q r μ1) := fun f v μ1 hf f1 b1 => by
    refine vM_newName_41 ⟨by omega, fun _ => ⟨_, rfl, ?_⟩, fun c => absurd (b1.1.symm.trans c) b1.2.2⟩
    rw [f1 87 kd (by unfold W76; omega), hm]
    exact kf f hf μ1 f1 b1
  refine vM_newName_0 (sM_name hr hwd (fun f hf μ1 f1 b1 => ⟨fun _ => bad f 0 μ1 (by unfold aNew; rw [hf]) f1 b1, fun c => absurd (b1.1.symm.trans c) b1.2.2⟩) (fun c h' e' hN μ1 f1 x1 p1 => ⟨fun c => absurd x1.2.2.2.2 c, fun _ => ?_⟩))
  have hno := aName_ok hr.2.1 hN
  have en : aNew n t h e P = if fnd P 0 c ≠ -1 ∨ fnd P 1 c ≠ -1 then .error (3, h) else .ok (c, h', e') := by unfold aNew; rw [hN]
  have B1 := RKp_tk hB hp f1
  have fail3 : (fnd P 0 c ≠ -1 ∨ fnd P 1 c ≠ -1) → Cv E mM_fail [jvR 76, jvI 3, jvI (μ1 76 18)] μ1 (fun μ13 => (K 121 E mM_newName 41 [some (jvR 76), some (jvI kd), some (jvL (e27 c)), none, none] [] μ13 (fun v μ1 => ∃ r, v = some (jvI r) ∧ Q r μ1))) := fun hx => by
    rw [p1]
    exact sM_fail x1.2.2.2.2 (by decide) (fun μ2 f2 b2 => bad (3, h) _ μ2 (by rw [en, if_pos hx]) (f1.tr (f2.mono (fun i k hh => ⟨hh.1, by omega⟩))) b2)
  refine sM_fnd B1 hp (Or.inl rfl) hno.2.2.1 ⟨fun c1 => fail3 (Or.inl c1), fun c1 => sM_fnd B1 hp (Or.inr rfl) hno.2.2.1 ⟨fun c2 => ?_, fun c2 => fail3 (Or.inr c2)⟩⟩
  rw [if_neg (by omega)] at en
  refine vM_newName_41 ⟨by omega, fun c => absurd x1.2.2.2.2 c, fun _ => ?_⟩
  rw [f1 87 kd (by unfold W76; omega), hm]
  refine ⟨by omega, _, rfl, kt c h' e' en _ ((f1.mono W76.rn).put (Or.inr ⟨rfl, by omega⟩)) (x1.fr (Fr.up (by omega))) (fun k hk' => ?_) up_eq⟩
  rw [up_nk hk', f1 88 k (by unfold W76; omega)]
end
