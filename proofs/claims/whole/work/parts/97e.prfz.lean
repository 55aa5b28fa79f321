/-! the reference: proof() -/
def Wmp (i : Nat) (k : Int) : Prop := Wpq i k ∨ (i = 76 ∧ (1 ≤ k ∧ k ≤ 8)) ∨ (i = 87 ∧ 0 ≤ k ∧ k < 5)
def WmP (i : Nat) (k : Int) : Prop := Wmp i k ∨ Wst0 i k
section
variable {E : jE} {μ μ1 ν : jMu} {Q : Int → jMu → Prop} {Q0 : jMu → Prop} {n : Int} {t : Int → Int} {P P' : jP}
theorem RKp_00 (h : ∀ i, 0 ≤ i → i < 5 → μ 87 i = 0) (h23 : μ 76 23 = 0) : RKp μ P00 := by
  have z : ∀ (i : Int), i ≠ 5 → P00 0 i = 0 := fun i hi => by unfold P00; rw [if_neg (by omega)]
  have z0 : nR P00 = 0 := z 0 (by decide)
  have z1 : nD P00 = 0 := z 1 (by decide)
  have z2 : nG P00 = 0 := z 2 (by decide)
  have z3 : nH P00 = 0 := z 3 (by decide)
  have z4 : nS P00 = 0 := z 4 (by decide)
  have z6 : nC P00 = 0 := z 6 (by decide)
  refine ⟨⟨⟨?_, ?_, ?_⟩, fun g a b => by omega, fun g a b => by omega, fun g a b => by omega⟩, ⟨?_, ?_, ?_⟩, fun g a b => by omega, fun g a b => by omega, fun s k a b c d => by omega, fun w hw => ?_, fun g a b => by omega, fun g a b => by omega, fun g a b => by omega⟩
  · rw [h 2 (by decide) (by decide), z2]
  · rw [h 3 (by decide) (by decide), z3]
  · rw [h23, z6]
  · rw [h 0 (by decide) (by decide), z0]
  · rw [h 1 (by decide) (by decide), z1]
  · rw [h 4 (by decide) (by decide), z4]
  · rcases hw with hh | ⟨r, k, a0, a1, a2, a3, a4⟩
    · omega
    · omega
theorem sM_proof (hT : TR μ n t) (hwd : Wds μ) (hG : G91 μ) (kf : ∀ g, aPar n t = .error g → ∀ μ1, Fr Wmp μ μ1 → μ1 76 1 = 0 → μ1 76 7 = g.1 → μ1 76 8 = g.2 → G91 μ1 → Q (-1) μ1) (kt : ∀ k' P', aPar n t = .ok (k', P') → ∀ μ1, Fr WmP μ μ1 → μ1 76 1 = 0 → μ1 76 7 = 0 → μ1 76 8 = -1 → RS μ1 (goalP P') (fun _ => false) (fun _ => false) → G91 μ1 → Q k' μ1) : Ci E mM_proof [jvR 76] μ Q := by
  obtain ⟨t1, t2, t3⟩ := hT
  refine vM_proof_0 ?_
  generalize hμ : j_up (j_up (j_up (j_up (j_up (j_up (j_up (j_up (j_up μ 76 3 (μ 76 1)) 76 1 0) 76 2 0) 76 4 (-1)) 76 5 0) 76 6 (-1)) 76 34 0) 76 23 0) 76 32 (-1) = μ'
  have f0 : Fr Wmp μ μ' := by
    rw [← hμ]
    refine Fr.put (Fr.put (Fr.put (Fr.put (Fr.put (Fr.put (Fr.put (Fr.put (Fr.put Fr.rf ?_) ?_) ?_) ?_) ?_) ?_) ?_) ?_) ?_ <;> unfold Wmp Wpq Wps Wru Wr3 Wr2 <;> omega
  have f0b : Fr (fun i k => i = 76 ∧ (k = 1 ∨ k = 2 ∨ k = 3 ∨ k = 4 ∨ k = 5 ∨ k = 6 ∨ k = 34 ∨ k = 23 ∨ k = 32)) μ μ' := by
    rw [← hμ]
    refine Fr.put (Fr.put (Fr.put (Fr.put (Fr.put (Fr.put (Fr.put (Fr.put (Fr.put Fr.rf ?_) ?_) ?_) ?_) ?_) ?_) ?_) ?_) ?_ <;> omega
  have e1 : μ' 76 1 = 0 := by rw [← hμ]; simp (disch := omega) only [up_nk, up_eq]
  have e2 : μ' 76 2 = 0 := by rw [← hμ]; simp (disch := omega) only [up_nk, up_eq]
  have e3 : μ' 76 3 = n := by rw [← hμ]; simp (disch := omega) only [up_nk, up_eq]; exact t1
  have e4 : μ' 76 4 = -1 := by rw [← hμ]; simp (disch := omega) only [up_nk, up_eq]
  have e5 : μ' 76 5 = 0 := by rw [← hμ]; simp (disch := omega) only [up_nk, up_eq]
  have e6 : μ' 76 6 = -1 := by rw [← hμ]; simp (disch := omega) only [up_nk, up_eq]
  have e34 : μ' 76 34 = 0 := by rw [← hμ]; simp (disch := omega) only [up_nk, up_eq]
  have e23 : μ' 76 23 = 0 := by rw [← hμ]; simp (disch := omega) only [up_nk, up_eq]
  have e32 : μ' 76 32 = -1 := by rw [← hμ]; simp (disch := omega) only [up_nk, up_eq]
  clear hμ
  refine loopG (m := 5) (A := fun j ν => K 121 E mM_proof 50 [some (jvR 76), some (jvI j)] [] ν (fun v μ1 => ∃ r, v = some (jvI r) ∧ Q r μ1)) (I := fun j ν => Fr (fun i k => i = 87 ∧ 0 ≤ k ∧ k < 5) μ' ν ∧ ∀ i, 0 ≤ i → i < j → ν 87 i = 0) (by decide) (fun j ν a b hi ih => vM_proof_50 ⟨fun c => absurd c (by omega), fun _ => ⟨by omega, ih _ ⟨hi.1.put ⟨rfl, a, b⟩, fun i x y => ?_⟩⟩⟩) (fun ν hi => vM_proof_50 ⟨fun _ => ?_, fun c => absurd (by decide) c⟩) μ' ⟨Fr.rf, fun i x y => by omega⟩
  · by_cases hij : i = j
    · rw [hij, up_eq]
    · rw [up_nk hij]; exact hi.2 i x (by omega)
  have q : ∀ k, ν 76 k = μ' 76 k := fun k => hi.1 76 k (by omega)
  have hs := sk_hd (n := n) (t := t) (a := 0) (e := -1) (by decide) t2.1 (by decide) (by decide)
  have hr : HR ν n t (sk n t 0) (-1) := ⟨⟨by rw [q]; exact e3, ⟨t2.1, t2.2, by rw [q]; exact e6⟩, fun k a b => ⟨(t3 k a b).1, by rw [hi.1 77 k (by omega), f0b 77 k (by omega)]; exact (t3 k a b).2⟩⟩, hs.1, ⟨by rw [q, e2]; exact ⟨by decide, t2.1⟩, by rw [q, e2]⟩, by rw [q]; exact e4, by rw [q]; exact e5⟩
  have hwν : Wds ν := (hwd.fr (f0b.mono (fun i k hh => by omega))).fr (hi.1.mono (fun i k hh => by omega))
  have hGν : G91 ν := (hG.fr (f0b.mono (fun i k hh => by omega))).fr (hi.1.mono (fun i k hh => by omega))
  have f1 : Fr Wmp μ ν := f0.tr (hi.1.mono (fun i k hh => Or.inr (Or.inr hh)))
  have eg : gl P00 = -1 := by show P00 0 5 = -1; unfold P00; rw [if_pos ⟨rfl, rfl⟩]
  refine sM_proofLoop 80 0 (sk n t 0) (-1) P00 ν (by decide) (by decide) hr hwν (RKp_00 hi.2 (by rw [q]; exact e23)) WP_00 hGν (by rw [q]; exact e34) (by rw [q, e32, eg]) (fun g hg μ1 g1 b1 G1 => ?_) (fun k' P' hg μ1 g1 B1 hp1 G1 y1 y2 => ?_)
  · refine kf g hg _ (((f1.tr (g1.mono (fun i k hh => Or.inl hh))).put (Or.inr (Or.inl ⟨rfl, by omega⟩))).put (Or.inr (Or.inl ⟨rfl, by omega⟩))) ?_ ?_ up_eq ((G1.fr (Fr.up (by decide))).fr (Fr.up (by decide)))
    · rw [up_nk (by decide), up_nk (by decide), g1 76 1 (by unfold Wpq Wps Wru Wr3 Wr2; omega), q, e1]
    · rw [up_nk (by decide), up_eq]
  · have f2 : Fr Wmp μ (j_up (j_up μ1 76 7 0) 76 8 (-1)) := ((f1.tr (g1.mono (fun i k hh => Or.inl hh))).put (Or.inr (Or.inl ⟨rfl, by omega⟩))).put (Or.inr (Or.inl ⟨rfl, by omega⟩))
    have B2 : RKp (j_up (j_up μ1 76 7 0) 76 8 (-1)) P' := by
      obtain ⟨⟨⟨z1, z2, z3⟩, z4, z5, z6⟩, y⟩ := B1
      exact ⟨⟨⟨z1, z2, by rw [up_nk (by decide), up_nk (by decide)]; exact z3⟩, z4, z5, z6⟩, y⟩
    have G2 : G91 (j_up (j_up μ1 76 7 0) 76 8 (-1)) := (G1.fr (Fr.up (by decide))).fr (Fr.up (by decide))
    refine sM_stands0 B2 hp1 G2 (by rw [up_nk (by decide), up_nk (by decide)]; exact y2) (fun μ3 g3 S3 => ?_)
    have n3 : ∀ k, k ≠ 33 → k ≠ 44 → μ3 76 k = j_up (j_up μ1 76 7 0) 76 8 (-1) 76 k := fun k a b => g3 76 k (by unfold Wst0 WK; omega)
    have e34' : μ3 76 34 = k' := by rw [n3 34 (by decide) (by decide), up_nk (by decide), up_nk (by decide)]; exact y1
    rw [e34']
    refine kt k' P' hg μ3 ((f2.mono (fun i k hh => Or.inl hh)).tr (g3.mono (fun i k hh => Or.inr hh))) ?_ ?_ ?_ S3 (fun v a b => ?_)
    · rw [n3 1 (by decide) (by decide), up_nk (by decide), up_nk (by decide), g1 76 1 (by unfold Wpq Wps Wru Wr3 Wr2; omega), q, e1]
    · rw [n3 7 (by decide) (by decide), up_nk (by decide), up_eq]
    · rw [n3 8 (by decide) (by decide), up_eq]
    · rw [g3 91 v (by unfold Wst0 WK; show ¬ ((87 ≤ 91 ∧ 91 ≤ 98 ∧ 88 ≤ v) ∨ _); omega)]
      exact G2 v a b
end
