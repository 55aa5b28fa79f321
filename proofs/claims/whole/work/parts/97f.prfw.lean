/-! the class: proof() -/
section
variable {E : jE} {μ μ1 : jMu} {Q : Int → jMu → Prop} {Q0 : jMu → Prop} {n : Int} {t : Int → Int} {P P' : jP} {b b2 : Nat} {w q : Int → Bool}
theorem CB.fro (h : CB b μ P) (hn : ∀ (o : Nat) (k : Int), o ≤ 18 → o ≠ 7 → μ1 (b + o) k = μ (b + o) k) : CB b μ1 P := by
  obtain ⟨hb, w, ⟨a1, a2, a3, a4, a5, a6, a7⟩, c, d, e, f, g, i, j1, j2, j3, j4⟩ := h
  have h0 : ∀ (k : Int), μ1 b k = μ b k := fun k => hn 0 k (by omega) (by omega)
  refine ⟨hb, w, ⟨?_, ?_, ?_, ?_, ?_, ?_, ?_⟩, ?_, ?_, ?_, ?_, ?_, ?_, ?_, ?_, ?_, ?_⟩
  · rw [h0]; exact a1
  · rw [h0]; exact a2
  · rw [h0]; exact a3
  · rw [h0]; exact a4
  · rw [hn _ _ (by omega) (by omega)]; exact a5
  · rw [hn _ _ (by omega) (by omega)]; exact a6
  · rw [hn _ _ (by omega) (by omega)]; exact a7
  · intro r h1 h2; rw [hn _ _ (by omega) (by omega), hn _ _ (by omega) (by omega)]; exact c r h1 h2
  · intro r k h1 h2 h3 h4; rw [hn _ _ (by omega) (by omega)]; exact d r k h1 h2 h3 h4
  · intro r h1 h2; rw [hn _ _ (by omega) (by omega), hn _ _ (by omega) (by omega)]; exact e r h1 h2
  · intro r k h1 h2 h3 h4; rw [hn _ _ (by omega) (by omega)]; exact f r k h1 h2 h3 h4
  · intro r h1 h2; rw [hn _ _ (by omega) (by omega), hn _ _ (by omega) (by omega)]; exact g r h1 h2
  · intro r h1 h2; rw [hn _ _ (by omega) (by omega), hn _ _ (by omega) (by omega), hn _ _ (by omega) (by omega)]; exact i r h1 h2
  · intro r h1 h2; rw [hn _ _ (by omega) (by omega)]; exact j1 r h1 h2
  · intro r h1 h2; rw [hn _ _ (by omega) (by omega)]; exact j2 r h1 h2
  · intro r h1 h2; rw [hn _ _ (by omega) (by omega)]; exact j3 r h1 h2
  · intro r h1 h2; rw [hn _ _ (by omega) (by omega)]; exact j4 r h1 h2
theorem FC.fro (h : FC b μ P) (hn : ∀ (o : Nat) (k : Int), o ≤ 18 → o ≠ 7 → μ1 (b + o) k = μ (b + o) k) (h4 : ∀ (i : Nat) (k : Int), 45 ≤ i → i ≤ 58 → μ1 i k = μ i k) : FC b μ1 P := by
  obtain ⟨a, c, d, ⟨e1, e2, e3, e4, e5⟩, f1, f2, f3, f4⟩ := h
  refine ⟨a.fro hn, ?_, fun s h0 h1 => ?_, ⟨?_, ?_, ?_, ?_, ?_⟩, ?_, fun s h0 h1 => ?_, fun k h0 h1 => ?_, fun k i h0 h1 h2 h3 => ?_⟩
  · rw [h4 _ _ (by omega) (by omega)]; exact c
  · rw [h4 46 _ (by omega) (by omega), h4 47 _ (by omega) (by omega), h4 48 _ (by omega) (by omega), h4 49 _ (by omega) (by omega), h4 50 _ (by omega) (by omega), h4 51 _ (by omega) (by omega)]; exact d s h0 h1
  · rw [h4 _ _ (by omega) (by omega)]; exact e1
  · rw [h4 _ _ (by omega) (by omega)]; exact e2
  · rw [h4 _ _ (by omega) (by omega)]; exact e3
  · rw [h4 _ _ (by omega) (by omega)]; exact e4
  · rw [h4 _ _ (by omega) (by omega)]; exact e5
  · rw [h4 _ _ (by omega) (by omega)]; exact f1
  · rw [h4 _ _ (by omega) (by omega)]; exact f2 s h0 h1
  · rw [h4 53 _ (by omega) (by omega), h4 55 _ (by omega) (by omega), h4 57 _ (by omega) (by omega), h4 58 _ (by omega) (by omega)]; exact f3 k h0 h1
  · rw [h4 _ _ (by omega) (by omega)]; exact f4 k i h0 h1 h2 h3
theorem XS.fro (h : XS b μ P w q) (hf : Fr (fun i k => ¬ (b ≤ i ∧ i ≤ b + 18) ∧ ¬ (45 ≤ i ∧ i ≤ 58) ∧ ¬ (i = 0 ∧ (k = 9 ∨ k = 13 ∨ k = 14)) ∧ ¬ (i = 74 ∧ k = 0)) μ μ1) : XS b μ1 P w q := by
  have hb := h.ib
  obtain ⟨a, c, d, e, f, g, i⟩ := h
  refine ⟨a.fro (fun o k h1 h2 => hf (b + o) k (by omega)) (fun i k h1 h2 => hf i k (by omega)), ?_, ?_, ?_, ?_, g, i⟩
  · rw [hf 0 9 (by omega)]; exact c
  · rw [hf 0 13 (by omega)]; exact d
  · rw [hf 0 14 (by omega)]; exact e
  · rw [hf 74 0 (by omega)]; exact f
/-- what a proof that is refused writes in the class -/
def Wxf (i : Nat) (k : Int) : Prop := (i = 1 ∨ (3 ≤ i ∧ i ≤ 44)) ∨ (i = 0 ∧ (k = 11 ∨ k = 12))
/-- what a proof writes in the class -/
def Wxp (i : Nat) (k : Int) : Prop := (i < 75 ∧ i ≠ 2) ∧ ¬ (i = 74 ∧ k = 1) ∧ ¬ (i = 0 ∧ k = 15)
theorem isB_r {b : Nat} (hb : isB b) : 7 ≤ b ∧ b + 18 ≤ 44 := by rcases hb with rfl | rfl <;> decide
theorem bs_ff : bs (fun _ => false) 12 = 0 := by decide
theorem sX_proof (h : XS b μ P w q) (hb2 : isB b2) (hne : b2 ≠ b) (h10 : μ 0 10 = ((b2 : Nat) : Int)) (hT : TC μ n t) (kf : ∀ g, aPar n t = .error g → ∀ μ1, Fr Wxf μ μ1 → XS b μ1 P w q → μ1 1 1 = 0 → μ1 0 11 = g.1 → μ1 0 12 = g.2 → Q (-1) μ1) (kt : ∀ k' P', aPar n t = .ok (k', P') → ∀ μ1, Fr Wxp μ μ1 → XS b2 μ1 (goalP P') (fun _ => false) (fun _ => false) → μ1 0 10 = ((b : Nat) : Int) → μ1 1 1 = 0 → μ1 0 11 = 0 → μ1 0 12 = -1 → μ1 63 0 = 0 → μ1 64 4 = 0 → μ1 69 4 = 0 → Q k' μ1) : Ci E mX_proof [jvR 0] μ Q := by
  have hb := h.ib
  have r1 := isB_r hb
  have r2 := isB_r hb2
  refine vX_proof_0 hb hb2 ⟨h10, sPa_parse hb2 hT (fun g hg μ1 f1 l1 => ⟨fun c => absurd rfl c, fun _ => ⟨_, rfl, ?_⟩⟩) (fun k' P' hg h0 μ1 f1 C1 l1 => ⟨fun _ => ?_, fun c => by omega⟩)⟩
  · have f2 : Fr Wxf μ μ1 := f1.mono (fun i k hh => by unfold Wpa at hh; unfold Wxf; omega)
    have dis : ∀ i, b2 ≤ i → i ≤ b2 + 18 → ¬ (b ≤ i ∧ i ≤ b + 18) := by
      intro i a1 a2
      rcases hb with rfl | rfl <;> rcases hb2 with rfl | rfl <;> omega
    have X1 : XS b μ1 P w q := h.fro (f1.mono (fun i k hh => by
      unfold Wpa at hh
      rcases hh with hh | hh | hh
      · omega
      · omega
      · have := dis i hh.1 hh.2
        omega))
    refine kf g hg _ (((f2.put (by unfold Wxf; omega)).put (by unfold Wxf; omega)).put (by unfold Wxf; omega)) (X1.fro (((Fr.up (by omega)).put (by omega)).put (by omega))) ?_ ?_ ?_
    · simp (disch := omega) only [up_ne, up_eq]
    · rw [up_nk (by decide), up_eq]; exact l1.1
    · rw [up_eq]; exact l1.2
  · have e10 : μ1 0 10 = ((b2 : Nat) : Int) := by rw [f1 0 10 (by unfold Wpa; omega)]; exact h10
    have e9 : μ1 0 9 = ((b : Nat) : Int) := by rw [f1 0 9 (by unfold Wpa; omega)]; exact h.2.1
    have g1 : Fr Wxp μ μ1 := f1.mono (fun i k hh => by unfold Wpa at hh; unfold Wxp; omega)
    refine ⟨⟨e10, e9⟩, ?_⟩
    rw [l1.1, l1.2]
    generalize hν : j_up (j_up (j_up (j_up (j_up μ1 1 1 0) 0 11 (0, (-1 : Int)).1) 0 12 ((0 : Int), -1).2) 0 10 b) 0 9 b2 = ν
    have fν : Fr (fun i k => (i = 0 ∧ (9 ≤ k ∧ k ≤ 12)) ∨ (i = 1 ∧ k = 1)) μ1 ν := by
      rw [← hν]
      refine Fr.put (Fr.put (Fr.put (Fr.put (Fr.put Fr.rf ?_) ?_) ?_) ?_) ?_ <;> omega
    have v11 : ν 1 1 = 0 := by rw [← hν]; simp (disch := omega) only [up_ne, up_eq]
    have v0 : ν 0 11 = 0 := by rw [← hν]; simp (disch := omega) only [up_nk, up_eq]
    have v1 : ν 0 12 = -1 := by rw [← hν]; simp (disch := omega) only [up_nk, up_eq]
    have v10 : ν 0 10 = ((b : Nat) : Int) := by rw [← hν]; simp (disch := omega) only [up_nk, up_eq]
    have v9 : ν 0 9 = ((b2 : Nat) : Int) := by rw [← hν]; simp (disch := omega) only [up_nk, up_eq]
    clear hν
    refine sFa_study (C1.frx (fν.mono (fun i k hh => by omega))) (fun μ2 f2 F2 => ?_)
    have q2 : ∀ k, μ2 0 k = ν 0 k := fun k => f2 0 k (by unfold Wst; omega)
    have f3 : Fr (fun i k => (i = 63 ∧ k = 0) ∨ (i = 64 ∧ k = 4) ∨ (i = 74 ∧ k = 0)) μ2 (j_up (j_up (j_up μ2 63 0 0) 64 4 0) 74 0 0) := by
      refine Fr.put (Fr.put (Fr.put Fr.rf ?_) ?_) ?_ <;> omega
    refine sX_setWrong (w := fun _ => false) (q := fun _ => false) (F2.frx (f3.mono (fun i k hh => by omega))) (by rw [f3 0 9 (by omega), q2]; exact v9) (by rw [up_eq]; exact bs_ff.symm) (fun r hr => absurd hr (by decide)) bs_ff.symm (fun r hr => absurd hr (by decide)) (fun μ4 f4 X4 e69 => ⟨_, rfl, kt k' P' hg μ4 ?_ X4 ?_ ?_ ?_ ?_ ?_ ?_ e69⟩)
    · exact ((g1.tr (fν.mono (fun i k hh => by unfold Wxp; omega))).tr (f2.mono (fun i k hh => by unfold Wst at hh; unfold Wxp; omega))).tr ((f3.mono (fun i k hh => by unfold Wxp; omega)).tr (f4.mono (fun i k hh => by unfold Wsw at hh; unfold Wxp; omega)))
    · rw [f4 0 10 (by unfold Wsw; omega), f3 0 10 (by omega), q2]; exact v10
    · rw [f4 1 1 (by unfold Wsw; omega), f3 1 1 (by omega), f2 1 1 (by unfold Wst; omega)]; exact v11
    · rw [f4 0 11 (by unfold Wsw; omega), f3 0 11 (by omega), q2]; exact v0
    · rw [f4 0 12 (by unfold Wsw; omega), f3 0 12 (by omega), q2]; exact v1
    · rw [f4 63 0 (by unfold Wsw; omega)]; simp (disch := omega) only [up_ne, up_eq]
    · rw [f4 64 4 (by unfold Wsw; omega)]; simp (disch := omega) only [up_ne, up_eq]
end
