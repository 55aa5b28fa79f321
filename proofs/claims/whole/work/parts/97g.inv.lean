/-! what holds between two calls -/
def Pic (μ : jMu) : Prop := (μ 76 63 = 0 ∧ μ 0 15 = 0) ∨ (μ 76 63 = 4 ∧ μ 0 15 = 1 ∧ ∀ k, 0 ≤ k → k < 4 → μ 75 k = μ 120 k)
def RB (b b2 : Nat) (n : Int) (t : Int → Int) (μ : jMu) : Prop := (isB b2 ∧ b2 ≠ b ∧ μ 0 10 = ((b2 : Nat) : Int)) ∧ (TC μ n t ∧ TR μ n t) ∧ (μ 0 11 = μ 76 7 ∧ μ 0 12 = μ 76 8) ∧ (μ 74 1 = μ 76 61 ∧ okD (μ 74 1)) ∧ Pic μ ∧ Wds μ ∧ G91 μ
def IV (P : jP) (b b2 : Nat) (w q : Int → Bool) (n : Int) (t : Int → Int) (μ : jMu) : Prop := XS b μ P w q ∧ RS μ P w q ∧ RB b b2 n t μ ∧ LCa μ P ∧ OCa μ P ∧ YCa μ P w
def Inv (μ : jMu) : Prop := ∃ P b b2 w q n t, IV P b b2 w q n t μ
/-- cells that RB does not look at -/
def NRB (i : Nat) (k : Int) : Prop := i ≠ 2 ∧ i ≠ 75 ∧ i ≠ 77 ∧ i ≠ 120 ∧ ¬ (78 ≤ i ∧ i ≤ 86) ∧ i ≠ 91 ∧ ¬ (i = 0 ∧ (k = 10 ∨ k = 11 ∨ k = 12 ∨ k = 15)) ∧ ¬ (i = 1 ∧ k = 1) ∧ ¬ (i = 76 ∧ (k = 1 ∨ k = 7 ∨ k = 8 ∨ k = 61 ∨ k = 63)) ∧ ¬ (i = 74 ∧ k = 1)
section
variable {E : jE} {μ μ1 : jMu} {Q : Int → jMu → Prop} {n : Int} {t : Int → Int} {P : jP} {b b2 : Nat} {w q : Int → Bool}
theorem RS.frl (h : RS μ P w q) (hf : Fr (fun i _ => i < 76) μ μ1) : RS μ1 P w q := by
  obtain ⟨⟨a, b, c, d⟩, e, f⟩ := h
  refine ⟨⟨a.frN (hf.mono (fun i k hw => by unfold NDr; omega)), fun s h0 h1 => ?_, fun k h0 h1 => ?_, ?_⟩, fun r h0 h1 => ?_, fun r h0 h1 => ?_⟩
  · rw [hf 103 s (by omega), hf 104 s (by omega), hf 106 s (by omega)]; exact b s h0 h1
  · rw [hf 105 k (by omega)]; exact c k h0 h1
  · rw [hf 76 44 (by omega)]; exact d
  · rw [hf 107 r (by omega)]; exact e r h0 h1
  · rw [hf 109 r (by omega)]; exact f r h0 h1
theorem XS.frh (h : XS b μ P w q) (hf : Fr (fun i _ => 75 ≤ i) μ μ1) : XS b μ1 P w q := h.fr (hf.mono (fun i k hh => by unfold NXS; omega))
theorem TR.fr (h : TR μ n t) (hf : Fr (fun i k => i ≠ 77 ∧ ¬ (i = 76 ∧ k = 1)) μ μ1) : TR μ1 n t := ⟨by rw [hf 76 1 (by omega)]; exact h.1, h.2.1, fun k a b => ⟨(h.2.2 k a b).1, by rw [hf 77 k (by omega)]; exact (h.2.2 k a b).2⟩⟩
theorem Pic.fr (h : Pic μ) (hf : Fr (fun i k => i ≠ 75 ∧ i ≠ 120 ∧ ¬ (i = 0 ∧ k = 15) ∧ ¬ (i = 76 ∧ k = 63)) μ μ1) : Pic μ1 := by
  unfold Pic
  rw [hf 76 63 (by omega), hf 0 15 (by omega)]
  rcases h with h | h
  · exact Or.inl h
  · exact Or.inr ⟨h.1, h.2.1, fun k a b => by rw [hf 75 k (by omega), hf 120 k (by omega)]; exact h.2.2 k a b⟩
theorem RB.fr (h : RB b b2 n t μ) (hf : Fr NRB μ μ1) : RB b b2 n t μ1 := by
  obtain ⟨⟨a1, a2, a3⟩, ⟨b1, b2'⟩, ⟨c1, c2⟩, ⟨d1, d2⟩, e, f, g⟩ := h
  refine ⟨⟨a1, a2, ?_⟩, ⟨b1.fr (hf.mono (fun i k hh => by unfold NRB at hh; omega)), b2'.fr (hf.mono (fun i k hh => by unfold NRB at hh; omega))⟩, ⟨?_, ?_⟩, ⟨?_, ?_⟩, e.fr (hf.mono (fun i k hh => by unfold NRB at hh; omega)), f.fr (hf.mono (fun i k hh => by unfold NRB at hh; omega)), g.fr (hf.mono (fun i k hh => by unfold NRB at hh; omega))⟩
  · rw [hf 0 10 (by unfold NRB; omega)]; exact a3
  · rw [hf 0 11 (by unfold NRB; omega), hf 76 7 (by unfold NRB; omega)]; exact c1
  · rw [hf 0 12 (by unfold NRB; omega), hf 76 8 (by unfold NRB; omega)]; exact c2
  · rw [hf 74 1 (by unfold NRB; omega), hf 76 61 (by unfold NRB; omega)]; exact d1
  · rw [hf 74 1 (by unfold NRB; omega)]; exact d2
theorem LCa.fr (h : LCa μ P) (hf : Fr (fun i _ => i ≠ 63) μ μ1) : LCa μ1 P := by
  unfold LCa
  rw [hf 63 0 (by omega), hf 63 1 (by omega), hf 63 2 (by omega), hf 63 3 (by omega)]
  exact h
theorem OCa.fr (h : OCa μ P) (hf : Fr (fun i k => i ≠ 65 ∧ ¬ (i = 64 ∧ (k = 4 ∨ k = 5))) μ μ1) : OCa μ1 P := by
  intro c1 c2 c3
  rw [hf 64 4 (by omega)] at c1
  have := h c1 c2 c3
  refine ⟨by rw [hf 64 5 (by omega)]; exact this.1, fun j hj => ?_⟩
  rw [hf 65 j (by omega)]
  exact this.2 j hj
theorem YCa.fr (h : YCa μ P w) (hf : Fr (fun i k => ¬ (i = 69 ∧ (k = 4 ∨ k = 5))) μ μ1) : YCa μ1 P w := by
  unfold YCa
  rw [hf 69 4 (by omega), hf 69 5 (by omega)]
  exact h
/-- the reference's questions -/
theorem IV.rf (h : IV P b b2 w q n t μ) (hf : Fr SR μ μ1) : IV P b b2 w q n t μ1 := ⟨h.1.frh (hf.mono (fun i k hh => by unfold SR at hh; omega)), h.2.1.fr hf, h.2.2.1.fr (hf.mono (fun i k hh => by unfold SR at hh; unfold NRB; omega)), h.2.2.2.1.fr (hf.mono (fun i k hh => by unfold SR at hh; omega)), h.2.2.2.2.1.fr (hf.mono (fun i k hh => by unfold SR at hh; omega)), h.2.2.2.2.2.fr (hf.mono (fun i k hh => by unfold SR at hh; omega))⟩
/-- the class's questions, but for what they keep in mind -/
theorem IV.xf (h : IV P b b2 w q n t μ) (hf : Fr (fun i _ => 59 ≤ i ∧ i ≤ 73) μ μ1) (hL : LCa μ1 P) (hO : OCa μ1 P) (hY : YCa μ1 P w) : IV P b b2 w q n t μ1 := ⟨h.1.fr (hf.mono (fun i k hh => by unfold NXS; omega)), h.2.1.frl (hf.mono (fun i k hh => by omega)), h.2.2.1.fr (hf.mono (fun i k hh => by unfold NRB; omega)), hL, hO, hY⟩
theorem IV.inv (h : IV P b b2 w q n t μ) : Inv μ := ⟨P, b, b2, w, q, n, t, h⟩
end
