/-! the class reads a term -/
def TCl (b : Nat) (μ : jMu) (P : jP) : Prop := (μ (b + 1) 6 = nG P ∧ μ (b + 1) 7 = nH P ∧ μ (b + 1) 8 = nC P) ∧ (∀ g, 0 ≤ g → g < nG P → μ (b + 2) g = nk P 2 g ∧ μ (b + 3) g = ar P g) ∧ (∀ i, 0 ≤ i → i < nH P → μ (b + 4) i = nk P 3 i) ∧ (∀ x, 0 ≤ x → x < nC P → μ (b + 5) x = sy P x ∧ μ (b + 6) x = bh P x)
def Wbk (b : Nat) (i : Nat) (_ : Int) : Prop := b + 1 ≤ i ∧ i ≤ b + 6
def Wcl (b : Nat) (i : Nat) (k : Int) : Prop := (i = 1 ∧ 2 ≤ k) ∨ (i = 3 ∧ 7 ≤ k) ∨ (b + 1 ≤ i ∧ i ≤ b + 6)
def Wtm (b : Nat) (i : Nat) (k : Int) : Prop := (i = 1 ∧ 2 ≤ k) ∨ (i = 3 ∧ (k = 3 ∨ 7 ≤ k)) ∨ (4 ≤ i ∧ i ≤ 6) ∨ (b + 1 ≤ i ∧ i ≤ b + 6)
theorem Wcl.tm {b : Nat} : ∀ i k, Wcl b i k → Wtm b i k := fun i k h => by unfold Wcl at h; unfold Wtm; omega
theorem isB_7 {b : Nat} (h : isB b) : 7 ≤ b ∧ b ≤ 26 ∧ (b = 7 ∨ b = 26) := by rcases h with rfl | rfl <;> omega
def PL (b : Nat) (μ : jMu) : Prop := μ 3 4 = 1 ∧ μ 3 5 = ((b : Nat) : Int)
def SKC (μ : jMu) (m : Nat) (c p q : Int → Int) : Prop := μ 3 3 = m ∧ ∀ i : Int, 0 ≤ i → i < m → μ 4 i = c i ∧ μ 5 i = p i ∧ μ 6 i = q i
section
variable {E : jE} {μ μ1 : jMu} {Q : Int → jMu → Prop} {Q0 : jMu → Prop} {n h e start : Int} {t : Int → Int} {P : jP} {b : Nat}
theorem TCl.fr (hT : TCl b μ P) (hf : Fr (fun i _ => ¬ (b + 1 ≤ i ∧ i ≤ b + 6)) μ μ1) : TCl b μ1 P := by
  obtain ⟨⟨a1, a2, a3⟩, c, d, f⟩ := hT
  have g : ∀ (o : Nat) k, 1 ≤ o → o ≤ 6 → μ1 (b + o) k = μ (b + o) k := fun o k x y => hf (b + o) k (by omega)
  refine ⟨⟨?_, ?_, ?_⟩, fun x x1 x2 => ?_, fun x x1 x2 => ?_, fun x x1 x2 => ?_⟩
  · rw [g 1 6 (by omega) (by omega)]; exact a1
  · rw [g 1 7 (by omega) (by omega)]; exact a2
  · rw [g 1 8 (by omega) (by omega)]; exact a3
  · rw [g 2 x (by omega) (by omega), g 3 x (by omega) (by omega)]; exact c x x1 x2
  · rw [g 4 x (by omega) (by omega)]; exact d x x1 x2
  · rw [g 5 x (by omega) (by omega), g 6 x (by omega) (by omega)]; exact f x x1 x2
theorem PL.fr (hL : PL b μ) (hf : Fr (fun i k => ¬ (i = 3 ∧ (k = 4 ∨ k = 5))) μ μ1) : PL b μ1 := ⟨by rw [hf 3 4 (by omega)]; exact hL.1, by rw [hf 3 5 (by omega)]; exact hL.2⟩
theorem SKC.fr {m : Nat} {c p q : Int → Int} (hS : SKC μ m c p q) (hf : Fr (fun i k => ¬ (4 ≤ i ∧ i ≤ 6) ∧ ¬ (i = 3 ∧ k = 3)) μ μ1) : SKC μ1 m c p q := ⟨by rw [hf 3 3 (by omega)]; exact hS.1, fun i a b => by rw [hf 4 i (by omega), hf 5 i (by omega), hf 6 i (by omega)]; exact hS.2 i a b⟩
theorem sTe_signFor (hb : isB b) (hT : TCl b μ P) (hw : WB P) {c : Int} (k1 : fnd P 2 c = -1 ∧ nN P 2 = rm 2 → Q (-1) μ) (k2 : ¬ (fnd P 2 c = -1 ∧ nN P 2 = rm 2) → ∀ μ1, Fr (Wbk b) μ μ1 → TCl b μ1 (knoP P 2 c) → Q (knoV P 2 c) μ1) : Ci E mTe_signFor [jvR ((b + 1 : Nat) : Int), jvI c] μ Q := by
  have hB := isB_7 hb
  obtain ⟨⟨a1, a2, a3⟩, ac, ad, af⟩ := hT
  have hG := hw.1.2.2.1
  have e2 : nN P 2 = nG P := rfl
  refine vTe_signFor_0 hb ?_
  have lp : ∀ l2 : Int, 0 ≤ l2 → l2 ≤ nG P → (∀ i, 0 ≤ i → i < l2 → nk P 2 i ≠ c) → K 121 E mTe_signFor 2 [some (jvR ((b + 1 : Nat) : Int)), some (jvI c), some (jvI l2)] [] μ (fun v μ1 => ∃ r, v = some (jvI r) ∧ Q r μ1) := by
    refine up_ind (nG P) _ ?_
    intro l2 ih g0 g1 g2
    refine vTe_signFor_2 hb ?_
    simp (disch := omega) only [up_ne, up_eq]
    rw [a1]
    refine ⟨fun c1 => ?_, fun c1 => ⟨by omega, ?_⟩⟩
    · have hf : fnd P 2 c = -1 := ff_none (fun i x y => beq_eq_false_iff_ne.mpr (g2 i x (by have : nN P 2 = nG P := rfl; omega)))
      refine ⟨fun c2 => ⟨by omega, _, rfl, ?_⟩, fun c2 => ⟨_, rfl, k1 ⟨hf, c2⟩⟩⟩
      have hk := k2 (fun hx => c2 hx.2)
      unfold knoP knoV at hk
      rw [if_pos hf, if_pos hf, e2] at hk
      have hadd := WB_addN hw (kd := 2) (c := c) (Or.inl rfl)
      rw [show nG P + 1 - 1 = nG P by omega]
      have f1 : Fr (Wbk b) μ (j_up (j_up (j_up μ (b + 2) (nG P) c) (b + 3) (nG P) (-1)) (b + 1) 6 (nG P + 1)) := ((Fr.up (show Wbk b (b + 2) _ by unfold Wbk; omega)).put (show Wbk b (b + 3) _ by unfold Wbk; omega)).put (show Wbk b (b + 1) _ by unfold Wbk; omega)
      refine hk _ f1 ?_
      have eG : nG (addN P 2 c) = nG P + 1 := by show addN P 2 c 0 2 = _; rw [addN_n, if_pos rfl]; rfl
      have eH : nH (addN P 2 c) = nH P := by show addN P 2 c 0 3 = _; rw [addN_n, if_neg (by decide)]; rfl
      have eC : nC (addN P 2 c) = nC P := by show addN P 2 c 0 6 = _; rw [addN_n, if_neg (by decide)]; rfl
      have ek : ∀ kd i, nk (addN P 2 c) kd i = if 24 * kd + i = 48 + nG P then c else nk P kd i := fun kd i => addN_k
      refine ⟨⟨?_, ?_, ?_⟩, fun g x y => ?_, fun i x y => ?_, fun z x y => ?_⟩
      · rw [up_eq, eG]
      · rw [up_nk (by decide), up_ne (by omega), up_ne (by omega), a2, eH]
      · rw [up_nk (by decide), up_ne (by omega), up_ne (by omega), a3, eC]
      · rw [up_ne (by omega), up_ne (by omega), up_if, up_ne (by omega), up_if, up_ne (by omega), ek]
        by_cases hg : g = nG P
        · rw [if_pos hg, if_pos hg, if_pos (by omega), hg, addN_a2]; exact ⟨rfl, rfl⟩
        · rw [if_neg hg, if_neg hg, if_neg (by omega), addN_a hg]
          exact ac g x (by omega)
      · rw [up_ne (by omega), up_ne (by omega), up_ne (by omega), ek, if_neg (by omega)]
        exact ad i x (by omega)
      · rw [up_ne (by omega), up_ne (by omega), up_ne (by omega), up_ne (by omega), up_ne (by omega), up_ne (by omega)]
        have es : sy (addN P 2 c) z = sy P z := addN_i (by decide) (by decide) (by decide)
        have eb : bh (addN P 2 c) z = bh P z := addN_i (by decide) (by decide) (by decide)
        rw [es, eb]; exact af z x (by omega)
    · rw [(ac l2 g0 (by omega)).1]
      refine ⟨fun c2 => ⟨by omega, ih (by omega) (by omega) (by omega) (fun i x y => ?_)⟩, fun c2 => ⟨_, rfl, ?_⟩⟩
      · by_cases hi : i = l2
        · rw [hi]; exact c2
        · exact g2 i x (by omega)
      · have hf : fnd P 2 c = l2 := ff_eq g0 (show l2 < nN P 2 by omega) (beq_iff_eq.mpr c2) (fun i x y => beq_eq_false_iff_ne.mpr (g2 i x y))
        have hk := k2 (by omega)
        unfold knoP knoV at hk
        rw [if_neg (by omega), if_neg (by omega), hf] at hk
        exact hk μ Fr.rf ⟨⟨a1, a2, a3⟩, ac, ad, af⟩
  exact lp 0 (by omega) (by omega) (fun i x y => by omega)
theorem sTe_holeFor (hb : isB b) (hT : TCl b μ P) (hw : WB P) {c : Int} (k1 : fnd P 3 c = -1 ∧ nN P 3 = rm 3 → Q (-1) μ) (k2 : ¬ (fnd P 3 c = -1 ∧ nN P 3 = rm 3) → ∀ μ1, Fr (Wbk b) μ μ1 → TCl b μ1 (knoP P 3 c) → Q (knoV P 3 c + 100) μ1) : Ci E mTe_holeFor [jvR ((b + 1 : Nat) : Int), jvI c] μ Q := by
  have hB := isB_7 hb
  obtain ⟨⟨a1, a2, a3⟩, ac, ad, af⟩ := hT
  have hH := hw.1.2.2.2.1
  have hG := hw.1.2.2.1
  have e3 : nN P 3 = nH P := rfl
  refine vTe_holeFor_0 hb ?_
  have lp : ∀ l2 : Int, 0 ≤ l2 → l2 ≤ nH P → (∀ i, 0 ≤ i → i < l2 → nk P 3 i ≠ c) → K 121 E mTe_holeFor 2 [some (jvR ((b + 1 : Nat) : Int)), some (jvI c), some (jvI l2)] [] μ (fun v μ1 => ∃ r, v = some (jvI r) ∧ Q r μ1) := by
    refine up_ind (nH P) _ ?_
    intro l2 ih g0 g1 g2
    refine vTe_holeFor_2 hb ?_
    simp (disch := omega) only [up_ne, up_eq]
    rw [a2]
    refine ⟨fun c1 => ?_, fun c1 => ⟨by omega, ?_⟩⟩
    · have hf : fnd P 3 c = -1 := ff_none (fun i x y => beq_eq_false_iff_ne.mpr (g2 i x (by have : nN P 3 = nH P := rfl; omega)))
      refine ⟨fun c2 => ⟨by omega, _, rfl, ?_⟩, fun c2 => ⟨_, rfl, k1 ⟨hf, c2⟩⟩⟩
      have hk := k2 (fun hx => c2 hx.2)
      unfold knoP knoV at hk
      rw [if_pos hf, if_pos hf, e3] at hk
      rw [show 100 + (nH P + 1) - 1 = nH P + 100 by omega]
      have f1 : Fr (Wbk b) μ (j_up (j_up μ (b + 4) (nH P) c) (b + 1) 7 (nH P + 1)) := (Fr.up (show Wbk b (b + 4) _ by unfold Wbk; omega)).put (show Wbk b (b + 1) _ by unfold Wbk; omega)
      refine hk _ f1 ?_
      have eG : nG (addN P 3 c) = nG P := by show addN P 3 c 0 2 = _; rw [addN_n, if_neg (by decide)]; rfl
      have eH : nH (addN P 3 c) = nH P + 1 := by show addN P 3 c 0 3 = _; rw [addN_n, if_pos rfl]; rfl
      have eC : nC (addN P 3 c) = nC P := by show addN P 3 c 0 6 = _; rw [addN_n, if_neg (by decide)]; rfl
      have ek : ∀ kd i, nk (addN P 3 c) kd i = if 24 * kd + i = 72 + nH P then c else nk P kd i := fun kd i => addN_k
      refine ⟨⟨?_, ?_, ?_⟩, fun g x y => ?_, fun i x y => ?_, fun z x y => ?_⟩
      · rw [up_nk (by decide), up_ne (by omega), a1, eG]
      · rw [up_eq, eH]
      · rw [up_nk (by decide), up_ne (by omega), a3, eC]
      · rw [up_ne (by omega), up_ne (by omega), up_ne (by omega), up_ne (by omega), ek, if_neg (by omega)]
        have ea : ar (addN P 3 c) g = ar P g := addN_a (by omega)
        rw [ea]
        exact ac g x (by omega)
      · rw [up_ne (by omega), up_if, ek]
        by_cases hi : i = nH P
        · rw [if_pos hi, if_pos (by omega)]
        · rw [if_neg hi, if_neg (by omega)]
          exact ad i x (by omega)
      · rw [up_ne (by omega), up_ne (by omega), up_ne (by omega), up_ne (by omega)]
        have es : sy (addN P 3 c) z = sy P z := addN_i (by decide) (by decide) (by decide)
        have eb : bh (addN P 3 c) z = bh P z := addN_i (by decide) (by decide) (by decide)
        rw [es, eb]; exact af z x (by omega)
    · rw [ad l2 g0 (by omega)]
      refine ⟨fun c2 => ⟨by omega, ih (by omega) (by omega) (by omega) (fun i x y => ?_)⟩, fun c2 => ⟨by omega, _, rfl, ?_⟩⟩
      · by_cases hi : i = l2
        · rw [hi]; exact c2
        · exact g2 i x (by omega)
      · have hf : fnd P 3 c = l2 := ff_eq g0 (show l2 < nN P 3 by omega) (beq_iff_eq.mpr c2) (fun i x y => beq_eq_false_iff_ne.mpr (g2 i x y))
        have hk := k2 (by omega)
        unfold knoP knoV at hk
        rw [if_neg (by omega), if_neg (by omega), hf] at hk
        rw [show 100 + l2 = l2 + 100 by omega]
        exact hk μ Fr.rf ⟨⟨a1, a2, a3⟩, ac, ad, af⟩
  exact lp 0 (by omega) (by omega) (fun i x y => by omega)
theorem sTe_add (hb : isB b) (hT : TCl b μ P) {w : Int} (h0 : 0 ≤ nC P) (h1 : nC P < 400) (k : ∀ μ1, Fr (Wbk b) μ μ1 → TCl b μ1 (addC P w) → Q0 μ1) : Cv E mTe_add [jvR ((b + 1 : Nat) : Int), jvI w] μ Q0 := by
  have hB := isB_7 hb
  obtain ⟨⟨a1, a2, a3⟩, ac, ad, af⟩ := hT
  refine vTe_add_0 hb ?_
  simp (disch := omega) only [up_ne, up_eq]
  rw [a3]
  refine ⟨fun c => by omega, fun c => ⟨by omega, trivial, ?_⟩⟩
  have f1 : Fr (Wbk b) μ (j_up (j_up (j_up μ (b + 5) (nC P) w) (b + 6) (nC P) (nC P + 1)) (b + 1) 8 (nC P + 1)) := ((Fr.up (show Wbk b (b + 5) _ by unfold Wbk; omega)).put (show Wbk b (b + 6) _ by unfold Wbk; omega)).put (show Wbk b (b + 1) _ by unfold Wbk; omega)
  refine k _ f1 ?_
  have eC := addC_C (P := P) (w := w)
  have eG : nG (addC P w) = nG P := addC_n (by decide)
  have eH : nH (addC P w) = nH P := addC_n (by decide)
  refine ⟨⟨?_, ?_, ?_⟩, fun g x y => ?_, fun i x y => ?_, fun z x y => ?_⟩
  · rw [up_nk (by decide), up_ne (by omega), up_ne (by omega), a1, eG]
  · rw [up_nk (by decide), up_ne (by omega), up_ne (by omega), a2, eH]
  · rw [up_eq, eC]
  · rw [up_ne (by omega), up_ne (by omega), up_ne (by omega), up_ne (by omega), up_ne (by omega), up_ne (by omega)]
    have e1 : nk (addC P w) 2 g = nk P 2 g := addC_o (by decide) (by decide) (by decide)
    have e2 : ar (addC P w) g = ar P g := addC_o (by decide) (by decide) (by decide)
    rw [e1, e2]; exact ac g x (by omega)
  · rw [up_ne (by omega), up_ne (by omega), up_ne (by omega)]
    have e1 : nk (addC P w) 3 i = nk P 3 i := addC_o (by decide) (by decide) (by decide)
    rw [e1]; exact ad i x (by omega)
  · rw [up_ne (by omega), up_ne (by omega), up_if, up_ne (by omega), up_if, up_ne (by omega), addC_s, addC_b]
    by_cases hz : z = nC P
    · rw [if_pos hz, if_pos hz, if_pos hz, if_pos hz]; exact ⟨rfl, rfl⟩
    · rw [if_neg hz, if_neg hz, if_neg hz, if_neg hz]; exact af z x (by omega)
theorem sTe_endParts (hb : isB b) (hT : TCl b μ P) {a q : Int} (hC : nC P ≤ 400) (hG : nG P ≤ 24) (h0 : 0 ≤ a) (h1 : a < nC P) (h2 : 0 ≤ sy P a ∧ sy P a < nG P) (k : ∀ μ1, Fr (Wbk b) μ μ1 → TCl b μ1 (endP P a q) → Q (b2i (endO P a q)) μ1) : Ci E mTe_endParts [jvR ((b + 1 : Nat) : Int), jvI a, jvI q] μ Q := by
  have hB := isB_7 hb
  obtain ⟨⟨a1, a2, a3⟩, ac, ad, af⟩ := hT
  refine vTe_endParts_0 hb ?_
  simp (disch := omega) only [up_ne, up_eq]
  rw [(af a h0 h1).1, (ac _ h2.1 h2.2).2, a3]
  have eC : nC (endP P a q) = nC P := endP_n (by decide) (by decide)
  have eG : nG (endP P a q) = nG P := endP_n (by decide) (by decide)
  have eH : nH (endP P a q) = nH P := endP_n (by decide) (by decide)
  have ek : ∀ kd i, nk (endP P a q) kd i = nk P kd i := fun kd i => endP_n (by decide) (by decide)
  have es : ∀ x, sy (endP P a q) x = sy P x := fun x => endP_n (by decide) (by decide)
  have fin : ∀ μ2, (∀ (o : Nat) k, 1 ≤ o → o ≤ 6 → o ≠ 3 → o ≠ 6 → μ2 (b + o) k = μ (b + o) k) → (∀ g, 0 ≤ g → g < nG P → μ2 (b + 3) g = ar (endP P a q) g) → (∀ z, μ2 (b + 6) z = if z = a then nC P else μ (b + 6) z) → TCl b μ2 (endP P a q) := by
    intro μ2 x1 x2 x3
    refine ⟨⟨?_, ?_, ?_⟩, fun g x y => ?_, fun i x y => ?_, fun z x y => ?_⟩
    · rw [x1 1 6 (by omega) (by omega) (by omega) (by omega), a1, eG]
    · rw [x1 1 7 (by omega) (by omega) (by omega) (by omega), a2, eH]
    · rw [x1 1 8 (by omega) (by omega) (by omega) (by omega), a3, eC]
    · rw [x1 2 g (by omega) (by omega) (by omega) (by omega), ek]
      exact ⟨(ac g x (by omega)).1, x2 g x (by omega)⟩
    · rw [x1 4 i (by omega) (by omega) (by omega) (by omega), ek]; exact ad i x (by omega)
    · rw [x1 5 z (by omega) (by omega) (by omega) (by omega), x3, es, endP_b]
      refine ⟨(af z x (by omega)).1, ?_⟩
      split
      · rfl
      · exact (af z x (by omega)).2
  refine ⟨by omega, fun c1 => ⟨by omega, ?_⟩, fun c1 => ⟨by omega, fun c2 => absurd trivial (fun _ => c2 trivial), fun _ => ⟨_, rfl, ?_⟩⟩⟩
  · have hT1 : TCl b (j_up μ (b + 6) a (nC P)) (endP P a q) := by
      refine fin _ (fun o k x1 x2 x3 x4 => up_ne (by omega)) (fun g x y => ?_) (fun z => up_if)
      rw [up_ne (by omega), endP_a, if_neg (fun hh => c1 hh.2)]; exact (ac g x y).2
    have k1 := k _ (Fr.up (show Wbk b (b + 6) _ by unfold Wbk; omega)) hT1
    refine ⟨fun c2 => ⟨_, rfl, ?_⟩, fun c2 => ⟨_, rfl, ?_⟩⟩
    · rw [show endO P a q = false from decide_eq_false (by omega)] at k1; exact k1
    · rw [show endO P a q = true from decide_eq_true (Or.inr c2)] at k1; exact k1
  · have hT1 : TCl b (j_up (j_up μ (b + 6) a (nC P)) (b + 3) (sy P a) q) (endP P a q) := by
      refine fin _ (fun o k x1 x2 x3 x4 => by rw [up_ne (by omega), up_ne (by omega)]) (fun g x y => ?_) (fun z => by rw [up_ne (by omega), up_if])
      rw [up_if, endP_a, up_ne (by omega)]
      by_cases hg : g = sy P a
      · rw [if_pos hg, if_pos ⟨hg, c1⟩]
      · rw [if_neg hg, if_neg (fun hh => hg hh.1)]; exact (ac g x y).2
    have k1 := k _ ((Fr.up (show Wbk b (b + 6) _ by unfold Wbk; omega)).put (show Wbk b (b + 3) _ by unfold Wbk; omega)) hT1
    rw [show endO P a q = true from decide_eq_true (Or.inl c1)] at k1; exact k1
end
