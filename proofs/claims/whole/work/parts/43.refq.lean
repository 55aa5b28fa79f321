/-! the reference's questions, first part -/
/-- what falls with wrong rules -/
def flt (P : jP) (w : Int → Bool) : Int → Bool := tb (fun g s => w (ru P s) || anyB (fun k => g (nm P s k)) (pn P s)) false
theorem flt_eq {P : jP} (h : WF P) {w : Int → Bool} {s : Int} (h0 : 0 ≤ s) (h1 : s < nS P) : flt P w s = (w (ru P s) || anyB (fun k => flt P w (nm P s k)) (pn P s)) := by
  unfold flt
  refine tb_eq h0 (fun g g' hg => ?_)
  congr 1
  refine anyB_congr (fun k k0 k1 => ?_)
  have := h.m s k h0 h1 k0 k1
  rw [hg _ this.1 this.2]
/-- how much of a wrong step is not seen, and seen -/
def snN (P : jP) (A : Int → Bool) (s : Int) : Nat → Int
  | 0 => 1000
  | n + 1 => if (A n && decide (rf P n ≤ s ∧ s ≤ rt P n)) = true then Int.tdiv (snN P A s n * (100 - od P n)) 100 else snN P A s n
def sn (P : jP) (A : Int → Bool) (s : Int) : Int := 1000 - snN P A s (nD P).toNat
theorem mul_r {x y : Int} (hx : 0 ≤ x ∧ x ≤ 1000) (hy : 0 ≤ y ∧ y ≤ 100) : (0 ≤ x * y ∧ x * y ≤ 100000) ∧ 0 ≤ Int.tdiv (x * y) 100 ∧ Int.tdiv (x * y) 100 ≤ 1000 := by
  have h1 : 0 ≤ x * y := Int.mul_nonneg hx.1 hy.1
  have h2 : x * y ≤ 1000 * 100 := Int.mul_le_mul hx.2 hy.2 hy.1 (by omega)
  rw [Int.tdiv_eq_ediv_of_nonneg h1]
  omega
theorem snN_r {P : jP} (h : WF P) {A : Int → Bool} {s : Int} : ∀ n : Nat, (n : Int) ≤ nD P → 0 ≤ snN P A s n ∧ snN P A s n ≤ 1000
  | 0, _ => by show (0 : Int) ≤ 1000 ∧ (1000 : Int) ≤ 1000; omega
  | n + 1, hn => by
    have ih := snN_r h (A := A) (s := s) n (by omega)
    have hd := h.d n (by omega) (by omega)
    have := mul_r ih (show 0 ≤ 100 - od P n ∧ 100 - od P n ≤ 100 by omega)
    unfold snN
    split
    · exact this.2
    · exact ih
theorem sn_r {P : jP} (h : WF P) {A : Int → Bool} {s : Int} : 0 ≤ sn P A s ∧ sn P A s ≤ 1000 := by
  have hn := h.n
  have := snN_r h (A := A) (s := s) (nD P).toNat (by omega)
  unfold sn
  omega
def RS (μ : jMu) (P : jP) (w q : Int → Bool) : Prop := RK μ P ∧ (∀ r, 0 ≤ r → r < 12 → μ 107 r = b2i (w r)) ∧ (∀ r, 0 ≤ r → r < 6 → μ 109 r = b2i (q r))
section
variable {E : jE} {μ μ1 : jMu} {P : jP} {w q : Int → Bool} {Q : Int → jMu → Prop}
theorem RS.fr (h : RS μ P w q) (hf : Fr SR μ μ1) : RS μ1 P w q := ⟨h.1.fr hf, fun r a b => by rw [hf 107 r (by unfold SR; omega)]; exact h.2.1 r a b, fun r a b => by rw [hf 109 r (by unfold SR; omega)]; exact h.2.2 r a b⟩
theorem RS.r (h : RS μ P w q) : RR μ P := h.1.1
theorem RS.wf (h : RS μ P w q) : WF P := h.1.1.1
theorem RS.n (h : RS μ P w q) : (0 ≤ nR P ∧ nR P ≤ 12) ∧ (0 ≤ nD P ∧ nD P ≤ 6) ∧ (0 ≤ nG P ∧ nG P ≤ 24) ∧ (0 ≤ nH P ∧ nH P ≤ 12) ∧ (0 ≤ nS P ∧ nS P ≤ 40) ∧ (0 ≤ nC P ∧ nC P ≤ 400) := h.1.1.1.n
theorem RK.e103 (h : RK μ P) {s : Int} (h0 : 0 ≤ s) (h1 : s < nS P) : μ 103 s = fs P s := (h.2.1 s h0 h1).1
theorem RK.e104 (h : RK μ P) {s : Int} (h0 : 0 ≤ s) (h1 : s < nS P) : μ 104 s = bs (bl P s) 40 := (h.2.1 s h0 h1).2.1
theorem RK.e106 (h : RK μ P) {s : Int} (h0 : 0 ≤ s) (h1 : s < nS P) : μ 106 s = nu P s := (h.2.1 s h0 h1).2.2
theorem RK.e105 (h : RK μ P) {s : Int} (h0 : 0 ≤ s) (h1 : s < rn P) : μ 105 s = rs P s := h.2.2.1 s h0 h1
theorem RK.e44 (h : RK μ P) : μ 76 44 = rn P := h.2.2.2
theorem sM_falls (h : RS μ P w q) (k : ∀ μ1, Fr SR μ μ1 → (∀ s, 0 ≤ s → s < nS P → μ1 108 s = b2i (flt P w s)) → Q (cnt (flt P w) (nS P)) μ1) : Ci E mM_falls [jvR 76] μ Q := by
  have hn := h.n
  refine vM_falls_0 ?_
  have lp : ∀ (l2 : Int) (μ0 : jMu), 0 ≤ l2 → l2 ≤ nS P → Fr SR μ μ0 → (∀ s, 0 ≤ s → s < l2 → μ0 108 s = b2i (flt P w s)) → ∀ l1, l1 = cnt (flt P w) l2 → K 121 E mM_falls 4 [some (jvR 76), some (jvI l1), some (jvI l2), none] [] μ0 (fun v μ1 => ∃ r, v = some (jvI r) ∧ Q r μ1) := by
    refine up_ind (nS P) _ ?_
    intro l2 ih μ0 g0 g1 g2 g3 l1 g4
    have hR := (h.fr g2).r
    have hcl := cnt_le (flt P w) g0
    have hcs := cnt_s (flt P w) g0
    refine vM_falls_4 (sM_steps hR ⟨fun c => ⟨_, rfl, ?_⟩, fun c => ?_⟩)
    · have hl : l2 = nS P := by omega
      subst hl
      rw [g4]
      exact k μ0 g2 g3
    · have hs := h.wf.s l2 g0 (by omega)
      have hp := h.wf.p g0 (by omega)
      have e107 := (h.fr g2).2.1 _ hs.1 (by omega)
      refine sM_ruleBy hR g0 (by omega) ⟨⟨by omega, by omega, by rw [e107]; exact b2i_01 _⟩, ?_⟩
      rw [e107]
      have lp2 : ∀ (l3 : Int) (μ3 : jMu), 0 ≤ l3 → l3 ≤ pn P l2 → Fr SR μ μ3 → (∀ s, 0 ≤ s → s < l2 → μ3 108 s = b2i (flt P w s)) → μ3 108 l2 = b2i (w (ru P l2) || anyB (fun k => flt P w (nm P l2 k)) l3) → K 121 E mM_falls 30 [some (jvR 76), some (jvI l1), some (jvI l2), some (jvI l3)] [] μ3 (fun v μ1 => ∃ r, v = some (jvI r) ∧ Q r μ1) := by
        refine up_ind (pn P l2) _ ?_
        intro l3 ih3 μ3 d0 d1 d2 d3 d4
        have hR3 := (h.fr d2).r
        refine vM_falls_30 (sM_namesMany hR3 g0 (by omega) ⟨fun c3 => ⟨by omega, ?_⟩, fun c3 => ⟨by omega, ?_⟩⟩)
        · have hl : l3 = pn P l2 := by omega
          subst hl
          rw [← flt_eq h.wf g0 (by omega)] at d4
          have d5 : ∀ s, 0 ≤ s → s < l2 + 1 → μ3 108 s = b2i (flt P w s) := by
            intro s a b
            by_cases hs : s = l2
            · subst hs; exact d4
            · exact d3 s a (by omega)
          rw [d4]
          refine ⟨fun c4 => ⟨by omega, ih (by omega) μ3 (by omega) (by omega) d2 d5 _ (by omega)⟩, fun c4 => ⟨by omega, ih (by omega) μ3 (by omega) (by omega) d2 d5 _ ?_⟩⟩
          have := b2i_01 (flt P w l2)
          omega
        · rw [d4]
          have d3' : ∀ (x : Int) s, 0 ≤ s → s < l2 → (j_up μ3 108 l2 x) 108 s = b2i (flt P w s) := fun x s a b => by rw [up_nk (by omega)]; exact d3 s a b
          refine ⟨fun c4 => ⟨by omega, ih3 (by omega) _ (by omega) (by omega) (d2.put (Or.inr (Or.inl rfl))) (d3' 1) ?_⟩, fun c4 => ?_⟩
          · rw [up_eq, anyB_s d0, ← Bool.or_assoc, b2i_b c4]
            rfl
          · have hm := h.wf.m l2 l3 g0 (by omega) d0 (by omega)
            refine sM_namedBy hR3 g0 (by omega) d0 (by omega) ⟨by omega, ?_⟩
            rw [d3 _ hm.1 hm.2]
            refine ⟨fun c5 => ⟨by omega, ih3 (by omega) _ (by omega) (by omega) (d2.put (Or.inr (Or.inl rfl))) (d3' 0) ?_⟩, fun c5 => ⟨by omega, ih3 (by omega) _ (by omega) (by omega) (d2.put (Or.inr (Or.inl rfl))) (d3' 1) ?_⟩⟩
            · rw [up_eq, anyB_s d0, ← Bool.or_assoc, b2i_b0 c4, b2i_b0 c5]
              rfl
            · rw [up_eq, anyB_s d0, ← Bool.or_assoc, b2i_b c5, Bool.or_true]
              rfl
      refine lp2 0 _ (by omega) (by omega) (g2.put (Or.inr (Or.inl rfl))) (fun s a b => ?_) ?_
      · rw [up_nk (by omega)]; exact g3 s a b
      · rw [up_eq, anyB_0 (by omega), Bool.or_false]
  exact lp 0 μ (by omega) (by omega) Fr.rf (fun s a b => by omega) 0 rfl
theorem sM_fallsBy (h : RR μ P) {ro : Int} (k : ∀ μ1, Fr SR μ μ1 → Q (cnt (flt P (fun r => r == ro)) (nS P)) μ1) : Ci E mM_fallsBy [jvR 76, jvI ro] μ Q := by
  have hn := h.n
  refine vM_fallsBy_0 ?_
  have lp : ∀ (l3 : Int) (μ0 : jMu), 0 ≤ l3 → l3 ≤ nS P → Fr SR μ μ0 → (∀ s, 0 ≤ s → s < l3 → μ0 108 s = b2i (flt P (fun r => r == ro) s)) → ∀ l2, l2 = cnt (flt P (fun r => r == ro)) l3 → K 121 E mM_fallsBy 4 [some (jvR 76), some (jvI ro), some (jvI l2), some (jvI l3), none] [] μ0 (fun v μ1 => ∃ r, v = some (jvI r) ∧ Q r μ1) := by
    refine up_ind (nS P) _ ?_
    intro l3 ih μ0 g0 g1 g2 g3 l2 g4
    have hR := h.fr g2
    have hcl := cnt_le (flt P (fun r => r == ro)) g0
    have hcs := cnt_s (flt P (fun r => r == ro)) g0
    refine vM_fallsBy_4 (sM_steps hR ⟨fun c => ⟨_, rfl, ?_⟩, fun c => ?_⟩)
    · have hl : l3 = nS P := by omega
      subst hl
      rw [g4]
      exact k μ0 g2
    · have hs := h.1.s l3 g0 (by omega)
      have hp := h.1.p g0 (by omega)
      have lp2 : ∀ (l4 : Int) (μ3 : jMu), 0 ≤ l4 → l4 ≤ pn P l3 → Fr SR μ μ3 → (∀ s, 0 ≤ s → s < l3 → μ3 108 s = b2i (flt P (fun r => r == ro) s)) → μ3 108 l3 = b2i ((ru P l3 == ro) || anyB (fun k => flt P (fun r => r == ro) (nm P l3 k)) l4) → K 121 E mM_fallsBy 35 [some (jvR 76), some (jvI ro), some (jvI l2), some (jvI l3), some (jvI l4)] [] μ3 (fun v μ1 => ∃ r, v = some (jvI r) ∧ Q r μ1) := by
        refine up_ind (pn P l3) _ ?_
        intro l4 ih3 μ3 d0 d1 d2 d3 d4
        have hR3 := h.fr d2
        refine vM_fallsBy_35 (sM_namesMany hR3 g0 (by omega) ⟨fun c3 => ⟨by omega, ?_⟩, fun c3 => ⟨by omega, ?_⟩⟩)
        · have hl : l4 = pn P l3 := by omega
          subst hl
          rw [show ((ru P l3 == ro) || anyB (fun k => flt P (fun r => r == ro) (nm P l3 k)) (pn P l3)) = flt P (fun r => r == ro) l3 from (flt_eq (w := fun r => r == ro) h.1 g0 (by omega)).symm] at d4
          have d5 : ∀ s, 0 ≤ s → s < l3 + 1 → μ3 108 s = b2i (flt P (fun r => r == ro) s) := by
            intro s a b
            by_cases hs : s = l3
            · subst hs; exact d4
            · exact d3 s a (by omega)
          rw [d4]
          refine ⟨fun c4 => ⟨by omega, ih (by omega) μ3 (by omega) (by omega) d2 d5 _ (by omega)⟩, fun c4 => ⟨by omega, ih (by omega) μ3 (by omega) (by omega) d2 d5 _ ?_⟩⟩
          have := b2i_01 (flt P (fun r => r == ro) l3)
          omega
        · rw [d4]
          have d3' : ∀ (x : Int) s, 0 ≤ s → s < l3 → (j_up μ3 108 l3 x) 108 s = b2i (flt P (fun r => r == ro) s) := fun x s a b => by rw [up_nk (by omega)]; exact d3 s a b
          refine ⟨fun c4 => ⟨by omega, ih3 (by omega) _ (by omega) (by omega) (d2.put (Or.inr (Or.inl rfl))) (d3' 1) ?_⟩, fun c4 => ?_⟩
          · rw [up_eq, anyB_s d0, ← Bool.or_assoc, b2i_b c4]
            rfl
          · have hm := h.1.m l3 l4 g0 (by omega) d0 (by omega)
            refine sM_namedBy hR3 g0 (by omega) d0 (by omega) ⟨by omega, ?_⟩
            rw [d3 _ hm.1 hm.2]
            refine ⟨fun c5 => ⟨by omega, ih3 (by omega) _ (by omega) (by omega) (d2.put (Or.inr (Or.inl rfl))) (d3' 0) ?_⟩, fun c5 => ⟨by omega, ih3 (by omega) _ (by omega) (by omega) (d2.put (Or.inr (Or.inl rfl))) (d3' 1) ?_⟩⟩
            · rw [up_eq, anyB_s d0, ← Bool.or_assoc, b2i_b0 c4, b2i_b0 c5]
              rfl
            · rw [up_eq, anyB_s d0, ← Bool.or_assoc, b2i_b c5, Bool.or_true]
              rfl
      refine sM_ruleBy hR g0 (by omega) ⟨fun c2 => ⟨by omega, ?_⟩, fun c2 => ⟨by omega, ?_⟩⟩
      · refine lp2 0 _ (by omega) (by omega) (g2.put (Or.inr (Or.inl rfl))) (fun s a b => ?_) ?_
        · rw [up_nk (by omega)]; exact g3 s a b
        · rw [up_eq, anyB_0 (by omega), Bool.or_false, beq_eq_false_iff_ne.mpr c2]
          rfl
      · refine lp2 0 _ (by omega) (by omega) (g2.put (Or.inr (Or.inl rfl))) (fun s a b => ?_) ?_
        · rw [up_nk (by omega)]; exact g3 s a b
        · rw [up_eq, anyB_0 (by omega), Bool.or_false, beq_iff_eq.mpr c2]
          rfl
  exact lp 0 μ (by omega) (by omega) Fr.rf (fun s a b => by omega) 0 rfl
theorem sM_wrongMany (h : RS μ P w q) (k : Q (cnt w (nR P)) μ) : Ci E mM_wrongMany [jvR 76] μ Q := by
  have hn := h.n
  refine vM_wrongMany_0 ?_
  have lp : ∀ (l2 : Int), 0 ≤ l2 → l2 ≤ nR P → ∀ l1, l1 = cnt w l2 → K 121 E mM_wrongMany 4 [some (jvR 76), some (jvI l1), some (jvI l2)] [] μ (fun v μ1 => ∃ r, v = some (jvI r) ∧ Q r μ1) := by
    refine up_ind (nR P) _ ?_
    intro l2 ih g0 g1 l1 g4
    have hcl := cnt_le w g0
    have hcs := cnt_s w g0
    refine vM_wrongMany_4 (sM_rules h.r ⟨fun c => ⟨_, rfl, ?_⟩, fun c => ⟨by omega, ?_⟩⟩)
    · rw [g4, show l2 = nR P by omega]
      exact k
    · rw [h.2.1 l2 g0 (by omega)]
      refine ⟨fun c2 => ⟨by omega, ih (by omega) (by omega) (by omega) _ (by omega)⟩, fun c2 => ⟨by omega, ih (by omega) (by omega) (by omega) _ ?_⟩⟩
      have := b2i_01 (w l2)
      omega
  exact lp 0 (by omega) (by omega) 0 rfl
theorem sM_askedMany (h : RS μ P w q) (k : Q (cnt q (nD P)) μ) : Ci E mM_askedMany [jvR 76] μ Q := by
  have hn := h.n
  refine vM_askedMany_0 ?_
  have lp : ∀ (l2 : Int), 0 ≤ l2 → l2 ≤ nD P → ∀ l1, l1 = cnt q l2 → K 121 E mM_askedMany 4 [some (jvR 76), some (jvI l1), some (jvI l2)] [] μ (fun v μ1 => ∃ r, v = some (jvI r) ∧ Q r μ1) := by
    refine up_ind (nD P) _ ?_
    intro l2 ih g0 g1 l1 g4
    have hcl := cnt_le q g0
    have hcs := cnt_s q g0
    refine vM_askedMany_4 (sM_readers h.r ⟨fun c => ⟨_, rfl, ?_⟩, fun c => ⟨by omega, ?_⟩⟩)
    · rw [g4, show l2 = nD P by omega]
      exact k
    · rw [h.2.2 l2 g0 (by omega)]
      refine ⟨fun c2 => ⟨by omega, ih (by omega) (by omega) (by omega) _ (by omega)⟩, fun c2 => ⟨by omega, ih (by omega) (by omega) (by omega) _ ?_⟩⟩
      have := b2i_01 (q l2)
      omega
  exact lp 0 (by omega) (by omega) 0 rfl
theorem sM_isNeeded (h : RK μ P) {s : Int} (h0 : 0 ≤ s) (h1 : s < nS P) (k : Q (b2i (nd P s)) μ) : Ci E mM_isNeeded [jvR 76, jvI s] μ Q := by
  have hn := h.1.n
  have hg := h.1.1.g.1 (by omega)
  refine vM_isNeeded_0 ?_
  rw [h.1.e0.2.2.2.2.2 (by omega)]
  refine ⟨fun c => ⟨_, rfl, ?_⟩, fun c => ⟨by omega, ?_⟩⟩
  · rw [show nd P s = true by unfold nd; rw [beq_iff_eq.mpr c]; rfl] at k
    exact k
  · rw [h.e104 hg.1 hg.2, bs_in01 h0 (by omega)]
    rw [show nd P s = bl P (gl P) s by unfold nd; rw [beq_eq_false_iff_ne.mpr c]; rfl] at k
    refine ⟨fun c2 => ⟨_, rfl, ?_⟩, fun c2 => ⟨_, rfl, ?_⟩⟩
    · rw [b2i_b1 c2] at k; exact k
    · rw [c2] at k; exact k
theorem sM_manyOf (h : RK μ P) {a : Int} {p : Int → Bool} (hp : (a = 6 ∧ p = rg P) ∨ (a = 7 ∧ p = nd P) ∨ (a = 8 ∧ p = tw P) ∨ (a = 9 ∧ p = cvd P)) (k : ∀ μ1, Fr SR μ μ1 → Q (cnt p (nS P)) μ1) : Ci E mM_manyOf [jvR 76, jvI a] μ Q := by
  have hn := h.1.n
  refine vM_manyOf_0 ?_
  have lp : ∀ (l3 : Int) (μ0 : jMu), 0 ≤ l3 → l3 ≤ nS P → Fr SR μ μ0 → ∀ l2, l2 = cnt p l3 → K 121 E mM_manyOf 4 [some (jvR 76), some (jvI a), some (jvI l2), some (jvI l3)] [] μ0 (fun v μ1 => ∃ r, v = some (jvI r) ∧ Q r μ1) := by
    refine up_ind (nS P) _ ?_
    intro l3 ih μ0 g0 g1 g2 l2 g4
    have hR := h.fr g2
    have hcl := cnt_le p g0
    have hcs := cnt_s p g0
    refine vM_manyOf_4 (sM_steps hR.1 ⟨fun c => ⟨_, rfl, ?_⟩, fun c => ?_⟩)
    · rw [g4, show l3 = nS P by omega]
      exact k μ0 g2
    · have hT : ∀ μ5, Fr SR μ μ5 → ∀ l2', l2' = cnt p (l3 + 1) → K 121 E mM_manyOf 4 [some (jvR 76), some (jvI a), some (jvI l2'), some (jvI (l3 + 1))] [] μ5 (fun v μ1 => ∃ r, v = some (jvI r) ∧ Q r μ1) := fun μ5 f5 l2' e5 => ih (by omega) μ5 (by omega) (by omega) f5 l2' e5
      have h01 := b2i_01 (p l3)
      refine ⟨fun a6 => ⟨fun a7 => ⟨fun a8 => ?_, fun a8 => ⟨by omega, ?_⟩⟩, fun a7 => ?_⟩, fun a6 => ?_⟩
      · have : p = cvd P := by
          rcases hp with hp | hp | hp | hp
          · omega
          · omega
          · omega
          · exact hp.2
        subst this
        refine sM_coveredBy hR.1 g0 (by omega) (fun μ5 f5 => ⟨fun c5 => ⟨by omega, hT μ5 (g2.tr f5) _ ?_⟩, fun c5 => ⟨by omega, hT μ5 (g2.tr f5) _ ?_⟩⟩)
        · rw [show cvd P l3 = false by unfold cvd; rw [decide_eq_false (by omega)]] at hcs
          rw [b2i_f] at hcs
          omega
        · rw [show cvd P l3 = true by unfold cvd; rw [decide_eq_true (by omega)]] at hcs
          rw [b2i_t] at hcs
          omega
      · have : p = tw P := by
          rcases hp with hp | hp | hp | hp
          · omega
          · omega
          · exact hp.2
          · omega
        subst this
        rw [hR.e103 g0 (by omega)]
        refine ⟨fun c5 => ⟨by omega, hT μ0 g2 _ ?_⟩, fun c5 => ⟨by omega, hT μ0 g2 _ ?_⟩⟩
        · rw [show tw P l3 = false by unfold tw; rw [decide_eq_false (by omega)]] at hcs
          rw [b2i_f] at hcs
          omega
        · rw [show tw P l3 = true by unfold tw; rw [decide_eq_true (by omega)]] at hcs
          rw [b2i_t] at hcs
          omega
      · have : p = nd P := by
          rcases hp with hp | hp | hp | hp
          · omega
          · exact hp.2
          · omega
          · omega
        subst this
        refine sM_isNeeded hR g0 (by omega) ⟨fun c5 => ⟨by omega, hT μ0 g2 _ (by omega)⟩, fun c5 => ⟨by omega, hT μ0 g2 _ (by omega)⟩⟩
      · have : p = rg P := by
          rcases hp with hp | hp | hp | hp
          · exact hp.2
          · omega
          · omega
          · omega
        subst this
        refine sM_isRight hR.1 g0 (by omega) (fun μ5 f5 => ⟨fun c5 => ⟨by omega, hT μ5 (g2.tr f5) _ (by omega)⟩, fun c5 => ⟨by omega, hT μ5 (g2.tr f5) _ (by omega)⟩⟩)
  exact lp 0 μ (by omega) (by omega) Fr.rf 0 rfl
theorem sM_reads (h : RR μ P) {d s : Int} (h0 : 0 ≤ d) (h1 : d < nD P) (kt : rf P d ≤ s → s ≤ rt P d → Q 1 μ) (kf : s < rf P d ∨ rt P d < s → Q 0 μ) : Ci E mM_reads [jvR 76, jvI d, jvI s] μ Q := by
  have hn := h.n
  refine vM_reads_0 ⟨by omega, ?_⟩
  rw [(h.e96 h0 h1).2.1, (h.e96 h0 h1).2.2]
  exact sM_isIn (fun a b => ⟨by omega, _, rfl, kt a b⟩) (fun a => ⟨by omega, _, rfl, kf a⟩)
theorem sM_seenOf (h : RS μ P w q) {s o : Int} (k : Q (sn P (fun r => q r || r == o) s) μ) : Ci E mM_seenOf [jvR 76, jvI s, jvI o] μ Q := by
  have hn := h.n
  refine vM_seenOf_0 ?_
  have lp : ∀ (l4 : Int), 0 ≤ l4 → l4 ≤ nD P → ∀ l3, l3 = snN P (fun r => q r || r == o) s l4.toNat → K 121 E mM_seenOf 7 [some (jvR 76), some (jvI s), some (jvI o), some (jvI l3), some (jvI l4)] [] μ (fun v μ1 => ∃ r, v = some (jvI r) ∧ Q r μ1) := by
    refine up_ind (nD P) _ ?_
    intro l4 ih g0 g1 l3 g4
    have hl3 := snN_r h.wf (A := fun r => q r || r == o) (s := s) l4.toNat (by omega)
    rw [← g4] at hl3
    refine vM_seenOf_7 (sM_readers h.r ⟨fun c => ⟨by omega, _, rfl, ?_⟩, fun c => ⟨by omega, ?_⟩⟩)
    · have hl : l4 = nD P := by omega
      subst hl
      rw [g4]
      exact k
    · have hd := h.wf.d l4 g0 (by omega)
      have hmr := mul_r hl3 (show 0 ≤ 100 - od P l4 ∧ 100 - od P l4 ≤ 100 by omega)
      have es : snN P (fun r => q r || r == o) s (l4 + 1).toNat = if ((q l4 || l4 == o) && decide (rf P l4 ≤ s ∧ s ≤ rt P l4)) = true then Int.tdiv (l3 * (100 - od P l4)) 100 else l3 := by
        rw [show (l4 + 1).toNat = l4.toNat + 1 by omega]
        show (if ((q ((l4.toNat : Nat) : Int) || ((l4.toNat : Nat) : Int) == o) && decide (rf P ((l4.toNat : Nat) : Int) ≤ s ∧ s ≤ rt P ((l4.toNat : Nat) : Int))) = true then Int.tdiv (snN P (fun r => q r || r == o) s l4.toNat * (100 - od P ((l4.toNat : Nat) : Int))) 100 else snN P (fun r => q r || r == o) s l4.toNat) = _
        rw [show ((l4.toNat : Nat) : Int) = l4 by omega, ← g4]
      rw [h.2.2 l4 g0 (by omega)]
      have hin : (q l4 || l4 == o) = true → Ci E mM_reads [jvR 76, jvI l4, jvI s] μ (fun r13 μ10 => ((r13 = 0 → ((-2147483648 ≤ (l4 + 1) ∧ (l4 + 1) < 2147483648)) ∧ (K 121 E mM_seenOf 7 [some (jvR 76), some (jvI s), some (jvI o), some (jvI l3), some (jvI (l4 + 1))] [] μ10 (fun v μ1 => ∃ r, v = some (jvI r) ∧ Q r μ1))) ∧ (¬ (r13 = 0) → ((-2147483648 ≤ (6 + l4) ∧ (6 + l4) < 2147483648) ∧ (0 ≤ (6 + l4) ∧ (6 + l4) < 12) ∧ (-2147483648 ≤ (100 - (μ10 96 (6 + l4))) ∧ (100 - (μ10 96 (6 + l4))) < 2147483648) ∧ (-2147483648 ≤ (l3 * (100 - (μ10 96 (6 + l4)))) ∧ (l3 * (100 - (μ10 96 (6 + l4)))) < 2147483648) ∧ (-2147483648 ≤ (Int.tdiv (l3 * (100 - (μ10 96 (6 + l4)))) 100) ∧ (Int.tdiv (l3 * (100 - (μ10 96 (6 + l4)))) 100) < 2147483648) ∧ (-2147483648 ≤ (l4 + 1) ∧ (l4 + 1) < 2147483648)) ∧ (K 121 E mM_seenOf 7 [some (jvR 76), some (jvI s), some (jvI o), some (jvI (Int.tdiv (l3 * (100 - (μ10 96 (6 + l4)))) 100)), some (jvI (l4 + 1))] [] μ10 (fun v μ1 => ∃ r, v = some (jvI r) ∧ Q r μ1))))) := by
        intro hA
        refine sM_reads h.r g0 (by omega) (fun a b => ⟨fun c => absurd c (by decide), fun _ => ?_⟩) (fun a => ⟨fun _ => ⟨by omega, ih (by omega) (by omega) (by omega) _ ?_⟩, fun c => absurd rfl c⟩)
        · rw [(h.r.e96 g0 (by omega)).1]
          refine ⟨⟨by omega, by omega, by omega, by omega, by omega, by omega⟩, ih (by omega) (by omega) (by omega) _ ?_⟩
          rw [es, hA, decide_eq_true (show rf P l4 ≤ s ∧ s ≤ rt P l4 from ⟨a, b⟩)]
          rfl
        · rw [es, decide_eq_false (show ¬ (rf P l4 ≤ s ∧ s ≤ rt P l4) by omega), Bool.and_false]
          rfl
      refine ⟨fun c2 => hin ?_, fun c2 => ⟨fun c3 => ⟨by omega, ih (by omega) (by omega) (by omega) _ ?_⟩, fun c3 => hin ?_⟩⟩
      · rw [b2i_b c2]; rfl
      · rw [es, b2i_b0 c2, beq_eq_false_iff_ne.mpr c3]
        rfl
      · rw [beq_iff_eq.mpr c3, Bool.or_true]
  exact lp 0 (by omega) (by omega) 1000 rfl
end
