/-! the reference's questions, second part -/
theorem cnt_z {p : Int → Bool} {n : Int} (h : ∀ j : Int, 0 ≤ j → j < n → p j = false) : cnt p n = 0 := by
  rw [cnt_congr (q := fun _ => false) h]
  have key : ∀ n : Nat, cntN (fun _ => false) n = 0 := by
    intro n
    induction n with
    | zero => rfl
    | succ n ih => show cntN (fun _ => false) n + b2i false = 0; rw [ih]; rfl
  exact key _
def vHas (P : jP) (w q : Int → Bool) (a : Int) : Int := if a = 0 then nR P else if a = 1 then nS P else if a = 2 then nD P else if a = 3 then nG P else if a = 4 then nH P else if a = 5 then gl P else if a = 6 then cnt (rg P) (nS P) else if a = 7 then cnt (nd P) (nS P) else if a = 8 then cnt (tw P) (nS P) else if a = 9 then cnt (cvd P) (nS P) else if a = 10 then rn P else if a = 11 then cnt w (nR P) else if a = 12 then cnt (flt P w) (nS P) else if a = 13 then cnt q (nD P) else -1
def vRule (P : jP) (w : Int → Bool) (r a : Int) : Int := if 0 ≤ r ∧ r < nR P then (if a = 0 then pr P r else if a = 1 then cnt (fun s => ru P s == r) (nS P) else if a = 2 then b2i (w r) else if a = 3 then cnt (flt P (fun x => x == r)) (nS P) else -1) else -1
def vStep0 (P : jP) (w q : Int → Bool) (s a : Int) : Int := if a = 0 then ru P s else if a = 1 then pn P s else if a = 2 then b2i (rg P s) else if a = 3 then b2i (nd P s) else if a = 4 then fs P s else if a = 5 then cb P s else if a = 6 then nu P s else if a = 7 then b2i (flt P w s) else if a = 8 then cnt (nr P s) (nS P) else if a = 9 then bh P (tf P (48 + s)) - tf P (48 + s) else if a = 10 then sn P q s else -1
def isS (P : jP) (s : Int) : Prop := 0 ≤ s ∧ s < nS P
def vStep (P : jP) (w q : Int → Bool) (s a : Int) : Int := if 0 ≤ s ∧ s < nS P then vStep0 P w q s a else -1
def vNames (P : jP) (s k : Int) : Int := if (0 ≤ s ∧ s < nS P) ∧ (0 ≤ k ∧ k < pn P s) then nm P s k else -1
def vTerm (P : jP) (s k : Int) : Int := if (0 ≤ s ∧ s < nS P) ∧ (0 ≤ k ∧ k < bh P (tf P (48 + s)) - tf P (48 + s)) then sy P (tf P (48 + s) + k) else -1
def vWrong (P : jP) : Int := ff (fun s => !rg P s) (nS P)
def vRest (P : jP) (k : Int) : Int := if 0 ≤ k ∧ k < rn P then rs P k else -1
def vLeans (P : jP) (k i : Int) : Int := if (0 ≤ k ∧ k < rn P) ∧ (0 ≤ i ∧ i < rp P k) then le P k i else -1
def vUpon (P : jP) (s o : Int) : Int := if (0 ≤ s ∧ s < nS P) ∧ (0 ≤ o ∧ o < nS P) then b2i (bl P s o) else -1
def vDepth (P : jP) (s : Int) : Int := if 0 ≤ s ∧ s < nS P then dp P s else -1
def vLoad (P : jP) (s : Int) : Int := if 0 ≤ s ∧ s < nS P then cnt (fun t => nd P t && bl P t s) (nS P) else -1
def vCovers (P : jP) (s : Int) : Int := if 0 ≤ s ∧ s < nS P then cg P s (nS P) else -1
def vVital (P : jP) (s : Int) : Int := if 0 ≤ s ∧ s < nS P then b2i (vt P s) else -1
def vVitals (P : jP) (k : Int) : Int := ff (fun j => vt P j && decide (cnt (vt P) j = k)) (nS P)
section
variable {E : jE} {μ μ1 : jMu} {P : jP} {w q : Int → Bool} {Q : Int → jMu → Prop}
theorem sM_has (h : RS μ P w q) {a : Int} (k : ∀ μ1, Fr SR μ μ1 → Q (vHas P w q a) μ1) : Ci E mM_has [jvR 76, jvI a] μ Q := by
  have hn := h.n
  refine vM_has_0 ⟨fun c => ?_, fun c => ?_, fun c => ?_, fun c => ?_, fun c => ?_, fun c => ?_, fun c => ?_, fun c => ?_, fun c => ?_, fun c => ?_, fun c => ?_, fun c => ?_, fun c => ?_, fun c => ?_, fun c => ?_⟩
  · subst c; exact sM_rules h.r ⟨_, rfl, k μ Fr.rf⟩
  · subst c; exact sM_steps h.r ⟨_, rfl, k μ Fr.rf⟩
  · subst c; exact sM_readers h.r ⟨_, rfl, k μ Fr.rf⟩
  · subst c; rw [h.r.e0.2.2.1]; exact ⟨_, rfl, k μ Fr.rf⟩
  · subst c; rw [h.r.e0.2.2.2.1]; exact ⟨_, rfl, k μ Fr.rf⟩
  · subst c
    refine sM_steps h.r ⟨fun c2 => ?_, fun c2 => ?_⟩
    · rw [h.r.e0.2.2.2.2.2 (by omega)]; exact ⟨_, rfl, k μ Fr.rf⟩
    · have := h.wf.g.2 c2
      have k2 : Q (gl P) μ := k μ Fr.rf
      rw [this] at k2
      exact ⟨_, rfl, k2⟩
  · subst c; exact sM_manyOf h.1 (Or.inl ⟨rfl, rfl⟩) (fun μ1 f => ⟨_, rfl, k μ1 f⟩)
  · subst c; exact sM_manyOf h.1 (Or.inr (Or.inl ⟨rfl, rfl⟩)) (fun μ1 f => ⟨_, rfl, k μ1 f⟩)
  · subst c; exact sM_manyOf h.1 (Or.inr (Or.inr (Or.inl ⟨rfl, rfl⟩))) (fun μ1 f => ⟨_, rfl, k μ1 f⟩)
  · subst c; exact sM_manyOf h.1 (Or.inr (Or.inr (Or.inr ⟨rfl, rfl⟩))) (fun μ1 f => ⟨_, rfl, k μ1 f⟩)
  · subst c; rw [h.1.e44]; exact ⟨_, rfl, k μ Fr.rf⟩
  · subst c; exact sM_wrongMany h ⟨_, rfl, k μ Fr.rf⟩
  · subst c; exact sM_falls h (fun μ1 f _ => ⟨_, rfl, k μ1 f⟩)
  · subst c; exact sM_askedMany h ⟨_, rfl, k μ Fr.rf⟩
  · have e : vHas P w q a = -1 := by
      unfold vHas
      repeat rw [if_neg (by omega)]
    rw [e] at k
    exact ⟨_, rfl, k μ Fr.rf⟩
theorem sM_rule (h : RS μ P w q) {r a : Int} (k : ∀ μ1, Fr SR μ μ1 → Q (vRule P w r a) μ1) : Ci E mM_rule [jvR 76, jvI r, jvI a] μ Q := by
  have hn := h.n
  refine vM_rule_0 (sM_isRule h.r (fun h0 h1 => ⟨fun _ => ?_, fun c => absurd c (by decide)⟩) (fun h0 => ⟨fun c => absurd rfl c, fun _ => ⟨_, rfl, ?_⟩⟩))
  · unfold vRule at k
    rw [if_pos ⟨h0, h1⟩] at k
    refine ⟨fun c => ⟨by omega, ?_⟩, fun c => ?_, fun c => ⟨by omega, ?_⟩, fun c => ?_, fun c => ⟨_, rfl, ?_⟩⟩
    · subst c
      rw [h.r.e93 h0 h1]
      exact ⟨_, rfl, k μ Fr.rf⟩
    · subst c
      have k2 : Q (cnt (fun s => ru P s == r) (nS P)) μ := k μ Fr.rf
      have lp : ∀ (l4 : Int), 0 ≤ l4 → l4 ≤ nS P → ∀ l3, l3 = cnt (fun s => ru P s == r) l4 → K 121 E mM_rule 57 [some (jvR 76), some (jvI r), some (jvI 1), some (jvI l3), some (jvI l4)] [] μ (fun v μ1 => ∃ r, v = some (jvI r) ∧ Q r μ1) := by
        refine up_ind (nS P) _ ?_
        intro l4 ih g0 g1 l3 g4
        have hcl := cnt_le (fun s => ru P s == r) g0
        have hcs := cnt_s (fun s => ru P s == r) g0
        refine vM_rule_57 (sM_steps h.r ⟨fun c => ⟨_, rfl, ?_⟩, fun c => sM_ruleBy h.r g0 (by omega) ⟨fun c2 => ⟨by omega, ih (by omega) (by omega) (by omega) _ ?_⟩, fun c2 => ⟨by omega, ih (by omega) (by omega) (by omega) _ ?_⟩⟩⟩)
        · rw [g4, show l4 = nS P by omega]
          exact k2
        · rw [beq_eq_false_iff_ne.mpr c2, b2i_f] at hcs; omega
        · rw [beq_iff_eq.mpr c2, b2i_t] at hcs; omega
      exact lp 0 (by omega) (by omega) 0 rfl
    · subst c
      rw [h.2.1 r h0 (by omega)]
      have k2 : Q (b2i (w r)) μ := k μ Fr.rf
      refine ⟨fun c => ⟨_, rfl, ?_⟩, fun c => ⟨_, rfl, ?_⟩⟩
      · rw [c] at k2; exact k2
      · rw [b2i_b c] at k2; exact k2
    · subst c
      exact sM_fallsBy h.r (fun μ1 f => ⟨_, rfl, k μ1 f⟩)
    · rw [if_neg (by omega), if_neg (by omega), if_neg (by omega), if_neg (by omega)] at k
      exact k μ Fr.rf
  · unfold vRule at k
    rw [if_neg (by omega)] at k
    exact k μ Fr.rf
theorem sM_namers (h : RR μ P) {s : Int} (h0 : 0 ≤ s) (h1 : s < nS P) (k : Q (cnt (nr P s) (nS P)) μ) : Ci E mM_namers [jvR 76, jvI s] μ Q := by
  have hn := h.n
  refine vM_namers_0 ⟨by omega, ?_⟩
  have lp : ∀ (l3 : Int), s + 1 ≤ l3 → l3 ≤ nS P → ∀ l2, l2 = cnt (nr P s) l3 → K 121 E mM_namers 6 [some (jvR 76), some (jvI s), some (jvI l2), some (jvI l3), none, none] [] μ (fun v μ1 => ∃ r, v = some (jvI r) ∧ Q r μ1) := by
    refine up_ind (nS P) _ ?_
    intro l3 ih g0 g1 l2 g4
    have hcl := cnt_le (nr P s) (show 0 ≤ l3 by omega)
    have hcs := cnt_s (nr P s) (show 0 ≤ l3 by omega)
    refine vM_namers_6 (sM_steps h ⟨fun c => ⟨_, rfl, ?_⟩, fun c => ?_⟩)
    · rw [g4, show l3 = nS P by omega]
      exact k
    · have hp := h.1.p (show 0 ≤ l3 by omega) (by omega)
      have lp2 : ∀ (l5 : Int), 0 ≤ l5 → l5 ≤ pn P l3 → ∀ l4, l4 = b2i (anyB (fun k => nm P l3 k == s) l5) → K 121 E mM_namers 20 [some (jvR 76), some (jvI s), some (jvI l2), some (jvI l3), some (jvI l4), some (jvI l5)] [] μ (fun v μ1 => ∃ r, v = some (jvI r) ∧ Q r μ1) := by
        refine up_ind (pn P l3) _ ?_
        intro l5 ih5 d0 d1 l4 d4
        refine vM_namers_20 (sM_namesMany h (by omega) (by omega) ⟨fun c5 => ?_, fun c5 => ⟨fun c6 => ⟨by omega, ih5 (by omega) (by omega) (by omega) _ ?_⟩, fun c6 => sM_namedBy h (by omega) (by omega) d0 (by omega) ⟨fun c7 => ⟨by omega, ih5 (by omega) (by omega) (by omega) _ ?_⟩, fun c7 => ⟨by omega, ih5 (by omega) (by omega) (by omega) _ ?_⟩⟩⟩⟩)
        · have hl : l5 = pn P l3 := by omega
          subst hl
          have e : l4 = b2i (nr P s l3) := d4
          have := b2i_01 (nr P s l3)
          exact ⟨fun c6 => ⟨by omega, ih (by omega) (by omega) (by omega) _ (by omega)⟩, fun c6 => ⟨by omega, ih (by omega) (by omega) (by omega) _ (by omega)⟩⟩
        · rw [anyB_s d0, b2i_b (fun e => c6 (d4.trans e))]; rfl
        · rw [anyB_s d0, b2i_b0 (d4.symm.trans c6), beq_eq_false_iff_ne.mpr c7]; rfl
        · rw [anyB_s d0, beq_iff_eq.mpr c7, Bool.or_true]; rfl
      exact lp2 0 (by omega) (by omega) 0 (by rw [anyB_0 (by omega)]; rfl)
  refine lp (s + 1) (by omega) (by omega) 0 ?_
  symm
  refine cnt_z (fun j j0 j1 => ?_)
  rw [Bool.eq_false_iff]
  intro hh
  obtain ⟨i, i0, i1, i2⟩ := anyB_iff.mp hh
  have hm := h.1.m j i j0 (by omega) i0 i1
  have := beq_iff_eq.mp i2
  omega
theorem sM_step (h : RS μ P w q) {s a : Int} (k : ∀ μ1, Fr SR μ μ1 → Q (vStep P w q s a) μ1) : Ci E mM_step [jvR 76, jvI s, jvI a] μ Q := by
  have hn := h.n
  refine vM_step_0 (sM_isStep h.r (fun h0 h1 => ⟨fun _ => ?_, fun c => absurd c (by decide)⟩) (fun h0 => ⟨fun c => absurd rfl c, fun _ => ⟨_, rfl, ?_⟩⟩))
  · unfold vStep at k
    rw [if_pos ⟨h0, h1⟩] at k
    refine ⟨fun c => ?_, fun c => ?_, fun c => ?_, fun c => ?_, fun c => ⟨by omega, ?_⟩, fun c => ?_, fun c => ⟨by omega, ?_⟩, fun c => ?_, fun c => ?_, fun c => ⟨by omega, ?_⟩, fun c => ?_, fun c => ⟨_, rfl, ?_⟩⟩
    · subst c; exact sM_ruleBy h.r h0 h1 ⟨_, rfl, k μ Fr.rf⟩
    · subst c; exact sM_namesMany h.r h0 h1 ⟨_, rfl, k μ Fr.rf⟩
    · subst c
      refine sM_isRight h.r h0 h1 (fun μ1 f => ?_)
      have k2 : Q (b2i (rg P s)) μ1 := k μ1 f
      refine ⟨fun c => ⟨_, rfl, ?_⟩, fun c => ⟨_, rfl, ?_⟩⟩
      · rw [c] at k2; exact k2
      · rw [b2i_b c] at k2; exact k2
    · subst c
      have k2 : Q (b2i (nd P s)) μ := k μ Fr.rf
      refine sM_isNeeded h.1 h0 h1 ⟨fun c => ⟨_, rfl, ?_⟩, fun c => ⟨_, rfl, ?_⟩⟩
      · rw [c] at k2; exact k2
      · rw [b2i_b c] at k2; exact k2
    · subst c; rw [h.1.e103 h0 h1]; exact ⟨_, rfl, k μ Fr.rf⟩
    · subst c; exact sM_coveredBy h.r h0 h1 (fun μ1 f => ⟨_, rfl, k μ1 f⟩)
    · subst c; rw [h.1.e106 h0 h1]; exact ⟨_, rfl, k μ Fr.rf⟩
    · subst c
      have hc := cnt_le (flt P w) (k := nS P) (by omega)
      refine sM_falls h (fun μ1 f hh => ⟨fun c => by omega, fun _ => ⟨by omega, ?_⟩⟩)
      have k2 : Q (b2i (flt P w s)) μ1 := k μ1 f
      rw [hh s h0 h1]
      refine ⟨fun c => ⟨_, rfl, ?_⟩, fun c => ⟨_, rfl, ?_⟩⟩
      · rw [c] at k2; exact k2
      · rw [b2i_b c] at k2; exact k2
    · subst c; exact sM_namers h.r h0 h1 ⟨_, rfl, k μ Fr.rf⟩
    · subst c; exact sM_longOf h.r (inW_s h0 h1) ⟨_, rfl, k μ Fr.rf⟩
    · subst c
      have k2 : Q (sn P q s) μ := k μ Fr.rf
      have e : sn P (fun r => q r || r == -1) s = sn P q s := by
        have key : ∀ n : Nat, snN P (fun r => q r || r == -1) s n = snN P q s n := by
          intro n
          induction n with
          | zero => rfl
          | succ n ih =>
            show (if ((q n || (n : Int) == -1) && decide (rf P n ≤ s ∧ s ≤ rt P n)) = true then Int.tdiv (snN P (fun r => q r || r == -1) s n * (100 - od P n)) 100 else snN P (fun r => q r || r == -1) s n) = _
            rw [ih, beq_eq_false_iff_ne.mpr (show (n : Int) ≠ -1 by omega), Bool.or_false]
            rfl
        unfold sn
        rw [key]
      rw [← e] at k2
      exact sM_seenOf h ⟨_, rfl, k2⟩
    · unfold vStep0 at k
      rw [if_neg (by omega), if_neg (by omega), if_neg (by omega), if_neg (by omega), if_neg (by omega), if_neg (by omega), if_neg (by omega), if_neg (by omega), if_neg (by omega), if_neg (by omega), if_neg (by omega)] at k
      exact k μ Fr.rf
  · unfold vStep at k
    rw [if_neg (by omega)] at k
    exact k μ Fr.rf
theorem sM_names (h : RR μ P) {s a : Int} (k : Q (vNames P s a) μ) : Ci E mM_names [jvR 76, jvI s, jvI a] μ Q := by
  have hn := h.n
  unfold vNames at k
  refine vM_names_0 (sM_isStep h (fun h0 h1 => ⟨fun c => absurd c (by decide), fun _ => ?_⟩) (fun h0 => ⟨fun _ => ⟨_, rfl, ?_⟩, fun c => absurd rfl c⟩))
  · have hp := h.1.p h0 h1
    refine sM_namesMany h h0 h1 ⟨by omega, sM_isIn (fun a1 a2 => ⟨fun c => absurd c (by decide), fun _ => ?_⟩) (fun a1 => ⟨fun _ => ⟨_, rfl, ?_⟩, fun c => absurd rfl c⟩)⟩
    · rw [if_pos (by omega)] at k
      exact sM_namedBy h h0 h1 a1 (by omega) ⟨_, rfl, k⟩
    · rw [if_neg (by omega)] at k; exact k
  · rw [if_neg (by omega)] at k; exact k
theorem sM_term (h : RR μ P) {s a : Int} (k : Q (vTerm P s a) μ) : Ci E mM_term [jvR 76, jvI s, jvI a] μ Q := by
  have hn := h.n
  unfold vTerm at k
  refine vM_term_0 (sM_isStep h (fun h0 h1 => ⟨fun c => absurd c (by decide), fun _ => ⟨by omega, ?_⟩⟩) (fun h0 => ⟨fun _ => ⟨_, rfl, ?_⟩, fun c => absurd rfl c⟩))
  · have ht := h.1.t (inW_s h0 h1)
    have hc := h.1.c _ ht.1 ht.2.1
    unfold okT at ht
    refine sM_longOf h (inW_s h0 h1) ⟨by omega, sM_isIn (fun a1 a2 => ⟨fun c => absurd c (by decide), fun _ => ⟨by omega, ?_⟩⟩) (fun a1 => ⟨fun _ => ⟨_, rfl, ?_⟩, fun c => absurd rfl c⟩)⟩
    · rw [if_pos (by omega)] at k
      refine sM_fromOf h (inW_s h0 h1) ⟨by omega, _, rfl, ?_⟩
      rw [show 400 + tf P (48 + s) + a = 400 + (tf P (48 + s) + a) by omega, h.e90 (by omega) (by omega)]
      exact k
    · rw [if_neg (by omega)] at k; exact k
  · rw [if_neg (by omega)] at k; exact k
theorem sM_wrong (h : RR μ P) (k : ∀ μ1, Fr SR μ μ1 → Q (vWrong P) μ1) : Ci E mM_wrong [jvR 76] μ Q := by
  have hn := h.n
  refine vM_wrong_0 ?_
  have lp : ∀ (l1 : Int) (μ0 : jMu), 0 ≤ l1 → l1 ≤ nS P → Fr SR μ μ0 → (∀ j, 0 ≤ j → j < l1 → (!rg P j) = false) → K 121 E mM_wrong 2 [some (jvR 76), some (jvI l1)] [] μ0 (fun v μ1 => ∃ r, v = some (jvI r) ∧ Q r μ1) := by
    refine up_ind (nS P) _ ?_
    intro l1 ih μ0 g0 g1 g2 g3
    refine vM_wrong_2 (sM_steps (h.fr g2) ⟨fun c => ⟨_, rfl, ?_⟩, fun c => sM_isRight (h.fr g2) g0 (by omega) (fun μ1 f => ⟨fun c2 => ⟨by omega, ih (by omega) μ1 (by omega) (by omega) (g2.tr f) (fun j a b => ?_)⟩, fun c2 => ⟨_, rfl, ?_⟩⟩)⟩)
    · rw [← show vWrong P = -1 from ff_none (fun j a b => g3 j a (by omega))]
      exact k μ0 g2
    · by_cases hj : j = l1
      · subst hj; rw [b2i_b c2]; rfl
      · exact g3 j a (by omega)
    · rw [← show vWrong P = l1 from ff_eq g0 (by omega) (by rw [b2i_b0 c2]; rfl) (fun j a b => g3 j a (by omega))]
      exact k μ1 (g2.tr f)
  exact lp 0 μ (by omega) (by omega) Fr.rf (fun j a b => by omega)
theorem sM_rest (h : RK μ P) {a : Int} (k : Q (vRest P a) μ) : Ci E mM_rest [jvR 76, jvI a] μ Q := by
  have hr := rn_r h.1.1
  unfold vRest at k
  refine vM_rest_0 ?_
  rw [h.e44]
  refine ⟨by omega, sM_isIn (fun a1 a2 => ⟨fun c => absurd c (by decide), fun _ => ⟨by omega, _, rfl, ?_⟩⟩) (fun a1 => ⟨fun _ => ⟨_, rfl, ?_⟩, fun c => absurd rfl c⟩)⟩
  · rw [if_pos (by omega)] at k
    rw [h.e105 a1 (by omega)]; exact k
  · rw [if_neg (by omega)] at k; exact k
theorem sM_leansTo (h : RK μ P) {a i : Int} (h0 : 0 ≤ a) (h1 : a < rn P) (h2 : 0 ≤ i) (h3 : i < rp P a) (k : Q (le P a i) μ) : Ci E mM_leansTo [jvR 76, jvI a, jvI i] μ Q := by
  have hr := rn_r h.1.1
  have hn := h.1.n
  obtain ⟨r1, r2, r3, r4⟩ := rs_c h.1.1 h0 h1
  have hm := h.1.1.m _ i r1 r2 h2 h3
  have hf := fs_r P hm.1
  refine vM_leansTo_0 ⟨by omega, ?_⟩
  rw [h.e105 h0 h1]
  refine sM_namedBy h.1 r1 r2 h2 h3 ?_
  rw [h.e103 hm.1 (by omega), h.e106 hf.1 (by omega)]
  exact ⟨by omega, _, rfl, k⟩
theorem sM_leans (h : RK μ P) {a i : Int} (k : Q (vLeans P a i) μ) : Ci E mM_leans [jvR 76, jvI a, jvI i] μ Q := by
  have hr := rn_r h.1.1
  unfold vLeans at k
  refine vM_leans_0 ?_
  rw [h.e44]
  refine ⟨by omega, sM_isIn (fun a1 a2 => ⟨fun c => absurd c (by decide), fun _ => ⟨by omega, ?_⟩⟩) (fun a1 => ⟨fun _ => ⟨_, rfl, ?_⟩, fun c => absurd rfl c⟩)⟩
  · obtain ⟨r1, r2, r3, r4⟩ := rs_c h.1.1 a1 (show a < rn P by omega)
    have hp := rp_r h.1.1 a1 (show a < rn P by omega)
    rw [h.e105 a1 (by omega)]
    refine sM_namesMany h.1 r1 r2 ?_
    rw [show pn P (rs P a) = rp P a from rfl]
    refine ⟨by omega, sM_isIn (fun b1 b2 => ⟨fun c => absurd c (by decide), fun _ => ?_⟩) (fun b1 => ⟨fun _ => ⟨_, rfl, ?_⟩, fun c => absurd rfl c⟩)⟩
    · rw [if_pos (by omega)] at k
      exact sM_leansTo h a1 (by omega) b1 (by omega) ⟨_, rfl, k⟩
    · rw [if_neg (by omega)] at k; exact k
  · rw [if_neg (by omega)] at k; exact k
theorem sM_upon (h : RK μ P) {s o : Int} (k : Q (vUpon P s o) μ) : Ci E mM_upon [jvR 76, jvI s, jvI o] μ Q := by
  have hn := h.1.n
  unfold vUpon at k
  refine vM_upon_0 (sM_isStep h.1 (fun h0 h1 => ⟨fun c => absurd c (by decide), fun _ => sM_isStep h.1 (fun h2 h3 => ⟨fun _ => ?_, fun c => absurd c (by decide)⟩) (fun h2 => ⟨fun c => absurd rfl c, fun _ => ⟨_, rfl, ?_⟩⟩)⟩) (fun h0 => ⟨fun _ => ⟨_, rfl, ?_⟩, fun c => absurd rfl c⟩))
  · rw [h.e104 h0 h1, bs_in01 h2 (by omega)]
    rw [if_pos (by omega)] at k
    have := b2i_01 (bl P s o)
    exact ⟨by omega, _, rfl, k⟩
  · rw [if_neg (by omega)] at k; exact k
  · rw [if_neg (by omega)] at k; exact k
theorem sM_depth (h : RR μ P) {s : Int} (k : ∀ μ1, Fr SR μ μ1 → Q (vDepth P s) μ1) : Ci E mM_depth [jvR 76, jvI s] μ Q := by
  have hn := h.n
  unfold vDepth at k
  refine vM_depth_0 (sM_isStep h (fun h0 h1 => ⟨fun _ => ?_, fun c => absurd c (by decide)⟩) (fun h0 => ⟨fun c => absurd rfl c, fun _ => ⟨_, rfl, ?_⟩⟩))
  · rw [if_pos (by omega)] at k
    have lp : ∀ (l2 : Int) (μ0 : jMu), 0 ≤ l2 → l2 ≤ s + 1 → Fr SR μ μ0 → (∀ j, 0 ≤ j → j < l2 → μ0 110 j = dp P j) → K 121 E mM_depth 12 [some (jvR 76), some (jvI s), some (jvI l2), none] [] μ0 (fun v μ1 => ∃ r, v = some (jvI r) ∧ Q r μ1) := by
      refine up_ind (s + 1) _ ?_
      intro l2 ih μ0 g0 g1 g2 g3
      refine vM_depth_12 ⟨fun c => ⟨by omega, _, rfl, ?_⟩, fun c => ⟨by omega, ?_⟩⟩
      · rw [g3 s h0 (by omega)]
        exact k μ0 g2
      · have hp := h.1.p g0 (show l2 < nS P by omega)
        have lp2 : ∀ (l3 : Int) (μ3 : jMu), 0 ≤ l3 → l3 ≤ pn P l2 → Fr SR μ μ3 → (∀ j, 0 ≤ j → j < l2 → μ3 110 j = dp P j) → μ3 110 l2 = dpf P (dp P) l2 l3.toNat → K 121 E mM_depth 26 [some (jvR 76), some (jvI s), some (jvI l2), some (jvI l3)] [] μ3 (fun v μ1 => ∃ r, v = some (jvI r) ∧ Q r μ1) := by
          refine up_ind (pn P l2) _ ?_
          intro l3 ih3 μ3 d0 d1 d2 d3 d4
          have hR := h.fr d2
          refine vM_depth_26 (sM_namesMany hR g0 (by omega) ⟨fun c3 => ⟨by omega, ih (by omega) μ3 (by omega) (by omega) d2 (fun j a b => ?_)⟩, fun c3 => ?_⟩)
          · by_cases hj : j = l2
            · subst hj
              rw [d4, show l3 = pn P j by omega, ← dp_eq h.1 g0 (by omega)]
            · exact d3 j a (by omega)
          · have hm := h.1.m l2 l3 g0 (by omega) d0 (by omega)
            have hdr := dp_r h.1 (nm P l2 l3).toNat (nm P l2 l3) (by omega) hm.1 (by omega)
            have es : dpf P (dp P) l2 (l3 + 1).toNat = if dpf P (dp P) l2 l3.toNat < dp P (nm P l2 l3) + 1 then dp P (nm P l2 l3) + 1 else dpf P (dp P) l2 l3.toNat := by
              rw [show (l3 + 1).toNat = l3.toNat + 1 by omega]
              show (if dpf P (dp P) l2 l3.toNat < dp P (nm P l2 ((l3.toNat : Nat) : Int)) + 1 then dp P (nm P l2 ((l3.toNat : Nat) : Int)) + 1 else dpf P (dp P) l2 l3.toNat) = _
              rw [show ((l3.toNat : Nat) : Int) = l3 by omega]
            refine sM_namedBy hR g0 (by omega) d0 (by omega) ⟨by omega, ?_⟩
            rw [d3 _ hm.1 hm.2, d4]
            refine ⟨fun c4 => ⟨by omega, ih3 (by omega) μ3 (by omega) (by omega) d2 d3 ?_⟩, fun c4 => sM_namedBy hR g0 (by omega) d0 (by omega) ?_⟩
            · rw [es, if_neg (by omega)]; exact d4
            · rw [d3 _ hm.1 hm.2]
              refine ⟨by omega, ih3 (by omega) _ (by omega) (by omega) (d2.put (Or.inr (Or.inr (Or.inl (by omega))))) (fun j a b => ?_) ?_⟩
              · rw [up_nk (by omega)]; exact d3 j a b
              · rw [up_eq, es, if_pos (by omega)]
        refine lp2 0 _ (by omega) (by omega) (g2.put (Or.inr (Or.inr (Or.inl (by omega))))) (fun j a b => ?_) up_eq
        rw [up_nk (by omega)]; exact g3 j a b
    exact lp 0 μ (by omega) (by omega) Fr.rf (fun j a b => by omega)
  · rw [if_neg (by omega)] at k; exact k μ Fr.rf
theorem sM_load (h : RK μ P) {s : Int} (k : Q (vLoad P s) μ) : Ci E mM_load [jvR 76, jvI s] μ Q := by
  have hn := h.1.n
  unfold vLoad at k
  refine vM_load_0 (sM_isStep h.1 (fun h0 h1 => ⟨fun _ => ?_, fun c => absurd c (by decide)⟩) (fun h0 => ⟨fun c => absurd rfl c, fun _ => ⟨_, rfl, ?_⟩⟩))
  · rw [if_pos (by omega)] at k
    have lp : ∀ (l3 : Int), 0 ≤ l3 → l3 ≤ nS P → ∀ l2, l2 = cnt (fun t => nd P t && bl P t s) l3 → K 121 E mM_load 14 [some (jvR 76), some (jvI s), some (jvI l2), some (jvI l3)] [] μ (fun v μ1 => ∃ r, v = some (jvI r) ∧ Q r μ1) := by
      refine up_ind (nS P) _ ?_
      intro l3 ih g0 g1 l2 g4
      have hcl := cnt_le (fun t => nd P t && bl P t s) g0
      have hcs := cnt_s (fun t => nd P t && bl P t s) g0
      refine vM_load_14 (sM_steps h.1 ⟨fun c => ⟨_, rfl, ?_⟩, fun c => sM_isNeeded h g0 (by omega) ⟨fun c2 => ⟨by omega, ih (by omega) (by omega) (by omega) _ ?_⟩, fun c2 => ⟨by omega, ?_⟩⟩⟩)
      · rw [g4, show l3 = nS P by omega]; exact k
      · rw [b2i_b0 c2, Bool.false_and, b2i_f] at hcs; omega
      · rw [h.e104 g0 (by omega), bs_in01 h0 (by omega)]
        rw [b2i_b c2, Bool.true_and] at hcs
        have := b2i_01 (bl P l3 s)
        exact ⟨fun c3 => ⟨by omega, ih (by omega) (by omega) (by omega) _ (by omega)⟩, fun c3 => ⟨by omega, ih (by omega) (by omega) (by omega) _ (by omega)⟩⟩
    exact lp 0 (by omega) (by omega) 0 rfl
  · rw [if_neg (by omega)] at k; exact k
theorem sM_covers (h : RR μ P) {s : Int} (k : ∀ μ1, Fr SR μ μ1 → Q (vCovers P s) μ1) : Ci E mM_covers [jvR 76, jvI s] μ Q := by
  have hn := h.n
  unfold vCovers at k
  refine vM_covers_0 (sM_isStep h (fun h0 h1 => ⟨fun _ => ⟨by omega, ?_⟩, fun c => absurd c (by decide)⟩) (fun h0 => ⟨fun c => absurd rfl c, fun _ => ⟨_, rfl, ?_⟩⟩))
  · rw [if_pos (by omega)] at k
    have lp : ∀ (l3 : Int) (μ0 : jMu), s + 1 ≤ l3 → l3 ≤ nS P → Fr SR μ μ0 → ∀ l2, l2 = cg P s l3 → K 121 E mM_covers 16 [some (jvR 76), some (jvI s), some (jvI l2), some (jvI l3)] [] μ0 (fun v μ1 => ∃ r, v = some (jvI r) ∧ Q r μ1) := by
      refine up_ind (nS P) _ ?_
      intro l3 ih μ0 g0 g1 g2 l2 g4
      have hcl := cnt_le (fun t => decide (s < t) && cv P s t) (show 0 ≤ l3 by omega)
      have hcs := cnt_s (fun t => decide (s < t) && cv P s t) (show 0 ≤ l3 by omega)
      rw [decide_eq_true (show s < l3 by omega), Bool.true_and] at hcs
      unfold cg at g4
      have hR := h.fr g2
      refine vM_covers_16 (sM_steps hR ⟨fun c => ⟨_, rfl, ?_⟩, fun c => sM_isCover hR h0 h1 (by omega) (by omega) (fun μ1 m1 m2 => ⟨fun c => absurd c (by decide), fun _ => ⟨by omega, ih (by omega) μ1 (by omega) (by omega) (g2.tr m2) _ ?_⟩⟩) (fun μ1 m1 m2 => ⟨fun _ => ⟨by omega, ih (by omega) μ1 (by omega) (by omega) (g2.tr m2) _ ?_⟩, fun c => absurd rfl c⟩)⟩)
      · rw [g4, show l3 = nS P by omega]
        exact k μ0 g2
      · rw [m1, b2i_t] at hcs
        unfold cg
        omega
      · rw [m1, b2i_f] at hcs
        unfold cg
        omega
    refine lp (s + 1) μ (by omega) (by omega) Fr.rf 0 ?_
    symm
    exact cnt_z (fun j j0 j1 => by rw [decide_eq_false (by omega), Bool.false_and])
  · rw [if_neg (by omega)] at k; exact k μ Fr.rf
theorem sM_isProvedWithout (h : RK μ P) (hn0 : 0 < nS P) {out : Int} (k : ∀ μ1, Fr SR μ μ1 → Q (b2i (pw P out)) μ1) : Ci E mM_isProvedWithout [jvR 76, jvI out] μ Q := by
  have hn := h.1.n
  have hg := h.1.1.g.1 hn0
  have hfg := fs_r P hg.1
  have w111 : ∀ j : Int, SR 111 j := fun j => Or.inr (Or.inr (Or.inl (by omega)))
  refine vM_isProvedWithout_0 ?_
  have lp2 : ∀ (l2 : Int) (μ0 : jMu), 0 ≤ l2 → l2 ≤ nS P → Fr SR μ μ0 → (∀ j, 0 ≤ j → j < nS P → μ0 111 j = b2i (pv P out l2 j)) → K 121 E mM_isProvedWithout 25 [some (jvR 76), some (jvI out), some (jvI l2), none, none] [] μ0 (fun v μ1 => ∃ r, v = some (jvI r) ∧ Q r μ1) := by
    refine up_ind (nS P) _ ?_
    intro l2 ih μ0 g0 g1 g2 g3
    have hR := h.fr g2
    refine vM_isProvedWithout_25 (sM_steps hR.1 ⟨fun c => ?_, fun c => ?_⟩)
    · rw [hR.1.e0.2.2.2.2.2 hn0, hR.e103 hg.1 hg.2, g3 _ hfg.1 (by omega)]
      have := b2i_01 (pv P out l2 (fs P (gl P)))
      refine ⟨⟨by omega, by omega, this⟩, _, rfl, ?_⟩
      rw [show l2 = nS P by omega]
      exact k μ0 g2
    · have hp := h.1.1.p g0 (show l2 < nS P by omega)
      have hf2 := fs_r P g0
      have lp3 : ∀ (l4 : Int), 0 ≤ l4 → l4 ≤ pn P l2 → ∀ l3, l3 = b2i (decide (l2 ≠ out) && allB (fun k => pv P out l2 (fs P (nm P l2 k))) l4) → K 121 E mM_isProvedWithout 47 [some (jvR 76), some (jvI out), some (jvI l2), some (jvI l3), some (jvI l4)] [] μ0 (fun v μ1 => ∃ r, v = some (jvI r) ∧ Q r μ1) := by
        refine up_ind (pn P l2) _ ?_
        intro l4 ih4 d0 d1 l3 d4
        refine vM_isProvedWithout_47 (sM_namesMany hR.1 g0 (by omega) ⟨fun c4 => ⟨fun c5 => ⟨by omega, ih (by omega) μ0 (by omega) (by omega) g2 (fun j a b => ?_)⟩, fun c5 => ?_⟩, fun c4 => ⟨fun c5 => ⟨by omega, ih4 (by omega) (by omega) (by omega) _ ?_⟩, fun c5 => ?_⟩⟩)
        · rw [pv_s P out g0, ← show l4 = pn P l2 by omega]
          simp only [b2i_b0 (d4.symm.trans c5), Bool.false_and, Bool.or_false]
          exact g3 j a b
        · rw [hR.e103 g0 (by omega)]
          refine ⟨by omega, ih (by omega) _ (by omega) (by omega) (g2.put (w111 _)) (fun j a b => ?_)⟩
          rw [pv_s P out g0, ← show l4 = pn P l2 by omega]
          simp only [b2i_b (fun e => c5 (d4.trans e)), Bool.true_and]
          rw [up_if]
          split
          · rename_i e
            rw [e, beq_self_eq_true, Bool.or_true]; rfl
          · rename_i e
            rw [beq_eq_false_iff_ne.mpr e, Bool.or_false]
            exact g3 j a b
        · rw [allB_s d0, ← Bool.and_assoc, b2i_b0 (d4.symm.trans c5), Bool.false_and]; rfl
        · have hm := h.1.1.m l2 l4 g0 (by omega) d0 (by omega)
          have hfm := fs_r P hm.1
          have c5' := b2i_b (fun e => c5 (d4.trans e))
          refine sM_namedBy hR.1 g0 (by omega) d0 (by omega) ?_
          rw [hR.e103 hm.1 (by omega), g3 _ hfm.1 (by omega)]
          refine ⟨by omega, fun c6 => ⟨by omega, ih4 (by omega) (by omega) (by omega) _ ?_⟩, fun c6 => ⟨by omega, ih4 (by omega) (by omega) (by omega) _ ?_⟩⟩
          · rw [allB_s d0, ← Bool.and_assoc, c5', b2i_b0 c6]; rfl
          · rw [allB_s d0, ← Bool.and_assoc, c5', b2i_b c6]; rfl
      refine ⟨fun c2 => lp3 0 (by omega) (by omega) 0 ?_, fun c2 => lp3 0 (by omega) (by omega) 1 ?_⟩
      · rw [decide_eq_false (by omega), Bool.false_and]; rfl
      · rw [decide_eq_true (by omega), allB_0 (by omega)]; rfl
  have lp1 : ∀ (l2 : Int) (μ0 : jMu), 0 ≤ l2 → l2 ≤ nS P → Fr SR μ μ0 → (∀ j, 0 ≤ j → j < l2 → μ0 111 j = 0) → K 121 E mM_isProvedWithout 2 [some (jvR 76), some (jvI out), some (jvI l2), none, none] [] μ0 (fun v μ1 => ∃ r, v = some (jvI r) ∧ Q r μ1) := by
    refine up_ind (nS P) _ ?_
    intro l2 ih μ0 g0 g1 g2 g3
    refine vM_isProvedWithout_2 (sM_steps (h.fr g2).1 ⟨fun c => lp2 0 μ0 (by omega) (by omega) g2 (fun j a b => g3 j a (by omega)), fun c => ⟨by omega, ih (by omega) _ (by omega) (by omega) (g2.put (w111 _)) (fun j a b => ?_)⟩⟩)
    rw [up_if]
    split
    · rfl
    · exact g3 j a (by omega)
  exact lp1 0 μ (by omega) (by omega) Fr.rf (fun j a b => by omega)
theorem sM_vital (h : RK μ P) {s : Int} (k : ∀ μ1, Fr SR μ μ1 → Q (vVital P s) μ1) : Ci E mM_vital [jvR 76, jvI s] μ Q := by
  have hn := h.1.n
  unfold vVital at k
  refine vM_vital_0 (sM_isStep h.1 (fun h0 h1 => ⟨fun _ => sM_isProvedWithout h (by omega) (fun μ1 f => ?_), fun c => absurd c (by decide)⟩) (fun h0 => ⟨fun c => absurd rfl c, fun _ => ⟨_, rfl, ?_⟩⟩))
  · rw [if_pos (by omega)] at k
    have k2 := k μ1 f
    unfold vt at k2
    refine ⟨fun c => ⟨_, rfl, ?_⟩, fun c => ⟨_, rfl, ?_⟩⟩
    · rw [b2i_b0 c] at k2; exact k2
    · rw [b2i_b c] at k2; exact k2
  · rw [if_neg (by omega)] at k; exact k μ Fr.rf
theorem sM_vitals (h : RK μ P) {a : Int} (k : ∀ μ1, Fr SR μ μ1 → Q (vVitals P a) μ1) : Ci E mM_vitals [jvR 76, jvI a] μ Q := by
  have hn := h.1.n
  refine vM_vitals_0 ?_
  have lp : ∀ (l3 : Int) (μ0 : jMu), 0 ≤ l3 → l3 ≤ nS P → Fr SR μ μ0 → (∀ j, 0 ≤ j → j < l3 → (vt P j && decide (cnt (vt P) j = a)) = false) → ∀ l2, l2 = cnt (vt P) l3 → K 121 E mM_vitals 4 [some (jvR 76), some (jvI a), some (jvI l2), some (jvI l3)] [] μ0 (fun v μ1 => ∃ r, v = some (jvI r) ∧ Q r μ1) := by
    refine up_ind (nS P) _ ?_
    intro l3 ih μ0 g0 g1 g2 g3 l2 g4
    have hcl := cnt_le (vt P) g0
    have hcs := cnt_s (vt P) g0
    refine vM_vitals_4 (sM_steps (h.fr g2).1 ⟨fun c => ⟨_, rfl, ?_⟩, fun c => sM_isProvedWithout (h.fr g2) (by omega) (fun μ1 f => ?_)⟩)
    · rw [← show vVitals P a = -1 from ff_none (fun j a b => g3 j a (by omega))]
      exact k μ0 g2
    · refine ⟨fun c2 => ?_, fun c2 => ⟨by omega, ih (by omega) μ1 (by omega) (by omega) (g2.tr f) (fun j x y => ?_) _ ?_⟩⟩
      · have hv : vt P l3 = true := by unfold vt; rw [b2i_b0 c2]; rfl
        rw [hv, b2i_t] at hcs
        refine ⟨fun c3 => ⟨by omega, ih (by omega) μ1 (by omega) (by omega) (g2.tr f) (fun j x y => ?_) _ (by omega)⟩, fun c3 => ⟨_, rfl, ?_⟩⟩
        · by_cases hj : j = l3
          · subst hj
            rw [decide_eq_false (by omega), Bool.and_false]
          · exact g3 j x (by omega)
        · rw [← show vVitals P a = l3 from ff_eq g0 (by omega) (by rw [hv, decide_eq_true (by omega)]; rfl) (fun j a b => g3 j a (by omega))]
          exact k μ1 (g2.tr f)
      · have hv : vt P l3 = false := by unfold vt; rw [b2i_b c2]; rfl
        by_cases hj : j = l3
        · subst hj
          rw [hv, Bool.false_and]
        · exact g3 j x (by omega)
      · have hv : vt P l3 = false := by unfold vt; rw [b2i_b c2]; rfl
        rw [hv, b2i_f] at hcs
        omega
  exact lp 0 μ (by omega) (by omega) Fr.rf (fun j a b => by omega) 0 rfl
theorem sM_fault (a : Int) (k : Q (if a = 0 then μ 76 7 else if a = 1 then μ 76 8 else -1) μ) : Ci E mM_fault [jvR 76, jvI a] μ Q := by
  refine vM_fault_0 ⟨fun c => ⟨fun c2 => ⟨_, rfl, ?_⟩, fun c2 => ⟨_, rfl, ?_⟩⟩, fun c => ⟨_, rfl, ?_⟩⟩
  · rw [if_neg c, if_neg c2] at k; exact k
  · rw [if_neg c, if_pos c2] at k; exact k
  · rw [if_pos c] at k; exact k
end
