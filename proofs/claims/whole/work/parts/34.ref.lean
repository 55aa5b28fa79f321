/-! the reference's current data, and its methods on terms -/
def DR (μ : jMu) (P : jP) : Prop :=
  (μ 87 5 = nR P ∧ μ 87 6 = nD P ∧ μ 87 7 = nG P ∧ μ 87 8 = nH P ∧ μ 87 9 = nS P ∧ (0 < nS P → μ 76 33 = gl P)) ∧
  (∀ r, 0 ≤ r → r < nR P → μ 93 (12 + r) = pr P r) ∧
  (∀ s, 0 ≤ s → s < nS P → μ 94 (40 + s) = ru P s) ∧
  (∀ s k, 0 ≤ s → s < nS P → 0 ≤ k → k < pn P s → μ 95 (120 + 3 * s + k) = nm P s k) ∧
  (∀ x, 0 ≤ x → x < nC P → μ 90 (400 + x) = sy P x) ∧
  (∀ g, 0 ≤ g → g < nG P → μ 89 (24 + g) = ar P g) ∧
  (∀ w, inW P w → μ 91 (88 + w) = 400 + tf P w ∧ μ 92 (88 + w) = bh P (tf P w) - tf P w) ∧
  (∀ d, 0 ≤ d → d < nD P → μ 96 (6 + d) = od P d ∧ μ 97 (6 + d) = rf P d ∧ μ 98 (6 + d) = rt P d) ∧
  (∀ kd i, 0 ≤ kd → kd ≤ 3 → 0 ≤ i → i < nN P kd → μ 88 (96 + 24 * kd + i) = e27 (nk P kd i))
def RR (μ : jMu) (P : jP) : Prop := WF P ∧ DR μ P
/-- what the reference's questions may write -/
def SR (i : Nat) (k : Int) : Prop := i = 102 ∨ i = 108 ∨ (110 ≤ i ∧ i ≤ 119) ∨ (i = 76 ∧ (k = 51 ∨ k = 54 ∨ k = 55))
theorem RR.fr {μ μ1 : jMu} {P : jP} (h : RR μ P) (hf : Fr SR μ μ1) : RR μ1 P := by
  obtain ⟨w, ⟨a1, a2, a3, a4, a5, a6⟩, b, c, d, e, f, g, i, j⟩ := h
  have hn : ∀ (i : Nat) (k : Int), 87 ≤ i → i ≤ 98 → μ1 i k = μ i k := fun i k h1 h2 => hf i k (by unfold SR; omega)
  have h33 : μ1 76 33 = μ 76 33 := hf 76 33 (by unfold SR; omega)
  refine ⟨w, ⟨?_, ?_, ?_, ?_, ?_, ?_⟩, ?_, ?_, ?_, ?_, ?_, ?_, ?_, ?_⟩
  · rw [hn _ _ (by omega) (by omega)]; exact a1
  · rw [hn _ _ (by omega) (by omega)]; exact a2
  · rw [hn _ _ (by omega) (by omega)]; exact a3
  · rw [hn _ _ (by omega) (by omega)]; exact a4
  · rw [hn _ _ (by omega) (by omega)]; exact a5
  · rw [h33]; exact a6
  · intro r h1 h2; rw [hn _ _ (by omega) (by omega)]; exact b r h1 h2
  · intro r h1 h2; rw [hn _ _ (by omega) (by omega)]; exact c r h1 h2
  · intro r k h1 h2 h3 h4; rw [hn _ _ (by omega) (by omega)]; exact d r k h1 h2 h3 h4
  · intro r h1 h2; rw [hn _ _ (by omega) (by omega)]; exact e r h1 h2
  · intro r h1 h2; rw [hn _ _ (by omega) (by omega)]; exact f r h1 h2
  · intro r h1; rw [hn _ _ (by omega) (by omega), hn _ _ (by omega) (by omega)]; exact g r h1
  · intro r h1 h2; rw [hn _ _ (by omega) (by omega), hn _ _ (by omega) (by omega), hn _ _ (by omega) (by omega)]; exact i r h1 h2
  · intro r k h1 h2 h3 h4; rw [hn _ _ (by omega) (by omega)]; exact j r k h1 h2 h3 h4
theorem RR.n {μ : jMu} {P : jP} (h : RR μ P) : (0 ≤ nR P ∧ nR P ≤ 12) ∧ (0 ≤ nD P ∧ nD P ≤ 6) ∧ (0 ≤ nG P ∧ nG P ≤ 24) ∧ (0 ≤ nH P ∧ nH P ≤ 12) ∧ (0 ≤ nS P ∧ nS P ≤ 40) ∧ (0 ≤ nC P ∧ nC P ≤ 400) := h.1.n
theorem RR.e0 {μ : jMu} {P : jP} (h : RR μ P) : μ 87 5 = nR P ∧ μ 87 6 = nD P ∧ μ 87 7 = nG P ∧ μ 87 8 = nH P ∧ μ 87 9 = nS P ∧ (0 < nS P → μ 76 33 = gl P) := h.2.1
theorem RR.e93 {μ : jMu} {P : jP} (h : RR μ P) {r : Int} (h0 : 0 ≤ r) (h1 : r < nR P) : μ 93 (12 + r) = pr P r := h.2.2.1 r h0 h1
theorem RR.e94 {μ : jMu} {P : jP} (h : RR μ P) {r : Int} (h0 : 0 ≤ r) (h1 : r < nS P) : μ 94 (40 + r) = ru P r := h.2.2.2.1 r h0 h1
theorem RR.e95 {μ : jMu} {P : jP} (h : RR μ P) {r k : Int} (h0 : 0 ≤ r) (h1 : r < nS P) (h2 : 0 ≤ k) (h3 : k < pn P r) : μ 95 (120 + 3 * r + k) = nm P r k := h.2.2.2.2.1 r k h0 h1 h2 h3
theorem RR.e90 {μ : jMu} {P : jP} (h : RR μ P) {r : Int} (h0 : 0 ≤ r) (h1 : r < nC P) : μ 90 (400 + r) = sy P r := h.2.2.2.2.2.1 r h0 h1
theorem RR.e89 {μ : jMu} {P : jP} (h : RR μ P) {r : Int} (h0 : 0 ≤ r) (h1 : r < nG P) : μ 89 (24 + r) = ar P r := h.2.2.2.2.2.2.1 r h0 h1
theorem RR.e91 {μ : jMu} {P : jP} (h : RR μ P) {r : Int} (h0 : inW P r) : μ 91 (88 + r) = 400 + tf P r ∧ μ 92 (88 + r) = bh P (tf P r) - tf P r := h.2.2.2.2.2.2.2.1 r h0
theorem RR.e96 {μ : jMu} {P : jP} (h : RR μ P) {r : Int} (h0 : 0 ≤ r) (h1 : r < nD P) : μ 96 (6 + r) = od P r ∧ μ 97 (6 + r) = rf P r ∧ μ 98 (6 + r) = rt P r := h.2.2.2.2.2.2.2.2.1 r h0 h1
theorem RR.e88 {μ : jMu} {P : jP} (h : RR μ P) {kd i : Int} (h0 : 0 ≤ kd) (h1 : kd ≤ 3) (h2 : 0 ≤ i) (h3 : i < nN P kd) : μ 88 (96 + 24 * kd + i) = e27 (nk P kd i) := h.2.2.2.2.2.2.2.2.2 kd i h0 h1 h2 h3
section
variable {E : jE} {μ : jMu} {P : jP} {Q : Int → jMu → Prop}
theorem sM_isIn {a b c : Int} (kt : b ≤ a → a ≤ c → Q 1 μ) (kf : a < b ∨ c < a → Q 0 μ) : Ci E mM_isIn [jvL a, jvL b, jvL c] μ Q := by
  refine vM_isIn_0 ?_
  repeat' (with_reducible first | intro _ | apply And.intro)
  · exact ⟨_, rfl, kf (by omega)⟩
  · exact ⟨_, rfl, kf (by omega)⟩
  · exact ⟨_, rfl, kt (by omega) (by omega)⟩
theorem sM_steps (h : RR μ P) (k : Q (nS P) μ) : Ci E mM_steps [jvR 76] μ Q := vM_steps_0 ⟨_, rfl, by rw [h.e0.2.2.2.2.1]; exact k⟩
theorem sM_rules (h : RR μ P) (k : Q (nR P) μ) : Ci E mM_rules [jvR 76] μ Q := vM_rules_0 ⟨_, rfl, by rw [h.e0.1]; exact k⟩
theorem sM_readers (h : RR μ P) (k : Q (nD P) μ) : Ci E mM_readers [jvR 76] μ Q := vM_readers_0 ⟨_, rfl, by rw [h.e0.2.1]; exact k⟩
theorem sM_isStep (h : RR μ P) {a : Int} (kt : 0 ≤ a → a < nS P → Q 1 μ) (kf : a < 0 ∨ nS P ≤ a → Q 0 μ) : Ci E mM_isStep [jvR 76, jvI a] μ Q := by
  have hn := h.n
  refine vM_isStep_0 (sM_steps h ⟨by omega, sM_isIn (fun h1 h2 => ⟨by omega, _, rfl, kt (by omega) (by omega)⟩) (fun h1 => ⟨by omega, _, rfl, kf (by omega)⟩)⟩)
theorem sM_isRule (h : RR μ P) {a : Int} (kt : 0 ≤ a → a < nR P → Q 1 μ) (kf : a < 0 ∨ nR P ≤ a → Q 0 μ) : Ci E mM_isRule [jvR 76, jvI a] μ Q := by
  have hn := h.n
  refine vM_isRule_0 (sM_rules h ⟨by omega, sM_isIn (fun h1 h2 => ⟨by omega, _, rfl, kt (by omega) (by omega)⟩) (fun h1 => ⟨by omega, _, rfl, kf (by omega)⟩)⟩)
theorem sM_isReader (h : RR μ P) {a : Int} (kt : 0 ≤ a → a < nD P → Q 1 μ) (kf : a < 0 ∨ nD P ≤ a → Q 0 μ) : Ci E mM_isReader [jvR 76, jvI a] μ Q := by
  have hn := h.n
  refine vM_isReader_0 (sM_readers h ⟨by omega, sM_isIn (fun h1 h2 => ⟨by omega, _, rfl, kt (by omega) (by omega)⟩) (fun h1 => ⟨by omega, _, rfl, kf (by omega)⟩)⟩)
theorem sM_ruleBy (h : RR μ P) {a : Int} (h0 : 0 ≤ a) (h1 : a < nS P) (k : Q (ru P a) μ) : Ci E mM_ruleBy [jvR 76, jvI a] μ Q := by
  have hn := h.n
  exact vM_ruleBy_0 ⟨by omega, _, rfl, by rw [h.e94 h0 h1]; exact k⟩
theorem sM_namesMany (h : RR μ P) {a : Int} (h0 : 0 ≤ a) (h1 : a < nS P) (k : Q (pn P a) μ) : Ci E mM_namesMany [jvR 76, jvI a] μ Q := by
  have hn := h.n
  have hs := h.1.s a h0 h1
  exact vM_namesMany_0 (sM_ruleBy h h0 h1 ⟨by omega, _, rfl, by rw [h.e93 hs.1 hs.2]; exact k⟩)
theorem sM_namedBy (h : RR μ P) {a i : Int} (h0 : 0 ≤ a) (h1 : a < nS P) (h2 : 0 ≤ i) (h3 : i < pn P a) (k : Q (nm P a i) μ) : Ci E mM_namedBy [jvR 76, jvI a, jvI i] μ Q := by
  have hn := h.n
  have hs := h.1.p h0 h1
  exact vM_namedBy_0 ⟨by omega, _, rfl, by rw [h.e95 h0 h1 h2 h3]; exact k⟩
theorem sM_fromOf (h : RR μ P) {w : Int} (hw : inW P w) (k : Q (400 + tf P w) μ) : Ci E mM_fromOf [jvR 76, jvI w] μ Q := by
  have hl := inW_lt h.1 hw
  exact vM_fromOf_0 ⟨by omega, _, rfl, by rw [(h.e91 hw).1]; exact k⟩
theorem sM_longOf (h : RR μ P) {w : Int} (hw : inW P w) (k : Q (bh P (tf P w) - tf P w) μ) : Ci E mM_longOf [jvR 76, jvI w] μ Q := by
  have hl := inW_lt h.1 hw
  exact vM_longOf_0 ⟨by omega, _, rfl, by rw [(h.e91 hw).2]; exact k⟩
theorem lM_partLong (h : RR μ P) {Q : Option AV → jMu → Prop} {l1 z : Int} (hl : 0 ≤ l1 ∧ l1 ≤ 800) (hz : z ≤ nC P) (k : Q (some (jvI (400 + z - l1))) μ) : ∀ (n a : Nat) (y l2 l3 : Int), (z - y).toNat ≤ n → 0 ≤ y → Tc P a y z → l2 = a → l3 = 400 + y → K 121 E mM_partLong 4 [some (jvR 76), some (jvI l1), some (jvI l2), some (jvI l3)] [] μ Q := by
  have hn := h.n
  intro n
  induction n with
  | zero =>
    rintro a y l2 l3 hm hy ht rfl rfl
    have hle := Tc_le h.1.c a y z ht
    have ha : a = 0 := by omega
    subst ha
    have ht : y = z := ht
    subst ht
    refine vM_partLong_4 ⟨fun _ => ⟨by omega, k⟩, fun c => by omega⟩
  | succ n ih =>
    rintro a y l2 l3 hm hy ht rfl rfl
    have hle := Tc_le h.1.c a y z ht
    cases a with
    | zero =>
      have ht : y = z := ht
      subst ht
      exact vM_partLong_4 ⟨fun _ => ⟨by omega, k⟩, fun c => by omega⟩
    | succ a =>
      obtain ⟨t1, t2, t3⟩ := ht
      obtain ⟨c1, c2, c3, c4⟩ := h.1.c y t1 t2
      have hle2 := Tc_le h.1.c a _ z t3
      have e := h.e90 t1 t2
      refine vM_partLong_4 ⟨fun c => by omega, fun _ => ⟨by omega, ?_⟩⟩
      rw [e]
      refine ⟨fun c => ⟨by omega, ?_⟩, fun c => ?_⟩
      · have := c4 c
        refine ih a (y + 1) _ _ (by omega) (by omega) ?_ (by omega) (by omega)
        rw [← this.2]
        exact t3
      · have hs := c3 (by omega)
        have e2 := h.e89 hs.1 hs.2.1
        rw [e2]
        have hT := Tc_app _ _ _ _ _ hs.2.2.2.2 t3
        have hle3 := Tc_le h.1.c _ _ _ hT
        exact ⟨by omega, ih ((ar P (sy P y)).toNat + a) (y + 1) _ _ (by omega) (by omega) hT (by omega) (by omega)⟩
theorem sM_partLong (h : RR μ P) {a x : Int} (ha : a = 400 + x) (h0 : 0 ≤ x) (h1 : x < nC P) (k : Q (bh P x - x) μ) : Ci E mM_partLong [jvR 76, jvI a] μ Q := by
  have hn := h.n
  subst ha
  have hc := h.1.c x h0 h1
  refine vM_partLong_0 (lM_partLong h (z := bh P x) (by omega) (by omega) ⟨_, rfl, by rw [show 400 + bh P x - (400 + x) = bh P x - x by omega]; exact k⟩ _ 1 x _ _ (Nat.le_refl _) h0 ⟨h0, h1, rfl⟩ rfl rfl)
/-- two terms are the same -/
def sm (P : jP) (a b : Int) : Bool := decide (bh P a - a = bh P b - b) && allB (fun k => sy P (a + k) == sy P (b + k)) (bh P a - a)
theorem sM_areSame (h : RR μ P) {a b x z : Int} (ha : a = 400 + x) (hb : b = 400 + z) (h0 : 0 ≤ x) (h1 : x < nC P) (h2 : 0 ≤ z) (h3 : z < nC P) (kt : sm P x z = true → Q 1 μ) (kf : sm P x z = false → Q 0 μ) : Ci E mM_areSame [jvR 76, jvI a, jvI b] μ Q := by
  have hn := h.n
  have hx := h.1.c x h0 h1
  have hz := h.1.c z h2 h3
  refine vM_areSame_0 (sM_partLong h ha h0 h1 (sM_partLong h hb h2 h3 ⟨fun c => ?_, fun c => ⟨_, rfl, kf ?_⟩⟩))
  · have lp : ∀ l4 : Int, 0 ≤ l4 → l4 ≤ bh P x - x → (∀ j : Int, 0 ≤ j → j < l4 → sy P (x + j) = sy P (z + j)) → K 121 E mM_areSame 20 [some (jvR 76), some (jvI a), some (jvI b), some (jvI (bh P x - x)), some (jvI l4)] [] μ (fun v μ1 => ∃ r, v = some (jvI r) ∧ Q r μ1) := by
      refine up_ind (bh P x - x) _ ?_
      intro l4 ih g0 g1 g2
      refine vM_areSame_20 ⟨fun c4 => ⟨_, rfl, kt ?_⟩, fun c4 => ⟨by omega, ?_⟩⟩
      · simp only [sm, c, decide_true, Bool.true_and]
        rw [allB_iff]
        intro j j1 j2
        exact beq_iff_eq.mpr (g2 j j1 (by omega))
      · subst ha
        subst hb
        rw [show 400 + x + l4 = 400 + (x + l4) by omega, show 400 + z + l4 = 400 + (z + l4) by omega, h.e90 (by omega) (by omega), h.e90 (by omega) (by omega)]
        refine ⟨fun c5 => ⟨by omega, ih (by omega) (by omega) (by omega) (fun j j1 j2 => ?_)⟩, fun c5 => ⟨_, rfl, kf ?_⟩⟩
        · by_cases hj : j = l4
          · subst hj; exact c5
          · exact g2 j j1 (by omega)
        · simp only [sm, c, decide_true, Bool.true_and]
          rw [Bool.eq_false_iff]
          intro hh
          rw [allB_iff] at hh
          exact c5 (beq_iff_eq.mp (hh l4 g0 (by omega)))
    exact lp 0 (by omega) (by omega) (fun j j1 j2 => by omega)
  · simp [sm, c]
end
/-- holes taken -/
def hup (θ : Int → Int) (h x : Int) : Int → Int := fun j => if j = h then x else θ j
def mt (P : jP) : Nat → (Int → Int) → Int → Int → Option (Int → Int)
  | 0, θ, _, _ => some θ
  | n + 1, θ, p, j => if sy P p < 100 then (if sy P j = sy P p then mt P n θ (p + 1) (j + 1) else none) else if θ (sy P p - 100) = -1 then mt P n (hup θ (sy P p - 100) j) (p + 1) (bh P j) else if sm P (θ (sy P p - 100)) j = true then mt P n θ (p + 1) (bh P j) else none
def okθ (P : jP) (θ : Int → Int) : Prop := ∀ h, 0 ≤ h → h < 12 → θ h = -1 ∨ (0 ≤ θ h ∧ θ h < nC P)
def LF (μ : jMu) (θ : Int → Int) : Prop := ∀ h, 0 ≤ h → h < 12 → μ 102 h = if θ h = -1 then -1 else 400 + θ h
def ln (P : jP) (x : Int) : Nat := (bh P x - x).toNat
section
variable {E : jE} {μ : jMu} {P : jP} {Q : Int → jMu → Prop}
theorem sM_noHoles {Q0 : jMu → Prop} (k : ∀ μ1, Fr SR μ μ1 → LF μ1 (fun _ => -1) → Q0 μ1) : Cv E mM_noHoles [jvR 76] μ Q0 := by
  refine vM_noHoles_0 ?_
  have lp : ∀ l1 : Int, ∀ μ1, 0 ≤ l1 → l1 ≤ 12 → Fr SR μ μ1 → (∀ h, 0 ≤ h → h < l1 → μ1 102 h = -1) → K 121 E mM_noHoles 2 [some (jvR 76), some (jvI l1)] [] μ1 (fun v μ2 => v = none ∧ Q0 μ2) := by
    refine up_ind 12 _ ?_
    intro l1 ih μ1 g0 g1 g2 g3
    refine vM_noHoles_2 ⟨fun c => ⟨rfl, k μ1 g2 (fun h a b => ?_)⟩, fun c => ⟨by omega, ih (by omega) _ (by omega) (by omega) (g2.put (Or.inl rfl)) (fun h a b => ?_)⟩⟩
    · rw [g3 h a (by omega)]; rfl
    · rw [up_if]
      split
      · rfl
      · exact g3 h a (by omega)
  exact lp 0 μ (by omega) (by omega) Fr.rf (fun h a b => by omega)
theorem lM_isMatch {R : (Int → Int) → Prop} {Rf : Prop} (p0 n0 : Int) (hp0 : 0 ≤ p0) (hp1 : p0 + n0 ≤ nC P) (kt : ∀ θ1 μ1, Fr SR μ μ1 → LF μ1 θ1 → okθ P θ1 → R θ1 → Q 1 μ1) (kf : ∀ μ1, Fr SR μ μ1 → Rf → Q 0 μ1) : ∀ (n a : Nat) (μ0 : jMu) (θ : Int → Int) (l3 l4 l5 j e : Int), RR μ P → Fr SR μ μ0 → LF μ0 θ → okθ P θ → n0 - l5 = n → 0 ≤ l5 → l5 ≤ n0 → Tc P a (p0 + l5) (p0 + n0) → Tc P a j e → l4 = 400 + j → j ≤ nC P → 0 ≤ j → (∀ θ1, mt P n θ (p0 + l5) j = some θ1 → R θ1) → (mt P n θ (p0 + l5) j = none → Rf) → K 121 E mM_isMatch 6 [some (jvR 76), some (jvI (400 + p0)), some (jvI n0), some (jvI l3), some (jvI l4), some (jvI l5), none] [] μ0 (fun v μ2 => ∃ r, v = some (jvI r) ∧ Q r μ2) := by
  intro n
  induction n with
  | zero =>
    rintro a μ0 θ l3 l4 l5 j e h hf hl ho hn h5 h6 t1 t2 rfl hj hj0 r1 r2
    exact vM_isMatch_6 ⟨fun c => ⟨_, rfl, kt θ μ0 hf hl ho (r1 θ rfl)⟩, fun c => by omega⟩
  | succ n ih =>
    rintro a μ0 θ l3 l4 l5 j e h hf hl ho hn h5 h6 t1 t2 rfl hj hj0 r1 r2
    have hR := h.fr hf
    have hnn := h.n
    cases a with
    | zero =>
      have t1 : p0 + l5 = p0 + n0 := t1
      omega
    | succ a =>
      obtain ⟨u1, u2, u3⟩ := t1
      obtain ⟨v1, v2, v3⟩ := t2
      obtain ⟨c1, c2, c3, c4⟩ := h.1.c _ u1 u2
      obtain ⟨d1, d2, d3, d4⟩ := h.1.c _ v1 v2
      have e1 : μ0 90 (400 + p0 + l5) = sy P (p0 + l5) := by rw [show 400 + p0 + l5 = 400 + (p0 + l5) by omega]; exact hR.e90 u1 u2
      have e2 := hR.e90 v1 v2
      refine vM_isMatch_6 ⟨fun c => by omega, fun c => ⟨by omega, ?_⟩⟩
      rw [e1, e2]
      refine ⟨fun q => ?_, fun q => ⟨by omega, fun q2 => ⟨by omega, ?_⟩, fun q2 => ⟨_, rfl, kf μ0 hf (r2 ?_)⟩⟩⟩
      · have w1 := c4 q
        have w2 := hl (sy P (p0 + l5) - 100) (by omega) (by omega)
        have w3 := ho (sy P (p0 + l5) - 100) (by omega) (by omega)
        rw [show (p0 + l5) + 1 = p0 + (l5 + 1) by omega] at w1
        rw [w1.2] at u3
        refine ⟨by omega, fun q2 => ⟨by omega, ?_⟩, fun q2 => ⟨by omega, ?_⟩⟩
        · have w4 : θ (sy P (p0 + l5) - 100) ≠ -1 := by
            intro hh
            rw [hh] at w2
            exact q2 w2
          rw [if_neg w4] at w2
          refine sM_areSame hR w2 rfl (by omega) (by omega) v1 v2 (fun g => ?_) (fun g => ?_)
          · refine ⟨fun _ => ?_, fun c => absurd c (by decide)⟩
            refine sM_partLong hR rfl v1 v2 ⟨by omega, ?_⟩
            refine ih a μ0 θ l3 _ (l5 + 1) (bh P j) e h hf hl ho (by omega) (by omega) (by omega) u3 v3 (by omega) (by omega) (by omega) (fun θ1 hm => r1 θ1 ?_) (fun hm => r2 ?_)
            · simp only [mt, show ¬ sy P (p0 + l5) < 100 by omega, if_false, w4, g, if_true]; rw [show p0 + l5 + 1 = p0 + (l5 + 1) by omega]; exact hm
            · simp only [mt, show ¬ sy P (p0 + l5) < 100 by omega, if_false, w4, g, if_true]; rw [show p0 + l5 + 1 = p0 + (l5 + 1) by omega]; exact hm
          · refine ⟨fun c => absurd rfl c, fun _ => ⟨_, rfl, kf μ0 hf (r2 ?_)⟩⟩
            simp [mt, show ¬ sy P (p0 + l5) < 100 by omega, w4, g]
        · have w4 : θ (sy P (p0 + l5) - 100) = -1 := by
            rcases w3 with w3 | w3
            · exact w3
            · rw [if_neg (by omega)] at w2
              omega
          have hf2 : Fr SR μ (j_up μ0 102 (sy P (p0 + l5) - 100) (400 + j)) := hf.put (Or.inl rfl)
          refine sM_partLong (h.fr hf2) rfl v1 v2 ⟨by omega, ?_⟩
          refine ih a _ (hup θ (sy P (p0 + l5) - 100) j) l3 _ (l5 + 1) (bh P j) e h hf2 ?_ ?_ (by omega) (by omega) (by omega) u3 v3 (by omega) (by omega) (by omega) (fun θ1 hm => r1 θ1 ?_) (fun hm => r2 ?_)
          · intro g g0 g1
            rw [up_if]
            unfold hup
            split
            · rw [if_neg (by omega)]
            · exact hl g g0 g1
          · intro g g0 g1
            unfold hup
            split
            · exact Or.inr ⟨v1, v2⟩
            · exact ho g g0 g1
          · simp only [mt, show ¬ sy P (p0 + l5) < 100 by omega, if_false, w4, if_true]; rw [show p0 + l5 + 1 = p0 + (l5 + 1) by omega]; exact hm
          · simp only [mt, show ¬ sy P (p0 + l5) < 100 by omega, if_false, w4, if_true]; rw [show p0 + l5 + 1 = p0 + (l5 + 1) by omega]; exact hm
      · have w1 := c3 (by omega)
        have w2 := d3 (by omega)
        rw [q2] at w2
        have x1 := Tc_app _ _ _ _ _ w1.2.2.2.2 u3
        have x2 := Tc_app _ _ _ _ _ w2.2.2.2.2 v3
        rw [show p0 + l5 + 1 = p0 + (l5 + 1) by omega] at x1
        refine ih _ μ0 θ l3 _ (l5 + 1) (j + 1) e h hf hl ho (by omega) (by omega) (by omega) x1 x2 (by omega) (by omega) (by omega) (fun θ1 hm => r1 θ1 ?_) (fun hm => r2 ?_)
        · simp only [mt, show sy P (p0 + l5) < 100 by omega, if_true, q2]; rw [show p0 + l5 + 1 = p0 + (l5 + 1) by omega]; exact hm
        · simp only [mt, show sy P (p0 + l5) < 100 by omega, if_true, q2]; rw [show p0 + l5 + 1 = p0 + (l5 + 1) by omega]; exact hm
      · simp only [mt, show sy P (p0 + l5) < 100 by omega, if_true, q2, if_false]
theorem sM_isMatch {θ : Int → Int} (h : RR μ P) (hl : LF μ θ) (ho : okθ P θ) {a n c p x : Int} (ha : a = 400 + p) (hn : n = bh P p - p) (hc : c = 400 + x) (h0 : 0 ≤ p) (h1 : p < nC P) (h2 : 0 ≤ x) (h3 : x < nC P) (kt : ∀ θ1 μ1, mt P (ln P p) θ p x = some θ1 → Fr SR μ μ1 → LF μ1 θ1 → okθ P θ1 → Q 1 μ1) (kf : ∀ μ1, mt P (ln P p) θ p x = none → Fr SR μ μ1 → Q 0 μ1) : Ci E mM_isMatch [jvR 76, jvI a, jvI n, jvI c] μ Q := by
  subst ha
  subst hn
  subst hc
  have hc := h.1.c p h0 h1
  have hx := h.1.c x h2 h3
  refine vM_isMatch_0 ?_
  refine lM_isMatch (R := fun θ1 => mt P (ln P p) θ p x = some θ1) (Rf := mt P (ln P p) θ p x = none) p (bh P p - p) h0 (by omega) (fun θ1 μ1 g1 g2 g3 g4 => kt θ1 μ1 g4 g1 g2 g3) (fun μ1 g1 g2 => kf μ1 g2 g1) (ln P p) 1 μ θ _ _ 0 x (bh P x) h Fr.rf hl ho (by unfold ln; omega) (by omega) (by omega) ⟨by omega, by omega, ?_⟩ ⟨h2, h3, rfl⟩ rfl (by omega) h2 (fun θ1 g => ?_) (fun g => ?_)
  · show bh P (p + 0) = _
    rw [show p + 0 = p by omega]
    omega
  · rw [show p + 0 = p by omega] at g
    exact g
  · rw [show p + 0 = p by omega] at g
    exact g
end
/-- a step's premises matched one by one; is it right; does one cover another; by which it is covered first -/
def mp (P : jP) (s : Int) : Nat → Option (Int → Int)
  | 0 => some (fun _ => -1)
  | k + 1 => (mp P s k).bind (fun θ => mt P (ln P (tf P (4 * ru P s + k))) θ (tf P (4 * ru P s + k)) (tf P (48 + nm P s k)))
def rg (P : jP) (s : Int) : Bool := ((mp P s (pn P s).toNat).bind (fun θ => mt P (ln P (tf P (4 * ru P s + 3))) θ (tf P (4 * ru P s + 3)) (tf P (48 + s)))).isSome
def cv (P : jP) (k s : Int) : Bool := (mt P (ln P (tf P (48 + k))) (fun _ => -1) (tf P (48 + k)) (tf P (48 + s))).isSome
def cb (P : jP) (s : Int) : Int := ff (fun k => cv P k s) s
theorem mp_none {P : jP} {s : Int} : ∀ (m k : Nat), mp P s k = none → k ≤ m → mp P s m = none
  | 0, k, h, hk => by
    have : k = 0 := by omega
    subst this
    exact h
  | m + 1, k, h, hk => by
    by_cases hk2 : k = m + 1
    · subst hk2
      exact h
    · show (mp P s m).bind _ = none
      rw [mp_none m k h (by omega)]
      rfl
section
variable {E : jE} {μ : jMu} {P : jP} {Q : Int → jMu → Prop}
theorem okθ0 : okθ P (fun _ => -1) := fun h _ _ => Or.inl rfl
theorem sM_isRight (h : RR μ P) {s : Int} (h0 : 0 ≤ s) (h1 : s < nS P) (k : ∀ μ1, Fr SR μ μ1 → Q (b2i (rg P s)) μ1) : Ci E mM_isRight [jvR 76, jvI s] μ Q := by
  have hn := h.n
  have hs := h.1.s s h0 h1
  have hp := h.1.p h0 h1
  refine vM_isRight_0 (sM_ruleBy h h0 h1 (sM_noHoles (fun μ1 f1 l1 => ?_)))
  have lp : ∀ l3 : Int, ∀ (μ0 : jMu) (θ : Int → Int), 0 ≤ l3 → l3 ≤ pn P s → Fr SR μ μ0 → LF μ0 θ → okθ P θ → mp P s l3.toNat = some θ → K 121 E mM_isRight 12 [some (jvR 76), some (jvI s), some (jvI (ru P s)), some (jvI l3)] [] μ0 (fun v μ1 => ∃ r, v = some (jvI r) ∧ Q r μ1) := by
    refine up_ind (pn P s) _ ?_
    intro l3 ih μ0 θ g0 g1 g2 g3 g4 g5
    have hR := h.fr g2
    refine vM_isRight_12 ⟨by omega, ?_⟩
    rw [hR.e93 hs.1 hs.2]
    refine ⟨fun c => ⟨by omega, ?_⟩, fun c => ⟨by omega, ?_⟩⟩
    · have c : pn P s ≤ l3 := c
      have hw : inW P (4 * ru P s + 3) := inW_g hs.1 hs.2
      have ht := h.1.t hw
      have ht2 := h.1.t (inW_s h0 h1)
      have e3 : l3 = pn P s := by omega
      refine sM_fromOf hR hw ⟨by omega, sM_longOf hR hw ⟨by omega, sM_fromOf hR (inW_s h0 h1) ?_⟩⟩
      refine sM_isMatch hR g3 g4 rfl rfl rfl ht.1 ht.2.1 ht2.1 ht2.2.1 (fun θ1 μ2 m1 m2 _ _ => ⟨by omega, _, rfl, ?_⟩) (fun μ2 m1 m2 => ⟨by omega, _, rfl, ?_⟩)
      · have : rg P s = true := by
          unfold rg
          rw [← e3, g5]
          simp [m1]
        rw [this] at k
        exact k μ2 (g2.tr m2)
      · have : rg P s = false := by
          unfold rg
          rw [← e3, g5]
          simp [m1]
        rw [this] at k
        exact k μ2 (g2.tr m2)
    · have c : ¬ pn P s ≤ l3 := c
      have hw : inW P (4 * ru P s + l3) := inW_p hs.1 hs.2 g0 (by unfold pn at c; omega)
      have hm := h.1.m s l3 h0 h1 g0 (by omega)
      have ht := h.1.t hw
      have hw2 : inW P (48 + nm P s l3) := inW_s hm.1 (by omega)
      have ht2 := h.1.t hw2
      have hnt : ((l3.toNat : Nat) : Int) = l3 := by omega
      have hmp : mp P s (l3 + 1).toNat = mt P (ln P (tf P (4 * ru P s + l3))) θ (tf P (4 * ru P s + l3)) (tf P (48 + nm P s l3)) := by
        rw [show (l3 + 1).toNat = l3.toNat + 1 by omega]
        show (mp P s l3.toNat).bind _ = _
        rw [g5, hnt]
        rfl
      refine sM_fromOf hR hw ⟨by omega, sM_longOf hR hw (sM_namedBy hR h0 h1 g0 (by omega) ⟨by omega, sM_fromOf hR hw2 ?_⟩)⟩
      refine sM_isMatch hR g3 g4 rfl rfl rfl ht.1 ht.2.1 ht2.1 ht2.2.1 (fun θ1 μ2 m1 m2 m3 m4 => ⟨fun _ => ⟨by omega, ih (by omega) μ2 θ1 (by omega) (by omega) (g2.tr m2) m3 m4 (by rw [hmp, m1])⟩, fun c => absurd c (by decide)⟩) (fun μ2 m1 m2 => ⟨fun c => absurd rfl c, fun _ => ⟨_, rfl, ?_⟩⟩)
      have : rg P s = false := by
        unfold rg
        rw [mp_none (pn P s).toNat (l3 + 1).toNat (by rw [hmp, m1]) (by omega)]
        rfl
      rw [this] at k
      exact k μ2 (g2.tr m2)
  exact lp 0 μ1 _ (by omega) (by omega) f1 l1 okθ0 rfl
theorem sM_isCover (h : RR μ P) {j s : Int} (h0 : 0 ≤ j) (h1 : j < nS P) (h2 : 0 ≤ s) (h3 : s < nS P) (kt : ∀ μ1, cv P j s = true → Fr SR μ μ1 → Q 1 μ1) (kf : ∀ μ1, cv P j s = false → Fr SR μ μ1 → Q 0 μ1) : Ci E mM_isCover [jvR 76, jvI j, jvI s] μ Q := by
  have hn := h.n
  have ht := h.1.t (inW_s h0 h1)
  have ht2 := h.1.t (inW_s h2 h3)
  refine vM_isCover_0 (sM_noHoles (fun μ1 f1 l1 => ⟨by omega, ?_⟩))
  have hR := h.fr f1
  refine sM_fromOf hR (inW_s h0 h1) ⟨by omega, sM_longOf hR (inW_s h0 h1) ⟨by omega, sM_fromOf hR (inW_s h2 h3) ?_⟩⟩
  refine sM_isMatch hR l1 okθ0 rfl rfl rfl ht.1 ht.2.1 ht2.1 ht2.2.1 (fun θ1 μ2 m1 m2 _ _ => ⟨by omega, _, rfl, kt μ2 (by unfold cv; rw [m1]; rfl) (f1.tr m2)⟩) (fun μ2 m1 m2 => ⟨by omega, _, rfl, kf μ2 (by unfold cv; rw [m1]; rfl) (f1.tr m2)⟩)
theorem sM_coveredBy (h : RR μ P) {s : Int} (h0 : 0 ≤ s) (h1 : s < nS P) (k : ∀ μ1, Fr SR μ μ1 → Q (cb P s) μ1) : Ci E mM_coveredBy [jvR 76, jvI s] μ Q := by
  have hn := h.n
  refine vM_coveredBy_0 ?_
  have lp : ∀ l2 : Int, ∀ (μ0 : jMu), 0 ≤ l2 → l2 ≤ s → Fr SR μ μ0 → (∀ j, 0 ≤ j → j < l2 → cv P j s = false) → K 121 E mM_coveredBy 2 [some (jvR 76), some (jvI s), some (jvI l2)] [] μ0 (fun v μ1 => ∃ r, v = some (jvI r) ∧ Q r μ1) := by
    refine up_ind s _ ?_
    intro l2 ih μ0 g0 g1 g2 g3
    refine vM_coveredBy_2 ⟨fun c => ⟨_, rfl, ?_⟩, fun c => ?_⟩
    · rw [← show cb P s = -1 from ff_none (fun j a b => g3 j a (by omega))]
      exact k μ0 g2
    · refine sM_isCover (h.fr g2) g0 (by omega) h0 h1 (fun μ1 m1 m2 => ⟨fun c => absurd c (by decide), fun _ => ⟨_, rfl, ?_⟩⟩) (fun μ1 m1 m2 => ⟨fun _ => ⟨by omega, ih (by omega) μ1 (by omega) (by omega) (g2.tr m2) (fun j a b => ?_)⟩, fun c => absurd rfl c⟩)
      · rw [← show cb P s = l2 from ff_eq g0 (by omega) m1 (fun j a b => g3 j a (by omega))]
        exact k μ1 (g2.tr m2)
      · by_cases hj : j = l2
        · subst hj; exact m1
        · exact g3 j a (by omega)
  exact lp 0 μ (by omega) (by omega) Fr.rf (fun j a b => by omega)
end
