/-! the class's Book, and its methods on terms -/
def DC (b : Nat) (μ : jMu) (P : jP) : Prop :=
  (μ b 12 = nR P ∧ μ b 13 = nS P ∧ μ b 14 = nD P ∧ μ b 15 = gl P ∧ μ (b + 1) 6 = nG P ∧ μ (b + 1) 7 = nH P ∧ μ (b + 1) 8 = nC P) ∧
  (∀ r, 0 ≤ r → r < nR P → μ (b + 9) r = pr P r ∧ μ (b + 11) r = tf P (4 * r + 3)) ∧
  (∀ r k, 0 ≤ r → r < nR P → 0 ≤ k → k < pr P r → μ (b + 10) (3 * r + k) = tf P (4 * r + k)) ∧
  (∀ s, 0 ≤ s → s < nS P → μ (b + 12) s = ru P s ∧ μ (b + 13) s = tf P (48 + s)) ∧
  (∀ s k, 0 ≤ s → s < nS P → 0 ≤ k → k < pn P s → μ (b + 14) (3 * s + k) = nm P s k) ∧
  (∀ x, 0 ≤ x → x < nC P → μ (b + 5) x = sy P x ∧ μ (b + 6) x = bh P x) ∧
  (∀ d, 0 ≤ d → d < nD P → μ (b + 16) d = od P d ∧ μ (b + 17) d = rf P d ∧ μ (b + 18) d = rt P d) ∧
  (∀ i, 0 ≤ i → i < nR P → μ (b + 8) i = nk P 0 i) ∧ (∀ i, 0 ≤ i → i < nD P → μ (b + 15) i = nk P 1 i) ∧ (∀ i, 0 ≤ i → i < nG P → μ (b + 2) i = nk P 2 i) ∧ (∀ i, 0 ≤ i → i < nH P → μ (b + 4) i = nk P 3 i)
def CB (b : Nat) (μ : jMu) (P : jP) : Prop := isB b ∧ WF P ∧ DC b μ P
/-- no part of a Book but the row of taken holes -/
def NB (i : Nat) (_ : Int) : Prop := i = 14 ∨ i = 33 ∨ i < 7 ∨ 44 < i
def W7 (b : Nat) (i : Nat) (_ : Int) : Prop := i = b + 7
theorem W7.nb {b : Nat} (hb : isB b) : ∀ i k, W7 b i k → NB i k := by
  intro i k h
  unfold W7 at h
  unfold NB
  rcases hb with rfl | rfl <;> omega
section
variable {μ μ1 : jMu} {P : jP} {b : Nat}
theorem CB.fr (h : CB b μ P) (hf : Fr NB μ μ1) : CB b μ1 P := by
  obtain ⟨hb, w, ⟨a1, a2, a3, a4, a5, a6, a7⟩, c, d, e, f, g, i, j1, j2, j3, j4⟩ := h
  have hn : ∀ (o : Nat) (k : Int), o ≤ 18 → o ≠ 7 → μ1 (b + o) k = μ (b + o) k := fun o k h1 h2 => hf (b + o) k (by unfold NB; rcases hb with rfl | rfl <;> omega)
  have h0 : ∀ (k : Int), μ1 b k = μ b k := fun k => hn 0 k (by omega) (by omega)
  refine ⟨hb, w, ⟨?_, ?_, ?_, ?_, ?_, ?_, ?_⟩, ?_, ?_, ?_, ?_, ?_, ?_, ?_, ?_, ?_, ?_⟩
  · rw [h0]; exact a1
  · rw [h0]; exact a2
  · rw [h0]; exact a3
  · rw [h0]; exact a4
  · rw [hn _ _ (by omega) (by omega)]; exact a5
  · rw [hn _ _ (by omega) (by omega)]; exact a6
  · rw [hn _ _ (by omega) (by omega)]; exact a7
  · intro r h1 h2; rw [hn _ _ (by omega) (by omega), hn _ _ (by omega) (by omega)]; exact c r h1 h2
  · intro r k h1 h2 h3 h4; rw [hn _ _ (by omega) (by omega)]; exact d r k h1 h2 h3 h4
  · intro r h1 h2; rw [hn _ _ (by omega) (by omega), hn _ _ (by omega) (by omega)]; exact e r h1 h2
  · intro r k h1 h2 h3 h4; rw [hn _ _ (by omega) (by omega)]; exact f r k h1 h2 h3 h4
  · intro r h1 h2; rw [hn _ _ (by omega) (by omega), hn _ _ (by omega) (by omega)]; exact g r h1 h2
  · intro r h1 h2; rw [hn _ _ (by omega) (by omega), hn _ _ (by omega) (by omega), hn _ _ (by omega) (by omega)]; exact i r h1 h2
  · intro r h1 h2; rw [hn _ _ (by omega) (by omega)]; exact j1 r h1 h2
  · intro r h1 h2; rw [hn _ _ (by omega) (by omega)]; exact j2 r h1 h2
  · intro r h1 h2; rw [hn _ _ (by omega) (by omega)]; exact j3 r h1 h2
  · intro r h1 h2; rw [hn _ _ (by omega) (by omega)]; exact j4 r h1 h2
theorem CB.fr7 (h : CB b μ P) (hf : Fr (W7 b) μ μ1) : CB b μ1 P := h.fr (hf.mono (W7.nb h.1))
theorem CB.n (h : CB b μ P) : (0 ≤ nR P ∧ nR P ≤ 12) ∧ (0 ≤ nD P ∧ nD P ≤ 6) ∧ (0 ≤ nG P ∧ nG P ≤ 24) ∧ (0 ≤ nH P ∧ nH P ≤ 12) ∧ (0 ≤ nS P ∧ nS P ≤ 40) ∧ (0 ≤ nC P ∧ nC P ≤ 400) := h.2.1.n
theorem CB.w (h : CB b μ P) : WF P := h.2.1
theorem CB.e0 (h : CB b μ P) : μ b 12 = nR P ∧ μ b 13 = nS P ∧ μ b 14 = nD P ∧ μ b 15 = gl P ∧ μ (b + 1) 6 = nG P ∧ μ (b + 1) 7 = nH P ∧ μ (b + 1) 8 = nC P := h.2.2.1
theorem CB.e9 (h : CB b μ P) {r : Int} (h0 : 0 ≤ r) (h1 : r < nR P) : μ (b + 9) r = pr P r := (h.2.2.2.1 r h0 h1).1
theorem CB.e11 (h : CB b μ P) {r : Int} (h0 : 0 ≤ r) (h1 : r < nR P) : μ (b + 11) r = tf P (4 * r + 3) := (h.2.2.2.1 r h0 h1).2
theorem CB.e10 (h : CB b μ P) {r k : Int} (h0 : 0 ≤ r) (h1 : r < nR P) (h2 : 0 ≤ k) (h3 : k < pr P r) : μ (b + 10) (3 * r + k) = tf P (4 * r + k) := h.2.2.2.2.1 r k h0 h1 h2 h3
theorem CB.e12 (h : CB b μ P) {s : Int} (h0 : 0 ≤ s) (h1 : s < nS P) : μ (b + 12) s = ru P s := (h.2.2.2.2.2.1 s h0 h1).1
theorem CB.e13 (h : CB b μ P) {s : Int} (h0 : 0 ≤ s) (h1 : s < nS P) : μ (b + 13) s = tf P (48 + s) := (h.2.2.2.2.2.1 s h0 h1).2
theorem CB.e14 (h : CB b μ P) {r k : Int} (h0 : 0 ≤ r) (h1 : r < nS P) (h2 : 0 ≤ k) (h3 : k < pn P r) : μ (b + 14) (3 * r + k) = nm P r k := h.2.2.2.2.2.2.1 r k h0 h1 h2 h3
theorem CB.e5 (h : CB b μ P) {s : Int} (h0 : 0 ≤ s) (h1 : s < nC P) : μ (b + 5) s = sy P s := (h.2.2.2.2.2.2.2.1 s h0 h1).1
theorem CB.e6 (h : CB b μ P) {s : Int} (h0 : 0 ≤ s) (h1 : s < nC P) : μ (b + 6) s = bh P s := (h.2.2.2.2.2.2.2.1 s h0 h1).2
theorem CB.e16 (h : CB b μ P) {s : Int} (h0 : 0 ≤ s) (h1 : s < nD P) : μ (b + 16) s = od P s ∧ μ (b + 17) s = rf P s ∧ μ (b + 18) s = rt P s := h.2.2.2.2.2.2.2.2.1 s h0 h1
theorem CB.e8 (h : CB b μ P) : (∀ i, 0 ≤ i → i < nR P → μ (b + 8) i = nk P 0 i) ∧ (∀ i, 0 ≤ i → i < nD P → μ (b + 15) i = nk P 1 i) ∧ (∀ i, 0 ≤ i → i < nG P → μ (b + 2) i = nk P 2 i) ∧ (∀ i, 0 ≤ i → i < nH P → μ (b + 4) i = nk P 3 i) := h.2.2.2.2.2.2.2.2.2
end
def CT (b : Nat) (μ : jMu) (θ : Int → Int) : Prop := ∀ h, 0 ≤ h → h < 12 → μ (b + 7) h = θ h
/-- the k-th below 40 with p, from 0 on -/
def kth (p : Int → Bool) (k : Int) : Int := ff (fun j => p j && decide (cnt p j = k)) 40
section
variable {E : jE} {μ : jMu} {P : jP} {b : Nat} {Q : Int → jMu → Prop}
theorem sX_bit0 {s : Int} (k : Q (ishl64 1 s) μ) : Cl E mX_bit [jvI s] μ Q := vX_bit_0 ⟨_, rfl, k⟩
theorem sX_bit {s : Int} (h0 : 0 ≤ s) (h1 : s < 40) (k : Q (bs (fun j => j == s) 40) μ) : Cl E mX_bit [jvI s] μ Q := vX_bit_0 ⟨_, rfl, by rw [bs_bit h0 h1 (by omega)]; exact k⟩
theorem sX_isIn {s x : Int} {p : Int → Bool} (hx : x = bs p 40) (h0 : 0 ≤ s) (h1 : s < 40) (kt : p s = true → Q 1 μ) (kf : p s = false → Q 0 μ) : Ci E mX_isIn [jvI s, jvL x] μ Q := by
  subst hx
  refine vX_isIn_0 ?_
  rw [bs_in h0 (by omega) (by omega), decide_eq_true h1, Bool.true_and]
  refine ⟨fun c => ⟨_, rfl, kf ?_⟩, fun c => ⟨_, rfl, kt ?_⟩⟩
  · cases hp : p s
    · rfl
    · rw [hp] at c; cases c
  · cases hp : p s
    · rw [hp] at c; exact absurd rfl c
    · rfl
theorem sX_flag {a : Int} (kt : ¬ a = 0 → Q 1 μ) (kf : a = 0 → Q 0 μ) : Ci E mX_flag [jvI a] μ Q := vX_flag_0 ⟨fun c => ⟨_, rfl, kf c⟩, fun c => ⟨_, rfl, kt c⟩⟩
theorem sX_kthOf {p : Int → Bool} {k x : Int} (hx : x = bs p 40) (kk : Q (kth p k) μ) : Ci E mX_kthOf [jvL x, jvI k] μ Q := by
  refine vX_kthOf_0 ?_
  have lp : ∀ l4 : Int, ∀ l3 : Int, 0 ≤ l4 → l4 ≤ 40 → l3 = cnt p l4 → (∀ j, 0 ≤ j → j < l4 → (p j && decide (cnt p j = k)) = false) → K 121 E mX_kthOf 5 [some (jvL x), none, some (jvI k), some (jvI l3), some (jvI l4)] [] μ (fun v μ1 => ∃ r, v = some (jvI r) ∧ Q r μ1) := by
    refine up_ind 40 _ ?_
    intro l4 ih l3 g0 g1 g2 g3
    have hc := cnt_le p g0
    have hs := cnt_s p g0
    refine vX_kthOf_5 ⟨fun c => ⟨_, rfl, ?_⟩, fun c => ?_⟩
    · rw [← show kth p k = -1 from ff_none (fun j a b => g3 j a (by omega))]
      exact kk
    · refine sX_isIn hx g0 (by omega) (fun hp => ⟨fun c => absurd c (by decide), fun _ => ⟨fun c2 => ⟨by omega, ih (by omega) _ (by omega) (by omega) ?_ ?_⟩, fun c2 => ⟨_, rfl, ?_⟩⟩⟩) (fun hp => ⟨fun _ => ⟨by omega, ih (by omega) _ (by omega) (by omega) ?_ ?_⟩, fun c => absurd rfl c⟩)
      · rw [hp, b2i_t] at hs; omega
      · intro j j0 j1
        by_cases hj : j = l4
        · subst hj
          rw [← g2]
          simp [c2]
        · exact g3 j j0 (by omega)
      · rw [← show kth p k = l4 from ff_eq g0 (by omega) (by simp [hp, ← g2, c2]) (fun j a b => g3 j a (by omega))]
        exact kk
      · rw [hp, b2i_f] at hs; omega
      · intro j j0 j1
        by_cases hj : j = l4
        · subst hj
          simp [hp]
        · exact g3 j j0 (by omega)
  exact lp 0 0 (by omega) (by omega) rfl (fun j a b => by omega)
theorem sBk_hasStep (h : CB b μ P) {s : Int} (kt : 0 ≤ s → s < nS P → Q 1 μ) (kf : s < 0 ∨ nS P ≤ s → Q 0 μ) : Ci E mBk_hasStep [jvR ((b : Nat) : Int), jvI s] μ Q := by
  refine vBk_hasStep_0 h.1 ?_
  rw [h.e0.2.1]
  exact ⟨fun c => ⟨_, rfl, kf (by omega)⟩, fun c => ⟨fun c => ⟨_, rfl, kf (by omega)⟩, fun c => ⟨_, rfl, kt (by omega) (by omega)⟩⟩⟩
theorem sBk_hasRule (h : CB b μ P) {s : Int} (kt : 0 ≤ s → s < nR P → Q 1 μ) (kf : s < 0 ∨ nR P ≤ s → Q 0 μ) : Ci E mBk_hasRule [jvR ((b : Nat) : Int), jvI s] μ Q := by
  refine vBk_hasRule_0 h.1 ?_
  rw [h.e0.1]
  exact ⟨fun c => ⟨_, rfl, kf (by omega)⟩, fun c => ⟨fun c => ⟨_, rfl, kf (by omega)⟩, fun c => ⟨_, rfl, kt (by omega) (by omega)⟩⟩⟩
theorem sBk_nameCount (h : CB b μ P) {s : Int} (h0 : 0 ≤ s) (h1 : s < nS P) (k : Q (pn P s) μ) : Ci E mBk_nameCount [jvR ((b : Nat) : Int), jvI s] μ Q := by
  have hn := h.n
  have hs := h.w.s s h0 h1
  refine vBk_nameCount_0 h.1 ?_
  rw [h.e12 h0 h1, h.e9 hs.1 hs.2]
  exact ⟨by omega, _, rfl, k⟩
theorem sBk_named (h : CB b μ P) {s i : Int} (h0 : 0 ≤ s) (h1 : s < nS P) (h2 : 0 ≤ i) (h3 : i < pn P s) (k : Q (nm P s i) μ) : Ci E mBk_named [jvR ((b : Nat) : Int), jvI s, jvI i] μ Q := by
  have hn := h.n
  have hp := h.w.p h0 h1
  refine vBk_named_0 h.1 ?_
  rw [h.e14 h0 h1 h2 h3]
  exact ⟨by omega, _, rfl, k⟩
theorem sTe_size (h : CB b μ P) {x : Int} (h0 : 0 ≤ x) (h1 : x < nC P) (k : Q (bh P x - x) μ) : Ci E mTe_size [jvR ((b + 1 : Nat) : Int), jvI x] μ Q := by
  have hn := h.n
  have hc := h.w.c x h0 h1
  refine vTe_size_0 h.1 ?_
  rw [h.e6 h0 h1]
  exact ⟨by omega, _, rfl, k⟩
theorem sTe_areSame (h : CB b μ P) {x z : Int} (h0 : 0 ≤ x) (h1 : x < nC P) (h2 : 0 ≤ z) (h3 : z < nC P) (kt : sm P x z = true → Q 1 μ) (kf : sm P x z = false → Q 0 μ) : Ci E mTe_areSame [jvR ((b + 1 : Nat) : Int), jvI x, jvI z] μ Q := by
  have hn := h.n
  have hx := h.w.c x h0 h1
  have hz := h.w.c z h2 h3
  refine vTe_areSame_0 h.1 (sTe_size h h0 h1 (sTe_size h h2 h3 ⟨fun c => ?_, fun c => ⟨_, rfl, kf ?_⟩⟩))
  · have c := c.symm
    have lp : ∀ l4 : Int, 0 ≤ l4 → l4 ≤ bh P x - x → (∀ j : Int, 0 ≤ j → j < l4 → sy P (x + j) = sy P (z + j)) → K 121 E mTe_areSame 20 [some (jvR ((b + 1 : Nat) : Int)), some (jvI x), some (jvI z), some (jvI (bh P x - x)), some (jvI l4)] [] μ (fun v μ1 => ∃ r, v = some (jvI r) ∧ Q r μ1) := by
      refine up_ind (bh P x - x) _ ?_
      intro l4 ih g0 g1 g2
      refine vTe_areSame_20 h.1 ⟨fun c4 => ⟨_, rfl, kt ?_⟩, fun c4 => ⟨by omega, ?_⟩⟩
      · simp only [sm, c, decide_true, Bool.true_and]
        rw [allB_iff]
        intro j j1 j2
        exact beq_iff_eq.mpr (g2 j j1 (by omega))
      · rw [h.e5 (by omega) (by omega), h.e5 (by omega) (by omega)]
        refine ⟨fun c5 => ⟨by omega, ih (by omega) (by omega) (by omega) (fun j j1 j2 => ?_)⟩, fun c5 => ⟨_, rfl, kf ?_⟩⟩
        · by_cases hj : j = l4
          · subst hj; exact c5
          · exact g2 j j1 (by omega)
        · simp only [sm, c, decide_true, Bool.true_and]
          rw [Bool.eq_false_iff]
          intro hh
          rw [allB_iff] at hh
          exact c5 (beq_iff_eq.mp (hh l4 g0 (by omega)))
    exact lp 0 (by omega) (by omega) (fun j j1 j2 => by omega)
  · simp [sm, Ne.symm c]
theorem sAr_fill {Q0 : jMu → Prop} {fi wl : Nat} (hwd : jCt[fi]? = some (.inl (.int, wl))) (hwn : fi < 121) (hwl : wl < 2147483648) {x : Int} (k : ∀ μ1, Fr (fun i _ => i = fi) μ μ1 → (∀ j, 0 ≤ j → j < (wl : Int) → μ1 fi j = x) → Q0 μ1) : Cv E mAr_fill [jvR ((fi : Nat) : Int), jvI x] μ Q0 := by
  refine vAr_fill_0 hwd hwn hwl ?_
  have lp : ∀ l2 : Int, ∀ μ1, 0 ≤ l2 → l2 ≤ (wl : Int) → Fr (fun i _ => i = fi) μ μ1 → (∀ j, 0 ≤ j → j < l2 → μ1 fi j = x) → K 121 E mAr_fill 5 [some (jvR ((fi : Nat) : Int)), some (jvI x), some (jvI l2), some (jvI (wl : Int))] [] μ1 (fun v μ2 => v = none ∧ Q0 μ2) := by
    refine up_ind (wl : Int) _ ?_
    intro l2 ih μ1 g0 g1 g2 g3
    refine vAr_fill_5 hwd hwn hwl ⟨fun c => ⟨rfl, k μ1 g2 (fun j a b => g3 j a (by omega))⟩, fun c => ⟨by omega, ih (by omega) _ (by omega) (by omega) (g2.put rfl) (fun j a b => ?_)⟩⟩
    rw [up_if]
    split
    · rfl
    · exact g3 j a (by omega)
  exact lp 0 μ (by omega) (by omega) Fr.rf (fun j a b => by omega)
theorem sTe_freeHoles {Q0 : jMu → Prop} (hb : isB b) (k : ∀ μ1, Fr (W7 b) μ μ1 → CT b μ1 (fun _ => -1) → Q0 μ1) : Cv E mTe_freeHoles [jvR ((b + 1 : Nat) : Int)] μ Q0 :=
  vTe_freeHoles_0 hb (sAr_fill (isB_c7 hb) (isB_n 7 (by decide) hb) (by decide) (fun μ1 g1 g2 => ⟨rfl, k μ1 g1 (fun h a b => g2 h a b)⟩))
theorem sm_refl (P : jP) (x : Int) : sm P x x = true := by
  unfold sm
  rw [decide_eq_true rfl, Bool.true_and, allB_iff]
  intro k _ _
  exact beq_iff_eq.mpr rfl
theorem lTe_fits {R : (Int → Int) → Prop} {Rf : Prop} (h : CB b μ P) (p0 n0 : Int) (hp0 : 0 ≤ p0) (hp1 : p0 < nC P) (hn0 : p0 + n0 = bh P p0) (kt : ∀ θ1 μ1, Fr (W7 b) μ μ1 → CT b μ1 θ1 → okθ P θ1 → R θ1 → Q 1 μ1) (kf : ∀ μ1, Fr (W7 b) μ μ1 → Rf → Q 0 μ1) : ∀ (n a : Nat) (μ0 : jMu) (θ : Int → Int) (l2 l4 j e : Int), Fr (W7 b) μ μ0 → CT b μ0 θ → okθ P θ → bh P p0 - l4 = n → p0 ≤ l4 → l4 ≤ bh P p0 → Tc P a l4 (bh P p0) → Tc P a j e → j ≤ nC P → 0 ≤ j → (∀ θ1, mt P n θ l4 j = some θ1 → R θ1) → (mt P n θ l4 j = none → Rf) → K 121 E mTe_fits 5 [some (jvR ((b + 1 : Nat) : Int)), some (jvI p0), some (jvI l2), some (jvI j), some (jvI l4), none] [] μ0 (fun v μ2 => ∃ r, v = some (jvI r) ∧ Q r μ2) := by
  intro n
  have hnn := h.n
  induction n with
  | zero =>
    intro a μ0 θ l2 l4 j e hf hl ho hn h5 h6 t1 t2 hj hj0 r1 r2
    refine vTe_fits_5 h.1 ⟨by omega, ?_⟩
    rw [(h.fr7 hf).e6 hp0 hp1]
    exact ⟨fun c => ⟨_, rfl, kt θ μ0 hf hl ho (r1 θ rfl)⟩, fun c => by omega⟩
  | succ n ih =>
    intro a μ0 θ l2 l4 j e hf hl ho hn h5 h6 t1 t2 hj hj0 r1 r2
    have hR := h.fr7 hf
    cases a with
    | zero =>
      have t1 : l4 = bh P p0 := t1
      omega
    | succ a =>
      obtain ⟨u1, u2, u3⟩ := t1
      obtain ⟨v1, v2, v3⟩ := t2
      obtain ⟨c1, c2, c3, c4⟩ := h.w.c _ u1 u2
      obtain ⟨d1, d2, d3, d4⟩ := h.w.c _ v1 v2
      have e1 := hR.e5 u1 u2
      have e2 := hR.e5 v1 v2
      refine vTe_fits_5 h.1 ⟨by omega, ?_⟩
      rw [hR.e6 hp0 hp1, hR.e0.2.2.2.2.2.2, e1, e2]
      refine ⟨fun c => by omega, fun c => ⟨by omega, fun _ => ⟨fun q => ?_, fun q => ⟨by omega, fun q2 => ⟨by omega, ?_⟩, fun q2 => ⟨_, rfl, kf μ0 hf (r2 ?_)⟩⟩⟩, fun c => by omega⟩⟩
      · have w1 := c4 q
        have w2 := hl (sy P l4 - 100) (by omega) (by omega)
        have w3 := ho (sy P l4 - 100) (by omega) (by omega)
        rw [w1.2] at u3
        refine ⟨by omega, vTe_takes_0 h.1 ⟨by omega, ?_⟩⟩
        rw [up_eq, w2]
        refine ⟨fun w4 => ⟨by omega, ?_⟩, fun w4 => ⟨by omega, ?_⟩⟩
        · refine sTe_areSame hR (by omega) (by omega) v1 v2 (fun g => ⟨by omega, _, rfl, fun _ => ⟨by omega, ?_⟩, fun c => absurd c (by decide)⟩) (fun g => ⟨by omega, _, rfl, fun c => absurd rfl c, fun _ => ⟨_, rfl, kf μ0 hf (r2 ?_)⟩⟩)
          · rw [hR.e6 v1 v2]
            refine ih a μ0 θ l2 (l4 + 1) (bh P j) e hf hl ho (by omega) (by omega) (by omega) u3 v3 (by omega) (by omega) (fun θ1 hm => r1 θ1 ?_) (fun hm => r2 ?_)
            · simp only [mt, show ¬ sy P l4 < 100 by omega, if_false, w4, g, if_true]; exact hm
            · simp only [mt, show ¬ sy P l4 < 100 by omega, if_false, w4, g, if_true]; exact hm
          · simp [mt, show ¬ sy P l4 < 100 by omega, w4, g]
        · have hf2 : Fr (W7 b) μ (j_up μ0 (b + 7) (sy P l4 - 100) j) := hf.put rfl
          refine sTe_areSame (h.fr7 hf2) v1 v2 v1 v2 (fun g => ⟨by omega, _, rfl, fun _ => ⟨by omega, ?_⟩, fun c => absurd c (by decide)⟩) (fun g => by rw [sm_refl] at g; cases g)
          rw [(h.fr7 hf2).e6 v1 v2]
          refine ih a _ (hup θ (sy P l4 - 100) j) l2 (l4 + 1) (bh P j) e hf2 ?_ ?_ (by omega) (by omega) (by omega) u3 v3 (by omega) (by omega) (fun θ1 hm => r1 θ1 ?_) (fun hm => r2 ?_)
          · intro g g0 g1
            rw [up_if]
            unfold hup
            split
            · rfl
            · exact hl g g0 g1
          · intro g g0 g1
            unfold hup
            split
            · exact Or.inr ⟨v1, v2⟩
            · exact ho g g0 g1
          · simp only [mt, show ¬ sy P l4 < 100 by omega, if_false, w4, if_true]; exact hm
          · simp only [mt, show ¬ sy P l4 < 100 by omega, if_false, w4, if_true]; exact hm
      · have w1 := c3 (by omega)
        have w2 := d3 (by omega)
        rw [q2] at w2
        have x1 := Tc_app _ _ _ _ _ w1.2.2.2.2 u3
        have x2 := Tc_app _ _ _ _ _ w2.2.2.2.2 v3
        refine ih _ μ0 θ l2 (l4 + 1) (j + 1) e hf hl ho (by omega) (by omega) (by omega) x1 x2 (by omega) (by omega) (fun θ1 hm => r1 θ1 ?_) (fun hm => r2 ?_)
        · simp only [mt, show sy P l4 < 100 by omega, if_true, q2]; exact hm
        · simp only [mt, show sy P l4 < 100 by omega, if_true, q2]; exact hm
      · simp only [mt, show sy P l4 < 100 by omega, if_true, q2, if_false]
theorem sTe_fits {θ : Int → Int} (h : CB b μ P) (hl : CT b μ θ) (ho : okθ P θ) {p x : Int} (h0 : 0 ≤ p) (h1 : p < nC P) (h2 : 0 ≤ x) (h3 : x < nC P) (kt : ∀ θ1 μ1, mt P (ln P p) θ p x = some θ1 → Fr (W7 b) μ μ1 → CT b μ1 θ1 → okθ P θ1 → Q 1 μ1) (kf : ∀ μ1, mt P (ln P p) θ p x = none → Fr (W7 b) μ μ1 → Q 0 μ1) : Ci E mTe_fits [jvR ((b + 1 : Nat) : Int), jvI p, jvI x] μ Q := by
  have hc := h.w.c p h0 h1
  have hx := h.w.c x h2 h3
  refine vTe_fits_0 h.1 ?_
  exact lTe_fits (R := fun θ1 => mt P (ln P p) θ p x = some θ1) (Rf := mt P (ln P p) θ p x = none) h p (bh P p - p) h0 h1 (by omega) (fun θ1 μ1 g1 g2 g3 g4 => kt θ1 μ1 g4 g1 g2 g3) (fun μ1 g1 g2 => kf μ1 g2 g1) (ln P p) 1 μ θ _ p x (bh P x) Fr.rf hl ho (by unfold ln; omega) (by omega) (by omega) ⟨by omega, by omega, rfl⟩ ⟨h2, h3, rfl⟩ (by omega) h2 (fun θ1 g => g) (fun g => g)
end
