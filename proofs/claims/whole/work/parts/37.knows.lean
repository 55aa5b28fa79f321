/-! the rest of a proof; the reference knows it -/
theorem kpd_ge {P : jP} (h : WF P) {s j : Int} (h0 : 0 ≤ s) (h1 : s < nS P) (hj : s ≤ j) : kpd P (s - 1) j = kpd P s j := by
  rw [kpd_s P h1]
  have : anyB (fun k => j == fs P (nm P s k)) (pn P s) = false := by
    rw [Bool.eq_false_iff]
    intro hh
    obtain ⟨k, k0, k1, k2⟩ := anyB_iff.mp hh
    have h2 := h.m s k h0 h1 k0 k1
    have h3 := fs_r P h2.1
    have h4 := beq_iff_eq.mp k2
    omega
  simp only [this, Bool.and_false, Bool.or_false]
theorem kpd_down {P : jP} (h : WF P) (j : Int) : ∀ (n : Nat) (s : Int), s + 1 - n ≥ 0 → s < nS P → s ≤ j → kpd P (s - n) j = kpd P s j
  | 0, s, _, _, _ => by rw [show s - ((0 : Nat) : Int) = s by omega]
  | n + 1, s, h0, h1, hj => by
    rw [show s - ((n + 1 : Nat) : Int) = (s - 1) - n by omega, kpd_down h j n (s - 1) (by omega) (by omega) (by omega)]
    exact kpd_ge h (by omega) h1 hj
theorem kp_at {P : jP} (h : WF P) {j : Int} (h0 : 0 ≤ j) (h1 : j < nS P) : kp P j = kpd P j j := by
  have := kpd_down h j (j + 1).toNat j (by omega) h1 (by omega)
  rw [show j - (((j + 1).toNat : Nat) : Int) = -1 by omega] at this
  exact this
theorem kpd_up {P : jP} {j : Int} : ∀ (n : Nat) (s : Int), s < nS P → kpd P s j = true → kpd P (s - n) j = true
  | 0, s, _, hk => by rw [show s - ((0 : Nat) : Int) = s by omega]; exact hk
  | n + 1, s, h1, hk => by
    rw [show s - ((n + 1 : Nat) : Int) = (s - 1) - n by omega]
    refine kpd_up n (s - 1) (by omega) ?_
    rw [kpd_s P h1]
    simp only [hk, Bool.true_or]
theorem kp_goal {P : jP} (hn : 0 < nS P) : kp P (fs P (gl P)) = true := by
  have := kpd_up (P := P) (j := fs P (gl P)) (nS P).toNat (nS P - 1) (by omega) (by rw [kpd_0]; exact beq_iff_eq.mpr rfl)
  rw [show nS P - 1 - (((nS P).toNat : Nat) : Int) = -1 by omega] at this
  exact this
theorem kp_names {P : jP} (h : WF P) {s k : Int} (h0 : 0 ≤ s) (h1 : s < nS P) (hk : kp P s = true) (k0 : 0 ≤ k) (k1 : k < pn P s) : kp P (fs P (nm P s k)) = true := by
  have := kpd_up (P := P) (j := fs P (nm P s k)) s.toNat (s - 1) (by omega) (by
    rw [kpd_s P h1, ← kp_at h h0 h1, hk]
    simp only [Bool.true_and, Bool.or_eq_true]
    exact Or.inr (anyB_iff.mpr ⟨k, k0, k1, beq_iff_eq.mpr rfl⟩))
  rw [show s - 1 - ((s.toNat : Nat) : Int) = -1 by omega] at this
  exact this
theorem kpd_le {P : jP} (h : WF P) {j : Int} : ∀ (n : Nat) (s : Int), nS P - 1 - s = n → -1 ≤ s → 0 < nS P → kpd P s j = true → 0 ≤ j ∧ j ≤ fs P (gl P)
  | 0, s, hs, h0, hn, hk => by
    rw [show s = nS P - 1 by omega, kpd_0] at hk
    have := beq_iff_eq.mp hk
    have hg := h.g.1 hn
    have := fs_r P hg.1
    omega
  | n + 1, s, hs, h0, hn, hk => by
    rw [show s = (s + 1) - 1 by omega, kpd_s P (by omega)] at hk
    rw [Bool.or_eq_true, Bool.and_eq_true] at hk
    rcases hk with hk | ⟨hk, hk2⟩
    · exact kpd_le h n (s + 1) (by omega) (by omega) hn hk
    · have h1 := kpd_le h n (s + 1) (by omega) (by omega) hn hk
      obtain ⟨k, k0, k1, k2⟩ := anyB_iff.mp hk2
      have h2 := h.m (s + 1) k (by omega) (by omega) k0 k1
      have h3 := fs_r P h2.1
      have h4 := beq_iff_eq.mp k2
      omega
theorem kp_le {P : jP} (h : WF P) (hn : 0 < nS P) {j : Int} (hk : kp P j = true) : 0 ≤ j ∧ j ≤ fs P (gl P) := kpd_le h (nS P).toNat (-1) (by omega) (by omega) hn hk
theorem cnt_ex {p : Int → Bool} {k : Int} : ∀ n : Nat, 0 ≤ k → k < cnt p n → ∃ j : Int, 0 ≤ j ∧ j < n ∧ p j = true ∧ cnt p j = k
  | 0, h0, h => by
    have : cnt p ((0 : Nat) : Int) = 0 := rfl
    omega
  | n + 1, h0, h => by
    have hs := cnt_s p (k := (n : Int)) (by omega)
    rw [show ((n + 1 : Nat) : Int) = (n : Int) + 1 by omega] at h
    by_cases hk : k < cnt p n
    · obtain ⟨j, j0, j1, j2, j3⟩ := cnt_ex n h0 hk
      exact ⟨j, j0, by omega, j2, j3⟩
    · cases hp : p n with
      | false => rw [hp, b2i_f] at hs; omega
      | true =>
        rw [hp, b2i_t] at hs
        exact ⟨n, by omega, by omega, hp, by omega⟩
def nu (P : jP) (s : Int) : Int := if kp P s = true then cnt (kp P) s else -1
def rn (P : jP) : Int := cnt (kp P) (nS P)
def rs (P : jP) (k : Int) : Int := ff (fun j => kp P j && decide (cnt (kp P) j = k)) (nS P)
def le (P : jP) (k i : Int) : Int := nu P (fs P (nm P (rs P k) i))
def rp (P : jP) (k : Int) : Int := pn P (rs P k)
theorem rn_r {P : jP} (h : WF P) : 0 ≤ rn P ∧ rn P ≤ nS P ∧ rn P ≤ 40 := by
  have hn := h.n
  have := cnt_le (kp P) (k := nS P) (by omega)
  unfold rn
  omega
theorem rs_c {P : jP} (h : WF P) {k : Int} (h0 : 0 ≤ k) (h1 : k < rn P) : 0 ≤ rs P k ∧ rs P k < nS P ∧ kp P (rs P k) = true ∧ cnt (kp P) (rs P k) = k := by
  have hn := h.n
  have hex := cnt_ex (p := kp P) (k := k) (nS P).toNat h0 (by rw [show (((nS P).toNat : Nat) : Int) = nS P by omega]; exact h1)
  obtain ⟨j, j0, j1, j2, j3⟩ := hex
  rcases ff_cases (fun j => kp P j && decide (cnt (kp P) j = k)) (nS P) with ⟨g1, g2⟩ | ⟨g1, g2, g3, g4⟩
  · have := g2 j j0 (by omega)
    simp [j2, j3] at this
  · rw [Bool.and_eq_true, decide_eq_true_iff] at g3
    exact ⟨g1, g2, g3.1, g3.2⟩
theorem rs_nu {P : jP} {s : Int} (h0 : 0 ≤ s) (h1 : s < nS P) (hk : kp P s = true) : rs P (cnt (kp P) s) = s := by
  refine ff_eq h0 h1 (by simp [hk]) (fun j j0 j1 => ?_)
  rw [Bool.eq_false_iff]
  intro hh
  rw [Bool.and_eq_true, decide_eq_true_iff] at hh
  have := cnt_lt j0 j1 hh.1
  omega
theorem le_r {P : jP} (h : WF P) {k i : Int} (h0 : 0 ≤ k) (h1 : k < rn P) (h2 : 0 ≤ i) (h3 : i < rp P k) : 0 ≤ le P k i ∧ le P k i < k := by
  obtain ⟨a, b, c, d⟩ := rs_c h h0 h1
  have hm := h.m _ i a b h2 h3
  have hf := fs_r P hm.1
  have hkp := kp_names h a b c h2 h3
  unfold le nu
  rw [if_pos hkp]
  have h4 := cnt_lt hf.1 (show fs P (nm P (rs P k) i) < rs P k by omega) hkp
  have h5 := cnt_le (kp P) hf.1
  omega
theorem rp_r {P : jP} (h : WF P) {k : Int} (h0 : 0 ≤ k) (h1 : k < rn P) : 0 ≤ rp P k ∧ rp P k ≤ 3 := by
  obtain ⟨a, b, c, d⟩ := rs_c h h0 h1
  exact h.p a b
/-- the reference knows the rest -/
def RK (μ : jMu) (P : jP) : Prop := RR μ P ∧ (∀ s, 0 ≤ s → s < nS P → μ 103 s = fs P s ∧ μ 104 s = bs (bl P s) 40 ∧ μ 106 s = nu P s) ∧ (∀ k, 0 ≤ k → k < rn P → μ 105 k = rs P k) ∧ μ 76 44 = rn P
def NDr (i : Nat) (k : Int) : Prop := (i < 87 ∨ 98 < i) ∧ ¬ (i = 76 ∧ k = 33)
def WK (i : Nat) (k : Int) : Prop := (103 ≤ i ∧ i ≤ 106) ∨ (i = 76 ∧ k = 44)
theorem RR.frN {μ μ1 : jMu} {P : jP} (h : RR μ P) (hf : Fr NDr μ μ1) : RR μ1 P := by
  obtain ⟨w, ⟨a1, a2, a3, a4, a5, a6⟩, b, c, d, e, f, g, i, j⟩ := h
  have hn : ∀ (i : Nat) (k : Int), 87 ≤ i → i ≤ 98 → μ1 i k = μ i k := fun i k h1 h2 => hf i k (by unfold NDr; omega)
  have h33 : μ1 76 33 = μ 76 33 := hf 76 33 (by unfold NDr; omega)
  refine ⟨w, ⟨?_, ?_, ?_, ?_, ?_, ?_⟩, ?_, ?_, ?_, ?_, ?_, ?_, ?_, ?_⟩
  · rw [hn _ _ (by omega) (by omega)]; exact a1
  · rw [hn _ _ (by omega) (by omega)]; exact a2
  · rw [hn _ _ (by omega) (by omega)]; exact a3
  · rw [hn _ _ (by omega) (by omega)]; exact a4
  · rw [hn _ _ (by omega) (by omega)]; exact a5
  · rw [h33]; exact a6
  · intro r h1 h2; rw [hn _ _ (by omega) (by omega)]; exact b r h1 h2
  · intro r h1 h2; rw [hn _ _ (by omega) (by omega)]; exact c r h1 h2
  · intro r k h1 h2 h3 h4; rw [hn _ _ (by omega) (by omega)]; exact d r k h1 h2 h3 h4
  · intro r h1 h2; rw [hn _ _ (by omega) (by omega)]; exact e r h1 h2
  · intro r h1 h2; rw [hn _ _ (by omega) (by omega)]; exact f r h1 h2
  · intro r h1; rw [hn _ _ (by omega) (by omega), hn _ _ (by omega) (by omega)]; exact g r h1
  · intro r h1 h2; rw [hn _ _ (by omega) (by omega), hn _ _ (by omega) (by omega), hn _ _ (by omega) (by omega)]; exact i r h1 h2
  · intro r k h1 h2 h3 h4; rw [hn _ _ (by omega) (by omega)]; exact j r k h1 h2 h3 h4
theorem RR.frK {μ μ1 : jMu} {P : jP} (h : RR μ P) (hf : Fr WK μ μ1) : RR μ1 P := h.frN (hf.mono (fun i k hw => by unfold WK at hw; unfold NDr; omega))
theorem RK.fr {μ μ1 : jMu} {P : jP} (h : RK μ P) (hf : Fr SR μ μ1) : RK μ1 P := by
  obtain ⟨a, b, c, d⟩ := h
  refine ⟨a.fr hf, fun s h0 h1 => ?_, fun k h0 h1 => ?_, ?_⟩
  · rw [hf 103 s (by unfold SR; omega), hf 104 s (by unfold SR; omega), hf 106 s (by unfold SR; omega)]; exact b s h0 h1
  · rw [hf 105 k (by unfold SR; omega)]; exact c k h0 h1
  · rw [hf 76 44 (by unfold SR; omega)]; exact d
section
variable {E : jE} {μ : jMu} {P : jP} {Q0 : jMu → Prop}
theorem lM_knows3 (h : RR μ P) (k : ∀ μ1, Fr WK μ μ1 → RK μ1 P → Q0 μ1) : ∀ (l3 : Int) (μ0 : jMu), 0 ≤ l3 → l3 ≤ nS P → Fr WK μ μ0 → (∀ s, 0 ≤ s → s < nS P → μ0 103 s = fs P s ∧ μ0 104 s = bs (bl P s) 40) → (∀ s, 0 ≤ s → s < l3 → μ0 106 s = nu P s) → (∀ s, l3 ≤ s → s < nS P → μ0 106 s = -1) → (∀ s, 0 ≤ s → s < l3 → kp P s = true → μ0 105 (cnt (kp P) s) = s) → μ0 76 44 = cnt (kp P) l3 → K 121 E mM_knows 204 [some (jvR 76), some (jvL (bs (kp P) 40)), none, some (jvI l3), none] [] μ0 (fun v μ1 => v = none ∧ Q0 μ1) := by
  have hn := h.n
  refine up_ind (nS P) _ ?_
  intro l3 ih μ0 g0 g1 g2 g3 g4 g5 g6 g7
  have hR := h.frK g2
  have hcn := cnt_le (kp P) g0
  have hcs := cnt_s (kp P) g0
  refine vM_knows_204 (sM_steps hR ⟨fun c => ⟨rfl, k μ0 g2 ⟨hR, fun s a b => ?_, fun j a b => ?_, ?_⟩⟩, fun c => ?_⟩)
  · exact ⟨(g3 s a b).1, (g3 s a b).2, g4 s a (by omega)⟩
  · obtain ⟨r1, r2, r3, r4⟩ := rs_c h.1 a b
    have := g6 _ r1 (by omega) r3
    rw [r4] at this
    exact this
  · rw [g7, show l3 = nS P by omega]
    rfl
  · rw [bs_in01 g0 (by omega)]
    refine ⟨fun c2 => ?_, fun c2 => ?_⟩
    · have hk : kp P l3 = true := by
        cases hp : kp P l3
        · rw [hp] at c2; exact absurd rfl c2
        · rfl
      rw [hk, b2i_t] at hcs
      rw [g7]
      refine ⟨by omega, ih (by omega) _ (by omega) (by omega) (((g2.put (Or.inl (by omega))).put (Or.inl (by omega))).put (Or.inr ⟨rfl, rfl⟩)) (fun s a b => ?_) (fun s a b => ?_) (fun s a b => ?_) (fun s a b d => ?_) ?_⟩
      · rw [up_ne (by decide), up_ne (by decide), up_ne (by decide), up_ne (by decide), up_ne (by decide), up_ne (by decide)]
        exact g3 s a b
      · rw [up_ne (by decide), up_if]
        split
        · rename_i e
          subst e
          unfold nu
          rw [if_pos hk]
        · rw [up_ne (by decide)]
          exact g4 s a (by omega)
      · rw [up_ne (by decide), up_nk (by omega), up_ne (by decide)]
        exact g5 s (by omega) b
      · rw [up_ne (by decide), up_ne (by decide), up_if]
        by_cases hs : s = l3
        · subst hs
          rw [if_pos rfl]
        · have := cnt_lt (p := kp P) a (show s < l3 by omega) d
          rw [if_neg (by omega)]
          exact g6 s a (by omega) d
      · rw [up_eq]
        omega
    · have hk : kp P l3 = false := by
        cases hp : kp P l3
        · rfl
        · rw [hp] at c2; cases c2
      rw [hk, b2i_f] at hcs
      refine ⟨by omega, ih (by omega) _ (by omega) (by omega) g2 g3 (fun s a b => ?_) (fun s a b => g5 s (by omega) b) (fun s a b d => ?_) (by omega)⟩
      · by_cases hs : s = l3
        · subst hs
          rw [g5 s (by omega) (by omega)]
          unfold nu
          rw [if_neg (by rw [hk]; decide)]
        · exact g4 s a (by omega)
      · by_cases hs : s = l3
        · subst hs
          rw [hk] at d
          cases d
        · exact g6 s a (by omega) d
theorem lM_knows2 (h : RR μ P) (k : ∀ μ1, Fr WK μ μ1 → RK μ1 P → Q0 μ1) (μ0 : jMu) (g2 : Fr WK μ μ0) (g3 : ∀ s, 0 ≤ s → s < nS P → μ0 103 s = fs P s ∧ μ0 104 s = bs (bl P s) 40) (g5 : ∀ s, 0 ≤ s → s < nS P → μ0 106 s = -1) (g7 : μ0 76 44 = 0) : ∀ (l3 : Int), l3 < nS P → -1 ≤ l3 → K 121 E mM_knows 146 [some (jvR 76), some (jvL (bs (kpd P l3) 40)), none, some (jvI l3), none] [] μ0 (fun v μ1 => v = none ∧ Q0 μ1) := by
  have hn := h.n
  have hR := h.frK g2
  refine down_ind _ ?_
  intro l3 ih g0 g1
  refine vM_knows_146 ⟨fun c => ?_, fun c => ?_⟩
  · have : l3 = -1 := by omega
    subst this
    exact lM_knows3 h k 0 μ0 (by omega) (by omega) g2 g3 (fun s a b => by omega) (fun s a b => g5 s a b) (fun s a b => by omega) g7
  · have hp := h.1.p (show 0 ≤ l3 by omega) g0
    have lp : ∀ l4 : Int, 0 ≤ l4 → l4 ≤ pn P l3 → K 121 E mM_knows 153 [some (jvR 76), some (jvL (bs (fun j => kpd P l3 j || (kpd P l3 l3 && anyB (fun k => j == fs P (nm P l3 k)) l4)) 40)), none, some (jvI l3), some (jvI l4)] [] μ0 (fun v μ1 => v = none ∧ Q0 μ1) := by
      refine up_ind (pn P l3) _ ?_
      intro l4 ih4 f0 f1
      refine vM_knows_153 (sM_namesMany hR (by omega) g0 ⟨fun c4 => ⟨by omega, ?_⟩, fun c4 => ?_⟩)
      · rw [show l4 = pn P l3 by omega, ← kpd_s P g0]
        exact ih (by omega) (by omega) (by omega)
      · have hno : anyB (fun k => l3 == fs P (nm P l3 k)) l4 = false := by
          rw [Bool.eq_false_iff]
          intro hh
          obtain ⟨k, k0, k1, k2⟩ := anyB_iff.mp hh
          have h2 := h.1.m l3 k (by omega) g0 k0 (by omega)
          have h3 := fs_r P h2.1
          have h4 := beq_iff_eq.mp k2
          omega
        rw [bs_in01 (by omega) (by omega)]
        simp only [hno, Bool.and_false, Bool.or_false]
        refine ⟨fun c5 => ⟨by omega, ?_⟩, fun c5 => ?_⟩
        · have hk : kpd P l3 l3 = false := by
            cases hp : kpd P l3 l3
            · rfl
            · rw [hp] at c5; exact absurd rfl c5
          have := ih4 (by omega) (by omega) (by omega)
          simp only [hk, Bool.false_and, Bool.or_false] at this ⊢
          exact this
        · have hk : kpd P l3 l3 = true := by
            cases hp : kpd P l3 l3
            · rw [hp] at c5; cases c5
            · rfl
          have hm := h.1.m l3 l4 (by omega) g0 f0 (by omega)
          have hfs := fs_r P hm.1
          refine sM_namedBy hR (by omega) g0 f0 (by omega) ⟨by omega, ?_⟩
          rw [(g3 _ hm.1 (by omega)).1, bs_bit hfs.1 (show fs P (nm P l3 l4) < 40 by omega) (by omega), bs_or (by omega)]
          have := ih4 (by omega) (by omega) (by omega)
          rw [show (fun j => kpd P l3 j || (kpd P l3 l3 && anyB (fun k => j == fs P (nm P l3 k)) (l4 + 1))) = (fun j => (kpd P l3 j || (kpd P l3 l3 && anyB (fun k => j == fs P (nm P l3 k)) l4)) || j == fs P (nm P l3 l4)) from funext (fun j => by rw [anyB_s f0, hk, Bool.true_and, Bool.true_and, Bool.or_assoc])] at this
          exact this
    have := lp 0 (by omega) (by omega)
    rw [show (fun j => kpd P l3 j || (kpd P l3 l3 && anyB (fun k => j == fs P (nm P l3 k)) 0)) = kpd P l3 from funext (fun j => by rw [anyB_0 (by omega), Bool.and_false, Bool.or_false])] at this
    exact this
theorem sM_knows (h : RR μ P) (k : ∀ μ1, Fr WK μ μ1 → RK μ1 P → Q0 μ1) : Cv E mM_knows [jvR 76] μ Q0 := by
  have hn := h.n
  refine vM_knows_0 ?_
  have lp : ∀ (l1 : Int) (μ0 : jMu), 0 ≤ l1 → l1 ≤ nS P → Fr WK μ μ0 → (∀ s, 0 ≤ s → s < l1 → μ0 103 s = fs P s ∧ μ0 104 s = bs (bl P s) 40 ∧ μ0 106 s = -1) → K 121 E mM_knows 2 [some (jvR 76), some (jvI l1), none, none, none] [] μ0 (fun v μ1 => v = none ∧ Q0 μ1) := by
    refine up_ind (nS P) _ ?_
    intro l1 ih μ0 g0 g1 g2 g3
    have hR := h.frK g2
    refine vM_knows_2 (sM_steps hR ⟨fun c => ?_, fun c => ?_⟩)
    · have f2 : Fr WK μ (j_up μ0 76 44 0) := g2.put (Or.inr ⟨rfl, rfl⟩)
      have hR2 := h.frK f2
      refine sM_steps hR2 ⟨fun c2 => ?_, fun c2 => ⟨rfl, k _ f2 ⟨hR2, fun s a b => by omega, fun j a b => ?_, ?_⟩⟩⟩
      · have hg := h.1.g.1 (by omega)
        have hfs := fs_r P hg.1
        rw [hR2.e0.2.2.2.2.2 (by omega)]
        refine ⟨hg.elim (fun a b => ⟨a, by omega⟩), sM_steps hR2 ⟨by omega, ?_⟩⟩
        rw [up_ne (by decide), (g3 _ hg.1 (by omega)).1, bs_bit hfs.1 (show fs P (gl P) < 40 by omega) (by omega)]
        have := lM_knows2 (E := E) h k _ f2 (fun s a b => by rw [up_ne (by decide), up_ne (by decide)]; exact ⟨(g3 s a (by omega)).1, (g3 s a (by omega)).2.1⟩) (fun s a b => by rw [up_ne (by decide)]; exact (g3 s a (by omega)).2.2) up_eq (nS P - 1) (by omega) (by omega)
        rw [kpd_0] at this
        exact this
      · have : rn P = 0 := by
          unfold rn
          rw [c2]
          rfl
        omega
      · rw [up_eq]
        unfold rn
        rw [c2]
        rfl
    · have lp2 : ∀ l2 : Int, 0 ≤ l2 → l2 ≤ l1 → (∀ j, 0 ≤ j → j < l2 → sm P (tf P (48 + j)) (tf P (48 + l1)) = false) → K 121 E mM_knows 12 [some (jvR 76), some (jvI l1), some (jvI l2), none, none] [] μ0 (fun v μ1 => v = none ∧ Q0 μ1) := by
        refine up_ind (l1 + 1) _ ?_
        intro l2 ih2 f0 f1 f2
        have t1 := h.1.t (inW_s (P := P) g0 (by omega))
        have t2 := h.1.t (inW_s (P := P) f0 (by omega))
        refine vM_knows_12 ⟨by omega, sM_fromOf hR (inW_s f0 (by omega)) ⟨by omega, sM_fromOf hR (inW_s g0 (by omega)) ?_⟩⟩
        refine sM_areSame hR rfl rfl t2.1 t2.2.1 t1.1 t1.2.1 (fun e => ⟨fun _ => ⟨by omega, ?_⟩, fun c => absurd c (by decide)⟩) (fun e => ⟨fun c => absurd rfl c, fun _ => ⟨by omega, ?_⟩⟩)
        · have hfs : fs P l1 = l2 := fs_eq f0 f1 e f2
          have hp := h.1.p g0 (show l1 < nS P by omega)
          have lp3 : ∀ (l3 : Int) (μ3 : jMu), 0 ≤ l3 → l3 ≤ pn P l1 → Fr WK μ μ3 → (∀ s, 0 ≤ s → s < l1 → μ3 103 s = fs P s ∧ μ3 104 s = bs (bl P s) 40 ∧ μ3 106 s = -1) → μ3 103 l1 = l2 → μ3 104 l1 = bs (fun j => anyB (fun k => j == nm P l1 k || bl P (nm P l1 k) j) l3) 40 → K 121 E mM_knows 57 [some (jvR 76), some (jvI l1), some (jvI l2), some (jvI l3), none] [] μ3 (fun v μ1 => v = none ∧ Q0 μ1) := by
            refine up_ind (pn P l1) _ ?_
            intro l3 ih3 μ3 d0 d1 d2 d3 d4 d5
            have hR3 := h.frK d2
            refine vM_knows_57 (sM_namesMany hR3 g0 (by omega) ⟨fun c3 => ⟨by omega, ?_⟩, fun c3 => ⟨by omega, ?_⟩⟩)
            · refine ih (by omega) _ (by omega) (by omega) (d2.put (Or.inl (by omega))) (fun s a b => ?_)
              rw [up_ne (by decide), up_ne (by decide), up_if]
              by_cases hs : s = l1
              · subst hs
                rw [if_pos rfl, d4, d5, hfs, bl_eq h.1 g0 (by omega), show l3 = pn P s by omega]
                exact ⟨rfl, rfl, rfl⟩
              · rw [if_neg hs]
                exact d3 s a (by omega)
            · have hm := h.1.m l1 l3 g0 (by omega) d0 (by omega)
              refine sM_namedBy hR3 g0 (by omega) d0 (by omega) (sM_namedBy hR3 g0 (by omega) d0 (by omega) ⟨by omega, ?_⟩)
              refine ih3 (by omega) _ (by omega) (by omega) (d2.put (Or.inl (by omega))) (fun s a b => ?_) ?_ ?_
              · rw [up_ne (by decide), up_nk (by omega), up_ne (by decide)]
                exact d3 s a b
              · rw [up_ne (by decide)]
                exact d4
              · rw [up_eq, d5, (d3 _ hm.1 hm.2).2.1, bs_bit hm.1 (show nm P l1 l3 < 40 by omega) (by omega), bs_or (by omega), bs_or (by omega)]
                refine bs_congr (fun j _ _ => ?_)
                rw [anyB_s d0]
          refine lp3 0 _ (by omega) (by omega) ((g2.put (Or.inl (by omega))).put (Or.inl (by omega))) (fun s a b => ?_) ?_ ?_
          · rw [up_ne (by decide), up_nk (by omega), up_nk (by omega), up_ne (by decide), up_ne (by decide), up_ne (by decide)]
            exact g3 s a b
          · rw [up_ne (by decide), up_eq]
          · rw [up_eq, bs_0]
            intro j _ _
            exact anyB_0 (by omega)
        · have hlt : l2 < l1 := by
            rcases Int.lt_or_eq_of_le f1 with hh | hh
            · exact hh
            · subst hh
              rw [sm_refl] at e
              cases e
          refine ih2 (by omega) (by omega) (by omega) (fun j a b => ?_)
          by_cases hj : j = l2
          · subst hj; exact e
          · exact f2 j a (by omega)
      exact lp2 0 (by omega) (by omega) (fun j a b => by omega)
  exact lp 0 μ (by omega) (by omega) Fr.rf (fun s a b => by omega)
end
