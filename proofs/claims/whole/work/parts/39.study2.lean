/-! the class studies a proof: follow, proved without, the rest -/
def Wfo (w : Int) (i : Nat) (k : Int) : Prop := i = 51 ∨ (i = 50 ∧ k = w) ∨ (i = 49 ∧ k = w)
theorem Wfo.nb {w : Int} : ∀ i k, Wfo w i k → NB i k := by
  intro i k h
  unfold Wfo at h
  unfold NB
  omega
section
variable {E : jE} {μ : jMu} {P : jP} {b : Nat}
theorem sFa_follow {Q0 : jMu → Prop} (h : CB b μ P) (hf : μ 45 7 = ((b : Nat) : Int)) {w : Int} (h0 : 0 ≤ w) (h1 : w < nS P) {q : Int → Int → Bool} (e49 : ∀ s, 0 ≤ s → s < w → μ 49 s = dp P s) (e50 : ∀ s, 0 ≤ s → s < w → μ 50 s = bs (bl P s) 40) (e51 : ∀ s, 0 ≤ s → s < w → μ 51 s = bs (q s) 40)
    (k : ∀ μ1, Fr (Wfo w) μ μ1 → μ1 49 w = dp P w → μ1 50 w = bs (bl P w) 40 → μ1 51 w = 0 → (∀ s, 0 ≤ s → s < w → μ1 51 s = bs (fun j => q s j || (j == w && nr P s w)) 40) → Q0 μ1) : Cv E mFa_follow [jvR 45, jvI w] μ Q0 := by
  have hn := h.n
  have hp := h.w.p h0 h1
  have hd := dp_r h.w
  refine vFa_follow_0 ⟨by omega, ?_⟩
  have lp : ∀ (l2 : Int) (μ0 : jMu), 0 ≤ l2 → l2 ≤ pn P w → Fr (Wfo w) μ μ0 → μ0 49 w = dpf P (dp P) w l2.toNat → μ0 50 w = bs (fun j => anyB (fun k => j == nm P w k || bl P (nm P w k) j) l2) 40 → μ0 51 w = 0 → (∀ s, 0 ≤ s → s < w → μ0 51 s = bs (fun j => q s j || (j == w && anyB (fun k => nm P w k == s) l2)) 40) → K 121 E mFa_follow 23 [some (jvR 45), some (jvI w), some (jvI l2), none] [] μ0 (fun v μ1 => v = none ∧ Q0 μ1) := by
    refine up_ind (pn P w) _ ?_
    intro l2 ih μ0 g0 g1 g2 g3 g4 g5 g6
    have hR := h.fr (g2.mono Wfo.nb)
    have h45 : μ0 45 7 = ((b : Nat) : Int) := by rw [g2 45 7 (by unfold Wfo; omega)]; exact hf
    refine vFa_follow_23 h.1 ⟨h45, sBk_nameCount hR h0 h1 ⟨fun c => ⟨rfl, ?_⟩, fun c => ⟨h45, ?_⟩⟩⟩
    · have hl : l2 = pn P w := by omega
      subst hl
      refine k μ0 g2 ?_ ?_ g5 g6
      · rw [g3, ← dp_eq h.w h0 h1]
      · rw [g4, ← bl_eq h.w h0 h1]
    · have hm := h.w.m w l2 h0 h1 g0 (by omega)
      have hdn := hd (nm P w l2).toNat (nm P w l2) (by omega) hm.1 (by omega)
      refine sBk_named hR h0 h1 g0 (by omega) ⟨by omega, sX_bit hm.1 (by omega) ⟨by omega, sX_bit h0 (by omega) ?_⟩⟩
      have r49 : μ0 49 (nm P w l2) = dp P (nm P w l2) := by rw [g2 49 _ (by unfold Wfo; omega)]; exact e49 _ hm.1 hm.2
      have r50 : μ0 50 (nm P w l2) = bs (bl P (nm P w l2)) 40 := by rw [g2 50 _ (by unfold Wfo; omega)]; exact e50 _ hm.1 hm.2
      simp only [up_ne (show (49 : Nat) ≠ 50 by decide), r49, r50]
      refine ⟨by omega, ?_⟩
      rw [g4, g6 _ hm.1 hm.2, bs_or (by omega), bs_or (by omega), bs_or (by omega)]
      refine ih (by omega) _ (by omega) (by omega) (((g2.put (Or.inr (Or.inl ⟨rfl, rfl⟩))).put (Or.inl rfl)).put (Or.inr (Or.inr ⟨rfl, rfl⟩))) ?_ ?_ ?_ (fun s a b => ?_)
      · rw [up_eq, g3, show (l2 + 1).toNat = l2.toNat + 1 by omega]
        show _ = if dpf P (dp P) w l2.toNat < dp P (nm P w ((l2.toNat : Nat) : Int)) + 1 then dp P (nm P w ((l2.toNat : Nat) : Int)) + 1 else dpf P (dp P) w l2.toNat
        rw [show ((l2.toNat : Nat) : Int) = l2 by omega]
      · rw [up_ne (by decide), up_ne (by decide), up_eq]
        refine bs_congr (fun j _ _ => ?_)
        rw [anyB_s g0]
      · rw [up_ne (by decide), up_nk (by omega), up_ne (by decide)]
        exact g5
      · rw [up_ne (by decide), up_if]
        by_cases hs : s = nm P w l2
        · subst hs
          rw [if_pos rfl]
          refine bs_congr (fun j _ _ => ?_)
          rw [anyB_s g0, beq_self_eq_true]
          cases q (nm P w l2) j <;> cases j == w <;> cases anyB (fun k => nm P w k == nm P w l2) l2 <;> rfl
        · rw [if_neg hs, up_ne (by decide), g6 s a b]
          refine bs_congr (fun j _ _ => ?_)
          rw [anyB_s g0, beq_eq_false_iff_ne.mpr (Ne.symm hs), Bool.or_false]
  refine lp 0 _ (by omega) (by omega) (((Fr.rf.put (Or.inr (Or.inl ⟨rfl, rfl⟩))).put (Or.inl rfl)).put (Or.inr (Or.inr ⟨rfl, rfl⟩))) up_eq ?_ ?_ (fun s a b => ?_)
  · rw [up_ne (by decide), up_ne (by decide), up_eq, bs_0]
    intro j _ _
    exact anyB_0 (by omega)
  · rw [up_ne (by decide), up_eq]
  · rw [up_ne (by decide), up_nk (by omega), up_ne (by decide), e51 s a b]
    refine bs_congr (fun j _ _ => ?_)
    rw [anyB_0 (by omega), Bool.and_false, Bool.or_false]
theorem sFa_isProvedWithout {Q : Int → jMu → Prop} (h : CB b μ P) (hf : μ 45 7 = ((b : Nat) : Int)) (e46 : ∀ s, 0 ≤ s → s < nS P → μ 46 s = fs P s) (hn0 : 0 < nS P) {out : Int} (k : Q (b2i (pw P out)) μ) : Ci E mFa_isProvedWithout [jvR 45, jvI out] μ Q := by
  have hn := h.n
  have hg := h.w.g.1 hn0
  have hfg := fs_r P hg.1
  refine vFa_isProvedWithout_0 ?_
  have lp : ∀ (l4 : Int), 0 ≤ l4 → l4 ≤ nS P → K 121 E mFa_isProvedWithout 5 [some (jvR 45), some (jvI out), some (jvL (bs (pv P out l4) 40)), none, some (jvI l4), none, none] [] μ (fun v μ1 => ∃ r, v = some (jvI r) ∧ Q r μ1) := by
    refine up_ind (nS P) _ ?_
    intro l4 ih g0 g1
    refine vFa_isProvedWithout_5 h.1 ⟨hf, ?_⟩
    rw [h.e0.2.1, h.e0.2.2.2.1]
    refine ⟨fun c => ⟨⟨hf, by omega⟩, ?_⟩, fun c => ?_⟩
    · rw [e46 _ hg.1 hg.2]
      have hl : l4 = nS P := by omega
      subst hl
      refine sX_isIn rfl hfg.1 (by omega) (fun hh => ⟨by omega, _, rfl, ?_⟩) (fun hh => ⟨by omega, _, rfl, ?_⟩)
      · rw [show pw P out = true from hh] at k; exact k
      · rw [show pw P out = false from hh] at k; exact k
    · have hp := h.w.p g0 (by omega)
      have lp2 : ∀ (l6 l5 : Int), 0 ≤ l6 → l6 ≤ pn P l4 → l5 = b2i (decide (l4 ≠ out) && allB (fun k => pv P out l4 (fs P (nm P l4 k))) l6) → K 121 E mFa_isProvedWithout 33 [some (jvR 45), some (jvI out), some (jvL (bs (pv P out l4) 40)), none, some (jvI l4), some (jvI l5), some (jvI l6)] [] μ (fun v μ1 => ∃ r, v = some (jvI r) ∧ Q r μ1) := by
        refine up_ind (pn P l4) _ ?_
        intro l6 ih6 l5 f0 f1 f2
        refine vFa_isProvedWithout_33 h.1 ⟨hf, sBk_nameCount h g0 (by omega) ⟨fun c6 => ⟨fun c5 => ⟨by omega, ?_⟩, fun c5 => ⟨by omega, ?_⟩⟩, fun c6 => ⟨fun c5 => ⟨by omega, ih6 (by omega) _ (by omega) (by omega) ?_⟩, fun c5 => ⟨hf, ?_⟩⟩⟩⟩
        · have := ih (by omega) (by omega) (by omega)
          rw [pv_s P out g0, ← show l6 = pn P l4 by omega, b2i_b0 (f2.symm.trans c5)] at this
          simp only [Bool.false_and, Bool.or_false] at this
          exact this
        · rw [e46 l4 g0 (by omega)]
          have hfl := fs_r P g0
          refine sX_bit hfl.1 (by omega) ⟨by omega, ?_⟩
          rw [bs_or (by omega)]
          have := ih (by omega) (by omega) (by omega)
          rw [pv_s P out g0, ← show l6 = pn P l4 by omega, b2i_b (fun e => c5 (f2.trans e))] at this
          simp only [Bool.true_and] at this
          exact this
        · rw [allB_s f0, ← Bool.and_assoc, b2i_b0 (f2.symm.trans c5), Bool.false_and]
          rfl
        · have hm := h.w.m l4 l6 g0 (by omega) f0 (by omega)
          have hfm := fs_r P hm.1
          refine sBk_named h g0 (by omega) f0 (by omega) ⟨by omega, ?_⟩
          rw [e46 _ hm.1 (by omega)]
          have c5' := b2i_b (fun e => c5 (f2.trans e))
          refine sX_isIn rfl hfm.1 (by omega) (fun hh => ⟨fun c => absurd c (by decide), fun _ => ⟨by omega, ih6 (by omega) _ (by omega) (by omega) ?_⟩⟩) (fun hh => ⟨fun _ => ⟨by omega, ih6 (by omega) _ (by omega) (by omega) ?_⟩, fun c => absurd rfl c⟩)
          · rw [allB_s f0, ← Bool.and_assoc, c5', hh]
            rfl
          · rw [allB_s f0, ← Bool.and_assoc, c5', hh]
            rfl
      refine ⟨fun c2 => lp2 0 0 (by omega) (by omega) ?_, fun c2 => lp2 0 1 (by omega) (by omega) ?_⟩
      · rw [decide_eq_false (by omega), Bool.false_and]; rfl
      · rw [decide_eq_true (by omega), allB_0 (by omega)]; rfl
  have := lp 0 (by omega) (by omega)
  rw [show bs (pv P out 0) 40 = 0 from bs_0 (fun _ _ _ => rfl)] at this
  exact this
/-- the rest, as the class has it -/
def Re (μ : jMu) (P : jP) : Prop := μ 52 6 = rn P ∧ (∀ s, 0 ≤ s → s < nS P → μ 54 s = nu P s) ∧ (∀ k, 0 ≤ k → k < rn P → μ 53 k = rs P k ∧ μ 55 k = rp P k ∧ μ 57 k = bs (fun j => anyB (fun i => le P k i == j) (rp P k)) 40 ∧ μ 58 k = bs (fun t => decide (t < rn P) && anyB (fun i => le P t i == k) (rp P t)) 40) ∧ (∀ k i, 0 ≤ k → k < rn P → 0 ≤ i → i < rp P k → μ 56 (3 * k + i) = le P k i)
theorem sRe_keptOf {Q : Int → jMu → Prop} (h : CB b μ P) (hf : μ 45 7 = ((b : Nat) : Int)) (e46 : ∀ s, 0 ≤ s → s < nS P → μ 46 s = fs P s) (k : Q (bs (inS P (kp P)) 40) μ) : Cl E mRe_keptOf [jvR 45] μ Q := by
  have hn := h.n
  refine vRe_keptOf_0 h.1 ⟨hf, ?_⟩
  rw [h.e0.2.1, h.e0.2.2.2.1]
  refine ⟨fun c => ?_, fun c => ⟨_, rfl, ?_⟩⟩
  · have hg := h.w.g.1 (by omega)
    have hfg := fs_r P hg.1
    refine ⟨by omega, ?_⟩
    rw [e46 _ hg.1 hg.2]
    refine sX_bit hfg.1 (by omega) ?_
    have lp : ∀ (l5 : Int), -1 ≤ l5 → l5 < nS P → K 121 E mRe_keptOf 32 [some (jvR 45), some (jvR ((b : Nat) : Int)), some (jvI (fs P (gl P))), some (jvL (bs (kpd P l5) 40)), none, some (jvI l5), none] [] μ (fun v μ1 => ∃ r, v = some (jvL r) ∧ Q r μ1) := by
      refine down_ind _ ?_
      intro l5 ih g0 g1
      refine vRe_keptOf_32 h.1 ⟨fun c => ⟨_, rfl, ?_⟩, fun c => ?_⟩
      · rw [show l5 = -1 by omega]
        rw [show bs (inS P (kp P)) 40 = bs (kpd P (-1)) 40 from bs_congr (fun j j0 j1 => ?_)] at k
        · exact k
        · unfold inS
          by_cases hj : j < nS P
          · rw [decide_eq_true hj, Bool.true_and]
            rfl
          · rw [decide_eq_false hj, Bool.false_and]
            symm
            rw [Bool.eq_false_iff]
            intro hh
            have := kp_le h.w (by omega) (show kp P j = true from hh)
            omega
      · have hp := h.w.p (show 0 ≤ l5 by omega) g1
        have lp2 : ∀ l6 : Int, 0 ≤ l6 → l6 ≤ pn P l5 → K 121 E mRe_keptOf 40 [some (jvR 45), some (jvR ((b : Nat) : Int)), some (jvI (fs P (gl P))), some (jvL (bs (fun j => kpd P l5 j || (kpd P l5 l5 && anyB (fun k => j == fs P (nm P l5 k)) l6)) 40)), none, some (jvI l5), some (jvI l6)] [] μ (fun v μ1 => ∃ r, v = some (jvL r) ∧ Q r μ1) := by
          refine up_ind (pn P l5) _ ?_
          intro l6 ih6 f0 f1
          have hno : anyB (fun k => l5 == fs P (nm P l5 k)) l6 = false := by
            rw [Bool.eq_false_iff]
            intro hh
            obtain ⟨k, k0, k1, k2⟩ := anyB_iff.mp hh
            have h2 := h.w.m l5 k (by omega) g1 k0 (by omega)
            have h3 := fs_r P h2.1
            have h4 := beq_iff_eq.mp k2
            omega
          refine vRe_keptOf_40 h.1 (sX_isIn rfl (by omega) (by omega) (fun hh => ⟨fun c => absurd c (by decide), fun _ => ?_⟩) (fun hh => ⟨fun _ => ⟨by omega, ?_⟩, fun c => absurd rfl c⟩))
          · simp only [hno, Bool.and_false, Bool.or_false] at hh
            refine sBk_nameCount h (by omega) g1 ⟨fun c6 => ⟨by omega, ?_⟩, fun c6 => ?_⟩
            · have := ih (by omega) (by omega) (by omega)
              rw [kpd_s P g1, ← show l6 = pn P l5 by omega] at this
              exact this
            · have hm := h.w.m l5 l6 (by omega) g1 f0 (by omega)
              have hfm := fs_r P hm.1
              refine sBk_named h (by omega) g1 f0 (by omega) ⟨by omega, ?_⟩
              rw [e46 _ hm.1 (by omega)]
              refine sX_bit hfm.1 (by omega) ⟨by omega, ?_⟩
              rw [bs_or (by omega)]
              have := ih6 (by omega) (by omega) (by omega)
              rw [show (fun j => kpd P l5 j || (kpd P l5 l5 && anyB (fun k => j == fs P (nm P l5 k)) (l6 + 1))) = (fun j => (kpd P l5 j || (kpd P l5 l5 && anyB (fun k => j == fs P (nm P l5 k)) l6)) || j == fs P (nm P l5 l6)) from funext (fun j => by rw [anyB_s f0, hh, Bool.true_and, Bool.true_and, Bool.or_assoc])] at this
              exact this
          · simp only [hno, Bool.and_false, Bool.or_false] at hh
            have := ih (by omega) (by omega) (by omega)
            rw [kpd_s P g1] at this
            simp only [hh, Bool.false_and, Bool.or_false] at this ⊢
            exact this
        have := lp2 0 (by omega) (by omega)
        rw [show (fun j => kpd P l5 j || (kpd P l5 l5 && anyB (fun k => j == fs P (nm P l5 k)) 0)) = kpd P l5 from funext (fun j => by rw [anyB_0 (by omega), Bool.and_false, Bool.or_false])] at this
        exact this
    have := lp (fs P (gl P)) (by omega) (by omega)
    rw [show bs (kpd P (fs P (gl P))) 40 = bs (fun j => j == fs P (gl P)) 40 from bs_congr (fun j j0 j1 => ?_)] at this
    · exact this
    · by_cases hj : fs P (gl P) ≤ j
      · have hd := kpd_down h.w j (nS P - 1 - fs P (gl P)).toNat (nS P - 1)
        by_cases hj2 : j < nS P
        · have e1 : kpd P (fs P (gl P)) j = kpd P (j) j := by
            have := kpd_down h.w j (j - fs P (gl P)).toNat j (by omega) hj2 (by omega)
            rw [show j - (((j - fs P (gl P)).toNat : Nat) : Int) = fs P (gl P) by omega] at this
            exact this
          have e2 : j ≠ fs P (gl P) → kpd P j j = false := by
            intro hne
            rw [Bool.eq_false_iff]
            intro hh
            have := kpd_le h.w (nS P - 1 - j).toNat j (by omega) (by omega) (by omega) hh
            omega
          by_cases hje : j = fs P (gl P)
          · rw [e1, ← kp_at h.w j0 hj2, hje, kp_goal (by omega)]
            simp
          · rw [e1, e2 hje]
            simp [hje]
        · have : kpd P (fs P (gl P)) j = false := by
            rw [Bool.eq_false_iff]
            intro hh
            have := kpd_le h.w (nS P - 1 - fs P (gl P)).toNat (fs P (gl P)) (by omega) (by omega) (by omega) hh
            omega
          rw [this]
          simp
          omega
      · have key : ∀ n : Nat, ∀ s : Int, nS P - 1 - s = n → fs P (gl P) ≤ s → kpd P s j = false := by
          intro n
          induction n with
          | zero =>
            intro s hs hl
            rw [show s = nS P - 1 by omega, kpd_0]
            simp
            omega
          | succ n ihn =>
            intro s hs hl
            have h1 := ihn (s + 1) (by omega) (by omega)
            rw [show s = (s + 1) - 1 by omega, kpd_s P (by omega)]
            have h2 : kpd P (s + 1) (s + 1) = false := by
              rw [Bool.eq_false_iff]
              intro hh
              have := kpd_le h.w n (s + 1) (by omega) (by omega) (by omega) hh
              omega
            simp only [h1, h2, Bool.false_and, Bool.or_false]
        rw [key (nS P - 1 - fs P (gl P)).toNat (fs P (gl P)) (by omega) (by omega)]
        simp
        omega
  · rw [show bs (inS P (kp P)) 40 = 0 from bs_0 (fun j j0 j1 => by unfold inS; rw [decide_eq_false (by omega), Bool.false_and])] at k
    exact k
end
