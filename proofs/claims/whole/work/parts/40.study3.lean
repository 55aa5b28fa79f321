/-! the class studies a proof: the rest gathered, all facts -/
def Wga (i : Nat) (_ : Int) : Prop := 52 ≤ i ∧ i ≤ 58
theorem Wga.nb : ∀ i k, Wga i k → NB i k := by
  intro i k h
  unfold Wga at h
  unfold NB
  omega
section
variable {E : jE} {μ : jMu} {P : jP} {b : Nat} {Q0 : jMu → Prop}
theorem sRe_add (h : CB b μ P) (hf : μ 45 7 = ((b : Nat) : Int)) (e46 : ∀ s, 0 ≤ s → s < nS P → μ 46 s = fs P s) {w : Int} (h0 : 0 ≤ w) (h1 : w < nS P) (hk : kp P w = true) {c : Int} (hc : c = cnt (kp P) w) (e52 : μ 52 6 = c) (e54 : ∀ s, 0 ≤ s → s ≤ w → μ 54 s = nu P s) {q : Int → Int → Bool} (e58 : ∀ j, 0 ≤ j → j < c → μ 58 j = bs (q j) 40)
    (k : ∀ μ1, Fr Wga μ μ1 → μ1 52 6 = c + 1 → (∀ s, μ1 54 s = μ 54 s) → (∀ j, j ≠ c → μ1 53 j = μ 53 j ∧ μ1 55 j = μ 55 j ∧ μ1 57 j = μ 57 j) → (∀ j, j < 3 * c → μ1 56 j = μ 56 j) → μ1 53 c = w → μ1 55 c = rp P c → μ1 57 c = bs (fun j => anyB (fun i => le P c i == j) (rp P c)) 40 → μ1 58 c = 0 → (∀ j, 0 ≤ j → j < c → μ1 58 j = bs (fun t => q j t || (t == c && anyB (fun i => le P c i == j) (rp P c))) 40) → (∀ i, 0 ≤ i → i < rp P c → μ1 56 (3 * c + i) = le P c i) → Q0 μ1) : Cv E mRe_add [jvR 52, jvR 45, jvI w] μ Q0 := by
  have hn := h.n
  have hp := h.w.p h0 h1
  have hcr := cnt_le (kp P) h0
  have hrs : rs P c = w := by rw [hc]; exact rs_nu h0 h1 hk
  have hrp : rp P c = pn P w := by unfold rp; rw [hrs]
  have hle : ∀ i, le P c i = nu P (fs P (nm P w i)) := fun i => by unfold le; rw [hrs]
  have hcl := cnt_lt (p := kp P) h0 h1 hk
  have hlr : ∀ i, 0 ≤ i → i < pn P w → 0 ≤ le P c i ∧ le P c i < c := fun i a b => le_r h.w (by omega) (by unfold rn; omega) a (by rw [hrp]; exact b)
  refine vRe_add_0 h.1 ?_
  rw [e52]
  refine ⟨⟨hf, by omega⟩, ?_⟩
  have f1 : Fr Wga μ (j_up μ 53 c w) := Fr.up (by unfold Wga; omega)
  refine sBk_nameCount (h.fr (f1.mono Wga.nb)) h0 h1 ?_
  rw [up_ne (by decide), e52]
  refine ⟨by omega, ?_⟩
  rw [← hrp] at hp hlr ⊢
  have lp : ∀ (l4 : Int) (μ0 : jMu), 0 ≤ l4 → l4 ≤ rp P c → Fr Wga μ μ0 → μ0 52 6 = c → (∀ s, μ0 54 s = μ 54 s) → (∀ j, j ≠ c → μ0 53 j = μ 53 j ∧ μ0 55 j = μ 55 j ∧ μ0 57 j = μ 57 j) → (∀ j, j < 3 * c → μ0 56 j = μ 56 j) → μ0 53 c = w → μ0 55 c = rp P c → μ0 57 c = bs (fun j => anyB (fun i => le P c i == j) l4) 40 → μ0 58 c = 0 → (∀ j, 0 ≤ j → j < c → μ0 58 j = bs (fun t => q j t || (t == c && anyB (fun i => le P c i == j) l4)) 40) → (∀ i, 0 ≤ i → i < l4 → μ0 56 (3 * c + i) = le P c i) → K 121 E mRe_add 52 [some (jvR 52), some (jvR 45), some (jvI w), some (jvR ((b : Nat) : Int)), some (jvI l4), none] [] μ0 (fun v μ1 => v = none ∧ Q0 μ1) := by
    refine up_ind (rp P c) _ ?_
    intro l4 ih μ0 g0 g1 g2 g3 g4 g5 g6 g7 g8 g9 g10 g11 g12
    have hR := h.fr (g2.mono Wga.nb)
    refine vRe_add_52 h.1 ?_
    rw [g3, g8]
    refine ⟨by omega, fun c4 => ⟨by omega, rfl, ?_⟩, fun c4 => ?_⟩
    · have hl : l4 = rp P c := by omega
      subst hl
      refine k _ (g2.put (by unfold Wga; omega)) up_eq (fun s => ?_) (fun j hj => ?_) (fun j hj => ?_) ?_ ?_ ?_ ?_ (fun j a b => ?_) (fun i a b => ?_)
      · rw [up_ne (by decide)]; exact g4 s
      · rw [up_ne (by decide), up_ne (by decide), up_ne (by decide)]; exact g5 j hj
      · rw [up_ne (by decide)]; exact g6 j hj
      · rw [up_ne (by decide)]; exact g7
      · rw [up_ne (by decide)]; exact g8
      · rw [up_ne (by decide)]; exact g9
      · rw [up_ne (by decide)]; exact g10
      · rw [up_ne (by decide)]; exact g11 j a b
      · rw [up_ne (by decide)]; exact g12 i a b
    · have hm := h.w.m w l4 h0 h1 g0 (by omega)
      have hfm := fs_r P hm.1
      have hl4 := hlr l4 g0 (by omega)
      refine sBk_named hR h0 h1 g0 (by omega) ?_
      have r46 : μ0 46 (nm P w l4) = fs P (nm P w l4) := by rw [g2 46 _ (by unfold Wga; omega)]; exact e46 _ hm.1 (by omega)
      have r54 : μ0 54 (fs P (nm P w l4)) = le P c l4 := by rw [g4, e54 _ hfm.1 (by omega), hle]
      simp only [r46, r54]
      rw [g3]
      refine ⟨by omega, sX_bit hl4.1 (by omega) ?_⟩
      simp only [up_ne (show (52 : Nat) ≠ 56 by decide), up_ne (show (58 : Nat) ≠ 56 by decide), g3]
      refine ⟨by omega, sX_bit (by omega) (by omega) ⟨by omega, ?_⟩⟩
      rw [g9, g11 _ hl4.1 hl4.2, bs_or (by omega), bs_or (by omega)]
      refine ih (by omega) _ (by omega) (by omega) (((g2.put (by unfold Wga; omega)).put (by unfold Wga; omega)).put (by unfold Wga; omega)) ?_ (fun s => ?_) (fun j hj => ?_) (fun j hj => ?_) ?_ ?_ ?_ ?_ (fun j a b => ?_) (fun i a b => ?_)
      · rw [up_ne (by decide), up_ne (by decide), up_ne (by decide)]; exact g3
      · rw [up_ne (by decide), up_ne (by decide), up_ne (by decide)]; exact g4 s
      · rw [up_ne (by decide), up_ne (by decide), up_ne (by decide), up_ne (by decide), up_ne (by decide), up_ne (by decide), up_ne (by decide), up_nk hj, up_ne (by decide)]; exact g5 j hj
      · rw [up_ne (by decide), up_ne (by decide), up_nk (by omega)]; exact g6 j hj
      · rw [up_ne (by decide), up_ne (by decide), up_ne (by decide)]; exact g7
      · rw [up_ne (by decide), up_ne (by decide), up_ne (by decide)]; exact g8
      · rw [up_ne (by decide), up_eq]
        refine bs_congr (fun j _ _ => ?_)
        rw [anyB_s g0]
        congr 1
        rw [Bool.eq_iff_iff, beq_iff_eq, beq_iff_eq]
        exact eq_comm
      · rw [up_nk (by omega), up_ne (by decide), up_ne (by decide)]; exact g10
      · rw [up_if]
        by_cases hj : j = le P c l4
        · subst hj
          rw [if_pos rfl]
          refine bs_congr (fun t _ _ => ?_)
          rw [anyB_s g0, beq_self_eq_true]
          cases q (le P c l4) t <;> cases t == c <;> cases anyB (fun i => le P c i == le P c l4) l4 <;> rfl
        · rw [if_neg hj, up_ne (by decide), up_ne (by decide), g11 j a b]
          refine bs_congr (fun t _ _ => ?_)
          rw [anyB_s g0, beq_eq_false_iff_ne.mpr (Ne.symm hj), Bool.or_false]
      · rw [up_ne (by decide), up_ne (by decide), up_if]
        by_cases hi : i = l4
        · subst hi
          rw [if_pos rfl]
        · rw [if_neg (by omega)]
          exact g12 i a (by omega)
  refine lp 0 _ (by omega) (by omega) (((f1.put (by unfold Wga; omega)).put (by unfold Wga; omega)).put (by unfold Wga; omega)) ?_ (fun s => ?_) (fun j hj => ?_) (fun j hj => ?_) ?_ ?_ ?_ ?_ (fun j a b => ?_) (fun i a b => by omega)
  · rw [up_ne (by decide), up_ne (by decide), up_ne (by decide), up_ne (by decide)]; exact e52
  · rw [up_ne (by decide), up_ne (by decide), up_ne (by decide), up_ne (by decide)]
  · rw [up_ne (by decide), up_ne (by decide), up_ne (by decide), up_nk hj, up_ne (by decide), up_ne (by decide), up_nk hj, up_ne (by decide), up_ne (by decide), up_nk hj, up_ne (by decide), up_ne (by decide)]
    exact ⟨rfl, rfl, rfl⟩
  · rw [up_ne (by decide), up_ne (by decide), up_ne (by decide), up_ne (by decide)]
  · rw [up_ne (by decide), up_ne (by decide), up_ne (by decide), up_eq]
  · rw [up_ne (by decide), up_ne (by decide), up_eq]
  · rw [up_ne (by decide), up_eq, bs_0]
    intro j _ _
    exact anyB_0 (by omega)
  · rw [up_eq]
  · rw [up_nk (by omega), up_ne (by decide), up_ne (by decide), up_ne (by decide), e58 j a b]
    refine bs_congr (fun t _ _ => ?_)
    rw [anyB_0 (by omega), Bool.and_false, Bool.or_false]
theorem sRe_gather (h : CB b μ P) (hf : μ 45 7 = ((b : Nat) : Int)) (e46 : ∀ s, 0 ≤ s → s < nS P → μ 46 s = fs P s) (k : ∀ μ1, Fr Wga μ μ1 → Re μ1 P → Q0 μ1) : Cv E mRe_gather [jvR 52, jvR 45] μ Q0 := by
  have hn := h.n
  have hb7 : (b : Nat) ≠ 54 := by rcases h.1 with hb | hb <;> omega
  refine vRe_gather_0 h.1 ⟨hf, sRe_keptOf h hf e46 ?_⟩
  have lp : ∀ (l5 : Int) (μ0 : jMu), 0 ≤ l5 → l5 ≤ nS P → Fr Wga μ μ0 → μ0 52 6 = cnt (kp P) l5 → (∀ s, 0 ≤ s → s < l5 → μ0 54 s = nu P s) → (∀ k, 0 ≤ k → k < cnt (kp P) l5 → μ0 53 k = rs P k ∧ μ0 55 k = rp P k ∧ μ0 57 k = bs (fun j => anyB (fun i => le P k i == j) (rp P k)) 40 ∧ μ0 58 k = bs (fun t => decide (t < cnt (kp P) l5) && anyB (fun i => le P t i == k) (rp P t)) 40) → (∀ k i, 0 ≤ k → k < cnt (kp P) l5 → 0 ≤ i → i < rp P k → μ0 56 (3 * k + i) = le P k i) → K 121 E mRe_gather 18 [some (jvR 52), some (jvR 45), some (jvR ((b : Nat) : Int)), some (jvL (bs (inS P (kp P)) 40)), none, some (jvI l5)] [] μ0 (fun v μ1 => v = none ∧ Q0 μ1) := by
    refine up_ind (nS P) _ ?_
    intro l5 ih μ0 g0 g1 g2 g3 g4 g5 g6
    have hR := h.fr (g2.mono Wga.nb)
    have hcl := cnt_le (kp P) g0
    have hcs := cnt_s (kp P) g0
    refine vRe_gather_18 h.1 ?_
    rw [hR.e0.2.1]
    refine ⟨fun c => ⟨rfl, k μ0 g2 ?_⟩, fun c => ⟨by omega, ?_⟩⟩
    · have hl : l5 = nS P := by omega
      subst hl
      exact ⟨g3, g4, g5, g6⟩
    · have f2 : Fr Wga μ (j_up μ0 54 l5 (-1)) := g2.put (by unfold Wga; omega)
      refine sX_isIn rfl g0 (by omega) (fun hh => ⟨fun c => absurd c (by decide), fun _ => ⟨by omega, ?_⟩⟩) (fun hh => ⟨fun _ => ⟨by omega, ?_⟩, fun c => absurd rfl c⟩)
      · unfold inS at hh
        rw [decide_eq_true (show l5 < nS P by omega), Bool.true_and] at hh
        rw [hh, b2i_t] at hcs
        rw [up_ne (by decide), g3]
        have f3 : Fr Wga μ (j_up (j_up μ0 54 l5 (-1)) 54 l5 (cnt (kp P) l5)) := f2.put (by unfold Wga; omega)
        refine sRe_add (h.fr (f3.mono Wga.nb)) ?_ (fun s a b => ?_) g0 (by omega) hh rfl ?_ (fun s a b => ?_) (q := fun k t => decide (t < cnt (kp P) l5) && anyB (fun i => le P t i == k) (rp P t)) (fun j a b => ?_) ?_
        · rw [f3 45 7 (by unfold Wga; omega)]; exact hf
        · rw [f3 46 s (by unfold Wga; omega)]; exact e46 s a b
        · rw [up_ne (by decide), up_ne (by decide)]; exact g3
        · rw [up_if]
          by_cases hs : s = l5
          · subst hs
            rw [if_pos rfl]
            unfold nu
            rw [if_pos hh]
          · rw [if_neg hs, up_nk hs]
            exact g4 s a (by omega)
        · rw [up_ne (by decide), up_ne (by decide)]
          exact (g5 j a b).2.2.2
        · intro μ1 z0 z1 z2 z3 z4 z5 z6 z7 z8 z9 z10
          refine ⟨by omega, ih (by omega) μ1 (by omega) (by omega) (f3.tr z0) (by omega) (fun s a b => ?_) (fun j a b => ?_) (fun j i a b a2 b2 => ?_)⟩
          · rw [z2, up_if]
            by_cases hs : s = l5
            · subst hs
              rw [if_pos rfl]
              unfold nu
              rw [if_pos hh]
            · rw [if_neg hs, up_nk hs]
              exact g4 s a (by omega)
          · by_cases hj : j = cnt (kp P) l5
            · rw [hj, z5, z6, z7, z8, rs_nu g0 (by omega) hh]
              refine ⟨rfl, rfl, rfl, ?_⟩
              rw [bs_0]
              intro t t0 t1
              by_cases ht : t < cnt (kp P) (l5 + 1)
              · have : anyB (fun i => le P t i == cnt (kp P) l5) (rp P t) = false := by
                  rw [Bool.eq_false_iff]
                  intro hq
                  obtain ⟨i, i0, i1, i2⟩ := anyB_iff.mp hq
                  have hrn : cnt (kp P) (l5 + 1) ≤ rn P := (cnt_add (p := kp P) (m := l5 + 1) (n := nS P) (by omega) (by omega)).1
                  have := le_r h.w t0 (by omega) i0 i1
                  have := beq_iff_eq.mp i2
                  omega
                rw [this, Bool.and_false]
              · rw [decide_eq_false ht, Bool.false_and]
            · have hz := z3 j hj
              have hz9 := z9 j a (by omega)
              have hg := g5 j a (by omega)
              rw [hz.1, hz.2.1, hz.2.2, hz9, up_ne (by decide), up_ne (by decide), up_ne (by decide), up_ne (by decide), up_ne (by decide), up_ne (by decide)]
              refine ⟨hg.1, hg.2.1, hg.2.2.1, bs_congr (fun t t0 t1 => ?_)⟩
              by_cases ht : t = cnt (kp P) l5
              · subst ht
                rw [decide_eq_false (by omega), decide_eq_true (by omega), beq_self_eq_true]
                rfl
              · rw [beq_eq_false_iff_ne.mpr ht, Bool.false_and, Bool.or_false]
                congr 1
                exact decide_eq_decide.mpr (by omega)
          · by_cases hj : j = cnt (kp P) l5
            · subst hj
              exact z10 i a2 b2
            · have hrr := rp_r h.w a (show j < rn P by
                have := (cnt_add (p := kp P) (m := l5 + 1) (n := nS P) (by omega) (by omega)).1
                unfold rn
                omega)
              rw [z4 _ (by omega), up_ne (by decide), up_ne (by decide)]
              exact g6 j i a (by omega) a2 b2
      · unfold inS at hh
        rw [decide_eq_true (show l5 < nS P by omega), Bool.true_and] at hh
        rw [hh, b2i_f] at hcs
        rw [show cnt (kp P) l5 = cnt (kp P) (l5 + 1) by omega] at g3 g5 g6
        refine ih (by omega) _ (by omega) (by omega) f2 ?_ (fun s a b => ?_) (fun j a b => ?_) (fun j i a b a2 b2 => ?_)
        · rw [up_ne (by decide)]; exact g3
        · rw [up_if]
          by_cases hs : s = l5
          · subst hs
            rw [if_pos rfl]
            unfold nu
            rw [if_neg (by rw [hh]; decide)]
          · rw [if_neg hs]
            exact g4 s a (by omega)
        · rw [up_ne (by decide), up_ne (by decide), up_ne (by decide), up_ne (by decide)]
          exact g5 j a b
        · rw [up_ne (by decide)]
          exact g6 j i a b a2 b2
  refine lp 0 _ (by omega) (by omega) (Fr.up (by unfold Wga; omega)) up_eq (fun s a b => by omega) (fun j a b => ?_) (fun j i a b => ?_)
  · rw [cnt_0] at b; omega
  · rw [cnt_0] at b; omega
end
