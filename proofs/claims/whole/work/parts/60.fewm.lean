/-! the fewest: the reference -/
theorem okw_lt {P : jP} {w : Int → Bool} {f s : Int} (h0 : 0 ≤ s) (h : s < f) : okw P w f s = false := by
  unfold okw
  have := fs_r P h0
  rw [beq_eq_false_iff_ne.mpr (by omega), Bool.false_and]
theorem nxt_f {P : jP} {w : Int → Bool} {f : Int} : nxt P w f (f - 1) = nxt P w f (-1) := ff_congr (fun k a b => by
  by_cases hk : k < f
  · rw [okw_lt a hk, Bool.and_false, Bool.and_false]
  · rw [decide_eq_true (show f - 1 < k by omega), decide_eq_true (show -1 < k by omega)])
theorem own_z {P : jP} {w : Int → Bool} {f : Int} (h : fs P f ≠ f) : own P w f = 0 := cnt_z (fun s a b => by
  unfold okw
  rw [beq_eq_false_iff_ne.mpr (fun hh => h (by rw [← hh, fs_fs P a])), Bool.false_and])
theorem land_bit (a m y M : Nat) (ha : a < 2) (hm : m < 2) : (a + 2 * y) &&& (m + 2 * M) = (a &&& m) + 2 * (y &&& M) := by
  have h1 : (2 : Nat) = 2 ^ 1 := rfl
  have hlt : a &&& m < 2 ^ 1 := Nat.lt_of_le_of_lt Nat.and_le_left ha
  refine Nat.eq_of_testBit_eq (fun k => ?_)
  rw [Nat.testBit_and, Nat.add_comm a, Nat.add_comm m, Nat.add_comm (a &&& m), h1, Nat.testBit_two_pow_mul_add _ ha, Nat.testBit_two_pow_mul_add _ hm, Nat.testBit_two_pow_mul_add _ hlt]
  split
  · rw [Nat.testBit_and]
  · rw [Nat.testBit_and]
def pch : Nat → Nat → Nat
  | 0, _ => 0
  | n + 1, x => x % 2 + pch n (x / 2)
theorem pch_0 : ∀ n : Nat, pch n 0 = 0
  | 0 => rfl
  | n + 1 => by show 0 % 2 + pch n (0 / 2) = 0; rw [show 0 / 2 = 0 from rfl, pch_0 n]
theorem pch_pos : ∀ (n x : Nat), 0 < x → x < 2 ^ n → pch n (x &&& (x - 1)) + 1 = pch n x ∧ (x &&& (x - 1)) < x
  | 0, x, h0, h1 => by
    have : (2 : Nat) ^ 0 = 1 := rfl
    omega
  | n + 1, x, h0, h1 => by
    rw [Nat.pow_succ] at h1
    rcases Nat.mod_two_eq_zero_or_one x with h | h
    · have ih := pch_pos n (x / 2) (by omega) (by omega)
      have e : x &&& (x - 1) = 0 + 2 * (x / 2 &&& (x / 2 - 1)) := by
        have e1 : x = 0 + 2 * (x / 2) := by omega
        have e2 : x - 1 = 1 + 2 * (x / 2 - 1) := by omega
        have e3 : x &&& (x - 1) = (0 + 2 * (x / 2)) &&& (1 + 2 * (x / 2 - 1)) := by rw [← e1, ← e2]
        rw [e3, land_bit 0 1 _ _ (by omega) (by omega)]
        rfl
      rw [e]
      show (0 + 2 * (x / 2 &&& (x / 2 - 1))) % 2 + pch n ((0 + 2 * (x / 2 &&& (x / 2 - 1))) / 2) + 1 = x % 2 + pch n (x / 2) ∧ _
      rw [show (0 + 2 * (x / 2 &&& (x / 2 - 1))) / 2 = (x / 2 &&& (x / 2 - 1)) by omega]
      omega
    · have e : x &&& (x - 1) = 0 + 2 * (x / 2) := by
        have e1 : x = 1 + 2 * (x / 2) := by omega
        have e2 : x - 1 = 0 + 2 * (x / 2) := by omega
        have e3 : x &&& (x - 1) = (1 + 2 * (x / 2)) &&& (0 + 2 * (x / 2)) := by rw [← e1, ← e2]
        rw [e3, land_bit 1 0 _ _ (by omega) (by omega), Nat.and_self]
        rfl
      rw [e]
      show (0 + 2 * (x / 2)) % 2 + pch n ((0 + 2 * (x / 2)) / 2) + 1 = x % 2 + pch n (x / 2) ∧ _
      rw [show (0 + 2 * (x / 2)) / 2 = x / 2 by omega]
      omega
theorem pch_cnt : ∀ (n x : Nat), cntN (fun k => x.testBit k.toNat) n = (pch n x : Int)
  | 0, x => rfl
  | n + 1, x => by
    have ih := pch_cnt n (x / 2)
    have key : ∀ m : Nat, cntN (fun k => x.testBit k.toNat) (m + 1) = b2i (x.testBit 0) + cntN (fun k => (x / 2).testBit k.toNat) m := by
      intro m
      induction m with
      | zero =>
        show 0 + b2i (x.testBit ((0 : Nat) : Int).toNat) = b2i (x.testBit 0) + 0
        rw [show (((0 : Nat) : Int)).toNat = 0 from rfl]
        omega
      | succ m ihm =>
        show cntN (fun k => x.testBit k.toNat) (m + 1) + b2i (x.testBit (((m + 1 : Nat) : Int)).toNat) = b2i (x.testBit 0) + (cntN (fun k => (x / 2).testBit k.toNat) m + b2i ((x / 2).testBit (((m : Nat) : Int)).toNat))
        rw [ihm, show (((m + 1 : Nat) : Int)).toNat = m + 1 by omega, show (((m : Nat) : Int)).toNat = m by omega, Nat.testBit_succ]
        omega
    rw [key n, ih]
    show _ = ((x % 2 + pch n (x / 2) : Nat) : Int)
    have h0 : b2i (x.testBit 0) = ((x % 2 : Nat) : Int) := by
      rw [Nat.testBit_zero]
      rcases Nat.mod_two_eq_zero_or_one x with h | h
      · rw [h]; rfl
      · rw [h]; rfl
    rw [h0]
    omega
def W119 (i : Nat) (_ : Int) : Prop := i = 119
theorem W119.sr : ∀ i k, W119 i k → SR i k := fun i k h => Or.inr (Or.inr (Or.inl (by unfold W119 at h; omega)))
section
variable {E : jE} {μ μ1 : jMu} {P : jP} {w q : Int → Bool} {Q : Int → jMu → Prop} {Q0 : jMu → Prop}
theorem sM_bitsOf {x : Int} (h : ok40 x) (k : Q (pcv x) μ) : Ci E mM_bitsOf [jvL x] μ Q := by
  refine vM_bitsOf_0 ?_
  have e : pcv x = (pch 40 x.toNat : Int) := pch_cnt 40 x.toNat
  rw [e] at k
  have lp : ∀ (n y : Nat) (l2 : Int), y ≤ n → y < 2 ^ 40 → 0 ≤ l2 → l2 + pch 40 y = pch 40 x.toNat → K 121 E mM_bitsOf 4 [some (jvL x), none, some (jvI l2), some (jvL (y : Int)), none] [] μ (fun v μ1 => ∃ r, v = some (jvI r) ∧ Q r μ1) := by
    have hle : ∀ y : Nat, y < 2 ^ 40 → pch 40 y ≤ 40 := by
      have : ∀ (n y : Nat), pch n y ≤ n := by
        intro n
        induction n with
        | zero => intro y; exact Nat.le_refl 0
        | succ n ih =>
          intro y
          have := ih (y / 2)
          show y % 2 + pch n (y / 2) ≤ n + 1
          omega
      intro y _
      exact this 40 y
    have hx := hle x.toNat (by have := h.2; omega)
    intro n
    induction n with
    | zero =>
      intro y l2 hy hy2 h0 hs
      refine vM_bitsOf_4 ⟨fun c => ⟨_, rfl, ?_⟩, fun c => by omega⟩
      rw [show y = 0 by omega, pch_0] at hs
      rw [show l2 = (pch 40 x.toNat : Int) by omega]; exact k
    | succ n ih =>
      intro y l2 hy hy2 h0 hs
      refine vM_bitsOf_4 ⟨fun c => ⟨_, rfl, ?_⟩, fun c => ⟨by omega, ?_⟩⟩
      · rw [show y = 0 by omega, pch_0] at hs
        rw [show l2 = (pch 40 x.toNat : Int) by omega]; exact k
      · have hp := pch_pos 40 y (by omega) hy2
        have ea : iand64 (y : Int) ((y : Int) - 1) = ((y &&& (y - 1) : Nat) : Int) := by
          rw [show (y : Int) - 1 = ((y - 1 : Nat) : Int) by omega]
          exact and64 (by omega) (by omega)
        rw [ea]
        exact ih _ _ (by omega) (by omega) (by omega) (by omega)
  have := lp x.toNat x.toNat 0 (Nat.le_refl _) (by have := h.2; omega) (by omega) (by omega)
  rw [show ((x.toNat : Nat) : Int) = x by have := h.1; omega] at this
  exact this
theorem sM_nextOf (h : RS μ P w q) {f t : Int} (h0 : -1 ≤ t) (h1 : t < nS P) (k : Q (nxt P w f t) μ) : Ci E mM_nextOf [jvR 76, jvI f, jvI t] μ Q := by
  have hn := h.n
  refine vM_nextOf_0 ⟨by omega, ?_⟩
  have lp : ∀ (l3 : Int), t < l3 → l3 ≤ nS P → (∀ j, 0 ≤ j → j < l3 → (decide (t < j) && okw P w f j) = false) → K 121 E mM_nextOf 4 [some (jvR 76), some (jvI f), some (jvI t), some (jvI l3)] [] μ (fun v μ1 => ∃ r, v = some (jvI r) ∧ Q r μ1) := by
    refine up_ind (nS P) _ ?_
    intro l3 ih g0 g1 g3
    refine vM_nextOf_4 (sM_steps h.r ⟨fun c => ⟨_, rfl, ?_⟩, fun c => ⟨by omega, ?_⟩⟩)
    · rw [← show nxt P w f t = -1 from ff_none (fun j a b => g3 j a (by omega))]; exact k
    · have step : okw P w f l3 = false → K 121 E mM_nextOf 4 [some (jvR 76), some (jvI f), some (jvI t), some (jvI (l3 + 1))] [] μ (fun v μ1 => ∃ r, v = some (jvI r) ∧ Q r μ1) := fun hh => ih (by omega) (by omega) (by omega) (fun j a b => by
        by_cases hj : j = l3
        · rw [hj, hh, Bool.and_false]
        · exact g3 j a (by omega))
      have hs := h.wf.s l3 (by omega) (by omega)
      rw [h.1.e103 (by omega) (by omega)]
      refine ⟨fun c2 => ⟨by omega, step (by unfold okw; rw [beq_eq_false_iff_ne.mpr c2, Bool.false_and])⟩, fun c2 => sM_ruleBy h.r (by omega) (by omega) ?_⟩
      rw [h.2.1 _ hs.1 (by omega)]
      refine ⟨by omega, fun c3 => ⟨by omega, step (by unfold okw; rw [b2i_b c3, Bool.not_true, Bool.and_false])⟩, fun c3 => ⟨_, rfl, ?_⟩⟩
      rw [← show nxt P w f t = l3 from ff_eq (by omega) (by omega) (by unfold okw; rw [decide_eq_true g0, beq_iff_eq.mpr c2, b2i_b0 c3]; rfl) (fun j a b => g3 j a (by omega))]
      exact k
  exact lp (t + 1) (by omega) (by omega) (fun j a b => by rw [decide_eq_false (by omega), Bool.false_and])
theorem sM_waysMany (h : RS μ P w q) (k : ∀ r, (r ≤ 4096 ↔ tw_ P w ≤ 4096) → Q r μ) : Ci E mM_waysMany [jvR 76] μ Q := by
  have hn := h.n
  refine vM_waysMany_0 ?_
  have lp : ∀ (l2 l1 : Int), 0 ≤ l2 → l2 ≤ nS P → 1 ≤ l1 → l1 ≤ 163840 → (l1 ≤ 4096 → l1 = prN P w l2.toNat) → (4096 < l1 → 4096 < prN P w l2.toNat) → K 121 E mM_waysMany 4 [some (jvR 76), some (jvI l1), some (jvI l2), none, none] [] μ (fun v μ1 => ∃ r, v = some (jvI r) ∧ Q r μ1) := by
    refine up_ind (nS P) _ ?_
    intro l2 ih l1 g0 g1 g2 g3 g4 g5
    have hs := prN_s (P := P) (w := w) g0
    have hpp := prN_pos (P := P) (w := w) l2.toNat
    refine vM_waysMany_4 (sM_steps h.r ⟨fun c => ⟨_, rfl, k l1 ?_⟩, fun c => ?_⟩)
    · rw [show l2 = nS P by omega, tw_pr h.wf] at g4 g5
      omega
    · have lp2 : ∀ (l4 l3 : Int), l2 ≤ l4 → l4 ≤ nS P → l3 = cnt (okw P w l2) l4 → K 121 E mM_waysMany 17 [some (jvR 76), some (jvI l1), some (jvI l2), some (jvI l3), some (jvI l4)] [] μ (fun v μ1 => ∃ r, v = some (jvI r) ∧ Q r μ1) := by
        refine up_ind (nS P) _ ?_
        intro l4 ih4 l3 d0 d1 d3
        have hcl := cnt_le (okw P w l2) (show 0 ≤ l4 by omega)
        have hcs := cnt_s (okw P w l2) (show 0 ≤ l4 by omega)
        refine vM_waysMany_17 (sM_steps h.r ⟨fun c4 => ?_, fun c4 => ⟨by omega, ?_⟩⟩)
        · have eo : l3 = own P w l2 := by rw [d3, show l4 = nS P by omega]; rfl
          rw [← eo] at hs
          refine ⟨fun c5 => ⟨by omega, ih (by omega) l1 (by omega) (by omega) g2 g3 ?_ ?_⟩, fun c5 => ⟨fun c6 => ?_, fun c6 => ⟨by omega, ih (by omega) l1 (by omega) (by omega) g2 g3 (fun q => absurd q c6) (fun _ => ?_)⟩⟩⟩
          · rw [hs, if_neg (by omega), Int.mul_one]; exact g4
          · rw [hs, if_neg (by omega), Int.mul_one]; exact g5
          · have hm : 1 * 1 ≤ l1 * l3 := Int.mul_le_mul g2 (by omega) (by omega) (by omega)
            have hm2 : l1 * l3 ≤ 4096 * 40 := Int.mul_le_mul c6 (by omega) (by omega) (by omega)
            have he : l1 * l3 = prN P w (l2 + 1).toNat := by
              rw [hs, ← g4 c6]
              by_cases h1 : 1 < l3
              · rw [if_pos h1]
              · rw [if_neg h1, show l3 = 1 by omega]
            exact ⟨by omega, ih (by omega) _ (by omega) (by omega) (by omega) (by omega) (fun _ => he) (fun hh => by omega)⟩
          · have h5 := g5 (by omega)
            rw [hs]
            have : prN P w l2.toNat * 1 ≤ prN P w l2.toNat * (if 1 < l3 then l3 else 1) := Int.mul_le_mul_of_nonneg_left (by split <;> omega) (by omega)
            omega
        · have hsr := h.wf.s l4 (by omega) (by omega)
          rw [h.1.e103 (by omega) (by omega)]
          refine ⟨fun c5 => ⟨by omega, ih4 (by omega) l3 (by omega) (by omega) ?_⟩, fun c5 => sM_ruleBy h.r (by omega) (by omega) ?_⟩
          · rw [show okw P w l2 l4 = false by unfold okw; rw [beq_eq_false_iff_ne.mpr c5, Bool.false_and]] at hcs
            rw [b2i_f] at hcs; omega
          · rw [h.2.1 _ hsr.1 (by omega)]
            refine ⟨by omega, fun c6 => ⟨by omega, ih4 (by omega) l3 (by omega) (by omega) ?_⟩, fun c6 => ⟨by omega, ih4 (by omega) _ (by omega) (by omega) ?_⟩⟩
            · rw [show okw P w l2 l4 = false by unfold okw; rw [b2i_b c6, Bool.not_true, Bool.and_false]] at hcs
              rw [b2i_f] at hcs; omega
            · rw [show okw P w l2 l4 = true by unfold okw; rw [beq_iff_eq.mpr c5, b2i_b0 c6]; rfl] at hcs
              rw [b2i_t] at hcs; omega
      exact lp2 l2 0 (by omega) (by omega) (cnt_z (fun j a b => okw_lt a b)).symm
  exact lp 0 1 (by omega) (by omega) (by omega) (by omega) (fun _ => rfl) (fun hh => by omega)
def TkR (μ : jMu) (P : jP) (p : Int → Int) : Prop := ∀ f, 0 ≤ f → f < nS P → μ 119 f = p f
theorem okP1_r {f x : Int} (h : okP1 P w f x) : -1 ≤ x ∧ (x = -1 ∨ (0 ≤ x ∧ x < nS P)) := by
  rcases h with ⟨_, b⟩ | ⟨_, b, c, _⟩
  · omega
  · omega
theorem inN_none {p : Int → Int} {s : Int} {S : Int → Bool} : ∀ (m k : Nat), inN P p s S k = none → k ≤ m → inN P p s S m = none
  | 0, k, h, hk => by
    have : k = 0 := by omega
    subst this
    exact h
  | m + 1, k, h, hk => by
    by_cases hk2 : k = m + 1
    · subst hk2; exact h
    · unfold inN
      rw [inN_none m k h (by omega)]
theorem inN_s {p : Int → Int} {s l : Int} {S T : Int → Bool} (h0 : 0 ≤ l) (hT : inN P p s S l.toNat = some T) : inN P p s S (l + 1).toNat = if p (fs P (nm P s l)) = -1 ∨ s ≤ p (fs P (nm P s l)) then none else some (fun j => T j || j == p (fs P (nm P s l))) := by
  rw [show (l + 1).toNat = l.toNat + 1 by omega]
  unfold inN
  rw [hT, show ((l.toNat : Nat) : Int) = l by omega]
theorem sM_heldUp (h : RS μ P w q) (hn0 : 0 < nS P) {p : Int → Int} (hp : okP P w p) (ht : TkR μ P p) (k : Q (su P p) μ) : Cl E mM_heldUp [jvR 76] μ Q := by
  have hn := h.n
  have hg := h.wf.g.1 hn0
  have hfg := fs_r P hg.1
  unfold su at k
  refine vM_heldUp_0 ?_
  rw [h.r.e0.2.2.2.2.2 hn0, h.1.e103 hg.1 hg.2, ht _ hfg.1 (by omega)]
  have hpg := okP1_r (hp _ hfg.1 (by omega))
  refine ⟨by omega, fun c => ⟨by omega, sM_steps h.r ⟨by omega, ?_⟩⟩, fun c => ⟨_, rfl, by rw [if_pos c] at k; exact k⟩⟩
  rw [if_neg c] at k
  rw [bs_bit (show 0 ≤ p (fs P (gl P)) by omega) (show p (fs P (gl P)) < 40 by omega) (by omega)]
  have hfail : ∀ s, s < nS P → -1 ≤ s → hud P p s = none → Q 0 μ := by
    intro s hs hs2 hh
    have := hud_none (s + 1).toNat s hs hh
    rw [show s - (((s + 1).toNat : Nat) : Int) = -1 by omega] at this
    rw [this] at k
    exact k
  have lp : ∀ (l3 : Int) (S : Int → Bool), -1 ≤ l3 → l3 < nS P → hud P p l3 = some S → K 121 E mM_heldUp 44 [some (jvR 76), some (jvL (bs S 40)), none, some (jvI l3), none, none] [] μ (fun v μ1 => ∃ r, v = some (jvL r) ∧ Q r μ1) := by
    refine down_ind _ ?_
    intro l3 ih S g0 g1 g3
    have hs := hud_s (P := P) (p := p) g1
    rw [g3] at hs
    refine vM_heldUp_44 ⟨fun c2 => ⟨_, rfl, ?_⟩, fun c2 => ?_⟩
    · rw [show (-1 : Int) = l3 by omega, g3] at k; exact k
    · rw [bs_in01 (by omega) (by omega)]
      refine ⟨fun c3 => ?_, fun c3 => ⟨by omega, ih (by omega) S (by omega) (by omega) ?_⟩⟩
      · have hS := b2i_b c3
        simp only [hS, if_true] at hs
        have hpp := h.wf.p (show 0 ≤ l3 by omega) g1
        have lp2 : ∀ (l4 : Int) (T : Int → Bool), 0 ≤ l4 → l4 ≤ pn P l3 → inN P p l3 S l4.toNat = some T → K 121 E mM_heldUp 64 [some (jvR 76), some (jvL (bs T 40)), none, some (jvI l3), some (jvI l4), none] [] μ (fun v μ1 => ∃ r, v = some (jvL r) ∧ Q r μ1) := by
          refine up_ind (pn P l3) _ ?_
          intro l4 ih4 T d0 d1 d3
          refine vM_heldUp_64 (sM_namesMany h.r (by omega) g1 ⟨fun c4 => ⟨by omega, ih (by omega) T (by omega) (by omega) ?_⟩, fun c4 => ?_⟩)
          · rw [hs, ← show l4 = pn P l3 by omega]; exact d3
          · have hm := h.wf.m l3 l4 (by omega) g1 d0 (by omega)
            have hf := fs_r P hm.1
            have hst := inN_s d0 d3
            have hpx := okP1_r (hp _ hf.1 (show fs P (nm P l3 l4) < nS P by omega))
            have bad : (p (fs P (nm P l3 l4)) = -1 ∨ l3 ≤ p (fs P (nm P l3 l4))) → Q 0 μ := by
              intro hb
              rw [if_pos hb] at hst
              have := inN_none (pn P l3).toNat (l4 + 1).toNat hst (by omega)
              rw [this] at hs
              exact hfail (l3 - 1) (by omega) (by omega) hs
            refine sM_namedBy h.r (by omega) g1 d0 (by omega) ?_
            rw [h.1.e103 hm.1 (by omega), ht _ hf.1 (by omega)]
            refine ⟨by omega, fun c5 => ⟨_, rfl, bad (Or.inl c5)⟩, fun c5 => ⟨fun c6 => ⟨by omega, ?_⟩, fun c6 => ⟨_, rfl, bad (Or.inr (by omega))⟩⟩⟩
            rw [if_neg (by omega)] at hst
            rw [bs_bit (show 0 ≤ p (fs P (nm P l3 l4)) by omega) (show p (fs P (nm P l3 l4)) < 40 by omega) (by omega), bs_or (by omega)]
            exact ih4 (by omega) _ (by omega) (by omega) hst
        exact lp2 0 S (by omega) (by omega) rfl
      · rw [hs]
        show (if S l3 = true then _ else some S) = some S
        rw [b2i_b0 c3, if_neg (by decide)]
  refine lp (nS P - 1) _ (by omega) (by omega) ?_
  unfold hud
  rw [show (nS P - 1 - (nS P - 1)).toNat = 0 by omega]
  rfl
theorem sM_isNextWay (h : RS μ P w q) {p : Int → Int} (hp : okP P w p) (ht : TkR μ P p) (k : ∀ μ1, Fr W119 μ μ1 → TkR μ1 P (ad P w p).2 → Q (b2i (ad P w p).1) μ1) : Ci E mM_isNextWay [jvR 76] μ Q := by
  have hn := h.n
  refine vM_isNextWay_0 ?_
  have lp : ∀ (n : Nat) (l1 : Int) (p' : Int → Int) (μ0 : jMu), nS P - l1 = n → 0 ≤ l1 → Fr W119 μ μ0 → okP P w p' → TkR μ0 P p' → adv P w n l1 p' = ad P w p → K 121 E mM_isNextWay 2 [some (jvR 76), some (jvI l1), none] [] μ0 (fun v μ1 => ∃ r, v = some (jvI r) ∧ Q r μ1) := by
    intro n
    induction n with
    | zero =>
      intro l1 p' μ0 g0 g1 g2 g3 g4 g5
      refine vM_isNextWay_2 (sM_steps (h.fr (g2.mono W119.sr)).r ⟨fun c => ⟨_, rfl, ?_⟩, fun c => by omega⟩)
      have k2 := k μ0 g2
      rw [← g5] at k2
      exact k2 g4
    | succ n ih =>
      intro l1 p' μ0 g0 g1 g2 g3 g4 g5
      have hR := h.fr (g2.mono W119.sr)
      have hx := g3 l1 g1 (by omega)
      have hr := okP1_r hx
      refine vM_isNextWay_2 (sM_steps hR.r ⟨fun c => by omega, fun c => ⟨by omega, ?_⟩⟩)
      rw [hR.1.e103 g1 (by omega), g4 l1 g1 (by omega)]
      have skip : p' l1 = -1 → K 121 E mM_isNextWay 2 [some (jvR 76), some (jvI (l1 + 1)), none] [] μ0 (fun v μ1 => ∃ r, v = some (jvI r) ∧ Q r μ1) := fun hh => ih (l1 + 1) p' μ0 (by omega) (by omega) g2 g3 g4 (by
        rw [← g5]
        show _ = (if p' l1 = -1 then _ else _)
        rw [if_pos hh])
      refine ⟨fun c2 => ⟨by omega, skip ?_⟩, fun c2 => ⟨by omega, fun c3 => ⟨by omega, sM_nextOf hR (by omega) (by omega) ⟨fun c4 => ⟨by omega, sM_nextOf hR (by omega) (by omega) ⟨by omega, ?_⟩⟩, fun c4 => ⟨by omega, _, rfl, ?_⟩⟩⟩, fun c3 => ⟨by omega, skip c3⟩⟩⟩
      · rcases hx with ⟨a, b⟩ | ⟨a, b, c', d⟩
        · exact b
        · have := own_z (w := w) c2
          omega
      · rw [nxt_f]
        refine ih (l1 + 1) (hup p' l1 (nxt P w l1 (-1))) _ (by omega) (by omega) (g2.put rfl) (okP_up g3 (st_ok h.wf).1) (fun f a b => ?_) ?_
        · rw [up_if]
          unfold hup
          split
          · rfl
          · exact g4 f a b
        · rw [← g5]
          show _ = (if p' l1 = -1 then _ else if nxt P w l1 (p' l1) = -1 then _ else _)
          rw [if_neg c3, if_pos c4]
      · have e : adv P w (n + 1) l1 p' = (true, hup p' l1 (nxt P w l1 (p' l1))) := by
          show (if p' l1 = -1 then _ else if nxt P w l1 (p' l1) = -1 then _ else _) = _
          rw [if_neg c3, if_neg c4]
        have k2 := k (j_up μ0 119 l1 (nxt P w l1 (p' l1))) (g2.put rfl)
        rw [← g5, e] at k2
        refine k2 (fun f a b => ?_)
        rw [up_if]
        show _ = hup p' l1 _ f
        unfold hup
        split
        · rfl
        · exact g4 f a b
  exact lp (nS P).toNat 0 p μ (by omega) (by omega) Fr.rf hp ht rfl
theorem kfw_c {b x : Int} : (x = 0 → kfw b x = b) ∧ (x ≠ 0 → b = 0 → kfw b x = x) ∧ (x ≠ 0 → b ≠ 0 → pcv x < pcv b → kfw b x = x) ∧ (b ≠ 0 → pcv b < pcv x → kfw b x = b) ∧ (b ≠ 0 → pcv x = pcv b → b ≤ x → kfw b x = b) ∧ (x ≠ 0 → b ≠ 0 → pcv x = pcv b → x < b → kfw b x = x) := by
  unfold kfw
  refine ⟨fun h => ?_, fun h h2 => ?_, fun h h2 h3 => ?_, fun h h2 => ?_, fun h h2 h3 => ?_, fun h h2 h3 h4 => ?_⟩
  · rw [if_neg (fun hh => hh.1 h)]
  · rw [if_pos ⟨h, Or.inl h2⟩]
  · rw [if_pos ⟨h, Or.inr (Or.inl h3)⟩]
  · rw [if_neg]
    rintro ⟨_, hh⟩
    omega
  · rw [if_neg]
    rintro ⟨_, hh⟩
    omega
  · rw [if_pos ⟨h, Or.inr (Or.inr ⟨h3, h4⟩)⟩]
theorem sM_fewestOf (h : RS μ P w q) (hn0 : 0 < nS P) (k : ∀ μ1, Fr SR μ μ1 → Q (bst P w (tw_ P w).toNat) μ1) : Cl E mM_fewestOf [jvR 76] μ Q := by
  have hn := h.n
  have htw : 1 ≤ tw_ P w := by rw [← tw_pr h.wf]; exact prN_pos _
  refine vM_fewestOf_0 ?_
  have lp2 : ∀ (i : Int) (l3 : Int) (μ0 : jMu), 0 ≤ i → i ≤ tw_ P w → Fr SR μ μ0 → (i < tw_ P w → TkR μ0 P (pi P w i.toNat)) → l3 = b2i (decide (i < tw_ P w)) → K 121 E mM_fewestOf 48 [some (jvR 76), some (jvL (bst P w i.toNat)), none, some (jvI l3), none, none, none] [] μ0 (fun v μ1 => ∃ r, v = some (jvL r) ∧ Q r μ1) := by
    refine up_ind (tw_ P w) _ ?_
    intro i ih l3 μ0 g0 g1 g2 g3 g4
    have hR := h.fr g2
    refine vM_fewestOf_48 ⟨fun c => ⟨_, rfl, ?_⟩, fun c => ?_⟩
    · have := of_decide_eq_false (b2i_b0 (g4.symm.trans c))
      rw [show i = tw_ P w by omega]
      exact k μ0 g2
    · have hi := of_decide_eq_true (b2i_b (fun e => c (g4.trans e)))
      obtain ⟨q1, q2, q3⟩ := pi_c h.wf (w := w) i.toNat (by omega)
      rw [show ((i.toNat : Nat) : Int) = i by omega] at q2 q3
      have tk := g3 hi
      refine sM_heldUp hR hn0 q1 tk ?_
      have hb := bst_ok P w i.toNat
      have hx := su_ok P (pi P w i.toNat)
      have es : bst P w (i + 1).toNat = kfw (bst P w i.toNat) (su P (pi P w i.toNat)) := by
        rw [show (i + 1).toNat = i.toNat + 1 by omega]; rfl
      have ep : pi P w (i + 1).toNat = (ad P w (pi P w i.toNat)).2 := by
        rw [show (i + 1).toNat = i.toNat + 1 by omega]; rfl
      have goon : ∀ y : Int, y = bst P w (i + 1).toNat → Ci E mM_isNextWay [jvR 76] μ0 (fun r23 μ20 => (K 121 E mM_fewestOf 48 [some (jvR 76), some (jvL y), none, some (jvI r23), none, none, none] [] μ20 (fun v μ1 => ∃ r, v = some (jvL r) ∧ Q r μ1))) := by
        intro y hy
        subst hy
        refine sM_isNextWay hR q1 tk (fun μ5 f5 t5 => ih hi _ μ5 (by omega) (by omega) (g2.tr (f5.mono W119.sr)) (fun _ => by rw [ep]; exact t5) ?_)
        congr 1
        rw [Bool.eq_iff_iff, decide_eq_true_iff]
        exact q3
      have hkf := kfw_c (b := bst P w i.toNat) (x := su P (pi P w i.toNat))
      have pr1 := pcv_r (su P (pi P w i.toNat))
      have pr2 := pcv_r (bst P w i.toNat)
      refine ⟨fun c2 => sM_bitsOf hx (sM_bitsOf hb ⟨by omega, fun c3 => goon _ ?_, fun c3 => ⟨fun c4 => goon _ ?_, fun c4 => ⟨fun c5 => goon _ ?_, fun c5 => ⟨fun c6 => goon _ ?_, fun c6 => goon _ ?_⟩⟩⟩⟩), fun c2 => ⟨fun c3 => goon _ ?_, fun c3 => goon _ ?_⟩⟩
      · rw [es, hkf.1 c3]
      · rw [es, hkf.2.2.1 c3 c2 (by omega)]
      · rw [es, hkf.2.2.2.1 c2 (by omega)]
      · rw [es, hkf.2.2.2.2.1 c2 (by omega) c6]
      · rw [es, hkf.2.2.2.2.2 c3 c2 (by omega) (by omega)]
      · rw [es, hkf.1 c3]
      · rw [es, hkf.2.1 c3 c2]
  have lp1 : ∀ (l3 : Int) (μ0 : jMu), 0 ≤ l3 → l3 ≤ nS P → Fr SR μ μ0 → (∀ f, 0 ≤ f → f < l3 → μ0 119 f = p0 P w f) → K 121 E mM_fewestOf 4 [some (jvR 76), some (jvL 0), none, some (jvI l3), none, none, none] [] μ0 (fun v μ1 => ∃ r, v = some (jvL r) ∧ Q r μ1) := by
    refine up_ind (nS P) _ ?_
    intro l3 ih μ0 g0 g1 g2 g3
    have hR := h.fr g2
    have step : ∀ x, x = p0 P w l3 → ¬ nS P ≤ l3 → K 121 E mM_fewestOf 4 [some (jvR 76), some (jvL 0), none, some (jvI (l3 + 1)), none, none, none] [] (j_up μ0 119 l3 x) (fun v μ1 => ∃ r, v = some (jvL r) ∧ Q r μ1) := fun x hx hl => ih (by omega) _ (by omega) (by omega) (g2.put (W119.sr _ _ rfl)) (fun f a b => by
      rw [up_if]
      split
      · rename_i e; rw [e]; exact hx
      · exact g3 f a (by omega))
    refine vM_fewestOf_4 (sM_steps hR.r ⟨fun c => ?_, fun c => ⟨by omega, ?_⟩⟩)
    · refine lp2 0 1 μ0 (by omega) (by omega) g2 (fun _ f a b => g3 f a (by omega)) ?_
      rw [decide_eq_true (by omega)]; rfl
    · rw [hR.1.e103 g0 (by omega)]
      refine ⟨fun c2 => ⟨by omega, step (-1) ?_ c⟩, fun c2 => ⟨by omega, sM_nextOf hR (by omega) (by omega) ⟨by omega, step _ ?_ c⟩⟩⟩
      · rcases (st_ok h.wf (w := w) (f := l3)).1 with ⟨a, b⟩ | ⟨a, _⟩
        · exact b.symm
        · have := own_z (w := w) c2
          omega
      · exact nxt_f
  exact lp1 0 μ (by omega) (by omega) Fr.rf (fun f a b => by omega)
theorem inN_in {p : Int → Int} {s : Int} (hs : s < nS P) : ∀ (k : Nat) (S T : Int → Bool), (∀ j, S j = true → 0 ≤ j ∧ j < nS P) → (∀ j : Int, 0 ≤ j → j < k → -1 ≤ p (fs P (nm P s j))) → inN P p s S k = some T → ∀ j, T j = true → 0 ≤ j ∧ j < nS P
  | 0, S, T, hS, _, hT, j, hj => by
    have : S = T := Option.some.inj hT
    rw [← this] at hj
    exact hS j hj
  | k + 1, S, T, hS, hp, hT, j, hj => by
    unfold inN at hT
    cases hk : inN P p s S k with
    | none => rw [hk] at hT; cases hT
    | some U =>
      rw [hk] at hT
      have ih := inN_in hs k S U hS (fun j a b => hp j a (by omega)) hk
      have hpk := hp k (by omega) (by omega)
      by_cases hb : p (fs P (nm P s k)) = -1 ∨ s ≤ p (fs P (nm P s k))
      · simp only [hb, if_true] at hT
        cases hT
      · simp only [hb, if_false] at hT
        have e := Option.some.inj hT
        rw [← e] at hj
        rw [Bool.or_eq_true] at hj
        rcases hj with hj | hj
        · exact ih j hj
        · have := beq_iff_eq.mp hj
          omega
theorem su_in (h : WF P) (hn0 : 0 < nS P) {p : Int → Int} (hp : okP P w p) : ∀ j, 0 ≤ j → bt (su P p) j = true → j < nS P := by
  have hn := h.n
  have hg := h.g.1 hn0
  have hfg := fs_r P hg.1
  have hpg := okP1_r (hp _ hfg.1 (show fs P (gl P) < nS P by omega))
  intro j j0 hj
  unfold su at hj
  split at hj
  · unfold bt at hj; simp at hj
  · rename_i hne
    have key : ∀ (n : Nat) (s : Int), nS P - 1 - s = n → -1 ≤ s → ∀ S, hud P p s = some S → ∀ j, S j = true → 0 ≤ j ∧ j < nS P := by
      intro n
      induction n with
      | zero =>
        intro s hs _ S hS j hj
        unfold hud at hS
        rw [show (nS P - 1 - s).toNat = 0 by omega] at hS
        have := Option.some.inj hS
        rw [← this] at hj
        have := beq_iff_eq.mp hj
        omega
      | succ n ih =>
        intro s hs h1 S hS j hj
        have hh := hud_s (P := P) (p := p) (s := s + 1) (by omega)
        rw [show s + 1 - 1 = s by omega, hS] at hh
        cases hu : hud P p (s + 1) with
        | none => rw [hu] at hh; cases hh
        | some U =>
          rw [hu] at hh
          have ih1 := ih (s + 1) (by omega) (by omega) U hu
          by_cases hU : U (s + 1) = true
          · simp only [hU, if_true] at hh
            have hpp := h.p (show 0 ≤ s + 1 by omega) (show s + 1 < nS P by omega)
            exact inN_in (by omega) _ U S ih1 (fun i a b => by
              have hm := h.m (s + 1) i (by omega) (by omega) a (by omega)
              have hf := fs_r P hm.1
              exact (okP1_r (hp _ hf.1 (by omega))).1) hh.symm j hj
          · simp only [hU, if_false] at hh
            have := Option.some.inj hh
            rw [this] at hj
            exact ih1 j hj
    split at hj
    · unfold bt at hj; simp at hj
    · rename_i S hS
      rw [bt_bs _ j0, Bool.and_eq_true] at hj
      exact (key (nS P).toNat (-1) (by omega) (by omega) S hS j hj.2).2
theorem bst_in (h : WF P) (hn0 : 0 < nS P) : ∀ i : Nat, (i : Int) ≤ tw_ P w → ∀ j, 0 ≤ j → bt (bst P w i) j = true → j < nS P
  | 0, _, j, _, hj => by
    have hj : bt 0 j = true := hj
    unfold bt at hj; simp at hj
  | i + 1, hi, j, j0, hj => by
    unfold bst kfw at hj
    split at hj
    · exact su_in h hn0 (pi_c h (w := w) i (by omega)).1 j j0 hj
    · exact bst_in h hn0 i (by omega) j j0 hj
theorem sM_fewest (h : RS μ P w q) {a : Int} (k : ∀ μ1, Fr SR μ μ1 → Q (vFewest P w a) μ1) : Ci E mM_fewest [jvR 76, jvI a] μ Q := by
  have hn := h.n
  have htw : 1 ≤ tw_ P w := by rw [← tw_pr h.wf]; exact prN_pos _
  unfold vFewest at k
  refine vM_fewest_0 (sM_steps h.r ⟨fun c => ⟨_, rfl, ?_⟩, fun c => ⟨fun c2 => ⟨_, rfl, ?_⟩, fun c2 => sM_waysMany h (fun r hr => ⟨fun c3 => ?_, fun c3 => ⟨_, rfl, ?_⟩⟩)⟩⟩)
  · rw [if_pos (by unfold vBest; rw [if_pos (Or.inl c)])] at k; exact k μ Fr.rf
  · by_cases hb : vBest P w = 0
    · rw [if_pos hb] at k; exact k μ Fr.rf
    · rw [if_neg hb, if_neg (by omega), show kth (bt (vBest P w)) a = -1 from ff_none (fun j x y => by
        have := cnt_le (bt (vBest P w)) x
        rw [decide_eq_false (by omega), Bool.and_false])] at k
      exact k μ Fr.rf
  · have hv : vBest P w = bst P w (tw_ P w).toNat := by
      unfold vBest
      rw [if_neg (by have := hr.mp c3; omega)]
    rw [hv] at k
    refine sM_fewestOf h (by omega) (fun μ1 f1 => ⟨fun c4 => ?_, fun c4 => ⟨_, rfl, by rw [if_pos c4] at k; exact k μ1 f1⟩⟩)
    rw [if_neg c4] at k
    have ho := bst_ok P w (tw_ P w).toNat
    have hin := bst_in h.wf (w := w) (show 0 < nS P by omega) (tw_ P w).toNat (by omega)
    refine ⟨fun c5 => ?_, fun c5 => sM_bitsOf ho ⟨_, rfl, by rw [if_pos c5] at k; exact k μ1 f1⟩⟩
    rw [if_neg c5] at k
    have hR := h.fr f1
    generalize bst P w (tw_ P w).toNat = x at *
    have lp : ∀ (l5 l4 : Int), 0 ≤ l5 → l5 ≤ nS P → l4 = cnt (bt x) l5 → (∀ j, 0 ≤ j → j < l5 → (bt x j && decide (cnt (bt x) j = a)) = false) → K 121 E mM_fewest 53 [some (jvR 76), some (jvI a), some (jvL x), none, some (jvI l4), some (jvI l5)] [] μ1 (fun v μ1 => ∃ r, v = some (jvI r) ∧ Q r μ1) := by
      refine up_ind (nS P) _ ?_
      intro l5 ih l4 g0 g1 g3 g4
      have hcl := cnt_le (bt x) g0
      have hcs := cnt_s (bt x) g0
      refine vM_fewest_53 (sM_steps hR.r ⟨fun c6 => ⟨_, rfl, ?_⟩, fun c6 => ?_⟩)
      · rw [show kth (bt x) a = -1 from ff_none (fun j j0 j1 => by
          by_cases hj : j < nS P
          · exact g4 j j0 (by omega)
          · rw [show bt x j = false by rw [Bool.eq_false_iff]; exact fun hh => hj (hin j j0 hh), Bool.false_and])] at k
        exact k μ1 f1
      · have e := bs_in01 (p := bt x) g0 (show l5 < 40 by omega)
        rw [bs_bt40 ho] at e
        rw [e]
        refine ⟨fun c7 => ?_, fun c7 => ⟨by omega, ih (by omega) l4 (by omega) (by omega) ?_ (fun j x1 x2 => ?_)⟩⟩
        · have hb := b2i_b c7
          rw [hb, b2i_t] at hcs
          refine ⟨fun c8 => ⟨by omega, ih (by omega) _ (by omega) (by omega) (by omega) (fun j x1 x2 => ?_)⟩, fun c8 => ⟨_, rfl, ?_⟩⟩
          · by_cases hj : j = l5
            · rw [hj, decide_eq_false (by omega), Bool.and_false]
            · exact g4 j x1 (by omega)
          · rw [show kth (bt x) a = l5 from ff_eq g0 (by omega) (by rw [hb, decide_eq_true (by omega)]; rfl) (fun j x1 x2 => g4 j x1 (by omega))] at k
            exact k μ1 f1
        · rw [b2i_b0 c7, b2i_f] at hcs; omega
        · by_cases hj : j = l5
          · rw [hj, b2i_b0 c7, Bool.false_and]
          · exact g4 j x1 (by omega)
    exact lp 0 0 (by omega) (by omega) rfl (fun j x1 x2 => by omega)
  · rw [if_pos (by unfold vBest; rw [if_pos (Or.inr (by have := hr.mpr; omega))])] at k; exact k μ Fr.rf
end
