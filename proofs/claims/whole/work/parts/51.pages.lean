/-! pages: the reference -/
def lkT (P : jP) (p : Int) : Int → Int → Int := tb (fun g y left => if left ≤ 0 then (if y = 0 ∧ left = 0 then 0 else 10000) else mnN (fun j => if g (y - j) (left - 1) = 10000 then 10000 else lks P (rn P - y) (rn P - y + j) + g (y - j) (left - 1)) (cw P p (rn P - y))) (fun _ => 10000)
def lk (P : jP) (p f left : Int) : Int := lkT P p (rn P - f) left
def lv (P : jP) (p f t left : Int) : Int := if lk P p t (left - 1) = 10000 then 10000 else lks P f t + lk P p t (left - 1)
theorem lk_eq {P : jP} {p f left : Int} (hp : 1 ≤ p) (hf : f ≤ rn P) : lk P p f left = if left ≤ 0 then (if f = rn P ∧ left = 0 then 0 else 10000) else mnN (fun j => lv P p f (f + j) left) (cw P p f) := by
  unfold lk lkT
  rw [tb_eq (by omega) (fun g g' hg => ?_)]
  · by_cases h : left ≤ 0
    · simp only [h, if_true]
      by_cases h2 : f = rn P ∧ left = 0
      · rw [if_pos (by omega), if_pos h2]
      · rw [if_neg (by omega), if_neg h2]
    · simp only [h, if_false]
      rw [show rn P - (rn P - f) = f by omega]
      refine mnN_congr _ (fun j j0 j1 => ?_)
      unfold lv lk lkT
      rw [show rn P - f - j = rn P - (f + j) by omega]
  · funext l
    by_cases h : l ≤ 0
    · simp only [h, if_true]
    · simp only [h, if_false]
      refine mnN_congr _ (fun j j0 j1 => ?_)
      have hj : j ≤ rn P - f := by
        unfold cw at j1
        rw [show rn P - (rn P - f) = f by omega] at j1
        split at j1 <;> omega
      rw [hg (rn P - f - j) (by omega) (by omega)]
theorem mnN_r {g : Int → Int} : ∀ (n : Nat), (∀ j : Int, 1 ≤ j → j ≤ n → 0 ≤ g j) → 0 ≤ mnN g n ∧ mnN g n ≤ 10000
  | 0, _ => by show (0 : Int) ≤ 10000 ∧ (10000 : Int) ≤ 10000; omega
  | n + 1, h => by
    have ih := mnN_r (g := g) n (fun j a b => h j a (by omega))
    have h2 := h ((n : Int) + 1) (by omega) (by omega)
    unfold mnN
    split <;> omega
theorem lk_r {P : jP} (h : WF P) {p : Int} (hp : 1 ≤ p) : ∀ (n : Nat) (f left : Int), rn P - f ≤ n → 0 ≤ f → f ≤ rn P → 0 ≤ lk P p f left ∧ lk P p f left ≤ 10000
  | n, f, left, hn, h0, h1 => by
    rw [lk_eq hp h1]
    split
    · split <;> omega
    · refine mnN_r _ (fun j j1 j2 => ?_)
      have hc := cw_r hp h1 j2
      match n with
      | 0 => omega
      | n + 1 =>
        have ih := lk_r h hp n (f + j) (left - 1) (by omega) (by omega) (by omega)
        have hl := lks_r h h0 j.toNat (by omega)
        rw [show ((j.toNat : Nat) : Int) = j by omega] at hl
        unfold lv
        split <;> omega
theorem lk_lo {P : jP} {p : Int} (hp : 1 ≤ p) : ∀ (n : Nat) (f left : Int), rn P - f ≤ n → f ≤ rn P → left < pg P p f → lk P p f left = 10000
  | n, f, left, hn, h1, hl => by
    rw [lk_eq hp h1]
    split
    · rw [if_neg]
      intro hh
      rw [hh.1, pg_end hp] at hl
      omega
    · refine mnN_big _ (fun j j1 j2 => ?_)
      have hc := cw_r hp h1 j2
      have hm := pg_mono (P := P) hp (show f ≤ f + j by omega) (show f + j ≤ f + p by omega) hc.2
      match n with
      | 0 => omega
      | n + 1 =>
        unfold lv
        rw [if_pos (lk_lo hp n (f + j) (left - 1) (by omega) hc.2 (by omega))]
theorem lv_vf {P : jP} (h : WF P) {p f t : Int} (hp : 1 ≤ p) (h0 : 0 ≤ f) (h1 : f < t) (h2 : t ≤ f + p) (h3 : t ≤ rn P) (hlk : lk P p t (pg P p t) = bw P p t) : lv P p f t (pg P p f) = vf P p f t := by
  have hm := pg_mono (P := P) hp (show f ≤ t by omega) h2 h3
  have hb := bw_lt h hp (show 0 ≤ t by omega) h3
  unfold lv vf
  by_cases hh : pg P p t < pg P p f
  · rw [if_pos hh, show pg P p f - 1 = pg P p t by omega, hlk, if_neg (by omega)]
  · rw [if_neg hh, if_pos (lk_lo hp (rn P - t).toNat t _ (by omega) h3 (by omega))]
theorem lk_pg {P : jP} (h : WF P) {p : Int} (hp : 1 ≤ p) : ∀ (n : Nat) (f : Int), rn P - f ≤ n → 0 ≤ f → f ≤ rn P → lk P p f (pg P p f) = bw P p f
  | n, f, hn, h0, h1 => by
    rw [lk_eq hp h1, bw_eq h1]
    by_cases hf : f = rn P
    · rw [if_pos hf, hf, pg_end hp, if_pos (by omega), if_pos ⟨rfl, rfl⟩]
    · have hpp := pg_pos (P := P) hp (show f < rn P by omega)
      rw [if_neg hf, if_neg (by omega)]
      refine mnN_congr _ (fun j j1 j2 => ?_)
      have hc := cw_r hp h1 j2
      match n with
      | 0 => omega
      | n + 1 => exact lv_vf h hp h0 (by omega) (by omega) hc.2 (lk_pg h hp n (f + j) (by omega) (by omega) hc.2)
theorem lk_pg' {P : jP} (h : WF P) {p f : Int} (hp : 1 ≤ p) (h0 : 0 ≤ f) (h1 : f ≤ rn P) : lk P p f (pg P p f) = bw P p f := lk_pg h hp (rn P - f).toNat f (by omega) h0 h1
theorem lv_vf' {P : jP} (h : WF P) {p f t : Int} (hp : 1 ≤ p) (h0 : 0 ≤ f) (h1 : f < t) (h2 : t ≤ f + p) (h3 : t ≤ rn P) : lv P p f t (pg P p f) = vf P p f t := lv_vf h hp h0 h1 h2 h3 (lk_pg' h hp (by omega) h3)
section
variable {E : jE} {μ : jMu} {P : jP} {Q : Int → jMu → Prop} {Q0 : jMu → Prop}
theorem sM_looksOf (h : RK μ P) {f t : Int} (h0 : 0 ≤ f) (h1 : f ≤ t) (h2 : t ≤ rn P) (k : Q (lks P f t) μ) : Ci E mM_looksOf [jvR 76, jvI f, jvI t] μ Q := by
  have hr := rn_r h.1.1
  refine vM_looksOf_0 ?_
  have lp : ∀ (l4 l3 : Int), f ≤ l4 → l4 ≤ t → l3 = lks P f l4 → K 121 E mM_looksOf 5 [some (jvR 76), some (jvI f), some (jvI t), some (jvI l3), some (jvI l4), none] [] μ (fun v μ1 => ∃ r, v = some (jvI r) ∧ Q r μ1) := by
    refine up_ind t _ ?_
    intro l4 ih l3 g0 g1 g3
    refine vM_looksOf_5 ⟨fun c => ⟨_, rfl, ?_⟩, fun c => ?_⟩
    · rw [g3, show l4 = t by omega]; exact k
    · have hp := rp_r h.1.1 (show 0 ≤ l4 by omega) (show l4 < rn P by omega)
      obtain ⟨r1, r2, r3, r4⟩ := rs_c h.1.1 (show 0 ≤ l4 by omega) (show l4 < rn P by omega)
      have hls := lks_s (P := P) g0
      have hlr := lks_r h.1.1 h0 (l4 - f).toNat (by omega)
      rw [show f + (((l4 - f).toNat : Nat) : Int) = l4 by omega] at hlr
      have lp2 : ∀ (l5 l3' : Int), 0 ≤ l5 → l5 ≤ rp P l4 → l3' = l3 + cnt (fun i => decide (le P l4 i < f)) l5 → K 121 E mM_looksOf 14 [some (jvR 76), some (jvI f), some (jvI t), some (jvI l3'), some (jvI l4), some (jvI l5)] [] μ (fun v μ1 => ∃ r, v = some (jvI r) ∧ Q r μ1) := by
        refine up_ind (rp P l4) _ ?_
        intro l5 ih5 l3' d0 d1 d3
        have hcl := cnt_le (fun i => decide (le P l4 i < f)) d0
        have hcs := cnt_s (fun i => decide (le P l4 i < f)) d0
        refine vM_looksOf_14 ⟨by omega, ?_⟩
        rw [h.e105 (by omega) (by omega)]
        refine sM_namesMany h.1 r1 r2 ?_
        rw [show pn P (rs P l4) = rp P l4 from rfl]
        refine ⟨fun c5 => ⟨by omega, ih (by omega) l3' (by omega) (by omega) ?_⟩, fun c5 => sM_leansTo h (by omega) (by omega) d0 (by omega) ⟨fun c6 => ⟨by omega, ih5 (by omega) _ (by omega) (by omega) ?_⟩, fun c6 => ⟨by omega, ih5 (by omega) _ (by omega) (by omega) ?_⟩⟩⟩
        · rw [hls, d3, g3, show l5 = rp P l4 by omega]; rfl
        · rw [decide_eq_false (by omega), b2i_f] at hcs; omega
        · rw [decide_eq_true (by omega), b2i_t] at hcs; omega
      exact lp2 0 l3 (by omega) (by omega) (by rw [cnt_0]; omega)
  exact lp f 0 (by omega) (by omega) lks_0.symm
theorem sM_looksBy (h : RK μ P) {p f t left : Int} (hp : 1 ≤ p) (h0 : 0 ≤ f) (h1 : f ≤ t) (h2 : t ≤ rn P) (hl : 1 ≤ left ∧ left ≤ 41) (e118 : μ 118 (42 * t + left - 1) = lk P p t (left - 1)) (k : Q (lv P p f t left) μ) : Ci E mM_looksBy [jvR 76, jvI f, jvI t, jvI left] μ Q := by
  have hr := rn_r h.1.1
  have hlk := lk_r h.1.1 hp (rn P - t).toNat t (left - 1) (by omega) (by omega) h2
  have hlr := lks_r h.1.1 h0 (t - f).toNat (by omega)
  rw [show f + (((t - f).toNat : Nat) : Int) = t by omega] at hlr
  unfold lv at k
  refine vM_looksBy_0 ⟨by omega, ?_⟩
  rw [e118]
  refine ⟨fun c => sM_looksOf h h0 h1 h2 ?_, fun c => ⟨_, rfl, ?_⟩⟩
  · rw [e118]
    refine ⟨by omega, _, rfl, ?_⟩
    rw [if_neg c] at k; exact k
  · rw [if_pos c] at k; exact k
theorem sM_pagesOf (h : RK μ P) {p all : Int} (hp : 1 ≤ p) (hp2 : p ≤ 40) (ha : 0 ≤ all) (ha2 : all ≤ 40) (k : ∀ μ1, Fr SR μ μ1 → (∀ f left, 0 ≤ f → f ≤ rn P → 0 ≤ left → left ≤ all → μ1 118 (42 * f + left) = lk P p f left) → Q0 μ1) : Cv E mM_pagesOf [jvR 76, jvI p, jvI all] μ Q0 := by
  have hr := rn_r h.1.1
  have w118 : ∀ j : Int, SR 118 j := fun j => Or.inr (Or.inr (Or.inl (by omega)))
  refine vM_pagesOf_0 ?_
  rw [h.e44]
  have lp : ∀ (l3 : Int) (μ0 : jMu), -1 ≤ l3 → l3 ≤ rn P → Fr SR μ μ0 → (∀ f left, l3 < f → f ≤ rn P → 0 ≤ left → left ≤ all → μ0 118 (42 * f + left) = lk P p f left) → K 121 E mM_pagesOf 5 [some (jvR 76), some (jvI p), some (jvI all), some (jvI l3), none, none, none] [] μ0 (fun v μ1 => v = none ∧ Q0 μ1) := by
    refine down_ind _ ?_
    intro l3 ih μ0 g0 g1 g2 g3
    refine vM_pagesOf_5 ⟨fun c => ⟨rfl, k μ0 g2 (fun f left a b d e => g3 f left (by omega) b d e)⟩, fun c => ?_⟩
    have lp2 : ∀ (l4 : Int) (μ4 : jMu), 0 ≤ l4 → l4 ≤ all + 1 → Fr SR μ μ4 → (∀ f left, l3 < f → f ≤ rn P → 0 ≤ left → left ≤ all → μ4 118 (42 * f + left) = lk P p f left) → (∀ left, 0 ≤ left → left < l4 → μ4 118 (42 * l3 + left) = lk P p l3 left) → K 121 E mM_pagesOf 12 [some (jvR 76), some (jvI p), some (jvI all), some (jvI l3), some (jvI l4), none, none] [] μ4 (fun v μ1 => v = none ∧ Q0 μ1) := by
      refine up_ind (all + 1) _ ?_
      intro l4 ih4 μ4 d0 d1 d2 d3 d4
      have hR := h.fr d2
      refine vM_pagesOf_12 ?_
      rw [hR.e44]
      refine ⟨fun c4 => ⟨by omega, ih (by omega) μ4 (by omega) (by omega) d2 (fun f left a b d e => ?_)⟩, fun c4 => ?_⟩
      · by_cases hf : f = l3
        · subst hf; exact d4 left d (by omega)
        · exact d3 f left (by omega) b d e
      · -- write a value and go on
        have fin : ∀ l5 : Int, l5 = lk P p l3 l4 → ((-2147483648 ≤ (42 * l3) ∧ (42 * l3) < 2147483648) ∧ (-2147483648 ≤ ((42 * l3) + l4) ∧ ((42 * l3) + l4) < 2147483648) ∧ (0 ≤ ((42 * l3) + l4) ∧ ((42 * l3) + l4) < 1722) ∧ (-2147483648 ≤ (l4 + 1) ∧ (l4 + 1) < 2147483648)) ∧ (K 121 E mM_pagesOf 12 [some (jvR 76), some (jvI p), some (jvI all), some (jvI l3), some (jvI (l4 + 1)), none, none] [] (j_up μ4 118 ((42 * l3) + l4) l5) (fun v μ1 => v = none ∧ Q0 μ1)) := by
          intro l5 h5
          refine ⟨by omega, ih4 (by omega) _ (by omega) (by omega) (d2.put (w118 _)) (fun f left a b d e => ?_) (fun left a b => ?_)⟩
          · rw [up_nk (by omega)]; exact d3 f left a b d e
          · rw [up_if]
            by_cases hl : left = l4
            · subst hl; rw [if_pos rfl]; exact h5
            · rw [if_neg (by omega)]; exact d4 left a (by omega)
        have hlk := lk_eq (P := P) (left := l4) hp g1
        have lp3 : ∀ (l6 l5 : Int), 1 ≤ l6 - l3 → l6 - l3 ≤ (cw P p l3 : Int) + 1 → (l4 ≤ 0 → l5 = lk P p l3 l4) → (0 < l4 → l5 = mnN (fun j => lv P p l3 (l3 + j) l4) (l6 - l3 - 1).toNat) → K 121 E mM_pagesOf 45 [some (jvR 76), some (jvI p), some (jvI all), some (jvI l3), some (jvI l4), some (jvI l5), some (jvI l6)] [] μ4 (fun v μ1 => v = none ∧ Q0 μ1) := by
          refine up_ind (l3 + (cw P p l3 : Int) + 1) _ ?_
          intro l6 ih6 l5 e0 e1 e2 e3
          have hcw := cw_r hp g1 (Int.le_refl (cw P p l3 : Int))
          refine vM_pagesOf_45 ?_
          rw [hR.e44]
          have hend : l6 - l3 = (cw P p l3 : Int) + 1 → l5 = lk P p l3 l4 := by
            intro he
            by_cases h4 : l4 ≤ 0
            · exact e2 h4
            · rw [e3 (by omega), hlk, if_neg h4, show (l6 - l3 - 1).toNat = cw P p l3 by omega]
          refine ⟨by omega, fun c6 => fin l5 (hend ?_), fun c6 => ⟨fun c7 => fin l5 (hend ?_), fun c7 => ⟨fun c8 => fin l5 (e2 c8), fun c8 => ?_⟩⟩⟩
          · have := cw_in (P := P) (p := p) (f := l3) (j := l6 - l3)
            omega
          · have := cw_in (P := P) (p := p) (f := l3) (j := l6 - l3)
            omega
          · have hin := cw_in (P := P) (p := p) (f := l3) (j := l6 - l3) (by omega) (by omega)
            have e118 : μ4 118 (42 * l6 + l4 - 1) = lk P p l6 (l4 - 1) := by
              have := d3 l6 (l4 - 1) (by omega) (by omega) (by omega) (by omega)
              rw [show 42 * l6 + (l4 - 1) = 42 * l6 + l4 - 1 by omega] at this
              exact this
            have hs : mnN (fun j => lv P p l3 (l3 + j) l4) (l6 + 1 - l3 - 1).toNat = if lv P p l3 l6 l4 < l5 then lv P p l3 l6 l4 else l5 := by
              rw [show (l6 + 1 - l3 - 1).toNat = (l6 - l3 - 1).toNat + 1 by omega, e3 (by omega)]
              show (if lv P p l3 (l3 + ((((l6 - l3 - 1).toNat : Nat) : Int) + 1)) l4 < mnN (fun j => lv P p l3 (l3 + j) l4) (l6 - l3 - 1).toNat then lv P p l3 (l3 + ((((l6 - l3 - 1).toNat : Nat) : Int) + 1)) l4 else mnN (fun j => lv P p l3 (l3 + j) l4) (l6 - l3 - 1).toNat) = _
              rw [show l3 + ((((l6 - l3 - 1).toNat : Nat) : Int) + 1) = l6 by omega]
            refine sM_looksBy hR hp (by omega) (by omega) (by omega) (by omega) e118 ⟨fun c9 => ⟨by omega, ih6 (by omega) l5 (by omega) (by omega) (fun q => absurd q c8) (fun _ => ?_)⟩, fun c9 => sM_looksBy hR hp (by omega) (by omega) (by omega) (by omega) e118 ⟨by omega, ih6 (by omega) _ (by omega) (by omega) (fun q => absurd q c8) (fun _ => ?_)⟩⟩
            · rw [hs, if_neg (by omega)]
            · rw [hs, if_pos (by omega)]
        have m0 : (l3 + 1 - l3 - 1).toNat = 0 := by omega
        have start : ∀ l5 : Int, (l4 ≤ 0 → l5 = lk P p l3 l4) → (0 < l4 → l5 = 10000) → ((-2147483648 ≤ (l3 + 1) ∧ (l3 + 1) < 2147483648)) ∧ K 121 E mM_pagesOf 45 [some (jvR 76), some (jvI p), some (jvI all), some (jvI l3), some (jvI l4), some (jvI l5), some (jvI (l3 + 1))] [] μ4 (fun v μ1 => v = none ∧ Q0 μ1) := fun l5 x1 x2 => ⟨by omega, lp3 (l3 + 1) l5 (by omega) (by omega) x1 (fun q => by rw [x2 q, m0]; rfl)⟩
        refine ⟨fun c5 => start 10000 (fun q => ?_) (fun _ => rfl), fun c5 => ⟨fun c6 => start 10000 (fun q => by omega) (fun _ => rfl), fun c6 => start 0 (fun q => ?_) (fun q => by omega)⟩⟩
        · rw [hlk, if_pos q, if_neg (by omega)]
        · rw [hlk, if_pos q, if_pos ⟨c5, c6⟩]
    exact lp2 0 μ0 (by omega) (by omega) g2 g3 (fun left a b => by omega)
  exact lp (rn P) μ (by omega) (by omega) Fr.rf (fun f left a b => by omega)
theorem sM_pages (h : RK μ P) {p a : Int} (ha : -2147483648 ≤ a ∧ a < 2147483648) (k : ∀ μ1, Fr SR μ μ1 → Q (vPages P p a) μ1) : Ci E mM_pages [jvR 76, jvI p, jvI a] μ Q := by
  have hr := rn_r h.1.1
  unfold vPages at k
  refine vM_pages_0 (sM_isIn (fun p1 p2 => ⟨fun c => absurd c (by decide), fun _ => ⟨fun c => ⟨_, rfl, ?_⟩, fun c => ?_⟩⟩) (fun p1 => ⟨fun _ => ⟨_, rfl, ?_⟩, fun c => absurd rfl c⟩))
  · rw [if_pos (by omega)] at k; exact k μ Fr.rf
  · rw [h.e44]
    refine ⟨fun c2 => ?_, fun c2 => ⟨_, rfl, ?_⟩⟩
    · rw [if_neg (by omega)] at k
      have hpg := pg_le (P := P) p1 (Int.le_refl 0) hr.1
      have epg : Int.tdiv (rn P + p - 1) p = pg P p 0 := by unfold pg; rw [show rn P - 0 + p - 1 = rn P + p - 1 by omega]
      rw [epg]
      refine ⟨⟨by omega, by omega, by omega, by omega⟩, fun c3 => ⟨by omega, fun c4 => ?_, fun c4 => ⟨_, rfl, ?_⟩⟩, fun c3 => ⟨_, rfl, ?_⟩⟩
      · refine sM_pagesOf h p1 p2 (by omega) (by omega) (fun μ1 f1 t1 => ⟨fun c5 => ?_, fun c5 => ⟨by omega, _, rfl, ?_⟩⟩)
        · rw [if_neg c3, if_neg c5, if_pos (by omega)] at k
          have hR := h.fr f1
          have lp : ∀ (l5 l4 : Int), 0 ≤ l5 → l5 ≤ a - 2 → l4 = fnN P p l5.toNat → K 121 E mM_pages 75 [some (jvR 76), some (jvI p), some (jvI a), some (jvI (pg P p 0)), some (jvI l4), some (jvI l5), none] [] μ1 (fun v μ1 => ∃ r, v = some (jvI r) ∧ Q r μ1) := by
            refine up_ind (a - 2) _ ?_
            intro l5 ih l4 g0 g1 g3
            have hfn := fn_c h.1.1 p1 l5.toNat (by omega)
            rw [← g3] at hfn
            refine vM_pages_75 ⟨by omega, fun c6 => ⟨_, rfl, ?_⟩, fun c6 => ⟨by omega, ?_⟩⟩
            · rw [g3, show l5 = a - 2 by omega]; exact k μ1 f1
            · have hlt : l4 < rn P := by
                refine Classical.byContradiction (fun hno => ?_)
                have := pg_end (P := P) p1
                rw [show l4 = rn P by omega] at hfn
                omega
              have hnp := np_c h.1.1 p1 hfn.1 hlt
              have hpos := pg_pos (P := P) p1 hlt
              have lp2 : ∀ l6 : Int, l4 < l6 → l6 ≤ np P p l4 → K 121 E mM_pages 89 [some (jvR 76), some (jvI p), some (jvI a), some (jvI (pg P p 0)), some (jvI l4), some (jvI l5), some (jvI l6)] [] μ1 (fun v μ1 => ∃ r, v = some (jvI r) ∧ Q r μ1) := by
                refine up_ind (np P p l4 + 1) _ ?_
                intro l6 ih6 d0 d1
                have el : pg P p 0 - l5 = pg P p l4 := by omega
                refine vM_pages_89 ?_
                rw [el]
                have e118 : μ1 118 (42 * l6 + pg P p l4 - 1) = lk P p l6 (pg P p l4 - 1) := by
                  have := t1 l6 (pg P p l4 - 1) (by omega) (by omega) (by omega) (by omega)
                  rw [show 42 * l6 + (pg P p l4 - 1) = 42 * l6 + pg P p l4 - 1 by omega] at this
                  exact this
                refine ⟨by omega, sM_looksBy hR p1 hfn.1 (by omega) (by omega) (by omega) e118 ?_⟩
                rw [show 42 * l4 + pg P p 0 - l5 = 42 * l4 + pg P p l4 by omega, t1 l4 (pg P p l4) hfn.1 (by omega) (by omega) (by omega), lk_pg' h.1.1 p1 hfn.1 (by omega), lv_vf' h.1.1 p1 hfn.1 d0 (by omega) (by omega)]
                refine ⟨by omega, fun c7 => ⟨by omega, ih (by omega) l6 (by omega) (by omega) ?_⟩, fun c7 => ⟨by omega, ?_⟩⟩
                · have e6 : l6 = np P p l4 := by
                    rcases Int.lt_or_eq_of_le d1 with hh | hh
                    · exact absurd c7 (hnp.2.2.2.2.2 l6 d0 hh)
                    · exact hh
                  rw [show (l5 + 1).toNat = l5.toNat + 1 by omega]
                  show l6 = np P p (fnN P p l5.toNat)
                  rw [← g3]; exact e6
                · have : l6 ≠ np P p l4 := by
                    intro hh
                    rw [hh] at c7
                    exact c7 hnp.2.2.2.1
                  exact ih6 (by omega) (by omega) (by omega)
              exact lp2 (l4 + 1) (by omega) (by omega)
          exact lp 0 0 (by omega) (by omega) rfl
        · rw [if_neg c3, if_pos c5] at k
          have := t1 0 (pg P p 0) (by omega) (by omega) (by omega) (by omega)
          rw [show 42 * 0 + pg P p 0 = pg P p 0 by omega, lk_pg' h.1.1 p1 (Int.le_refl 0) hr.1] at this
          rw [this]
          exact k μ1 f1
      · rw [if_neg c3, if_neg (by omega), if_neg (by omega)] at k; exact k μ Fr.rf
      · rw [if_pos c3] at k; exact k μ Fr.rf
    · rw [if_pos (by omega)] at k; exact k μ Fr.rf
  · rw [if_pos (by omega)] at k; exact k μ Fr.rf
end
