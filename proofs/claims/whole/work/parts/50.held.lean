/-! what is held; pages: the reference -/
def lb (P : jP) (t k : Int) : Bool := anyB (fun i => le P t i == k) (rp P t)
def hd (P : jP) (S : Int → Bool) (k : Int) : Bool := S k && (k == rn P - 1 || anyB (fun t => lb P t k && !S t) (rn P))
def hc (P : jP) (S : Int → Bool) : Int := cnt (hd P S) (rn P)
def mhN (P : jP) : Nat → Int
  | 0 => 0
  | n + 1 => if mhN P n < hc P (fun j => decide (j < (n : Int) + 1)) then hc P (fun j => decide (j < (n : Int) + 1)) else mhN P n
def mh (P : jP) (n : Int) : Int := mhN P n.toNat
theorem mh_s {P : jP} {n : Int} (h : 0 ≤ n) : mh P (n + 1) = if mh P n < hc P (fun j => decide (j < n + 1)) then hc P (fun j => decide (j < n + 1)) else mh P n := by
  unfold mh
  rw [show (n + 1).toNat = n.toNat + 1 by omega]
  show (if mhN P n.toNat < hc P (fun j => decide (j < ((n.toNat : Nat) : Int) + 1)) then hc P (fun j => decide (j < ((n.toNat : Nat) : Int) + 1)) else mhN P n.toNat) = _
  rw [show ((n.toNat : Nat) : Int) = n by omega]
def vHeld (P : jP) : Int := if rn P = 0 then -1 else mh P (rn P)
section
variable {E : jE} {μ : jMu} {P : jP} {Q : Int → jMu → Prop}
theorem sM_held (h : RK μ P) (k : Q (vHeld P) μ) : Ci E mM_held [jvR 76] μ Q := by
  have hn := h.1.n
  have hr := rn_r h.1.1
  unfold vHeld at k
  refine vM_held_0 ?_
  rw [h.e44]
  refine ⟨fun c => ?_, fun c => ⟨_, rfl, by rw [if_pos c] at k; exact k⟩⟩
  rw [if_neg c] at k
  have lp : ∀ (l2 l1 : Int), 1 ≤ l2 → l2 ≤ rn P + 1 → l1 = mh P (l2 - 1) → K 121 E mM_held 13 [some (jvR 76), some (jvI l1), some (jvI l2), none, none, none, none, none] [] μ (fun v μ1 => ∃ r, v = some (jvI r) ∧ Q r μ1) := by
    refine up_ind (rn P + 1) _ ?_
    intro l2 ih l1 g0 g1 g3
    refine vM_held_13 ?_
    rw [h.e44]
    refine ⟨fun c2 => ⟨_, rfl, ?_⟩, fun c2 => ?_⟩
    · rw [g3, show l2 - 1 = rn P by omega]; exact k
    · have lp2 : ∀ (l4 l3 : Int), 0 ≤ l4 → l4 ≤ l2 → l3 = cnt (hd P (fun j => decide (j < l2))) l4 → K 121 E mM_held 26 [some (jvR 76), some (jvI l1), some (jvI l2), some (jvI l3), some (jvI l4), none, none, none] [] μ (fun v μ1 => ∃ r, v = some (jvI r) ∧ Q r μ1) := by
        refine up_ind l2 _ ?_
        intro l4 ih4 l3 d0 d1 d3
        have hcl := cnt_le (hd P (fun j => decide (j < l2))) d0
        have hcs := cnt_s (hd P (fun j => decide (j < l2))) d0
        refine vM_held_26 ?_
        rw [h.e44]
        refine ⟨fun c4 => ?_, fun c4 => ⟨by omega, ?_⟩⟩
        · have hl : l4 = l2 := by omega
          subst hl
          have e : hc P (fun j => decide (j < l4)) = l3 := by
            rw [d3]
            unfold hc
            refine cnt_ext (by omega) (by omega) (fun _ _ _ => rfl) (fun j a b => ?_)
            simp only [hd, decide_eq_false (show ¬ j < l4 by omega), Bool.false_and]
          have hm := mh_s (P := P) (n := l4 - 1) (by omega)
          rw [show l4 - 1 + 1 = l4 by omega, e, ← g3] at hm
          refine ⟨fun c5 => ⟨by omega, ih (by omega) l1 (by omega) (by omega) ?_⟩, fun c5 => ⟨by omega, ih (by omega) l3 (by omega) (by omega) ?_⟩⟩
          · rw [show l4 + 1 - 1 = l4 by omega, hm, if_neg (by omega)]
          · rw [show l4 + 1 - 1 = l4 by omega, hm, if_pos (by omega)]
        · have body : ∀ l5 : Int, l5 = b2i (l4 == rn P - 1) → K 121 E mM_held 53 [some (jvR 76), some (jvI l1), some (jvI l2), some (jvI l3), some (jvI l4), some (jvI l5), some (jvI l2), none] [] μ (fun v μ1 => ∃ r, v = some (jvI r) ∧ Q r μ1) := by
            intro l5 h5
            have lp3 : ∀ (l6 l5 : Int), l2 ≤ l6 → l6 ≤ rn P → l5 = b2i (l4 == rn P - 1 || anyB (fun t => lb P t l4 && !decide (t < l2)) l6) → K 121 E mM_held 53 [some (jvR 76), some (jvI l1), some (jvI l2), some (jvI l3), some (jvI l4), some (jvI l5), some (jvI l6), none] [] μ (fun v μ1 => ∃ r, v = some (jvI r) ∧ Q r μ1) := by
              refine up_ind (rn P) _ ?_
              intro l6 ih6 l5 e0 e1 e3
              refine vM_held_53 ?_
              rw [h.e44]
              refine ⟨fun c6 => ?_, fun c6 => ?_⟩
              · have hhd : hd P (fun j => decide (j < l2)) l4 = (l4 == rn P - 1 || anyB (fun t => lb P t l4 && !decide (t < l2)) l6) := by
                  simp only [hd, decide_eq_true (show l4 < l2 by omega), Bool.true_and]
                  rw [show l6 = rn P by omega]
                rw [hhd, ← e3] at hcs
                have := b2i_01 (l4 == rn P - 1 || anyB (fun t => lb P t l4 && !decide (t < l2)) l6)
                exact ⟨fun c7 => ⟨by omega, ih4 (by omega) _ (by omega) (by omega) (by omega)⟩, fun c7 => ⟨by omega, ih4 (by omega) _ (by omega) (by omega) (by omega)⟩⟩
              · have hp := rp_r h.1.1 (show 0 ≤ l6 by omega) (show l6 < rn P by omega)
                obtain ⟨r1, r2, r3, r4⟩ := rs_c h.1.1 (show 0 ≤ l6 by omega) (show l6 < rn P by omega)
                have lp4 : ∀ (l7 l5 : Int), 0 ≤ l7 → l7 ≤ rp P l6 → l5 = b2i ((l4 == rn P - 1 || anyB (fun t => lb P t l4 && !decide (t < l2)) l6) || anyB (fun i => le P l6 i == l4) l7) → K 121 E mM_held 65 [some (jvR 76), some (jvI l1), some (jvI l2), some (jvI l3), some (jvI l4), some (jvI l5), some (jvI l6), some (jvI l7)] [] μ (fun v μ1 => ∃ r, v = some (jvI r) ∧ Q r μ1) := by
                  refine up_ind (rp P l6) _ ?_
                  intro l7 ih7 l5 f0 f1 f3
                  refine vM_held_65 ⟨by omega, ?_⟩
                  rw [h.e105 (by omega) (by omega)]
                  refine sM_namesMany h.1 r1 r2 ?_
                  rw [show pn P (rs P l6) = rp P l6 from rfl]
                  refine ⟨fun c7 => ⟨by omega, ih6 (by omega) l5 (by omega) (by omega) ?_⟩, fun c7 => ⟨fun c8 => ⟨by omega, ih7 (by omega) _ (by omega) (by omega) ?_⟩, fun c8 => sM_leansTo h (by omega) (by omega) f0 (by omega) ⟨fun c9 => ⟨by omega, ih7 (by omega) _ (by omega) (by omega) ?_⟩, fun c9 => ⟨by omega, ih7 (by omega) _ (by omega) (by omega) ?_⟩⟩⟩⟩
                  · rw [f3, anyB_s (show 0 ≤ l6 by omega), decide_eq_false (show ¬ l6 < l2 by omega), Bool.not_false, Bool.and_true, ← Bool.or_assoc, show l7 = rp P l6 by omega]
                    rfl
                  · rw [anyB_s f0, ← Bool.or_assoc, b2i_b (fun e => c8 (f3.trans e))]; rfl
                  · rw [anyB_s f0, ← Bool.or_assoc, b2i_b0 (f3.symm.trans c8), beq_eq_false_iff_ne.mpr c9]; rfl
                  · rw [anyB_s f0, beq_iff_eq.mpr c9, Bool.or_true, Bool.or_true]; rfl
                exact lp4 0 l5 (by omega) (by omega) (by rw [e3, anyB_0 (p := fun i => le P l6 i == l4) (show (0 : Int) ≤ 0 by omega), Bool.or_false])
            refine lp3 l2 l5 (by omega) (by omega) ?_
            have : anyB (fun t => lb P t l4 && !decide (t < l2)) l2 = false := by
              rw [Bool.eq_false_iff]
              intro hh
              obtain ⟨t, t0, t1, t2⟩ := anyB_iff.mp hh
              rw [decide_eq_true t1] at t2
              simp at t2
            rw [this, Bool.or_false]
            exact h5
          refine ⟨fun c5 => body 0 ?_, fun c5 => body 1 ?_⟩
          · rw [beq_eq_false_iff_ne.mpr c5]; rfl
          · rw [beq_iff_eq.mpr c5]; rfl
      exact lp2 0 0 (by omega) (by omega) rfl
  exact lp 1 0 (by omega) (by omega) rfl
end
/-! pages -/
def lo (P : jP) (f k : Int) : Int := cnt (fun i => decide (le P k i < f)) (rp P k)
def lksN (P : jP) (f : Int) : Nat → Int
  | 0 => 0
  | n + 1 => lksN P f n + lo P f (f + n)
def lks (P : jP) (f t : Int) : Int := lksN P f (t - f).toNat
theorem lks_s {P : jP} {f t : Int} (h : f ≤ t) : lks P f (t + 1) = lks P f t + lo P f t := by
  unfold lks
  rw [show (t + 1 - f).toNat = (t - f).toNat + 1 by omega]
  show lksN P f (t - f).toNat + lo P f (f + (((t - f).toNat : Nat) : Int)) = _
  rw [show f + (((t - f).toNat : Nat) : Int) = t by omega]
theorem lks_0 {P : jP} {f : Int} : lks P f f = 0 := by
  unfold lks
  rw [show (f - f).toNat = 0 by omega]
  rfl
theorem lo_r {P : jP} (h : WF P) {f k : Int} (h0 : 0 ≤ k) (h1 : k < rn P) : 0 ≤ lo P f k ∧ lo P f k ≤ 3 := by
  have hp := rp_r h h0 h1
  have := cnt_le (fun i => decide (le P k i < f)) hp.1
  unfold lo
  omega
theorem lks_r {P : jP} (h : WF P) {f : Int} (h0 : 0 ≤ f) : ∀ n : Nat, f + n ≤ rn P → 0 ≤ lks P f (f + n) ∧ lks P f (f + n) ≤ 3 * n
  | 0, _ => by rw [show f + ((0 : Nat) : Int) = f by omega, lks_0]; omega
  | n + 1, hn => by
    have ih := lks_r h h0 n (by omega)
    have := lo_r h (f := f) (show 0 ≤ f + n by omega) (show f + n < rn P by omega)
    rw [show f + ((n + 1 : Nat) : Int) = f + n + 1 by omega, lks_s (by omega)]
    omega
/-- how many pages from f on, pages of p -/
def pg (P : jP) (p f : Int) : Int := Int.tdiv (rn P - f + p - 1) p
theorem pg_eq {P : jP} {p f : Int} (hp : 1 ≤ p) (hf : f ≤ rn P) : pg P p f = (rn P - f - 1) / p + 1 := by
  unfold pg
  rw [Int.tdiv_eq_ediv_of_nonneg (by omega)]
  have := Int.add_mul_ediv_right (rn P - f - 1) 1 (show p ≠ 0 by omega)
  rw [show rn P - f + p - 1 = rn P - f - 1 + 1 * p by omega]
  exact this
theorem pg_mono {P : jP} {p f t : Int} (hp : 1 ≤ p) (h1 : f ≤ t) (h2 : t ≤ f + p) (h3 : t ≤ rn P) : pg P p t ≤ pg P p f ∧ pg P p f ≤ pg P p t + 1 := by
  rw [pg_eq hp h3, pg_eq hp (by omega)]
  have e1 : (rn P - t - 1) / p ≤ (rn P - f - 1) / p := Int.ediv_le_ediv (by omega) (by omega)
  have e2 : (rn P - f - 1) / p ≤ (rn P - t - 1 + 1 * p) / p := Int.ediv_le_ediv (by omega) (by omega)
  rw [Int.add_mul_ediv_right _ _ (show p ≠ 0 by omega)] at e2
  omega
theorem pg_end {P : jP} {p : Int} (hp : 1 ≤ p) : pg P p (rn P) = 0 := by
  rw [pg_eq hp (by omega)]
  have : (rn P - rn P - 1) / p = -1 := by
    rw [show rn P - rn P - 1 = (p - 1) + (-1) * p by omega, Int.add_mul_ediv_right _ _ (show p ≠ 0 by omega), Int.ediv_eq_zero_of_lt (by omega) (by omega)]
    omega
  omega
theorem pg_pos {P : jP} {p f : Int} (hp : 1 ≤ p) (hf : f < rn P) : 1 ≤ pg P p f := by
  rw [pg_eq hp (by omega)]
  have : 0 ≤ (rn P - f - 1) / p := Int.ediv_nonneg (by omega) (by omega)
  omega
theorem pg_le {P : jP} {p f : Int} (hp : 1 ≤ p) (h0 : 0 ≤ f) (hf : f ≤ rn P) : 0 ≤ pg P p f ∧ pg P p f ≤ rn P - f := by
  by_cases h : f = rn P
  · rw [h, pg_end hp]; omega
  · have h1 := pg_pos (P := P) hp (show f < rn P by omega)
    refine ⟨by omega, ?_⟩
    rw [pg_eq hp hf]
    have : (rn P - f - 1) / p ≤ rn P - f - 1 := Int.ediv_le_self _ (by omega)
    omega
theorem pg_step {P : jP} {p f : Int} (hp : 1 ≤ p) (hf : f < rn P) : ∃ t, f < t ∧ t ≤ f + p ∧ t ≤ rn P ∧ pg P p t = pg P p f - 1 := by
  by_cases h : f + p ≤ rn P
  · refine ⟨f + p, by omega, by omega, h, ?_⟩
    rw [pg_eq hp h, pg_eq hp (by omega), show rn P - f - 1 = rn P - (f + p) - 1 + 1 * p by omega, Int.add_mul_ediv_right _ _ (show p ≠ 0 by omega)]
    omega
  · refine ⟨rn P, by omega, by omega, by omega, ?_⟩
    rw [pg_end hp, pg_eq hp (by omega), Int.ediv_eq_zero_of_lt (by omega) (by omega)]
    omega
/-- the least of g 1 .. g n, or 10000 -/
def mnN (g : Int → Int) : Nat → Int
  | 0 => 10000
  | n + 1 => if g ((n : Int) + 1) < mnN g n then g ((n : Int) + 1) else mnN g n
theorem mnN_le {g : Int → Int} : ∀ (n : Nat) (j : Int), 1 ≤ j → j ≤ n → mnN g n ≤ g j
  | 0, j, h1, h2 => by omega
  | n + 1, j, h1, h2 => by
    unfold mnN
    by_cases hj : j = (n : Int) + 1
    · subst hj
      split <;> omega
    · have := mnN_le (g := g) n j h1 (by omega)
      split <;> omega
theorem mnN_at {g : Int → Int} : ∀ (n : Nat), mnN g n = 10000 ∨ ∃ j : Int, 1 ≤ j ∧ j ≤ n ∧ mnN g n = g j
  | 0 => Or.inl rfl
  | n + 1 => by
    unfold mnN
    split
    · exact Or.inr ⟨(n : Int) + 1, by omega, by omega, rfl⟩
    · rcases mnN_at (g := g) n with h | ⟨j, h1, h2, h3⟩
      · exact Or.inl h
      · exact Or.inr ⟨j, h1, by omega, h3⟩
theorem mnN_congr {g g' : Int → Int} : ∀ (n : Nat), (∀ j : Int, 1 ≤ j → j ≤ n → g j = g' j) → mnN g n = mnN g' n
  | 0, _ => rfl
  | n + 1, h => by
    unfold mnN
    rw [mnN_congr n (fun j a b => h j a (by omega)), h _ (by omega) (by omega)]
theorem mnN_big {g : Int → Int} : ∀ (n : Nat), (∀ j : Int, 1 ≤ j → j ≤ n → g j = 10000) → mnN g n = 10000
  | 0, _ => rfl
  | n + 1, h => by
    unfold mnN
    rw [mnN_big n (fun j a b => h j a (by omega)), h _ (by omega) (by omega)]
    rfl
def cw (P : jP) (p f : Int) : Nat := (if rn P - f < p then rn P - f else p).toNat
/-- looks back from f on, in as few pages as can be -/
def bwT (P : jP) (p : Int) : Int → Int := tb (fun g y => if y = 0 then 0 else mnN (fun j => if pg P p (rn P - y + j) < pg P p (rn P - y) then lks P (rn P - y) (rn P - y + j) + g (y - j) else 10000) (cw P p (rn P - y))) 0
def bw (P : jP) (p f : Int) : Int := bwT P p (rn P - f)
def vf (P : jP) (p f t : Int) : Int := if pg P p t < pg P p f then lks P f t + bw P p t else 10000
theorem bw_eq {P : jP} {p f : Int} (hf : f ≤ rn P) : bw P p f = if f = rn P then 0 else mnN (fun j => vf P p f (f + j)) (cw P p f) := by
  unfold bw bwT
  rw [tb_eq (by omega) (fun g g' hg => ?_)]
  · by_cases h : f = rn P
    · rw [if_pos (by omega), if_pos h]
    · rw [if_neg (by omega), if_neg h, show rn P - (rn P - f) = f by omega]
      refine mnN_congr _ (fun j j0 j1 => ?_)
      unfold vf bw bwT
      rw [show rn P - f - j = rn P - (f + j) by omega]
  · by_cases h : rn P - f = 0
    · rw [if_pos h, if_pos h]
    · rw [if_neg h, if_neg h]
      refine mnN_congr _ (fun j j0 j1 => ?_)
      have hj : j ≤ rn P - f := by
        unfold cw at j1
        rw [show rn P - (rn P - f) = f by omega] at j1
        split at j1 <;> omega
      rw [hg (rn P - f - j) (by omega) (by omega)]
theorem cw_r {P : jP} {p f j : Int} (hp : 1 ≤ p) (hf : f ≤ rn P) (h : j ≤ (cw P p f : Int)) : j ≤ p ∧ f + j ≤ rn P := by
  unfold cw at h
  split at h <;> omega
theorem cw_in {P : jP} {p f j : Int} (h1 : j ≤ p) (h2 : f + j ≤ rn P) : j ≤ (cw P p f : Int) := by
  unfold cw
  split <;> omega
theorem bw_r {P : jP} (h : WF P) {p : Int} (hp : 1 ≤ p) : ∀ (n : Nat) (f : Int), rn P - f ≤ n → 0 ≤ f → f ≤ rn P → 0 ≤ bw P p f ∧ bw P p f ≤ 3 * (rn P - f)
  | 0, f, hn, h0, h1 => by
    rw [bw_eq h1, if_pos (by omega)]
    omega
  | n + 1, f, hn, h0, h1 => by
    rw [bw_eq h1]
    by_cases hf : f = rn P
    · rw [if_pos hf]; omega
    · rw [if_neg hf]
      obtain ⟨t, t1, t2, t3, t4⟩ := pg_step (P := P) hp (show f < rn P by omega)
      have ih := bw_r h hp n t (by omega) (by omega) t3
      have hl := lks_r h h0 (t - f).toNat (by omega)
      rw [show f + (((t - f).toNat : Nat) : Int) = t by omega] at hl
      have hle := mnN_le (g := fun j => vf P p f (f + j)) (cw P p f) (t - f) (by omega) (cw_in (by omega) (by omega))
      simp only [show f + (t - f) = t by omega] at hle
      have hv : vf P p f t = lks P f t + bw P p t := by unfold vf; rw [if_pos (by omega)]
      have hr := rn_r h
      refine ⟨?_, by omega⟩
      rcases mnN_at (g := fun j => vf P p f (f + j)) (cw P p f) with hm | ⟨j, j1, j2, j3⟩
      · omega
      · have hc := cw_r hp h1 j2
        rw [j3]
        show 0 ≤ vf P p f (f + j)
        unfold vf
        split
        · have ihj := bw_r h hp n (f + j) (by omega) (by omega) (by omega)
          have hlj := lks_r h h0 j.toNat (by omega)
          rw [show ((j.toNat : Nat) : Int) = j by omega] at hlj
          omega
        · omega
theorem bw_lt {P : jP} (h : WF P) {p f : Int} (hp : 1 ≤ p) (h0 : 0 ≤ f) (h1 : f ≤ rn P) : 0 ≤ bw P p f ∧ bw P p f ≤ 120 := by
  have := bw_r h hp (rn P - f).toNat f (by omega) h0 h1
  have hr := rn_r h
  omega
/-- the first page's end that gives the least -/
def np (P : jP) (p f : Int) : Int := f + 1 + ff (fun j => decide (vf P p f (f + 1 + j) = bw P p f)) (cw P p f : Int)
theorem np_c {P : jP} (h : WF P) {p f : Int} (hp : 1 ≤ p) (h0 : 0 ≤ f) (h1 : f < rn P) : f < np P p f ∧ np P p f ≤ f + p ∧ np P p f ≤ rn P ∧ vf P p f (np P p f) = bw P p f ∧ pg P p (np P p f) = pg P p f - 1 ∧ ∀ t, f < t → t < np P p f → vf P p f t ≠ bw P p f := by
  have hb := bw_lt h hp h0 (show f ≤ rn P by omega)
  have he := bw_eq (P := P) (p := p) (show f ≤ rn P by omega)
  rw [if_neg (by omega)] at he
  have hex : ∃ j : Int, 1 ≤ j ∧ j ≤ (cw P p f : Int) ∧ bw P p f = vf P p f (f + j) := by
    rcases mnN_at (g := fun j => vf P p f (f + j)) (cw P p f) with hm | ⟨j, j1, j2, j3⟩
    · omega
    · exact ⟨j, j1, j2, by rw [he]; exact j3⟩
  rcases ff_cases (fun j => decide (vf P p f (f + 1 + j) = bw P p f)) (cw P p f : Int) with ⟨g1, g2⟩ | ⟨g1, g2, g3, g4⟩
  · obtain ⟨j, j1, j2, j3⟩ := hex
    have := g2 (j - 1) (by omega) (by omega)
    rw [show f + 1 + (j - 1) = f + j by omega, decide_eq_true j3.symm] at this
    cases this
  · have hc := cw_r hp (show f ≤ rn P by omega) (show ff (fun j => decide (vf P p f (f + 1 + j) = bw P p f)) (cw P p f : Int) + 1 ≤ (cw P p f : Int) by omega)
    have h3 : vf P p f (np P p f) = bw P p f := of_decide_eq_true g3
    have hr : f < np P p f ∧ np P p f ≤ f + p ∧ np P p f ≤ rn P := by unfold np; omega
    refine ⟨hr.1, hr.2.1, hr.2.2, h3, ?_, fun t t1 t2 => ?_⟩
    · have hm := pg_mono (P := P) hp (show f ≤ np P p f by omega) hr.2.1 hr.2.2
      have : pg P p (np P p f) < pg P p f := by
        refine Classical.byContradiction (fun hno => ?_)
        unfold vf at h3
        rw [if_neg hno] at h3
        omega
      omega
    · have := g4 (t - f - 1) (by omega) (by unfold np at t2; omega)
      rw [show f + 1 + (t - f - 1) = t by omega] at this
      exact of_decide_eq_false this
/-- where page k begins -/
def fnN (P : jP) (p : Int) : Nat → Int
  | 0 => 0
  | n + 1 => np P p (fnN P p n)
theorem fn_c {P : jP} (h : WF P) {p : Int} (hp : 1 ≤ p) : ∀ n : Nat, (n : Int) ≤ pg P p 0 → 0 ≤ fnN P p n ∧ fnN P p n ≤ rn P ∧ pg P p (fnN P p n) = pg P p 0 - n
  | 0, _ => by
    have hr := rn_r h
    exact ⟨Int.le_refl 0, hr.1, by show pg P p 0 = _; omega⟩
  | n + 1, hn => by
    have ih := fn_c h hp n (by omega)
    have hlt : fnN P p n < rn P := by
      refine Classical.byContradiction (fun hno => ?_)
      have := pg_end (P := P) hp
      rw [show fnN P p n = rn P by omega] at ih
      omega
    have hc := np_c h hp ih.1 hlt
    show 0 ≤ np P p (fnN P p n) ∧ np P p (fnN P p n) ≤ rn P ∧ pg P p (np P p (fnN P p n)) = _
    omega
def vPages (P : jP) (p a : Int) : Int := if rn P = 0 ∨ p < 1 ∨ 40 < p ∨ a < 0 then -1 else if a = 0 then pg P p 0 else if a = 1 then bw P p 0 else if a - 2 < pg P p 0 then fnN P p (a - 2).toNat else -1
