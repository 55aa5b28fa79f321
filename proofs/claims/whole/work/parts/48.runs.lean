/-! runs of steps -/
def stp (P : jP) (f n : Int) : Prop := 2 ≤ n ∧ n ≤ 8 ∧ 0 ≤ f ∧ f + n ≤ nS P
def rr (P : jP) (f n : Int) : Bool := allB (fun t => decide (f ≤ t ∧ t < f + n) || allB (fun i => !decide (f ≤ nm P t i ∧ nm P t i ≤ f + n - 2)) (pn P t)) (nS P)
def pk (a b x y : Int) : Bool := decide ((a ≤ x ∧ x - a = y - b) ∨ (x < a ∧ x < b ∧ y < a ∧ y < b))
def al1 (P : jP) (a b k : Int) : Bool := ru P (a + k) == ru P (b + k) && allB (fun i => pk a b (nm P (a + k) i) (nm P (b + k) i)) (pn P (a + k))
def al (P : jP) (a b n : Int) : Bool := allB (al1 P a b) n
def nw0 (P : jP) (f n : Int) : Bool := allB (fun b => !(rr P b n && al P b f n)) (f - n + 1)
def nw (P : jP) (f n : Int) : Bool := decide (2 ≤ n ∧ n ≤ 8 ∧ 0 ≤ f ∧ f + n ≤ nS P) && (rr P f n && nw0 P f n)
def woN (P : jP) (f n : Int) : Nat → Int → Int → Int → Int
  | 0, _, r, _ => r
  | k + 1, b, r, fr => if nS P < b + n then r else if (decide (fr ≤ b) && (rr P b n && al P f b n)) = true then woN P f n k (b + 1) (r + 1) (b + n) else woN P f n k (b + 1) r fr
def wo (P : jP) (f n : Int) : Int := woN P f n 41 (f + n) 1 (f + n) * (n - 1) - n
def bfN (P : jP) : Nat → Int × Int × Int
  | 0 => (-1, -1, 0)
  | m + 1 => if (nw P ((m / 7 : Nat) : Int) ((m % 7 + 2 : Nat) : Int) && decide ((bfN P m).2.2 < wo P ((m / 7 : Nat) : Int) ((m % 7 + 2 : Nat) : Int))) = true then (((m / 7 : Nat) : Int), ((m % 7 + 2 : Nat) : Int), wo P ((m / 7 : Nat) : Int) ((m % 7 + 2 : Nat) : Int)) else bfN P m
theorem bfN_s (P : jP) (m : Nat) : bfN P (m + 1) = if (nw P ((m / 7 : Nat) : Int) ((m % 7 + 2 : Nat) : Int) && decide ((bfN P m).2.2 < wo P ((m / 7 : Nat) : Int) ((m % 7 + 2 : Nat) : Int))) = true then (((m / 7 : Nat) : Int), ((m % 7 + 2 : Nat) : Int), wo P ((m / 7 : Nat) : Int) ((m % 7 + 2 : Nat) : Int)) else bfN P m := rfl
def bf (P : jP) (m : Int) : Int × Int × Int := bfN P m.toNat
theorem bf_s {P : jP} {b n : Int} (h0 : 0 ≤ b) (h1 : 2 ≤ n) (h2 : n ≤ 8) : bf P (7 * b + (n - 2) + 1) = if (nw P b n && decide ((bf P (7 * b + (n - 2))).2.2 < wo P b n)) = true then (b, n, wo P b n) else bf P (7 * b + (n - 2)) := by
  unfold bf
  rw [show (7 * b + (n - 2) + 1).toNat = (7 * b + (n - 2)).toNat + 1 by omega, bfN_s]
  rw [show (((7 * b + (n - 2)).toNat / 7 : Nat) : Int) = b by omega, show (((7 * b + (n - 2)).toNat % 7 + 2 : Nat) : Int) = n by omega]
def vRun (P : jP) (f n : Int) : Int := if 2 ≤ n ∧ n ≤ 8 ∧ 0 ≤ f ∧ f + n ≤ nS P then b2i (rr P f n) else -1
def vAlike (P : jP) (a b n : Int) : Int := if (2 ≤ n ∧ n ≤ 8 ∧ 0 ≤ a ∧ a + n ≤ nS P ∧ 0 ≤ b ∧ b + n ≤ nS P ∧ (a + n ≤ b ∨ b + n ≤ a)) ∧ rr P a n = true ∧ rr P b n = true then b2i (al P a b n) else -1
def vWorth (P : jP) (f n : Int) : Int := if nw P f n = true then wo P f n else -1
def vLemma (P : jP) (a : Int) : Int := if (bf P (7 * nS P)).1 = -1 then -1 else if a = 0 then (bf P (7 * nS P)).1 else if a = 1 then (bf P (7 * nS P)).2.1 else if a = 2 then (bf P (7 * nS P)).2.2 else -1
theorem woN_r {P : jP} {f n : Int} : ∀ (k : Nat) (b r fr : Int), r ≤ woN P f n k b r fr ∧ woN P f n k b r fr ≤ r + k
  | 0, b, r, fr => by
    show r ≤ r ∧ r ≤ r + ((0 : Nat) : Int)
    omega
  | k + 1, b, r, fr => by
    have h1 := woN_r (P := P) (f := f) (n := n) k (b + 1) (r + 1) (b + n)
    have h2 := woN_r (P := P) (f := f) (n := n) k (b + 1) r fr
    unfold woN
    split
    · omega
    · split <;> omega
theorem mul_r2 {x y : Int} (hx : 0 ≤ x ∧ x ≤ 100) (hy : 0 ≤ y ∧ y ≤ 10) : 0 ≤ x * y ∧ x * y ≤ 1000 := by
  have h1 : 0 ≤ x * y := Int.mul_nonneg hx.1 hy.1
  have h2 : x * y ≤ 100 * 10 := Int.mul_le_mul hx.2 hy.2 hy.1 (by omega)
  omega
section
variable {E : jE} {μ : jMu} {P : jP} {Q : Int → jMu → Prop}
theorem sM_areSteps (h : RR μ P) {f n : Int} (kt : 2 ≤ n → n ≤ 8 → 0 ≤ f → f + n ≤ nS P → Q 1 μ) (kf : ¬ (2 ≤ n ∧ n ≤ 8 ∧ 0 ≤ f ∧ f + n ≤ nS P) → Q 0 μ) : Ci E mM_areSteps [jvR 76, jvI f, jvI n] μ Q := by
  have hn := h.n
  exact vM_areSteps_0 (sM_isIn (fun a1 a2 => ⟨fun c => absurd c (by decide), fun _ => sM_isStep h (fun h0 h1 => ⟨fun c => absurd c (by decide), fun _ => ⟨by omega, sM_steps h ⟨fun c => ⟨_, rfl, kf (by omega)⟩, fun c => ⟨_, rfl, kt a1 a2 h0 (by omega)⟩⟩⟩⟩) (fun h0 => ⟨fun _ => ⟨_, rfl, kf (by omega)⟩, fun c => absurd rfl c⟩)⟩) (fun a1 => ⟨fun _ => ⟨_, rfl, kf (by omega)⟩, fun c => absurd rfl c⟩))
theorem sM_isRun (h : RR μ P) {f n : Int} (h0 : 0 ≤ f) (h1 : 2 ≤ n) (h2 : n ≤ 8) (h3 : f + n ≤ nS P) (k : Q (b2i (rr P f n)) μ) : Ci E mM_isRun [jvR 76, jvI f, jvI n] μ Q := by
  have hn := h.n
  refine vM_isRun_0 ?_
  have lp : ∀ l3 : Int, 0 ≤ l3 → l3 ≤ nS P → (allB (fun t => decide (f ≤ t ∧ t < f + n) || allB (fun i => !decide (f ≤ nm P t i ∧ nm P t i ≤ f + n - 2)) (pn P t)) l3 = true) → K 121 E mM_isRun 2 [some (jvR 76), some (jvI f), some (jvI n), some (jvI l3), none] [] μ (fun v μ1 => ∃ r, v = some (jvI r) ∧ Q r μ1) := by
    refine up_ind (nS P) _ ?_
    intro l3 ih g0 g1 g3
    refine vM_isRun_2 (sM_steps h ⟨fun c => ⟨_, rfl, ?_⟩, fun c => ?_⟩)
    · rw [show rr P f n = true by unfold rr; rw [show nS P = l3 by omega]; exact g3] at k
      exact k
    · have hp := h.1.p g0 (show l3 < nS P by omega)
      have body : ¬ (f ≤ l3 ∧ l3 < f + n) → K 121 E mM_isRun 28 [some (jvR 76), some (jvI f), some (jvI n), some (jvI l3), some (jvI 0)] [] μ (fun v μ1 => ∃ r, v = some (jvI r) ∧ Q r μ1) := by
        intro hout
        have lp2 : ∀ l4 : Int, 0 ≤ l4 → l4 ≤ pn P l3 → (allB (fun i => !decide (f ≤ nm P l3 i ∧ nm P l3 i ≤ f + n - 2)) l4 = true) → K 121 E mM_isRun 28 [some (jvR 76), some (jvI f), some (jvI n), some (jvI l3), some (jvI l4)] [] μ (fun v μ1 => ∃ r, v = some (jvI r) ∧ Q r μ1) := by
          refine up_ind (pn P l3) _ ?_
          intro l4 ih4 d0 d1 d3
          refine vM_isRun_28 (sM_namesMany h g0 (by omega) ⟨fun c4 => ⟨by omega, ih (by omega) (by omega) (by omega) ?_⟩, fun c4 => sM_namedBy h g0 (by omega) d0 (by omega) ⟨by omega, sM_isIn (fun b1 b2 => ⟨fun c => absurd c (by decide), fun _ => ⟨_, rfl, ?_⟩⟩) (fun b1 => ⟨fun _ => ⟨by omega, ih4 (by omega) (by omega) (by omega) ?_⟩, fun c => absurd rfl c⟩)⟩⟩)
          · rw [allB_s g0, g3, Bool.true_and]
            rw [show pn P l3 = l4 by omega, d3, Bool.or_true]
          · have : rr P f n = false := by
              rw [Bool.eq_false_iff]
              intro hh
              have h5 := allB_iff.mp hh l3 g0 (by omega)
              rw [decide_eq_false hout, Bool.false_or] at h5
              have h6 := allB_iff.mp h5 l4 d0 (by omega)
              rw [decide_eq_true (show f ≤ nm P l3 l4 ∧ nm P l3 l4 ≤ f + n - 2 from ⟨b1, b2⟩)] at h6
              cases h6
            rw [this] at k
            exact k
          · rw [allB_s d0, d3, Bool.true_and, decide_eq_false (by omega)]; rfl
        exact lp2 0 (by omega) (by omega) (allB_0 (by omega))
      refine ⟨fun c2 => body (by omega), fun c2 => ⟨by omega, fun c3 => body (by omega), fun c3 => ⟨by omega, ih (by omega) (by omega) (by omega) ?_⟩⟩⟩
      rw [allB_s g0, g3, decide_eq_true (by omega)]; rfl
  exact lp 0 (by omega) (by omega) (allB_0 (by omega))
theorem sM_areAlike (h : RR μ P) {a b n : Int} (h1 : 2 ≤ n) (h2 : n ≤ 8) (h0 : 0 ≤ a) (h3 : a + n ≤ nS P) (h4 : 0 ≤ b) (h5 : b + n ≤ nS P) (k : Q (b2i (al P a b n)) μ) : Ci E mM_areAlike [jvR 76, jvI a, jvI b, jvI n] μ Q := by
  have hn := h.n
  refine vM_areAlike_0 ?_
  have main : ∀ l4 : Int, (l4 ≤ a ∧ l4 ≤ b ∧ (l4 = a ∨ l4 = b)) → K 121 E mM_areAlike 15 [some (jvR 76), some (jvI a), some (jvI b), some (jvI n), some (jvI l4), some (jvI 0), none, none, none] [] μ (fun v μ1 => ∃ r, v = some (jvI r) ∧ Q r μ1) := by
    intro l4 hl4
    have lp : ∀ l5 : Int, 0 ≤ l5 → l5 ≤ n → allB (al1 P a b) l5 = true → K 121 E mM_areAlike 15 [some (jvR 76), some (jvI a), some (jvI b), some (jvI n), some (jvI l4), some (jvI l5), none, none, none] [] μ (fun v μ1 => ∃ r, v = some (jvI r) ∧ Q r μ1) := by
      refine up_ind n _ ?_
      intro l5 ih g0 g1 g3
      have hno : l5 < n → al1 P a b l5 = false → Q 0 μ := by
        intro hl hh
        have : al P a b n = false := by
          rw [Bool.eq_false_iff]
          intro h6
          have := allB_iff.mp h6 l5 g0 hl
          rw [hh] at this
          cases this
        rw [this] at k
        exact k
      refine vM_areAlike_15 ⟨fun c => ⟨_, rfl, ?_⟩, fun c => ⟨by omega, sM_ruleBy h (by omega) (by omega) ⟨by omega, sM_ruleBy h (by omega) (by omega) ⟨fun c2 => ?_, fun c2 => ⟨_, rfl, hno (by omega) ?_⟩⟩⟩⟩⟩
      · rw [show al P a b n = true by unfold al; rw [show n = l5 by omega]; exact g3] at k
        exact k
      · have hp := h.1.p (show 0 ≤ a + l5 by omega) (show a + l5 < nS P by omega)
        have hpn : pn P (a + l5) = pn P (b + l5) := by unfold pn; rw [c2]
        have lp2 : ∀ l6 : Int, 0 ≤ l6 → l6 ≤ pn P (a + l5) → allB (fun i => pk a b (nm P (a + l5) i) (nm P (b + l5) i)) l6 = true → K 121 E mM_areAlike 45 [some (jvR 76), some (jvI a), some (jvI b), some (jvI n), some (jvI l4), some (jvI l5), some (jvI l6), none, none] [] μ (fun v μ1 => ∃ r, v = some (jvI r) ∧ Q r μ1) := by
          refine up_ind (pn P (a + l5)) _ ?_
          intro l6 ih6 d0 d1 d3
          refine vM_areAlike_45 ⟨by omega, sM_namesMany h (by omega) (by omega) ⟨fun c6 => ⟨by omega, ih (by omega) (by omega) (by omega) ?_⟩, fun c6 => ⟨by omega, ?_⟩⟩⟩
          · rw [allB_s g0, g3, Bool.true_and]
            unfold al1
            rw [beq_iff_eq.mpr c2, Bool.true_and, show pn P (a + l5) = l6 by omega, d3]
          · have m1 := h.1.m (a + l5) l6 (by omega) (by omega) d0 (by omega)
            have m2 := h.1.m (b + l5) l6 (by omega) (by omega) d0 (by omega)
            have good : pk a b (nm P (a + l5) l6) (nm P (b + l5) l6) = true → K 121 E mM_areAlike 45 [some (jvR 76), some (jvI a), some (jvI b), some (jvI n), some (jvI l4), some (jvI l5), some (jvI (l6 + 1)), none, none] [] μ (fun v μ1 => ∃ r, v = some (jvI r) ∧ Q r μ1) := fun hh => ih6 (by omega) (by omega) (by omega) (by rw [allB_s d0, d3, hh]; rfl)
            have bad : pk a b (nm P (a + l5) l6) (nm P (b + l5) l6) = false → Q 0 μ := fun hh => hno (by omega) (by
              unfold al1
              rw [Bool.and_eq_false_iff]
              refine Or.inr ?_
              rw [Bool.eq_false_iff]
              intro h7
              have := allB_iff.mp h7 l6 d0 (by omega)
              rw [hh] at this
              cases this)
            refine sM_namedBy h (by omega) (by omega) d0 (by omega) ⟨by omega, sM_namedBy h (by omega) (by omega) d0 (by omega) ⟨fun c7 => ⟨fun c8 => ⟨_, rfl, bad ?_⟩, fun c8 => ⟨fun c9 => ⟨by omega, good ?_⟩, fun c9 => ⟨_, rfl, bad ?_⟩⟩⟩, fun c7 => ⟨by omega, fun c8 => ⟨by omega, good ?_⟩, fun c8 => ⟨fun c9 => ⟨_, rfl, bad ?_⟩, fun c9 => ⟨fun c10 => ⟨by omega, good ?_⟩, fun c10 => ⟨_, rfl, bad ?_⟩⟩⟩⟩⟩⟩
            · unfold pk; exact decide_eq_false (by omega)
            · unfold pk; exact decide_eq_true (by omega)
            · unfold pk; exact decide_eq_false (by omega)
            · unfold pk; exact decide_eq_true (by omega)
            · unfold pk; exact decide_eq_false (by omega)
            · unfold pk; exact decide_eq_true (by omega)
            · unfold pk; exact decide_eq_false (by omega)
        exact lp2 0 (by omega) (by omega) (allB_0 (by omega))
      · unfold al1
        rw [beq_eq_false_iff_ne.mpr c2, Bool.false_and]
    exact lp 0 (by omega) (by omega) (allB_0 (by omega))
  exact ⟨fun c => main b (by omega), fun c => main a (by omega)⟩
theorem sM_run (h : RR μ P) {f n : Int} (k : Q (vRun P f n) μ) : Ci E mM_run [jvR 76, jvI f, jvI n] μ Q := by
  unfold vRun at k
  refine vM_run_0 (sM_areSteps h (fun a1 a2 a3 a4 => ⟨fun _ => sM_isRun h a3 a1 a2 a4 ⟨fun c => ⟨_, rfl, ?_⟩, fun c => ⟨_, rfl, ?_⟩⟩, fun c => absurd c (by decide)⟩) (fun a1 => ⟨fun c => absurd rfl c, fun _ => ⟨_, rfl, ?_⟩⟩))
  · rw [if_pos ⟨a1, a2, a3, a4⟩, c] at k; exact k
  · rw [if_pos ⟨a1, a2, a3, a4⟩, b2i_b c] at k; exact k
  · rw [if_neg a1] at k; exact k
theorem sM_alike (h : RR μ P) {a b n : Int} (k : Q (vAlike P a b n) μ) : Ci E mM_alike [jvR 76, jvI a, jvI b, jvI n] μ Q := by
  have hn := h.n
  unfold vAlike at k
  have hno : ¬ ((2 ≤ n ∧ n ≤ 8 ∧ 0 ≤ a ∧ a + n ≤ nS P ∧ 0 ≤ b ∧ b + n ≤ nS P ∧ (a + n ≤ b ∨ b + n ≤ a)) ∧ rr P a n = true ∧ rr P b n = true) → Q (-1) μ := fun hh => by rw [if_neg hh] at k; exact k
  refine vM_alike_0 (vM_areRuns_0 (sM_areSteps h (fun a1 a2 a3 a4 => ⟨fun c => absurd c (by decide), fun _ => sM_areSteps h (fun b1 b2 b3 b4 => ⟨fun c => absurd c (by decide), fun _ => sM_isRun h a3 a1 a2 a4 ⟨fun c => ⟨_, rfl, fun c => absurd rfl c, fun _ => ⟨_, rfl, hno (fun hh => ?_)⟩⟩, fun c => sM_isRun h b3 a1 a2 b4 ⟨fun c2 => ⟨_, rfl, fun c => absurd rfl c, fun _ => ⟨_, rfl, hno (fun hh => ?_)⟩⟩, fun c2 => ⟨by omega, fun c3 => ⟨_, rfl, fun _ => ?_, fun c => absurd c (by decide)⟩, fun c3 => ⟨by omega, fun c4 => ⟨_, rfl, fun c => absurd rfl c, fun _ => ⟨_, rfl, hno (fun hh => by omega)⟩⟩, fun c4 => ⟨_, rfl, fun _ => ?_, fun c => absurd c (by decide)⟩⟩⟩⟩⟩⟩) (fun b1 => ⟨fun _ => ⟨_, rfl, fun c => absurd rfl c, fun _ => ⟨_, rfl, hno (fun hh => by omega)⟩⟩, fun c => absurd rfl c⟩)⟩) (fun a1 => ⟨fun _ => ⟨_, rfl, fun c => absurd rfl c, fun _ => ⟨_, rfl, hno (fun hh => by omega)⟩⟩, fun c => absurd rfl c⟩)))
  · rw [hh.2.1] at c; cases c
  · rw [hh.2.2] at c2; cases c2
  · rw [if_pos ⟨⟨a1, a2, a3, a4, b3, b4, Or.inl c3⟩, b2i_b c, b2i_b c2⟩] at k
    refine sM_areAlike h a1 a2 a3 a4 b3 b4 ⟨fun c => ⟨_, rfl, ?_⟩, fun c => ⟨_, rfl, ?_⟩⟩
    · rw [c] at k; exact k
    · rw [b2i_b c] at k; exact k
  · rw [if_pos ⟨⟨a1, a2, a3, a4, b3, b4, Or.inr (by omega)⟩, b2i_b c, b2i_b c2⟩] at k
    refine sM_areAlike h a1 a2 a3 a4 b3 b4 ⟨fun c => ⟨_, rfl, ?_⟩, fun c => ⟨_, rfl, ?_⟩⟩
    · rw [c] at k; exact k
    · rw [b2i_b c] at k; exact k
theorem sM_isNew (h : RR μ P) {f n : Int} (k : Q (b2i (nw P f n)) μ) : Ci E mM_isNew [jvR 76, jvI f, jvI n] μ Q := by
  have hn := h.n
  unfold nw at k
  refine vM_isNew_0 (sM_areSteps h (fun a1 a2 a3 a4 => ⟨fun c => absurd c (by decide), fun _ => sM_isRun h a3 a1 a2 a4 ⟨fun c => ?_, fun c => ⟨_, rfl, ?_⟩⟩⟩) (fun a1 => ⟨fun _ => ⟨_, rfl, ?_⟩, fun c => absurd rfl c⟩))
  · rw [decide_eq_true (show 2 ≤ n ∧ n ≤ 8 ∧ 0 ≤ f ∧ f + n ≤ nS P from ⟨a1, a2, a3, a4⟩), Bool.true_and, b2i_b c, Bool.true_and] at k
    have lp : ∀ l3 : Int, 0 ≤ l3 → l3 ≤ 50 → (allB (fun b => !(rr P b n && al P b f n)) l3 = true) → K 121 E mM_isNew 22 [some (jvR 76), some (jvI f), some (jvI n), some (jvI l3)] [] μ (fun v μ1 => ∃ r, v = some (jvI r) ∧ Q r μ1) := by
      refine up_ind (f - n + 1) _ ?_
      intro l3 ih g0 g50 g3
      by_cases hl : l3 < f - n + 1
      · have step : (rr P l3 n && al P l3 f n) = false → K 121 E mM_isNew 22 [some (jvR 76), some (jvI f), some (jvI n), some (jvI (l3 + 1))] [] μ (fun v μ1 => ∃ r, v = some (jvI r) ∧ Q r μ1) := fun hh => ih hl (by omega) (by omega) (by rw [allB_s g0, g3, hh]; rfl)
        refine vM_isNew_22 ⟨by omega, fun c => by omega, fun _ => sM_isRun h g0 a1 a2 (by omega) ⟨fun c2 => ⟨by omega, step (by rw [b2i_b0 c2, Bool.false_and])⟩, fun c2 => sM_areAlike h a1 a2 g0 (by omega) a3 a4 ⟨fun c3 => ⟨by omega, step (by rw [b2i_b0 c3, Bool.and_false])⟩, fun c3 => ⟨_, rfl, ?_⟩⟩⟩⟩
        have : nw0 P f n = false := by
          rw [Bool.eq_false_iff]
          intro h6
          have := allB_iff.mp h6 l3 g0 hl
          rw [b2i_b c2, b2i_b c3] at this
          cases this
        rw [this] at k
        exact k
      · have e : nw0 P f n = true := by
          unfold nw0
          rw [allB_iff] at g3 ⊢
          exact fun j j0 j1 => g3 j j0 (by omega)
        rw [e] at k
        exact vM_isNew_22 ⟨by omega, fun c => ⟨_, rfl, k⟩, fun c => by omega⟩
    exact lp 0 (by omega) (by omega) (allB_0 (by omega))
  · rw [b2i_b0 c, Bool.false_and, Bool.and_false] at k; exact k
  · rw [decide_eq_false a1, Bool.false_and] at k; exact k
theorem sM_worthOf (h : RR μ P) {f n : Int} (a1 : 2 ≤ n) (a2 : n ≤ 8) (a3 : 0 ≤ f) (a4 : f + n ≤ nS P) (k : Q (wo P f n) μ) : Ci E mM_worthOf [jvR 76, jvI f, jvI n] μ Q := by
  have hn := h.n
  refine vM_worthOf_0 ⟨by omega, ?_⟩
  have lp : ∀ (m : Nat) (l3 l4 l5 : Int), f + n ≤ l5 → l5 ≤ nS P + 1 → nS P + 1 - l5 ≤ m → (1 ≤ l3 ∧ l3 ≤ 50 - m) → (0 ≤ l4 ∧ l4 ≤ 60) → Q (woN P f n m l5 l3 l4 * (n - 1) - n) μ → K 121 E mM_worthOf 11 [some (jvR 76), some (jvI f), some (jvI n), some (jvI l3), some (jvI l4), some (jvI l5)] [] μ (fun v μ1 => ∃ r, v = some (jvI r) ∧ Q r μ1) := by
    intro m
    induction m with
    | zero =>
      intro l3 l4 l5 g0 g1 g2 g3 g4 kq
      have hm := mul_r2 (x := l3) (y := n - 1) (by omega) (by omega)
      refine vM_worthOf_11 ⟨by omega, sM_steps h ⟨fun c => ⟨by omega, _, rfl, kq⟩, fun c => by omega⟩⟩
    | succ m ih =>
      intro l3 l4 l5 g0 g1 g2 g3 g4 kq
      have hm := mul_r2 (x := l3) (y := n - 1) (by omega) (by omega)
      unfold woN at kq
      refine vM_worthOf_11 ⟨by omega, sM_steps h ⟨fun c => ⟨by omega, _, rfl, ?_⟩, fun c => ?_⟩⟩
      · rw [if_pos c] at kq; exact kq
      · rw [if_neg c] at kq
        have skip : (decide (l4 ≤ l5) && (rr P l5 n && al P f l5 n)) = false → K 121 E mM_worthOf 11 [some (jvR 76), some (jvI f), some (jvI n), some (jvI l3), some (jvI l4), some (jvI (l5 + 1))] [] μ (fun v μ1 => ∃ r, v = some (jvI r) ∧ Q r μ1) := fun hh => ih l3 l4 (l5 + 1) (by omega) (by omega) (by omega) (by omega) g4 (by rw [hh, if_neg (by decide)] at kq; exact kq)
        refine ⟨fun c2 => ⟨by omega, skip (by rw [decide_eq_false (by omega), Bool.false_and])⟩, fun c2 => sM_isRun h (by omega) a1 a2 (by omega) ⟨fun c3 => ⟨by omega, skip (by rw [b2i_b0 c3, Bool.false_and, Bool.and_false])⟩, fun c3 => sM_areAlike h a1 a2 a3 a4 (by omega) (by omega) ⟨fun c4 => ⟨by omega, ih (l3 + 1) (l5 + n) (l5 + 1) (by omega) (by omega) (by omega) (by omega) (by omega) ?_⟩, fun c4 => ⟨by omega, skip (by rw [b2i_b0 c4, Bool.and_false, Bool.and_false])⟩⟩⟩⟩
        rw [decide_eq_true (show l4 ≤ l5 by omega), b2i_b c3, b2i_b c4, if_pos (by decide)] at kq
        exact kq
  exact lp 41 1 (f + n) (f + n) (by omega) (by omega) (by omega) (by omega) (by omega) k
theorem sM_worth (h : RR μ P) {f n : Int} (k : Q (vWorth P f n) μ) : Ci E mM_worth [jvR 76, jvI f, jvI n] μ Q := by
  unfold vWorth at k
  refine vM_worth_0 (sM_isNew h ⟨fun c => ⟨_, rfl, ?_⟩, fun c => ?_⟩)
  · rw [if_neg (by rw [b2i_b0 c]; decide)] at k; exact k
  · have hw := b2i_b c
    rw [if_pos hw] at k
    unfold nw at hw
    rw [Bool.and_eq_true, decide_eq_true_iff] at hw
    exact sM_worthOf h hw.1.1 hw.1.2.1 hw.1.2.2.1 hw.1.2.2.2 ⟨_, rfl, k⟩
theorem bf_r {P : jP} : ∀ m : Nat, (bfN P m = (-1, -1, 0) ∨ (0 ≤ (bfN P m).1 ∧ 0 < (bfN P m).2.2)) ∧ 0 ≤ (bfN P m).2.2
  | 0 => ⟨Or.inl rfl, Int.le_refl 0⟩
  | m + 1 => by
    have ih := bf_r (P := P) m
    rw [bfN_s]
    split
    · rename_i hh
      rw [Bool.and_eq_true, decide_eq_true_iff] at hh
      exact ⟨Or.inr ⟨Int.natCast_nonneg _, by show 0 < wo P _ _; omega⟩, by show 0 ≤ wo P _ _; omega⟩
    · exact ih
theorem sM_lemma (h : RR μ P) {a : Int} (k : Q (vLemma P a) μ) : Ci E mM_lemma [jvR 76, jvI a] μ Q := by
  have hn := h.n
  refine vM_lemma_0 (sM_isIn (fun a1 a2 => ⟨fun _ => ?_, fun c => absurd c (by decide)⟩) (fun a1 => ⟨fun c => absurd rfl c, fun _ => ⟨_, rfl, ?_⟩⟩))
  · have lp : ∀ (l5 l2 l3 l4 : Int), 0 ≤ l5 → l5 ≤ nS P → (l2, l3, l4) = bf P (7 * l5) → K 121 E mM_lemma 24 [some (jvR 76), some (jvI a), some (jvI l2), some (jvI l3), some (jvI l4), some (jvI l5), none] [] μ (fun v μ1 => ∃ r, v = some (jvI r) ∧ Q r μ1) := by
      refine up_ind (nS P) _ ?_
      intro l5 ih l2 l3 l4 g0 g1 g3
      refine vM_lemma_24 (sM_steps h ⟨fun c => ?_, fun c => ?_⟩)
      · rw [show l5 = nS P by omega] at g3
        unfold vLemma at k
        rw [← g3] at k
        refine ⟨fun c2 => ⟨fun c3 => ⟨fun c4 => ⟨_, rfl, ?_⟩, fun c4 => ⟨_, rfl, ?_⟩⟩, fun c3 => ⟨_, rfl, ?_⟩⟩, fun c2 => ⟨_, rfl, ?_⟩⟩
        · rw [if_neg c2, if_neg c3, if_neg c4, if_pos (by omega)] at k; exact k
        · rw [if_neg c2, if_neg c3, if_pos c4] at k; exact k
        · rw [if_neg c2, if_pos c3] at k; exact k
        · rw [if_pos c2] at k; exact k
      · have lp2 : ∀ (l6 l2 l3 l4 : Int), 2 ≤ l6 → l6 ≤ 9 → (l2, l3, l4) = bf P (7 * l5 + (l6 - 2)) → K 121 E mM_lemma 36 [some (jvR 76), some (jvI a), some (jvI l2), some (jvI l3), some (jvI l4), some (jvI l5), some (jvI l6)] [] μ (fun v μ1 => ∃ r, v = some (jvI r) ∧ Q r μ1) := by
          refine up_ind 9 _ ?_
          intro l6 ih6 l2 l3 l4 d0 d1 d3
          refine vM_lemma_36 ⟨fun c6 => ⟨by omega, ih (by omega) l2 l3 l4 (by omega) (by omega) (by rw [d3]; congr 1; omega)⟩, fun c6 => ?_⟩
          have hs := bf_s (P := P) g0 d0 (show l6 ≤ 8 by omega)
          rw [show 7 * l5 + (l6 - 2) + 1 = 7 * l5 + (l6 + 1 - 2) by omega, ← d3] at hs
          refine sM_isNew h ⟨fun c7 => ⟨by omega, ih6 (by omega) l2 l3 l4 (by omega) (by omega) ?_⟩, fun c7 => ?_⟩
          · rw [hs, b2i_b0 c7, Bool.false_and, if_neg (by decide)]
          · have hw := b2i_b c7
            rw [hw, Bool.true_and] at hs
            unfold nw at hw
            rw [Bool.and_eq_true, decide_eq_true_iff] at hw
            refine sM_worthOf h hw.1.1 hw.1.2.1 hw.1.2.2.1 hw.1.2.2.2 ⟨fun c8 => sM_worthOf h hw.1.1 hw.1.2.1 hw.1.2.2.1 hw.1.2.2.2 ⟨by omega, ih6 (by omega) l5 l6 _ (by omega) (by omega) ?_⟩, fun c8 => ⟨by omega, ih6 (by omega) l2 l3 l4 (by omega) (by omega) ?_⟩⟩
            · rw [hs, decide_eq_true (show (l2, l3, l4).2.2 < wo P l5 l6 from c8), if_pos rfl]
            · rw [hs, decide_eq_false (show ¬ (l2, l3, l4).2.2 < wo P l5 l6 from c8), if_neg (by decide)]
        exact lp2 2 l2 l3 l4 (by omega) (by omega) (by rw [g3]; congr 1; omega)
    exact lp 0 (-1) (-1) 0 (by omega) (by omega) rfl
  · unfold vLemma at k
    by_cases hb : (bf P (7 * nS P)).1 = -1
    · rw [if_pos hb] at k; exact k
    · rw [if_neg hb, if_neg (by omega), if_neg (by omega), if_neg (by omega)] at k; exact k
end
