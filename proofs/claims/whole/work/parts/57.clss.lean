/-! images on the reference's side; the class: blame, readers, trials, images -/
theorem bs_btn {x : Int} {n : Nat} (h0 : 0 ≤ x) (h1 : x < ((2 ^ n : Nat) : Int)) : bs (bt x) n = x := by
  unfold bs
  rw [← bsN_ext (x := x.toNat) (p := bt x) (n := ((n : Int)).toNat)]
  · omega
  · intro k
    unfold bt
    rw [Int.toNat_natCast, Int.toNat_natCast]
    by_cases hk : k < n
    · rw [decide_eq_true hk, Bool.true_and]
    · rw [decide_eq_false hk, Bool.false_and]
      exact Nat.testBit_lt_two_pow (Nat.lt_of_lt_of_le (m := 2 ^ n) (by omega) (Nat.pow_le_pow_right (by omega) (by omega)))
theorem bt_lt {x m r : Int} (h0 : 0 ≤ x) (hm : 0 ≤ m) (h1 : x < ((2 ^ m.toNat : Nat) : Int)) (hb : bt x r = true) : r < m := by
  refine Classical.byContradiction (fun hno => ?_)
  have : bt x r = false := by
    unfold bt
    exact Nat.testBit_lt_two_pow (Nat.lt_of_lt_of_le (m := 2 ^ m.toNat) (by omega) (Nat.pow_le_pow_right (by omega) (by omega)))
  rw [this] at hb
  cases hb
theorem shr_0 {x r : Int} (h0 : 0 ≤ x) (h1 : x < 2147483648) (hr : 0 ≤ r) (hr2 : r < 31) : ishr32 x r = 0 ↔ x < ((2 ^ r.toNat : Nat) : Int) := by
  obtain ⟨m, rfl⟩ := Int.eq_ofNat_of_zero_le hr
  rw [shr32 (by omega) (by omega), Int.toNat_natCast]
  have hp : (0 : Int) < ((2 ^ m : Nat) : Int) := by
    have := Nat.two_pow_pos m
    omega
  constructor
  · intro hh
    have h3 := Int.lt_mul_of_ediv_lt (b := 1) hp (by rw [hh]; decide)
    rw [Int.one_mul] at h3
    exact h3
  · intro hh
    exact Int.ediv_eq_zero_of_lt h0 hh
def onV (P : jP) (a b c d : Int) : Bool := decide (d = ck a b c ∧ 256 * a + b < ((2 ^ (nR P).toNat : Nat) : Int) ∧ c < ((2 ^ (nD P).toNat : Nat) : Int))
def WIm (i : Nat) (k : Int) : Prop := i = 120 ∨ (i = 76 ∧ k = 63)
def WOn (i : Nat) (k : Int) : Prop := i = 107 ∨ i = 109 ∨ (i = 76 ∧ k = 1)
section
variable {E : jE} {μ μ1 : jMu} {P : jP} {w q : Int → Bool} {Q : Int → jMu → Prop}
theorem v12 (w : Int → Bool) : 0 ≤ bs w 12 ∧ bs w 12 < 4096 := by
  have := bs_lt w (n := 12) (m := 12) (by omega)
  have h2 := bs_nn w 12
  exact ⟨h2, by omega⟩
theorem v6 {q : Int → Bool} {m : Int} (hm : m ≤ 6) (h : ∀ r, q r = true → r < m) : 0 ≤ bs q 12 ∧ bs q 12 < 64 := by
  have e : bs q 12 = bs q 6 := bs_more (by omega) (by omega) (fun k a _ => by
    rw [Bool.eq_false_iff]
    intro hh
    have := h k hh
    omega)
  have := bs_lt q (n := 6) (m := 6) (by omega)
  have h2 := bs_nn q 6
  rw [e]
  exact ⟨h2, by omega⟩
theorem RS.frI (h : RS μ P w q) (hf : Fr (fun i k => WIm i k ∨ (i = 76 ∧ k = 1)) μ μ1) : RS μ1 P w q := by
  obtain ⟨⟨a, b, c, d⟩, e, f⟩ := h
  refine ⟨⟨a.frN (hf.mono (fun i k hw => by unfold WIm at hw; unfold NDr; omega)), fun s h0 h1 => ?_, fun k h0 h1 => ?_, ?_⟩, fun r h0 h1 => ?_, fun r h0 h1 => ?_⟩
  · rw [hf 103 s (by unfold WIm; omega), hf 104 s (by unfold WIm; omega), hf 106 s (by unfold WIm; omega)]; exact b s h0 h1
  · rw [hf 105 k (by unfold WIm; omega)]; exact c k h0 h1
  · rw [hf 76 44 (by unfold WIm; omega)]; exact d
  · rw [hf 107 r (by unfold WIm; omega)]; exact e r h0 h1
  · rw [hf 109 r (by unfold WIm; omega)]; exact f r h0 h1
theorem sM_image (h : RS μ P w q) (hw : ∀ r, w r = true → r < nR P) (hq : ∀ r, q r = true → r < nD P) (k : ∀ μ1, Fr WIm μ μ1 → μ1 120 0 = bs w 12 / 256 → μ1 120 1 = bs w 12 % 256 → μ1 120 2 = bs q 12 → μ1 120 3 = ck (bs w 12 / 256) (bs w 12 % 256) (bs q 12) → μ1 76 63 = 4 → Q 4 μ1) : Ci E mM_image [jvR 76] μ Q := by
  have hn := h.n
  have hv := v12 w
  have hq6 := v6 (by omega) hq
  refine vM_image_0 ?_
  have lp : ∀ (l2 : Int), 0 ≤ l2 → l2 ≤ nD P → K 121 E mM_image 4 [some (jvR 76), some (jvI (bs (fun j => decide (j < l2) && q j) 12)), some (jvI l2)] [] μ (fun v μ1 => ∃ r, v = some (jvI r) ∧ Q r μ1) := by
    refine up_ind (nD P) _ ?_
    intro l2 ih g0 g1
    refine vM_image_4 (sM_readers h.r ⟨fun c => sM_wrongBits h hw ?_, fun c => ⟨by omega, ?_⟩⟩)
    · rw [Int.tdiv_eq_ediv_of_nonneg hv.1]
      have f1 : Fr WIm μ (j_up μ 120 0 (bs w 12 / 256)) := Fr.up (Or.inl rfl)
      refine ⟨by omega, sM_wrongBits (h.frI (f1.mono (fun i k hh => Or.inl hh))) hw ?_⟩
      rw [up_eq, Int.tmod_eq_emod_of_nonneg hv.1, show l2 = nD P by omega, bs_cut hq]
      refine sM_checked (by omega) (by omega) (by omega) ⟨_, rfl, k _ (((((f1.put (Or.inl rfl)).put (Or.inl rfl))).put (Or.inl rfl)).put (Or.inr ⟨rfl, rfl⟩)) ?_ ?_ ?_ ?_ up_eq⟩
      · rw [up_ne (by decide), up_nk (by decide), up_nk (by decide), up_nk (by decide), up_eq]
      · rw [up_ne (by decide), up_nk (by decide), up_nk (by decide), up_eq]
      · rw [up_ne (by decide), up_nk (by decide), up_eq]
      · rw [up_ne (by decide), up_eq]
    · rw [h.2.2 l2 g0 (by omega)]
      refine ⟨fun c2 => ⟨by omega, ?_⟩, fun c2 => ⟨by omega, ?_⟩⟩
      · rw [bs_add0 g0 (b2i_b0 c2)]; exact ih (by omega) (by omega) (by omega)
      · rw [bs_add1 g0 (by omega) (by omega) (b2i_b c2)]; exact ih (by omega) (by omega) (by omega)
  have := lp 0 (by omega) (by omega)
  rw [show bs (fun j => decide (j < 0) && q j) 12 = 0 from bs_0 (fun j a _ => by rw [decide_eq_false (by omega), Bool.false_and])] at this
  exact this
theorem sM_octet {a : Int} (k : Q (if 0 ≤ a ∧ a < 4 ∧ μ 76 63 = 4 then μ 120 a else -1) μ) (ho : μ 76 63 = 0 ∨ μ 76 63 = 4) : Ci E mM_octet [jvR 76, jvI a] μ Q := by
  refine vM_octet_0 ⟨fun c => ⟨_, rfl, ?_⟩, fun c => ⟨fun c2 => ⟨_, rfl, ?_⟩, fun c2 => ⟨by omega, _, rfl, ?_⟩⟩⟩
  · rw [if_neg (by omega)] at k; exact k
  · rw [if_neg (by omega)] at k; exact k
  · rw [if_pos (by omega)] at k; exact k
theorem sM_on (h : RS μ P w q) (hb : μ 76 1 = 4 → ∀ j, 0 ≤ j → j < 4 → 0 ≤ μ 77 j ∧ μ 77 j ≤ 255) (kf : ∀ μ1, (μ 76 1 ≠ 4 ∨ onV P (μ 77 0) (μ 77 1) (μ 77 2) (μ 77 3) = false) → Fr (fun i k => i = 76 ∧ k = 1) μ μ1 → μ1 76 1 = 0 → Q 0 μ1) (kt : ∀ μ1, μ 76 1 = 4 → onV P (μ 77 0) (μ 77 1) (μ 77 2) (μ 77 3) = true → Fr WOn μ μ1 → μ1 76 1 = 0 → RS μ1 P (bt (256 * μ 77 0 + μ 77 1)) (bt (μ 77 2)) → Q 1 μ1) : Ci E mM_on [jvR 76] μ Q := by
  have hn := h.n
  have f1 : Fr (fun i k => i = 76 ∧ k = 1) μ (j_up μ 76 1 0) := Fr.up ⟨rfl, rfl⟩
  refine vM_on_0 ⟨fun c => ⟨_, rfl, kf _ (Or.inl c) f1 up_eq⟩, fun c => ?_⟩
  have b0 := hb c 0 (by omega) (by omega)
  have b1 := hb c 1 (by omega) (by omega)
  have b2 := hb c 2 (by omega) (by omega)
  have b3 := hb c 3 (by omega) (by omega)
  have hS := h.frI (f1.mono (fun i k hh => Or.inr hh))
  refine sM_checked b0 b1 b2 ?_
  rw [up_ne (show (77 : Nat) ≠ 76 by decide), up_ne (show (77 : Nat) ≠ 76 by decide)]
  have e77 : (j_up μ 76 1 0) 77 2 = μ 77 2 := up_ne (by decide)
  refine ⟨fun c2 => ⟨by omega, sM_rules hS.r ?_⟩, fun c2 => ⟨_, rfl, kf _ (Or.inr ?_) f1 up_eq⟩⟩
  · have hz := shr_0 (x := 256 * μ 77 0 + μ 77 1) (r := nR P) (by omega) (by omega) (by omega) (by omega)
    have hz2 := shr_0 (x := μ 77 2) (r := nD P) (by omega) (by omega) (by omega) (by omega)
    refine ⟨fun c3 => ⟨_, rfl, kf _ (Or.inr ?_) f1 up_eq⟩, fun c3 => sM_readers hS.r ⟨fun c4 => ?_, fun c4 => ⟨_, rfl, kf _ (Or.inr ?_) f1 up_eq⟩⟩⟩
    · unfold onV
      exact decide_eq_false (fun hh => c3 (hz.mpr hh.2.1))
    · rw [e77] at c4
      have hv := hz.mp c3
      have hc := hz2.mp c4
      have h4 : ((2 ^ (nR P).toNat : Nat) : Int) ≤ 4096 := by
        have : 2 ^ (nR P).toNat ≤ 2 ^ 12 := Nat.pow_le_pow_right (by omega) (by omega)
        omega
      have hon : onV P (μ 77 0) (μ 77 1) (μ 77 2) (μ 77 3) = true := decide_eq_true ⟨c2, hv, hc⟩
      have lp2 : ∀ (l3 : Int) (μ3 : jMu), 0 ≤ l3 → l3 ≤ 6 → Fr WOn μ μ3 → μ3 76 1 = 0 → RK μ3 P → (∀ r, 0 ≤ r → r < 12 → μ3 107 r = b2i (bt (256 * μ 77 0 + μ 77 1) r)) → (∀ r, 0 ≤ r → r < l3 → μ3 109 r = b2i (bt (μ 77 2) r)) → K 121 E mM_on 126 [some (jvR 76), some (jvI (μ 76 1)), some (jvI (256 * μ 77 0 + μ 77 1)), some (jvI l3)] [] μ3 (fun v μ1 => ∃ r, v = some (jvI r) ∧ Q r μ1) := by
        refine up_ind 6 _ ?_
        intro l3 ih μ3 g0 g1 g2 g3 g4 g5 g6
        refine vM_on_126 ⟨fun c5 => ⟨_, rfl, kt μ3 c hon g2 g3 ⟨g4, g5, fun r a b => g6 r a (by omega)⟩⟩, fun c5 => ?_⟩
        rw [g2 77 2 (by unfold WOn; omega), in_bt (by omega) (by omega) g0 (by omega)]
        have step : ∀ x, x = b2i (bt (μ 77 2) l3) → K 121 E mM_on 126 [some (jvR 76), some (jvI (μ 76 1)), some (jvI (256 * μ 77 0 + μ 77 1)), some (jvI (l3 + 1))] [] (j_up μ3 109 l3 x) (fun v μ1 => ∃ r, v = some (jvI r) ∧ Q r μ1) := fun x hx => ih (by omega) _ (by omega) (by omega) (g2.put (Or.inr (Or.inl rfl))) (by rw [up_ne (by decide)]; exact g3) (g4.frw (Fr.up (Or.inr (Or.inl rfl)))) (fun r a b => by rw [up_ne (by decide)]; exact g5 r a b) (fun r a b => by
          rw [up_if]
          split
          · rename_i e; rw [e]; exact hx
          · exact g6 r a (by omega))
        exact ⟨fun c6 => ⟨by omega, step 0 (by rw [b2i_b1 c6]; rfl)⟩, fun c6 => ⟨by omega, step 1 c6.symm⟩⟩
      have lp1 : ∀ (l3 : Int) (μ3 : jMu), 0 ≤ l3 → l3 ≤ 12 → Fr WOn μ μ3 → μ3 76 1 = 0 → RK μ3 P → (∀ r, 0 ≤ r → r < l3 → μ3 107 r = b2i (bt (256 * μ 77 0 + μ 77 1) r)) → K 121 E mM_on 92 [some (jvR 76), some (jvI (μ 76 1)), some (jvI (256 * μ 77 0 + μ 77 1)), some (jvI l3)] [] μ3 (fun v μ1 => ∃ r, v = some (jvI r) ∧ Q r μ1) := by
        refine up_ind 12 _ ?_
        intro l3 ih μ3 g0 g1 g2 g3 g4 g5
        refine vM_on_92 ⟨fun c5 => lp2 0 μ3 (by omega) (by omega) g2 g3 g4 (fun r a b => g5 r a (by omega)) (fun r a b => by omega), fun c5 => ?_⟩
        rw [in_bt (by omega) (by omega) g0 (by omega)]
        have step : ∀ x, x = b2i (bt (256 * μ 77 0 + μ 77 1) l3) → K 121 E mM_on 92 [some (jvR 76), some (jvI (μ 76 1)), some (jvI (256 * μ 77 0 + μ 77 1)), some (jvI (l3 + 1))] [] (j_up μ3 107 l3 x) (fun v μ1 => ∃ r, v = some (jvI r) ∧ Q r μ1) := fun x hx => ih (by omega) _ (by omega) (by omega) (g2.put (Or.inl rfl)) (by rw [up_ne (by decide)]; exact g3) (g4.frw (Fr.up (Or.inl rfl))) (fun r a b => by
          rw [up_if]
          split
          · rename_i e; rw [e]; exact hx
          · exact g5 r a (by omega))
        exact ⟨fun c6 => ⟨by omega, step 0 (by rw [b2i_b1 c6]; rfl)⟩, fun c6 => ⟨by omega, step 1 c6.symm⟩⟩
      exact lp1 0 _ (by omega) (by omega) (f1.mono (fun i k hh => Or.inr (Or.inr hh))) up_eq hS.1 (fun r a b => by omega)
    · rw [e77] at c4
      unfold onV
      exact decide_eq_false (fun hh => c4 (hz2.mpr hh.2.2))
  · unfold onV
    exact decide_eq_false (fun hh => c2 hh.1)
end
/-! the class -/
def Wsw (i : Nat) (k : Int) : Prop := (i = 0 ∧ (k = 13 ∨ k = 14)) ∨ (i = 69 ∧ k = 4)
theorem FC.frx {b : Nat} {μ μ1 : jMu} {P : jP} (h : FC b μ P) (hf : Fr (fun i _ => i = 0 ∨ i = 1 ∨ 59 ≤ i) μ μ1) : FC b μ1 P := h.fr (hf.mono (fun i k hh => by unfold NB; omega)) (fun i k a b => hf i k (by omega))
theorem CB.frx {b : Nat} {μ μ1 : jMu} {P : jP} (h : CB b μ P) (hf : Fr (fun i _ => i = 0 ∨ i = 1 ∨ 59 ≤ i) μ μ1) : CB b μ1 P := h.fr (hf.mono (fun i k hh => by unfold NB; omega))
theorem bs_set1 {w : Int → Bool} {r : Int} (h0 : 0 ≤ r) (h1 : r < 12) : ior32 (bs w 12) (ishl32 1 r) = bs (setb w r true) 12 := by
  rw [bs_bit32 h0 h1 (by omega), bs_or32 (by omega)]
  refine bs_congr (fun j _ _ => ?_)
  unfold setb
  by_cases hj : j = r
  · rw [if_pos hj, beq_iff_eq.mpr hj, Bool.or_true]
  · rw [if_neg hj, beq_eq_false_iff_ne.mpr hj, Bool.or_false]
theorem bs_set0 {w : Int → Bool} {r : Int} (h0 : 0 ≤ r) (h1 : r < 12) : iand32 (bs w 12) (ixor32 (ishl32 1 r) (-1)) = bs (setb w r false) 12 := by
  rw [bs_bit32 h0 h1 (by omega), bs_andnot32 (by omega)]
  refine bs_congr (fun j _ _ => ?_)
  unfold setb
  by_cases hj : j = r
  · rw [if_pos hj, beq_iff_eq.mpr hj]; simp
  · rw [if_neg hj, beq_eq_false_iff_ne.mpr hj]; simp
theorem setb_lt {w : Int → Bool} {r m : Int} {v : Bool} (hr : r < m) (h : ∀ j, w j = true → j < m) : ∀ j, setb w r v j = true → j < m := by
  intro j hj
  unfold setb at hj
  split at hj
  · omega
  · exact h j hj
section
variable {E : jE} {μ μ1 : jMu} {P : jP} {w q : Int → Bool} {Q : Int → jMu → Prop} {Q0 : jMu → Prop} {b : Nat}
theorem sX_setWrong (h : FC b μ P) (h9 : μ 0 9 = ((b : Nat) : Int)) (ha : μ 74 0 = bs q 12) (hq : ∀ r, q r = true → r < nD P) {x : Int} {w : Int → Bool} (hx : x = bs w 12) (hw : ∀ r, w r = true → r < nR P) (k : ∀ μ1, Fr Wsw μ μ1 → XS b μ1 P w q → μ1 69 4 = 0 → Q0 μ1) : Cv E mX_setWrong [jvR 0, jvI x] μ Q0 := by
  have f1 : Fr Wsw μ (j_up μ 0 13 x) := Fr.up (Or.inl ⟨rfl, Or.inl rfl⟩)
  refine vX_setWrong_0 h.1.1 ⟨h9, sBk_fallenBy ((h.frx (f1.mono (fun i k hh => by unfold Wsw at hh; omega))).1) hx ?_⟩
  have f2 : Fr Wsw μ (j_up (j_up (j_up μ 0 13 x) 0 14 (bs (inS P (flt P w)) 40)) 69 4 0) := (f1.put (Or.inl ⟨rfl, Or.inr rfl⟩)).put (Or.inr ⟨rfl, rfl⟩)
  refine ⟨rfl, k _ f2 ⟨h.frx (f2.mono (fun i k hh => by unfold Wsw at hh; omega)), ?_, ?_, ?_, ?_, hw, hq⟩ up_eq⟩
  · rw [f2 0 9 (by unfold Wsw; omega)]; exact h9
  · rw [up_ne (by decide), up_nk (by decide), up_eq]; exact hx
  · rw [up_ne (by decide), up_eq]
  · rw [f2 74 0 (by unfold Wsw; omega)]; exact ha
theorem sX_blame (h : XS b μ P w q) {r x : Int} {v : Bool} (hx : x = b2i v) (k : ∀ μ1, Fr Wsw μ μ1 → XS b μ1 P (wBlame P w r v) q → (μ1 69 4 = 0 ∨ μ1 = μ ∧ wBlame P w r v = w) → Q (vBlame P w r v) μ1) : Ci E mX_blame [jvR 0, jvI r, jvI x] μ Q := by
  have hn := h.n
  unfold vBlame wBlame at k
  refine vX_blame_0 h.ib ⟨h.2.1, sBk_hasRule h.c (fun h0 h1 => ⟨fun _ => ?_, fun c => absurd c (by decide)⟩) (fun h0 => ⟨fun c => absurd rfl c, fun _ => ⟨_, rfl, ?_⟩⟩)⟩
  · rw [if_pos ⟨h0, h1⟩, if_pos ⟨h0, h1⟩] at k
    rw [h.2.2.1, bs_set1 h0 (by omega), bs_set0 h0 (by omega)]
    refine ⟨fun c => ?_, fun c => ?_⟩
    · have hv : v = false := by
        cases v
        · rfl
        · rw [hx] at c; cases c
      subst hv
      exact sX_setWrong h.1 h.2.1 h.2.2.2.2.1 h.2.2.2.2.2.2 rfl (setb_lt h1 h.2.2.2.2.2.1) (fun μ1 f1 x1 z1 => sLg_bitCount x1.2.2.2.1 ⟨_, rfl, by rw [cnt_inS h.wf]; exact k μ1 f1 x1 (Or.inl z1)⟩)
    · have hv : v = true := by
        cases v
        · rw [hx] at c; exact absurd rfl c
        · rfl
      subst hv
      exact sX_setWrong h.1 h.2.1 h.2.2.2.2.1 h.2.2.2.2.2.2 rfl (setb_lt h1 h.2.2.2.2.2.1) (fun μ1 f1 x1 z1 => sLg_bitCount x1.2.2.2.1 ⟨_, rfl, by rw [cnt_inS h.wf]; exact k μ1 f1 x1 (Or.inl z1)⟩)
  · rw [if_neg (by omega), if_neg (by omega)] at k; exact k μ Fr.rf h (Or.inr ⟨rfl, rfl⟩)
theorem sFa_sameAs (h : FC b μ P) {g : Int} (g0 : 0 ≤ g) (g1 : g < nS P) (k : Q (bs (inS P (fun s => fs P s == fs P g)) 40) μ) : Cl E mFa_sameAs [jvR 45, jvI g] μ Q := by
  have hn := h.1.n
  refine vFa_sameAs_0 ?_
  have lp : ∀ (l4 : Int), 0 ≤ l4 → l4 ≤ nS P → K 121 E mFa_sameAs 5 [some (jvR 45), some (jvI g), some (jvL (bs (fun j => decide (j < l4) && (fs P j == fs P g)) 40)), none, some (jvI l4)] [] μ (fun v μ1 => ∃ r, v = some (jvL r) ∧ Q r μ1) := by
    refine up_ind (nS P) _ ?_
    intro l4 ih d0 d1
    refine vFa_sameAs_5 h.1.1 ⟨h.2.1, ?_⟩
    rw [h.1.e0.2.1]
    refine ⟨fun c => ⟨_, rfl, ?_⟩, fun c => ⟨by omega, ?_⟩⟩
    · rw [show l4 = nS P by omega]; exact k
    · rw [(h.e d0 (by omega)).1, (h.e g0 g1).1]
      have ih' := ih (by omega) (by omega) (by omega)
      rw [← bs_up (p := fun j => fs P j == fs P g) d0] at ih'
      refine ⟨fun c2 => ⟨by omega, ?_⟩, fun c2 => sX_bit d0 (by omega) ⟨by omega, ?_⟩⟩
      · simp only [beq_eq_false_iff_ne.mpr c2, Bool.and_false, Bool.or_false] at ih'
        exact ih'
      · simp only [beq_iff_eq.mpr c2, Bool.and_true] at ih'
        rw [bs_or (by omega)]; exact ih'
  have := lp 0 (by omega) (by omega)
  rw [show bs (fun j => decide (j < 0) && (fs P j == fs P g)) 40 = 0 from bs_0 (fun j a _ => by rw [decide_eq_false (by omega), Bool.false_and])] at this
  exact this
theorem sX_stands (h : XS b μ P w q) (k : Q (vStands P w) μ) : Ci E mX_stands [jvR 0] μ Q := by
  have hn := h.n
  unfold vStands at k
  refine vX_stands_0 h.ib ⟨h.2.1, ?_⟩
  rw [h.c.e0.2.1, h.c.e0.2.2.2.1]
  refine ⟨fun c => ⟨h.2.1, ?_⟩, fun c => ⟨_, rfl, by rw [if_pos c] at k; exact k⟩⟩
  rw [if_neg c] at k
  have hg := h.wf.g.1 (by omega)
  refine sFa_sameAs h.1 hg.1 hg.2 ?_
  rw [h.2.2.2.1, bs_andnot (by omega)]
  refine ⟨fun c2 => ?_, fun c2 => ?_⟩
  · have : anyB (fun s => fs P s == fs P (gl P) && !flt P w s) (nS P) = false := by
      rw [Bool.eq_false_iff]
      intro hh
      obtain ⟨s, s0, s1, s2⟩ := anyB_iff.mp hh
      have := bs_eq0 c2 s s0 (by omega)
      rw [inS_t s1, inS_t s1, s2] at this
      cases this
    rw [this] at k
    exact sX_flagb (c := false) ⟨_, rfl, k⟩
  · have : anyB (fun s => fs P s == fs P (gl P) && !flt P w s) (nS P) = true := by
      refine Classical.byContradiction (fun hno => c2 (bs_0 (fun s s0 s1 => ?_)))
      rw [Bool.eq_false_iff]
      intro hh
      have hs : s < nS P := by
        unfold inS at hh
        rw [Bool.and_eq_true, Bool.and_eq_true, decide_eq_true_iff] at hh
        exact hh.1.1
      rw [inS_t hs, inS_t hs] at hh
      exact hno (anyB_iff.mpr ⟨s, s0, hs, hh⟩)
    rw [this] at k
    exact sX_flagb (c := true) ⟨_, rfl, k⟩
theorem sX_ask (h : XS b μ P w q) {r x : Int} {v : Bool} (hx : x = b2i v) (k : ∀ μ1, Fr (fun i k => i = 74 ∧ k = 0) μ μ1 → XS b μ1 P w (qAsk P q r v) → Q (vAsk P q r v) μ1) : Ci E mX_ask [jvR 0, jvI r, jvI x] μ Q := by
  have hn := h.n
  unfold vAsk qAsk at k
  refine vX_ask_0 h.ib ⟨fun c => ⟨_, rfl, ?_⟩, fun c => ⟨h.2.1, ?_⟩⟩
  · rw [if_neg (by omega), if_neg (by omega)] at k; exact k μ Fr.rf h
  · rw [h.c.e0.2.2.1]
    refine ⟨fun c2 => ?_, fun c2 => ⟨_, rfl, ?_⟩⟩
    · rw [if_pos (by omega), if_pos (by omega)] at k
      rw [h.2.2.2.2.1, bs_set1 (by omega) (by omega), bs_set0 (by omega) (by omega)]
      have fin : ∀ v' : Bool, v = v' → Ci E mIg_bitCount [jvI (bs (setb q r v') 12)] (j_up μ 74 0 (bs (setb q r v') 12)) (fun r11 μ8 => ∃ r_1, some (jvI r11) = some (jvI r_1) ∧ Q r_1 μ8) := by
        intro v' hv
        subst hv
        have f1 : Fr (fun i k => i = 74 ∧ k = 0) μ (j_up μ 74 0 (bs (setb q r v) 12)) := Fr.up ⟨rfl, rfl⟩
        refine sIg_bitCount rfl ⟨_, rfl, ?_⟩
        rw [cnt_12 (n := nD P) (by omega) (by omega) (setb_lt c2 h.2.2.2.2.2.2)]
        refine k _ f1 ⟨h.1.frx (f1.mono (fun i k hh => by omega)), ?_, ?_, ?_, up_eq, h.2.2.2.2.2.1, setb_lt c2 h.2.2.2.2.2.2⟩
        · rw [up_ne (by decide)]; exact h.2.1
        · rw [up_ne (by decide)]; exact h.2.2.1
        · rw [up_ne (by decide)]; exact h.2.2.2.1
      refine ⟨fun c3 => fin false ?_, fun c3 => fin true ?_⟩
      · cases v
        · rfl
        · rw [hx] at c3; cases c3
      · cases v
        · rw [hx] at c3; exact absurd rfl c3
        · rfl
    · rw [if_neg (by omega), if_neg (by omega)] at k; exact k μ Fr.rf h
theorem sWa_leastSeen (h : FC b μ P) {x : Int} {A : Int → Bool} (hx : x = bs A 12) (k : Q (lst P A) μ) : Ci E mWa_leastSeen [jvR 74, jvR 45, jvI x] μ Q := by
  have hn := h.1.n
  refine vWa_leastSeen_0 ?_
  have lp : ∀ (l5 l3 l4 : Int), 0 ≤ l5 → l5 ≤ nS P → l3 = lsN P A l5.toNat → (l3 = -1 → l4 = 2147483647) → (l3 ≠ -1 → l4 = sn P A l3) → K 121 E mWa_leastSeen 9 [some (jvR 74), some (jvR 45), some (jvI x), some (jvI l3), some (jvI l4), some (jvI l5), none] [] μ (fun v μ1 => ∃ r, v = some (jvI r) ∧ Q r μ1) := by
    refine up_ind (nS P) _ ?_
    intro l5 ih l3 l4 g0 g1 g3 g4 g5
    have hs := lsN_s (P := P) (A := A) g0
    rw [← g3] at hs
    have hr := sn_r h.1.w (A := A) (s := l5)
    refine vWa_leastSeen_9 h.1.1 ⟨h.2.1, ?_⟩
    rw [h.1.e0.2.1]
    refine ⟨fun c => ⟨_, rfl, ?_⟩, fun c => sX_in h.f.2.1 g0 (by omega) (by omega) ⟨fun c2 => ⟨by omega, ih (by omega) l3 l4 (by omega) (by omega) ?_ g4 g5⟩, fun c2 => ⟨h.2.1, sWa_seen h.1 hx ⟨fun c3 => ⟨by omega, ih (by omega) l3 l4 (by omega) (by omega) ?_ g4 g5⟩, fun c3 => ⟨by omega, ih (by omega) l5 _ (by omega) (by omega) ?_ (fun hh => by omega) (fun _ => rfl)⟩⟩⟩⟩⟩
    · rw [g3, show l5 = nS P by omega]; exact k
    · rw [hs, b2i_b0 c2, if_neg (by decide)]
    · rw [hs, if_pos (b2i_b c2)]
      by_cases h1 : l3 = -1
      · have := g4 h1
        omega
      · have := g5 h1
        rw [if_neg h1, if_neg (by omega)]
    · rw [hs, if_pos (b2i_b c2)]
      by_cases h1 : l3 = -1
      · rw [if_pos h1]
      · have := g5 h1
        rw [if_neg h1, if_pos (by omega)]
  exact lp 0 (-1) 2147483647 (by omega) (by omega) rfl (fun _ => rfl) (fun hh => absurd rfl hh)
theorem sX_least (h : XS b μ P w q) {a : Int} (k : Q (vLeast P q a) μ) : Ci E mX_least [jvR 0, jvI a] μ Q := by
  unfold vLeast at k
  refine vX_least_0 h.ib ⟨h.2.1, ?_⟩
  rw [h.c.e0.2.1]
  refine ⟨fun c => sWa_leastSeen h.1 h.2.2.2.2.1 ⟨fun c2 => ⟨h.2.1, sWa_seen h.c h.2.2.2.2.1 ⟨_, rfl, ?_⟩⟩, fun c2 => ⟨_, rfl, ?_⟩, fun c2 => ⟨_, rfl, ?_⟩⟩, fun c => ⟨_, rfl, by rw [if_pos c] at k; exact k⟩⟩
  · rw [if_neg c, if_pos c2] at k; exact k
  · rw [if_neg c, if_neg (by omega), if_pos c2] at k; exact k
  · rw [if_neg c, if_neg c2.1, if_neg c2.2] at k; exact k
theorem sX_whom (h : XS b μ P w q) (k : Q (vWhom P q) μ) : Ci E mX_whom [jvR 0] μ Q := by
  have hn := h.n
  unfold vWhom at k
  refine vX_whom_0 h.ib ⟨h.2.1, ?_⟩
  rw [h.c.e0.2.1]
  refine ⟨fun c => vWa_nextToAsk_0 ?_, fun c => ⟨_, rfl, by rw [if_pos c] at k; exact k⟩⟩
  rw [if_neg c] at k
  have lp : ∀ (l4 l2 l3 : Int), 0 ≤ l4 → l4 ≤ nD P → (l2, l3) = whN P q l4.toNat → K 121 E mWa_nextToAsk 7 [some (jvR 74), some (jvR 45), some (jvI l2), some (jvI l3), some (jvI l4), none, none] [] μ (fun v μ1 => ∃ r, v = some (jvI r) ∧ (∃ r1, some (jvI r) = some (jvI r1) ∧ Q r1 μ1)) := by
    refine up_ind (nD P) _ ?_
    intro l4 ih l2 l3 g0 g1 g3
    have hs := whN_s (P := P) (q := q) g0
    rw [← g3] at hs
    refine vWa_nextToAsk_7 h.ib ⟨h.1.2.1, ?_⟩
    rw [h.c.e0.2.2.1, h.2.2.2.2.1]
    refine ⟨fun c2 => ⟨_, rfl, _, rfl, ?_⟩, fun c2 => ?_⟩
    · rw [show nD P = l4 by omega, ← g3] at k; exact k
    · rw [bs_set1 g0 (by omega)]
      have hiff : bs (setb q l4 true) 12 = bs q 12 ↔ q l4 = true := by
        constructor
        · intro hh
          have h1 := bt_bs (setb q l4 true) (n := 12) g0
          have h2 := bt_bs q (n := 12) g0
          rw [hh] at h1
          rw [h1, decide_eq_true (show l4 < 12 by omega), Bool.true_and, Bool.true_and] at h2
          rw [← h2]
          unfold setb
          rw [if_pos rfl]
        · intro hh
          refine bs_congr (fun j _ _ => ?_)
          unfold setb
          split
          · rename_i e; rw [e, hh]
          · rfl
      refine ⟨fun c3 => ⟨by omega, ih (by omega) l2 l3 (by omega) (by omega) ?_⟩, fun c3 => ⟨h.1.2.1, sWa_leastSeen h.1 rfl (sWa_seen h.c rfl ⟨fun c4 => ⟨by omega, ih (by omega) l2 l3 (by omega) (by omega) ?_⟩, fun c4 => ⟨by omega, ih (by omega) l4 _ (by omega) (by omega) ?_⟩⟩)⟩⟩
      · rw [hs, if_pos (hiff.mp c3)]
      · rw [hs, if_neg (fun hh => c3 (hiff.mpr hh)), if_neg (show ¬ (l2, l3).2 < _ by show ¬ l3 < _; omega)]
      · rw [hs, if_neg (fun hh => c3 (hiff.mpr hh)), if_pos (show (l2, l3).2 < _ by show l3 < _; omega)]
  exact lp 0 (-1) (-1) (by omega) (by omega) rfl
theorem sX_seed {a : Int} (kt : 0 ≤ a → Q 1 (j_up μ 74 1 a)) (kf : a < 0 → Q 0 μ) : Ci E mX_seed [jvR 0, jvI a] μ Q := vX_seed_0 ⟨fun c => ⟨_, rfl, kt c⟩, fun c => ⟨_, rfl, kf (by omega)⟩⟩
theorem and31 (y : Int) : iand32 y 2147483647 = y % 2147483648 := by
  unfold iand32 j_b32
  have key : ((Int32.ofInt y) &&& (Int32.ofInt 2147483647)).toBitVec.toNat = (y % 2147483648).toNat := by
    rw [Int32.toBitVec_and, BitVec.toNat_and]
    have e1 : (Int32.ofInt y).toBitVec.toNat = (y % 4294967296).toNat := by
      rw [show (Int32.ofInt y).toBitVec = BitVec.ofInt 32 y from rfl, BitVec.toNat_ofInt]
      rfl
    rw [e1, show (Int32.ofInt 2147483647).toBitVec.toNat = 2 ^ 31 - 1 from rfl, Nat.and_two_pow_sub_one_eq_mod]
    omega
  have := t32_nat key (by omega)
  rw [this]
  omega
theorem dr_c (d : Int) : iand32 (w32 ((w32 (1103515245 * d)) + 12345)) 2147483647 = dr d := by
  rw [and31]
  unfold dr w32
  rw [Int.bmod_def, Int.bmod_def]
  split <;> split <;> omega
def W741 (i : Nat) (k : Int) : Prop := i = 74 ∧ k = 1
theorem XS.fr741 (h : XS b μ P w q) (hf : Fr W741 μ μ1) : XS b μ1 P w q := h.fr (hf.mono (fun i k hh => by unfold W741 at hh; unfold NXS; omega))
theorem sX_trials (h : XS b μ P w q) {s n d : Int} (hd : μ 74 1 = d) (ho : okD d) (k : ∀ μ1, Fr W741 μ μ1 → μ1 74 1 = dTrials P q s n d → Q (vTrials P q s n d) μ1) : Ci E mX_trials [jvR 0, jvI s, jvI n] μ Q := by
  have hn := h.n
  have hb16 : b + 16 ≠ 74 := by rcases h.ib with hb | hb <;> omega
  unfold vTrials dTrials at k
  refine vX_trials_0 h.ib ⟨h.2.1, sBk_hasStep h.c (fun h0 h1 => ⟨fun c => absurd c (by decide), fun _ => ⟨fun c => ⟨_, rfl, ?_⟩, fun c => ⟨fun c2 => ?_, fun c2 => ⟨_, rfl, ?_⟩⟩⟩⟩) (fun h0 => ⟨fun _ => ⟨_, rfl, ?_⟩, fun c => absurd rfl c⟩)⟩
  · rw [if_neg (by omega), if_neg (by omega)] at k; exact k μ Fr.rf hd
  · rw [if_pos (by omega), if_pos (by omega)] at k
    have lp : ∀ (l4 l3 : Int) (μ0 : jMu), 0 ≤ l4 → l4 ≤ n → Fr W741 μ μ0 → l3 = (trN P q s d l4.toNat).1 → μ0 74 1 = (trN P q s d l4.toNat).2 → K 121 E mX_trials 30 [some (jvR 0), some (jvI s), some (jvI n), some (jvI l3), some (jvI l4)] [] μ0 (fun v μ1 => ∃ r, v = some (jvI r) ∧ Q r μ1) := by
      refine up_ind n _ ?_
      intro l4 ih l3 μ0 g0 g1 g2 g3 g4
      have ht := trN_ok (P := P) (q := q) (s := s) ho l4.toNat
      have hs := trN_s (P := P) (q := q) (s := s) (d := d) g0
      have hX := h.fr741 g2
      refine vX_trials_30 h.ib ⟨fun c => ⟨_, rfl, ?_⟩, fun c => ⟨hX.2.1, vWa_isSeenOnce_0 h.ib ?_⟩⟩
      · rw [g3, show l4 = n by omega]
        rw [show l4 = n by omega] at g4
        exact k μ0 g2 g4
      · have lp2 : ∀ (l6 l5 : Int) (μ3 : jMu), 0 ≤ l6 → l6 ≤ nD P → Fr W741 μ μ3 → l5 = b2i (tsN P q s (trN P q s d l4.toNat).2 l6.toNat).1 → μ3 74 1 = (tsN P q s (trN P q s d l4.toNat).2 l6.toNat).2 → K 121 E mWa_isSeenOnce 5 [some (jvR 74), some (jvR ((b : Nat) : Int)), some (jvI s), some (jvI l5), some (jvI l6)] [] μ3 (fun v μ1 => ∃ r, v = some (jvI r) ∧ ((r = 0 → (-2147483648 ≤ (l4 + 1) ∧ (l4 + 1) < 2147483648) ∧ (K 121 E mX_trials 30 [some (jvR 0), some (jvI s), some (jvI n), some (jvI l3), some (jvI (l4 + 1))] [] μ1 (fun v μ1 => ∃ r, v = some (jvI r) ∧ Q r μ1))) ∧ (¬ (r = 0) → ((-2147483648 ≤ (l3 + 1) ∧ (l3 + 1) < 2147483648) ∧ (-2147483648 ≤ (l4 + 1) ∧ (l4 + 1) < 2147483648)) ∧ (K 121 E mX_trials 30 [some (jvR 0), some (jvI s), some (jvI n), some (jvI (l3 + 1)), some (jvI (l4 + 1))] [] μ1 (fun v μ1 => ∃ r, v = some (jvI r) ∧ Q r μ1))))) := by
          refine up_ind (nD P) _ ?_
          intro l6 ih6 l5 μ3 d0 d1 d2 d3 d4
          have hX3 := h.fr741 d2
          have hs2 := tsN_s (P := P) (q := q) (s := s) (d := (trN P q s d l4.toNat).2) d0
          have ht2 := tsN_ok (P := P) (q := q) (s := s) ht.1 l6.toNat
          refine vWa_isSeenOnce_5 h.ib ?_
          rw [hX3.c.e0.2.2.1]
          refine ⟨fun c6 => ?_, fun c6 => ?_⟩
          · rw [show l6 = nD P by omega] at d3 d4
            have hb := b2i_01 (tr1 P q s (trN P q s d l4.toNat).2).1
            have e5 : l5 = b2i (tr1 P q s (trN P q s d l4.toNat).2).1 := d3
            refine ⟨by omega, _, rfl, fun c7 => ⟨by omega, ih (by omega) _ μ3 (by omega) (by omega) d2 ?_ ?_⟩, fun c7 => ⟨by omega, ih (by omega) _ μ3 (by omega) (by omega) d2 ?_ ?_⟩⟩
            · rw [hs]; show l3 = (trN P q s d l4.toNat).1 + b2i (tr1 P q s (trN P q s d l4.toNat).2).1; omega
            · rw [hs]; exact d4
            · rw [hs]; show l3 + 1 = (trN P q s d l4.toNat).1 + b2i (tr1 P q s (trN P q s d l4.toNat).2).1; omega
            · rw [hs]; exact d4
          · rw [hX3.2.2.2.2.1, bs_in32 d0 (by omega) (by omega), decide_eq_true (show l6 < 12 by omega), Bool.true_and]
            have skip : (q l6 && decide (rf P l6 ≤ s ∧ s ≤ rt P l6)) = false → K 121 E mWa_isSeenOnce 5 [some (jvR 74), some (jvR ((b : Nat) : Int)), some (jvI s), some (jvI l5), some (jvI (l6 + 1))] [] μ3 _ := fun hh => by
              rw [hh, if_neg (by decide)] at hs2
              exact ih6 (by omega) l5 μ3 (by omega) (by omega) d2 (by rw [hs2]; exact d3) (by rw [hs2]; exact d4)
            refine ⟨fun c7 => ⟨by omega, skip (by rw [b2i_b0 c7, Bool.false_and])⟩, fun c7 => sWa_looksAt hX3.c d0 (by omega) (fun r1 r2 => ⟨fun c => absurd c (by decide), fun _ => ?_⟩) (fun r1 => ⟨fun _ => ⟨by omega, skip (by rw [decide_eq_false (by omega), Bool.and_false])⟩, fun c => absurd rfl c⟩)⟩
            rw [b2i_b c7, decide_eq_true (show rf P l6 ≤ s ∧ s ≤ rt P l6 from ⟨r1, r2⟩), if_pos (by decide)] at hs2
            rw [dr_c, d4, up_ne hb16, (hX3.c.e16 d0 (by omega)).1]
            have hk := dr_ok (tsN P q s (trN P q s d l4.toNat).2 l6.toNat).2
            have hk1 := hk.1
            have hk2 := hk.2
            have e6 : ishr32 (dr (tsN P q s (trN P q s d l4.toNat).2 l6.toNat).2) 6 = dr (tsN P q s (trN P q s d l4.toNat).2 l6.toNat).2 / 64 := shr32 (k := 6) (by omega) (by omega)
            rw [e6, Int.tmod_eq_emod_of_nonneg (by omega)]
            refine ⟨by omega, fun c8 => ⟨by omega, ih6 (by omega) l5 _ (by omega) (by omega) (d2.put ⟨rfl, rfl⟩) ?_ ?_⟩, fun c8 => ⟨by omega, ih6 (by omega) 1 _ (by omega) (by omega) (d2.put ⟨rfl, rfl⟩) ?_ ?_⟩⟩
            · rw [hs2, decide_eq_false (by omega)]
              show l5 = b2i ((tsN P q s (trN P q s d l4.toNat).2 l6.toNat).1 || false)
              rw [Bool.or_false]; exact d3
            · rw [hs2, up_eq]
            · rw [hs2, decide_eq_true (by omega)]
              show (1 : Int) = b2i ((tsN P q s (trN P q s d l4.toNat).2 l6.toNat).1 || true)
              rw [Bool.or_true]; rfl
            · rw [hs2, up_eq]
        exact lp2 0 0 μ0 (by omega) (by omega) g2 rfl g4
    exact lp 0 0 μ (by omega) (by omega) Fr.rf rfl hd
  · rw [if_neg (by omega), if_neg (by omega)] at k; exact k μ Fr.rf hd
  · rw [if_neg (by omega), if_neg (by omega)] at k; exact k μ Fr.rf hd
end
