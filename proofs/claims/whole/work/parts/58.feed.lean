/-! feed, end, letters, images of the class -/
def sb (t : Int) : Int := if t < 128 then t else t - 256
theorem and255 (y : Int) : iand32 y 255 = y % 256 := by
  unfold iand32 j_b32
  have key : ((Int32.ofInt y) &&& (Int32.ofInt 255)).toBitVec.toNat = (y % 256).toNat := by
    rw [Int32.toBitVec_and, BitVec.toNat_and]
    have e1 : (Int32.ofInt y).toBitVec.toNat = (y % 4294967296).toNat := by
      rw [show (Int32.ofInt y).toBitVec = BitVec.ofInt 32 y from rfl, BitVec.toNat_ofInt]
      rfl
    rw [e1, show (Int32.ofInt 255).toBitVec.toNat = 2 ^ 8 - 1 from rfl, Nat.and_two_pow_sub_one_eq_mod]
    omega
  have := t32_nat key (by omega)
  rw [this]
  omega
theorem and31b (y : Int) : iand32 y 31 = y % 32 := by
  unfold iand32 j_b32
  have key : ((Int32.ofInt y) &&& (Int32.ofInt 31)).toBitVec.toNat = (y % 32).toNat := by
    rw [Int32.toBitVec_and, BitVec.toNat_and]
    have e1 : (Int32.ofInt y).toBitVec.toNat = (y % 4294967296).toNat := by
      rw [show (Int32.ofInt y).toBitVec = BitVec.ofInt 32 y from rfl, BitVec.toNat_ofInt]
      rfl
    rw [e1, show (Int32.ofInt 31).toBitVec.toNat = 2 ^ 5 - 1 from rfl, Nat.and_two_pow_sub_one_eq_mod]
    omega
  have := t32_nat key (by omega)
  rw [this]
  omega
theorem i2b_eq (y : Int) : i2b32 y = sb (y % 256) := by
  unfold i2b32
  rw [Int32.toInt8_ofInt, Int8.toInt_toInt32, Int8.toInt_ofInt, show (Int8.size : Nat) = 256 from rfl, Int.bmod_def]
  unfold sb
  split <;> split <;> omega
theorem sb_m (t : Int) (h : 0 ≤ t ∧ t ≤ 255) : sb t % 256 = t := by
  unfold sb
  split <;> omega
theorem i2b2 (y : Int) : i2b32 (i2b32 y) = sb (y % 256) := by
  rw [i2b_eq, i2b_eq, sb_m _ (by omega)]
def wd5 (a b c d e j : Int) : Int := if j < 4 then a else if j < 8 then b else if j < 12 then c else if j < 16 then d else e
def fb (a b c d e j : Int) : Int := wd5 a b c d e j / ((2 ^ (8 * (3 - j % 4)).toNat : Nat) : Int) % 256
def r32 (x : Int) : Prop := -2147483648 ≤ x ∧ x < 2147483648
def Wfe (c : Int) (i : Nat) (k : Int) : Prop := (i = 77 ∧ c ≤ k) ∨ (i = 76 ∧ k = 1)
def Wfx (c : Int) (i : Nat) (k : Int) : Prop := (i = 2 ∧ c ≤ k) ∨ (i = 1 ∧ k = 1)
section
variable {E : jE} {μ μ1 : jMu} {P : jP} {w q : Int → Bool} {Q : Int → jMu → Prop} {Q0 : jMu → Prop} {b : Nat}
theorem sM_feed {a0 a1 a2 a3 a4 c : Int} (ha0 : r32 a0) (ha1 : r32 a1) (ha2 : r32 a2) (ha3 : r32 a3) (ha4 : r32 a4) (hc : μ 76 1 = c) (h0 : 0 ≤ c) (h1 : c ≤ 1600) (kf : 1580 < c → Q (-1) μ) (kt : ∀ μ1, c ≤ 1580 → Fr (Wfe c) μ μ1 → μ1 76 1 = c + 20 → (∀ j, 0 ≤ j → j < 20 → μ1 77 (c + j) = fb a0 a1 a2 a3 a4 j) → Q (c + 20) μ1) : Ci E mM_feed [jvR 76, jvI a0, jvI a1, jvI a2, jvI a3, jvI a4] μ Q := by
  refine vM_feed_0 ?_
  rw [hc]
  refine ⟨by omega, fun c1 => ?_, fun c1 => ⟨_, rfl, kf (by omega)⟩⟩
  have lp : ∀ (l6 : Int) (μ0 : jMu), 0 ≤ l6 → l6 ≤ 20 → Fr (Wfe c) μ μ0 → μ0 76 1 = c + l6 → (∀ j, 0 ≤ j → j < l6 → μ0 77 (c + j) = fb a0 a1 a2 a3 a4 j) → K 121 E mM_feed 18 [some (jvR 76), some (jvI a0), some (jvI a1), some (jvI a2), some (jvI a3), some (jvI a4), some (jvI l6), none] [] μ0 (fun v μ1 => ∃ r, v = some (jvI r) ∧ Q r μ1) := by
    refine up_ind 20 _ ?_
    intro l6 ih μ0 g0 g1 g2 g3 g4
    have step : ¬ 20 ≤ l6 → ∀ s0, r32 s0 → s0 = wd5 a0 a1 a2 a3 a4 l6 → K 121 E mM_feed 71 [some (jvR 76), some (jvI a0), some (jvI a1), some (jvI a2), some (jvI a3), some (jvI a4), some (jvI l6), none] [jvI s0] μ0 (fun v μ1 => ∃ r, v = some (jvI r) ∧ Q r μ1) := by
      intro hl s0 hs e0
      have em : Int.tmod l6 4 = l6 % 4 := Int.tmod_eq_emod_of_nonneg g0
      refine vM_feed_71 ?_
      rw [em, g3]
      refine ⟨⟨by omega, by omega, by omega, by omega, by omega⟩, ?_⟩
      have es : ishr32 s0 (8 * (3 - l6 % 4)) = s0 / ((2 ^ (8 * (3 - l6 % 4)).toNat : Nat) : Int) := by
        have := shr32 (x := s0) (k := (8 * (3 - l6 % 4)).toNat) hs (by omega)
        rw [show (((8 * (3 - l6 % 4)).toNat : Nat) : Int) = 8 * (3 - l6 % 4) by omega] at this
        exact this
      rw [es, and255]
      refine ih (by omega) _ (by omega) (by omega) ((g2.put (Or.inl ⟨rfl, by omega⟩)).put (Or.inr ⟨rfl, rfl⟩)) ?_ (fun j j0 j1 => ?_)
      · rw [up_eq]; omega
      · rw [up_ne (by decide), up_if]
        by_cases hj : j = l6
        · rw [hj, if_pos rfl, e0]; rfl
        · rw [if_neg (by omega)]; exact g4 j j0 (by omega)
    refine vM_feed_18 ⟨fun c2 => ⟨_, rfl, ?_⟩, fun c2 => ⟨fun c3 => ⟨fun c4 => ⟨fun c5 => ⟨fun c6 => step c2 a4 ha4 ?_, fun c6 => step c2 a3 ha3 ?_⟩, fun c5 => step c2 a2 ha2 ?_⟩, fun c4 => step c2 a1 ha1 ?_⟩, fun c3 => step c2 a0 ha0 ?_⟩⟩
    · rw [g3, show l6 = 20 by omega]
      rw [show l6 = 20 by omega] at g3 g4
      exact kt μ0 (by omega) g2 g3 g4
    · unfold wd5; rw [if_neg (by omega), if_neg (by omega), if_neg (by omega), if_neg (by omega)]
    · unfold wd5; rw [if_neg (by omega), if_neg (by omega), if_neg (by omega), if_pos (by omega)]
    · unfold wd5; rw [if_neg (by omega), if_neg (by omega), if_pos (by omega)]
    · unfold wd5; rw [if_neg (by omega), if_pos (by omega)]
    · unfold wd5; rw [if_pos (by omega)]
  exact lp 0 μ (by omega) (by omega) Fr.rf (by omega) (fun j a b => by omega)
theorem sTa_add {a c : Int} (ha : r32 a) (hc : μ 1 1 = c) (h0 : 0 ≤ c) (h1 : c ≤ 1596) (k : ∀ μ1, Fr (Wfx c) μ μ1 → μ1 1 1 = c + 4 → (∀ j, 0 ≤ j → j < 4 → μ1 2 (c + j) = sb (a / ((2 ^ (8 * (3 - j)).toNat : Nat) : Int) % 256)) → Q0 μ1) : Cv E mTa_add [jvR 1, jvI a] μ Q0 := by
  refine vTa_add_0 ?_
  have lp : ∀ (i l2 : Int) (μ0 : jMu), 0 ≤ i → i ≤ 4 → l2 = 24 - 8 * i → Fr (Wfx c) μ μ0 → μ0 1 1 = c + i → (∀ j, 0 ≤ j → j < i → μ0 2 (c + j) = sb (a / ((2 ^ (8 * (3 - j)).toNat : Nat) : Int) % 256)) → K 121 E mTa_add 3 [some (jvR 1), some (jvI a), some (jvI l2)] [] μ0 (fun v μ1 => v = none ∧ Q0 μ1) := by
    refine up_ind 4 _ ?_
    intro i ih l2 μ0 g0 g1 g5 g2 g3 g4
    refine vTa_add_3 ?_
    rw [g3]
    refine ⟨fun c1 => ⟨rfl, ?_⟩, fun c1 => ⟨fun c2 => by omega, fun c2 => ⟨by omega, ?_⟩⟩⟩
    · rw [show i = 4 by omega] at g3 g4
      exact k μ0 g2 g3 g4
    · have es : ishr32 a l2 = a / ((2 ^ (8 * (3 - i)).toNat : Nat) : Int) := by
        have := shr32 (x := a) (k := (8 * (3 - i)).toNat) ha (by omega)
        rw [show (((8 * (3 - i)).toNat : Nat) : Int) = l2 by omega] at this
        exact this
      rw [es, i2b2]
      refine ih (by omega) _ _ (by omega) (by omega) (by omega) ((g2.put (Or.inl ⟨rfl, by omega⟩)).put (Or.inr ⟨rfl, rfl⟩)) ?_ (fun j j0 j1 => ?_)
      · rw [up_eq]; omega
      · rw [up_ne (by decide), up_if]
        by_cases hj : j = i
        · rw [hj, if_pos rfl]
        · rw [if_neg (by omega)]; exact g4 j j0 (by omega)
  exact lp 0 24 μ (by omega) (by omega) (by omega) Fr.rf (by omega) (fun j a b => by omega)
theorem sX_feed {a0 a1 a2 a3 a4 c : Int} (ha0 : r32 a0) (ha1 : r32 a1) (ha2 : r32 a2) (ha3 : r32 a3) (ha4 : r32 a4) (hc : μ 1 1 = c) (h0 : 0 ≤ c) (h1 : c ≤ 1600) (kf : 1580 < c → Q (-1) μ) (kt : ∀ μ1, c ≤ 1580 → Fr (Wfx c) μ μ1 → μ1 1 1 = c + 20 → (∀ j, 0 ≤ j → j < 20 → μ1 2 (c + j) = sb (fb a0 a1 a2 a3 a4 j)) → Q (c + 20) μ1) : Ci E mX_feed [jvR 0, jvI a0, jvI a1, jvI a2, jvI a3, jvI a4] μ Q := by
  refine vX_feed_0 (vTa_hasRoom_0 ?_)
  rw [hc]
  refine ⟨by omega, fun c1 => ⟨_, rfl, fun c => absurd rfl c, fun _ => ⟨_, rfl, kf (by omega)⟩⟩, fun c1 => ⟨_, rfl, fun _ => ?_, fun c => absurd c (by decide)⟩⟩
  refine sTa_add ha0 hc h0 (by omega) (fun μ1 f1 z1 y1 => sTa_add ha1 z1 (by omega) (by omega) (fun μ2 f2 z2 y2 => sTa_add ha2 z2 (by omega) (by omega) (fun μ3 f3 z3 y3 => sTa_add ha3 z3 (by omega) (by omega) (fun μ4 f4 z4 y4 => sTa_add ha4 z4 (by omega) (by omega) (fun μ5 f5 z5 y5 => ⟨_, rfl, ?_⟩)))))
  rw [z5, show c + 4 + 4 + 4 + 4 + 4 = c + 20 by omega]
  refine kt μ5 (by omega) (((((f1.tr (f2.mono ?_)).tr (f3.mono ?_)).tr (f4.mono ?_)).tr (f5.mono ?_))) (by omega) (fun j j0 j1 => ?_)
  · intro i k hh; unfold Wfx at *; omega
  · intro i k hh; unfold Wfx at *; omega
  · intro i k hh; unfold Wfx at *; omega
  · intro i k hh; unfold Wfx at *; omega
  · have r5 : ∀ x, x < c + 4 + 4 + 4 + 4 → μ5 2 x = μ4 2 x := fun x hx => f5 2 x (by unfold Wfx; omega)
    have r4 : ∀ x, x < c + 4 + 4 + 4 → μ4 2 x = μ3 2 x := fun x hx => f4 2 x (by unfold Wfx; omega)
    have r3 : ∀ x, x < c + 4 + 4 → μ3 2 x = μ2 2 x := fun x hx => f3 2 x (by unfold Wfx; omega)
    have r2 : ∀ x, x < c + 4 → μ2 2 x = μ1 2 x := fun x hx => f2 2 x (by unfold Wfx; omega)
    unfold fb wd5
    by_cases h4 : j < 4
    · rw [if_pos h4, r5 _ (by omega), r4 _ (by omega), r3 _ (by omega), r2 _ (by omega), y1 j j0 h4, show j % 4 = j by omega]
    · by_cases h8 : j < 8
      · have := y2 (j - 4) (by omega) (by omega)
        rw [show c + 4 + (j - 4) = c + j by omega] at this
        rw [if_neg h4, if_pos h8, r5 _ (by omega), r4 _ (by omega), r3 _ (by omega), this, show j % 4 = j - 4 by omega]
      · by_cases h12 : j < 12
        · have := y3 (j - 8) (by omega) (by omega)
          rw [show c + 4 + 4 + (j - 8) = c + j by omega] at this
          rw [if_neg h4, if_neg h8, if_pos h12, r5 _ (by omega), r4 _ (by omega), this, show j % 4 = j - 8 by omega]
        · by_cases h16 : j < 16
          · have := y4 (j - 12) (by omega) (by omega)
            rw [show c + 4 + 4 + 4 + (j - 12) = c + j by omega] at this
            rw [if_neg h4, if_neg h8, if_neg h12, if_pos h16, r5 _ (by omega), this, show j % 4 = j - 12 by omega]
          · have := y5 (j - 16) (by omega) (by omega)
            rw [show c + 4 + 4 + 4 + 4 + (j - 16) = c + j by omega] at this
            rw [if_neg h4, if_neg h8, if_neg h12, if_neg h16, this, show j % 4 = j - 16 by omega]
theorem sM_end {a : Int} (kt : 0 ≤ a → a ≤ μ 76 1 → Q 1 (j_up μ 76 1 a)) (kf : ¬ (0 ≤ a ∧ a ≤ μ 76 1) → Q 0 μ) : Ci E mM_end [jvR 76, jvI a] μ Q := vM_end_0 ⟨fun c => ⟨_, rfl, kf (by omega)⟩, fun c => ⟨fun c2 => ⟨_, rfl, kt (by omega) c2⟩, fun c2 => ⟨_, rfl, kf (by omega)⟩⟩⟩
theorem sX_end {a : Int} (kt : 0 ≤ a → a ≤ μ 1 1 → Q 1 (j_up μ 1 1 a)) (kf : ¬ (0 ≤ a ∧ a ≤ μ 1 1) → Q 0 μ) : Ci E mX_end [jvR 0, jvI a] μ Q := vX_end_0 ⟨fun c => ⟨_, rfl, kf (by omega)⟩, fun c => ⟨fun c2 => ⟨_, rfl, kt (by omega) c2⟩, fun c2 => ⟨_, rfl, kf (by omega)⟩⟩⟩
/-- letters -/
def ev (c : Int) : Nat → Int
  | 0 => 0
  | j + 1 => 27 * ev c j + ltr c j
def ee (c : Int) : Nat → Int
  | 0 => 0
  | j + 1 => e27s c (ee c j) j
theorem ee_ev {c n : Int} (h : ∀ k, 0 ≤ k → k < n → 1 ≤ ltr c k ∧ ltr c k ≤ 26) (h2 : ∀ k, n ≤ k → k < 6 → ltr c k = 0) (hn : 0 ≤ n) (hn6 : n ≤ 6) : e27 c = ev c n.toNat := by
  have key : ∀ j : Nat, j ≤ 6 → ee c j = ev c (if (j : Int) ≤ n then j else n.toNat) := by
    intro j
    induction j with
    | zero => intro _; rw [if_pos (by omega)]; rfl
    | succ j ih =>
      intro hj
      show e27s c (ee c j) j = _
      rw [ih (by omega)]
      unfold e27s
      by_cases hjn : (j : Int) < n
      · have := h j (by omega) hjn
        rw [if_neg (show ¬ ltr c (j : Int) = 0 by omega), if_pos (show (j : Int) ≤ n by omega), if_pos (show ((j + 1 : Nat) : Int) ≤ n by omega)]
        rfl
      · rw [h2 j (by omega) (by omega), if_pos rfl]
        by_cases e : (j : Int) = n
        · rw [if_pos (by omega), if_neg (by omega), show n.toNat = j by omega]
        · rw [if_neg (by omega), if_neg (by omega)]
  have := key 6 (by omega)
  rw [show e27 c = ee c 6 from rfl, this]
  congr 1
  split <;> omega
theorem ev_r {c n : Int} (h : ∀ k, 0 ≤ k → k < n → 1 ≤ ltr c k ∧ ltr c k ≤ 26) : ∀ j : Nat, (j : Int) ≤ n → j ≤ 6 → 0 ≤ ev c j ∧ ev c j < 27 ^ j ∧ (0 < j → 0 < ev c j)
  | 0, _, _ => ⟨Int.le_refl 0, by show (0 : Int) < 27 ^ 0; decide, fun hh => by omega⟩
  | j + 1, hj, h6 => by
    have ih := ev_r h j (by omega) (by omega)
    have hl := h j (by omega) (by omega)
    show 0 ≤ 27 * ev c j + ltr c j ∧ 27 * ev c j + ltr c j < 27 ^ (j + 1) ∧ (0 < j + 1 → 0 < 27 * ev c j + ltr c j)
    rw [Int.pow_succ]
    refine ⟨by omega, by omega, fun _ => by omega⟩
def vLetter (P : jP) (kd i k : Int) : Int := if (0 ≤ kd ∧ kd ≤ 3) ∧ (0 ≤ i ∧ i < nN P kd) ∧ (0 ≤ k ∧ k < 6) then ltr (nk P kd i) k else -1
theorem nN_r (h : WF P) {kd : Int} (h0 : 0 ≤ kd) (h1 : kd ≤ 3) : 0 ≤ nN P kd ∧ nN P kd ≤ 24 := by
  have hn := h.n
  unfold nN
  have : kd = 0 ∨ kd = 1 ∨ kd = 2 ∨ kd = 3 := by omega
  unfold nR nD nG nH at hn
  rcases this with rfl | rfl | rfl | rfl <;> omega
theorem sM_letter (h : RR μ P) {kd i kk : Int} (k : Q (vLetter P kd i kk) μ) : Ci E mM_letter [jvR 76, jvI kd, jvI i, jvI kk] μ Q := by
  have hn := h.n
  unfold vLetter at k
  have e87 : ∀ kd : Int, 0 ≤ kd → kd ≤ 3 → μ 87 (5 + kd) = nN P kd := by
    intro kd h0 h1
    have : kd = 0 ∨ kd = 1 ∨ kd = 2 ∨ kd = 3 := by omega
    have e0 := h.e0
    rcases this with rfl | rfl | rfl | rfl
    · exact e0.1
    · exact e0.2.1
    · exact e0.2.2.1
    · exact e0.2.2.2.1
  refine vM_letter_0 (sM_isIn (fun a1 a2 => ⟨fun c => absurd c (by decide), fun _ => ?_⟩) (fun a1 => ⟨fun _ => ⟨_, rfl, by rw [if_neg (by omega)] at k; exact k⟩, fun c => absurd rfl c⟩))
  have hN := nN_r h.1 a1 a2
  rw [e87 kd a1 a2]
  refine ⟨by omega, sM_isIn (fun b1 b2 => ⟨fun c => absurd c (by decide), fun _ => sM_isIn (fun c1 c2 => ⟨fun _ => ⟨by omega, ?_⟩, fun c => absurd c (by decide)⟩) (fun c1 => ⟨fun c => absurd rfl c, fun _ => ⟨_, rfl, by rw [if_neg (by omega)] at k; exact k⟩⟩)⟩) (fun b1 => ⟨fun _ => ⟨_, rfl, by rw [if_neg (by omega)] at k; exact k⟩, fun c => absurd rfl c⟩)⟩
  rw [if_pos (by omega)] at k
  rw [h.e88 a1 a2 b1 (by omega)]
  obtain ⟨_, n, n1, n2, l1, l2⟩ := h.1.k kd i a1 a2 b1 (by omega)
  rw [ee_ev l1 l2 (by omega) n2]
  have hev := ev_r l1
  have p27 : ∀ j : Nat, j ≤ 6 → (27 : Int) ^ j ≤ 387420489 := by decide
  have ediv : ∀ j : Nat, (j : Int) < n → Int.tdiv (ev (nk P kd i) (j + 1)) 27 = ev (nk P kd i) j ∧ Int.tmod (ev (nk P kd i) (j + 1)) 27 = ltr (nk P kd i) j := by
    intro j hj
    have r1 := hev (j + 1) (by omega) (by omega)
    have hl := l1 j (by omega) hj
    have e : ev (nk P kd i) (j + 1) = 27 * ev (nk P kd i) j + ltr (nk P kd i) j := rfl
    rw [Int.tdiv_eq_ediv_of_nonneg r1.1, Int.tmod_eq_emod_of_nonneg r1.1, e]
    omega
  have lp2 : ∀ l7 l4 : Int, kk ≤ l7 → l7 < n → l4 = ev (nk P kd i) (l7 + 1).toNat → K 121 E mM_letter 104 [some (jvR 76), some (jvI kd), some (jvI i), some (jvI kk), some (jvL l4), none, some (jvI n), some (jvI l7), none] [] μ (fun v μ1 => ∃ r, v = some (jvI r) ∧ Q r μ1) := by
    refine down_ind _ ?_
    intro l7 ih l4 g0 g1 g3
    have hd := ediv l7.toNat (by omega)
    rw [show l7.toNat + 1 = (l7 + 1).toNat by omega, ← g3, show ((l7.toNat : Nat) : Int) = l7 by omega] at hd
    have hl := l1 l7 (by omega) g1
    have hr := hev l7.toNat (by omega) (by omega)
    have hp := p27 l7.toNat (by omega)
    refine vM_letter_104 ?_
    rw [hd.1, hd.2]
    refine ⟨fun c => ⟨by omega, _, rfl, ?_⟩, fun c => ⟨by omega, ih (by omega) _ (by omega) (by omega) ?_⟩⟩
    · rw [show l7 = kk by omega]; exact k
    · rw [show (l7 - 1 + 1).toNat = l7.toNat by omega]
  have lp1 : ∀ l6 l7 : Int, 0 ≤ l6 → l6 ≤ n → l7 = ev (nk P kd i) (n - l6).toNat → K 121 E mM_letter 69 [some (jvR 76), some (jvI kd), some (jvI i), some (jvI kk), some (jvL (ev (nk P kd i) n.toNat)), none, some (jvI l6), some (jvL l7), none] [] μ (fun v μ1 => ∃ r, v = some (jvI r) ∧ Q r μ1) := by
    refine up_ind n _ ?_
    intro l6 ih l7 g0 g1 g3
    have hr := hev (n - l6).toNat (by omega) (by omega)
    rw [← g3] at hr
    refine vM_letter_69 ⟨fun c => ?_, fun c => ?_⟩
    · have e6 : l6 = n := by
        refine Classical.byContradiction (fun hno => ?_)
        have := hr.2.2 (by omega)
        omega
      subst e6
      refine ⟨fun c2 => ⟨by omega, lp2 (l6 - 1) _ (by omega) (by omega) (by rw [show (l6 - 1 + 1).toNat = l6.toNat by omega])⟩, fun c2 => ⟨_, rfl, ?_⟩⟩
      rw [l2 kk (by omega) (by omega)] at k; exact k
    · have hne : l6 ≠ n := by
        intro hh
        rw [hh, show (n - n).toNat = 0 by omega] at g3
        have : ev (nk P kd i) 0 = 0 := rfl
        omega
      have hd := ediv (n - l6 - 1).toNat (by omega)
      rw [show (n - l6 - 1).toNat + 1 = (n - l6).toNat by omega, ← g3] at hd
      have hr2 := hev (n - l6 - 1).toNat (by omega) (by omega)
      have hp := p27 (n - l6 - 1).toNat (by omega)
      rw [hd.1]
      exact ⟨by omega, ih (by omega) _ (by omega) (by omega) (by rw [show (n - (l6 + 1)).toNat = (n - l6 - 1).toNat by omega])⟩
  exact lp1 0 _ (by omega) (by omega) (by rw [show (n - 0).toNat = n.toNat by omega])
theorem sX_letterOf {c kk : Int} (hc : 0 ≤ c ∧ c < 1073741824) (h0 : 0 ≤ kk) (h1 : kk < 6) (k : Q (ltr c kk) μ) : Ci E mX_letterOf [jvI c, jvI kk] μ Q := by
  refine vX_letterOf_0 ⟨by omega, _, rfl, ?_⟩
  have e := shr32 (x := c) (k := (5 * (5 - kk)).toNat) (by omega) (by omega)
  rw [show (((5 * (5 - kk)).toNat : Nat) : Int) = 5 * (5 - kk) by omega] at e
  rw [e, and31b]
  unfold ltr at k
  rw [show (2 : Nat) ^ (5 * (5 - kk)).toNat = 32 ^ (5 - kk).toNat by rw [show (5 * (5 - kk)).toNat = 5 * (5 - kk).toNat by omega, Nat.pow_mul]]
  exact k
theorem sX_letter (h : XS b μ P w q) {kd i kk : Int} (k : Q (vLetter P kd i kk) μ) : Ci E mX_letter [jvR 0, jvI kd, jvI i, jvI kk] μ Q := by
  have hn := h.n
  unfold vLetter at k
  have hk := h.wf.k
  have e8 := h.c.e8
  have e0 := h.c.e0
  refine vX_letter_0 h.ib ⟨fun c => ⟨_, rfl, by rw [if_neg (by omega)] at k; exact k⟩, fun c => ⟨fun c2 => ⟨_, rfl, by rw [if_neg (by omega)] at k; exact k⟩, fun c2 => ⟨fun c3 => ?_, fun c3 => ⟨_, rfl, by rw [if_neg (by omega)] at k; exact k⟩⟩⟩⟩
  rw [e0.1, e0.2.2.1, e0.2.2.2.2.1, e0.2.2.2.2.2.1]
  refine ⟨fun d => ⟨h.2.1, fun c4 => ⟨_, rfl, ?_⟩, fun c4 => ⟨⟨h.2.1, by omega⟩, ?_⟩⟩, fun d => ⟨h.2.1, fun c4 => ⟨_, rfl, ?_⟩, fun c4 => ⟨⟨h.2.1, by omega⟩, ?_⟩⟩, fun d => ⟨h.2.1, fun c4 => ⟨_, rfl, ?_⟩, fun c4 => ⟨⟨h.2.1, by omega⟩, ?_⟩⟩, fun d => ⟨h.2.1, fun c4 => ⟨_, rfl, ?_⟩, fun c4 => ⟨⟨h.2.1, by omega⟩, ?_⟩⟩, fun d => ⟨_, rfl, by rw [if_neg (by omega)] at k; exact k⟩⟩
  · subst d; rw [if_neg (by show ¬ (_ ∧ (_ ∧ i < nR P) ∧ _); omega)] at k; exact k
  · subst d
    have hi : i < nN P 0 := by show i < nR P; omega
    rw [if_pos (by omega)] at k
    rw [e8.1 i c3 (by omega)]
    exact sX_letterOf (hk 0 i (by omega) (by omega) c3 hi).1 (by omega) (by omega) ⟨_, rfl, k⟩
  · subst d; rw [if_neg (by show ¬ (_ ∧ (_ ∧ i < nD P) ∧ _); omega)] at k; exact k
  · subst d
    have hi : i < nN P 1 := by show i < nD P; omega
    rw [if_pos (by omega)] at k
    rw [e8.2.1 i c3 (by omega)]
    exact sX_letterOf (hk 1 i (by omega) (by omega) c3 hi).1 (by omega) (by omega) ⟨_, rfl, k⟩
  · subst d; rw [if_neg (by show ¬ (_ ∧ (_ ∧ i < nG P) ∧ _); omega)] at k; exact k
  · subst d
    have hi : i < nN P 2 := by show i < nG P; omega
    rw [if_pos (by omega)] at k
    rw [e8.2.2.1 i c3 (by omega)]
    exact sX_letterOf (hk 2 i (by omega) (by omega) c3 hi).1 (by omega) (by omega) ⟨_, rfl, k⟩
  · subst d; rw [if_neg (by show ¬ (_ ∧ (_ ∧ i < nH P) ∧ _); omega)] at k; exact k
  · subst d
    have hi : i < nN P 3 := by show i < nH P; omega
    rw [if_pos (by omega)] at k
    rw [e8.2.2.2 i c3 (by omega)]
    exact sX_letterOf (hk 3 i (by omega) (by omega) c3 hi).1 (by omega) (by omega) ⟨_, rfl, k⟩
end
