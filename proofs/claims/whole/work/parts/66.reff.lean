/-! the reference reads words, marks, names, numbers -/
def W76 (i : Nat) (k : Int) : Prop := i = 76 ∧ (k = 2 ∨ k = 4 ∨ k = 5 ∨ k = 6 ∨ k = 18)
def TE (μ : jMu) (n : Int) (t : Int → Int) : Prop := μ 76 3 = n ∧ (0 ≤ n ∧ n ≤ 1600 ∧ μ 76 6 = -1) ∧ ∀ k, 0 ≤ k → k < n → (0 ≤ t k ∧ t k ≤ 255) ∧ μ 77 k = t k
def HR (μ : jMu) (n : Int) (t : Int → Int) (h e : Int) : Prop := TE μ n t ∧ Hd n t h e ∧ ((0 ≤ μ 76 2 ∧ μ 76 2 ≤ n) ∧ sk n t (μ 76 2) = h) ∧ μ 76 4 = e ∧ μ 76 5 = 0
def Bd (μ : jMu) (f : jF) : Prop := μ 76 5 = f.1 ∧ μ 76 6 = f.2 ∧ f.1 ≠ 0
def okW (c len : Int) : Prop := (0 ≤ c ∧ c < 1073741824) ∧ (1 ≤ len ∧ len ≤ 6) ∧ (∀ k, 0 ≤ k → k < len → 1 ≤ ltr c k ∧ ltr c k ≤ 26) ∧ (∀ k, len ≤ k → k < 6 → ltr c k = 0)
theorem okW_mk {c len : Int} (h : (0 ≤ c ∧ c < 1073741824) ∧ (1 ≤ len ∧ len ≤ 6)) (h2 : ∀ k : Fin 6, ((k.val : Int) < len → 1 ≤ ltr c k.val ∧ ltr c k.val ≤ 26) ∧ (len ≤ (k.val : Int) → ltr c k.val = 0)) : okW c len := by
  refine ⟨h.1, h.2, fun k a b => ?_, fun k a b => ?_⟩
  · have := (h2 ⟨k.toNat, by omega⟩).1
    rw [show (((⟨k.toNat, by omega⟩ : Fin 6).val : Nat) : Int) = k by show ((k.toNat : Nat) : Int) = k; omega] at this
    exact this b
  · have := (h2 ⟨k.toNat, by omega⟩).2
    rw [show (((⟨k.toNat, by omega⟩ : Fin 6).val : Nat) : Int) = k by show ((k.toNat : Nat) : Int) = k; omega] at this
    exact this a
theorem okW_rule : okW 626398208 4 := okW_mk (by decide) (by decide)
theorem okW_gives : okW 245044832 5 := okW_mk (by decide) (by decide)
theorem okW_step : okW 658685952 4 := okW_mk (by decide) (by decide)
theorem okW_by : okW 93323264 2 := okW_mk (by decide) (by decide)
theorem okW_goal : okW 250654720 4 := okW_mk (by decide) (by decide)
theorem okW_reader : okW 609259698 6 := okW_mk (by decide) (by decide)
theorem okW_odds : okW 507661312 4 := okW_mk (by decide) (by decide)
theorem okW_from : okW 220705792 4 := okW_mk (by decide) (by decide)
theorem okW_to : okW 686817280 2 := okW_mk (by decide) (by decide)
/-- the reference's words -/
def Wo (μ : jMu) (wd : Nat) (wn : Nat) (c : Int) : Prop := okW c wn ∧ ∀ k : Int, 0 ≤ k → k < wn → μ wd k = ltr c k + 96
def Wds (μ : jMu) : Prop := Wo μ 78 4 626398208 ∧ Wo μ 79 5 245044832 ∧ Wo μ 80 4 658685952 ∧ Wo μ 81 2 93323264 ∧ Wo μ 82 4 250654720 ∧ Wo μ 83 6 609259698 ∧ Wo μ 84 4 507661312 ∧ Wo μ 85 4 220705792 ∧ Wo μ 86 2 686817280
theorem Wo.fr {μ μ1 : jMu} {wd wn : Nat} {c : Int} (h : Wo μ wd wn c) (hf : ∀ k, μ1 wd k = μ wd k) : Wo μ1 wd wn c := ⟨h.1, fun k a b => by rw [hf]; exact h.2 k a b⟩
theorem Wds.fr {μ μ1 : jMu} (h : Wds μ) (hf : Fr (fun i _ => ¬ (78 ≤ i ∧ i ≤ 86)) μ μ1) : Wds μ1 := by
  have g : ∀ (i : Nat) k, 78 ≤ i → i ≤ 86 → μ1 i k = μ i k := fun i k a b => hf i k (by omega)
  obtain ⟨a, b, c, d, e, f, h1, h2, h3⟩ := h
  exact ⟨a.fr (fun k => g 78 k (by omega) (by omega)), b.fr (fun k => g 79 k (by omega) (by omega)), c.fr (fun k => g 80 k (by omega) (by omega)), d.fr (fun k => g 81 k (by omega) (by omega)), e.fr (fun k => g 82 k (by omega) (by omega)), f.fr (fun k => g 83 k (by omega) (by omega)), h1.fr (fun k => g 84 k (by omega) (by omega)), h2.fr (fun k => g 85 k (by omega) (by omega)), h3.fr (fun k => g 86 k (by omega) (by omega))⟩
theorem word_iff {n : Int} {t : Int → Int} {h c len : Int} (hn : h < n) (hl : isL (t h) = true) (hc : okW c len) : (wl n t h - h ≤ 6 ∧ wc n t h = c) ↔ (wl n t h - h = len ∧ ∀ k, 0 ≤ k → k < len → t (h + k) = ltr c k + 96) := by
  obtain ⟨r1, r2, r3⟩ := wl_r hn hl
  obtain ⟨c1, c2, c3, c4⟩ := hc
  constructor
  · rintro ⟨h6, he⟩
    obtain ⟨_, _, w3, w4⟩ := wc_ok hn hl h6
    rw [he] at w3 w4
    have hlen : wl n t h - h = len := by
      rcases Int.lt_trichotomy (wl n t h - h) len with hh | hh | hh
      · have a1 := w4 (wl n t h - h) (by omega) (by omega)
        have a2 := c3 (wl n t h - h) (by omega) hh
        omega
      · exact hh
      · have a1 := w3 len (by omega) hh
        have a2 := c4 len (by omega) (by omega)
        have a3 := of_decide_eq_true (r3 (h + len) (by omega) (by omega))
        omega
    refine ⟨hlen, fun k a b => ?_⟩
    have := w3 k a (by omega)
    omega
  · rintro ⟨hlen, hk⟩
    have h6 : wl n t h - h ≤ 6 := by omega
    obtain ⟨w1, _, w3, w4⟩ := wc_ok hn hl h6
    refine ⟨h6, ?_⟩
    have key : ∀ k, 0 ≤ k → k < 6 → ltr (wc n t h) k = ltr c k := by
      intro k a b
      by_cases hh : k < len
      · rw [w3 k a (by omega), hk k a hh]; omega
      · rw [w4 k (by omega) b, c4 k (by omega) b]
    rw [ltr_six w1.1, ltr_six c1, key 0 (by omega) (by omega), key 1 (by omega) (by omega), key 2 (by omega) (by omega), key 3 (by omega) (by omega), key 4 (by omega) (by omega), key 5 (by omega) (by omega)]
theorem v27_lt {x : Int → Int} : ∀ m : Nat, (∀ k : Int, 0 ≤ k → k < m → 1 ≤ x k ∧ x k ≤ 26) → v27 x m < ((27 ^ m : Nat) : Int)
  | 0, _ => by show (0 : Int) < 1; omega
  | m + 1, h => by
    have ih := v27_lt m (fun k a b => h k a (by omega))
    have h1 := h m (by omega) (by omega)
    have e : ((27 ^ (m + 1) : Nat) : Int) = 27 * ((27 ^ m : Nat) : Int) := by rw [Nat.pow_succ]; omega
    show 27 * v27 x m + x m < _
    omega
section
variable {E : jE} {μ μ1 : jMu} {Q : Int → jMu → Prop} {Q0 : jMu → Prop} {n h e : Int} {t : Int → Int}
theorem TE.fr (h : TE μ n t) (hf : Fr (fun i k => i ≠ 77 ∧ ¬ (i = 76 ∧ (k = 3 ∨ k = 6))) μ μ1) : TE μ1 n t := ⟨by rw [hf 76 3 (by omega)]; exact h.1, ⟨h.2.1.1, h.2.1.2.1, by rw [hf 76 6 (by omega)]; exact h.2.1.2.2⟩, fun k a b => by rw [hf 77 k (by omega)]; exact h.2.2 k a b⟩
theorem HR.fr (hr : HR μ n t h e) (hf : Fr (fun i k => i ≠ 77 ∧ ¬ (i = 76 ∧ 2 ≤ k ∧ k ≤ 6)) μ μ1) : HR μ1 n t h e := by
  obtain ⟨a, b, c, d, f⟩ := hr
  have h2 : μ1 76 2 = μ 76 2 := hf 76 2 (by omega)
  refine ⟨a.fr (hf.mono (fun i k hh => by omega)), b, ?_, ?_, ?_⟩
  · rw [h2]; exact c
  · rw [hf 76 4 (by omega)]; exact d
  · rw [hf 76 5 (by omega)]; exact f
theorem sM_fail {a p : Int} (h5 : μ 76 5 = 0) (ha : a ≠ 0) (k : ∀ μ1, Fr (fun i k => i = 76 ∧ (k = 5 ∨ k = 6)) μ μ1 → Bd μ1 (a, p) → Q0 μ1) : Cv E mM_fail [jvR 76, jvI a, jvI p] μ Q0 := by
  refine vM_fail_0 ⟨fun _ => ⟨rfl, k _ ((Fr.up ⟨rfl, Or.inl rfl⟩).put ⟨rfl, Or.inr rfl⟩) ⟨?_, up_eq, ha⟩⟩, fun c => absurd h5 c⟩
  rw [up_nk (by decide), up_eq]
theorem sM_isLetter {c : Int} (k : Q (b2i (isL c)) μ) : Ci E mM_isLetter [jvI c] μ Q := by
  refine vM_isLetter_0 ⟨fun c1 => ⟨_, rfl, ?_⟩, fun c1 => ⟨fun c2 => ⟨_, rfl, ?_⟩, fun c2 => ⟨_, rfl, ?_⟩⟩⟩
  · rw [show isL c = false from decide_eq_false (by omega)] at k; exact k
  · rw [show isL c = false from decide_eq_false (by omega)] at k; exact k
  · rw [show isL c = true from decide_eq_true (by omega)] at k; exact k
theorem sM_isDigit {c : Int} (k : Q (b2i (isDg c)) μ) : Ci E mM_isDigit [jvI c] μ Q := by
  refine vM_isDigit_0 ⟨fun c1 => ⟨_, rfl, ?_⟩, fun c1 => ⟨fun c2 => ⟨_, rfl, ?_⟩, fun c2 => ⟨_, rfl, ?_⟩⟩⟩
  · rw [show isDg c = false from decide_eq_false (by omega)] at k; exact k
  · rw [show isDg c = false from decide_eq_false (by omega)] at k; exact k
  · rw [show isDg c = true from decide_eq_true (by omega)] at k; exact k
theorem sM_look (hr : HR μ n t h e) (k : ∀ μ1, Fr (fun i k => i = 76 ∧ k = 2) μ μ1 → HR μ1 n t h e → μ1 76 2 = h → Q (if h < n then t h else -1) μ1) : Ci E mM_look [jvR 76] μ Q := by
  have lp : ∀ (a : Int) (μ0 : jMu), μ0 76 2 = a → Fr (fun i k => i = 76 ∧ k = 2) μ μ0 → HR μ0 n t h e → K 121 E mM_look 0 [some (jvR 76)] [] μ0 (fun v μ1 => ∃ r, v = some (jvI r) ∧ Q r μ1) := by
    refine up_ind n _ ?_
    intro a ih μ0 g0 g1 g2
    obtain ⟨hT, hH, ⟨hr1, hr2⟩, h4, h5⟩ := g2
    have hn := hT.2.1
    rw [g0] at hr1 hr2
    have done : a = h → (h < n → 0 ≤ 0) → Q (if h < n then t h else -1) μ0 := fun ha _ => k μ0 g1 ⟨hT, hH, ⟨by rw [g0]; exact hr1, by rw [g0]; exact hr2⟩, h4, h5⟩ (by rw [g0]; exact ha)
    refine vM_look_0 ?_
    rw [g0, hT.1]
    refine ⟨fun c => ⟨fun _ => ⟨_, rfl, ?_⟩, fun c2 => absurd c c2⟩, fun c => ⟨by omega, ?_⟩⟩
    · have ha : a = h := by rw [← hr2]; exact (rnn_end c).symm
      have := done ha (fun _ => by omega)
      rw [if_neg (by omega)] at this; exact this
    · have hb := hT.2.2 a (by omega) (by omega)
      rw [hb.2]
      have step : isBl (t a) = true → K 121 E mM_look 0 [some (jvR 76)] [] (j_up μ0 76 2 (a + 1)) (fun v μ1 => ∃ r, v = some (jvI r) ∧ Q r μ1) := by
        intro hh
        have f1 : Fr (fun i k => i = 76 ∧ k = 2) μ0 (j_up μ0 76 2 (a + 1)) := Fr.up ⟨rfl, rfl⟩
        refine ih (by omega) _ up_eq (g1.tr f1) ⟨hT.fr (f1.mono (fun i k hh => by omega)), hH, ⟨?_, ?_⟩, ?_, ?_⟩
        · rw [up_eq]; omega
        · rw [up_eq, ← hr2]; exact (rnn_yes (p := fun k => isBl (t k)) (by omega) hh).symm
        · rw [up_nk (by decide)]; exact h4
        · rw [up_nk (by decide)]; exact h5
      refine ⟨fun c2 => ⟨by omega, step (decide_eq_true (Or.inr c2))⟩, fun c2 => ⟨by omega, fun c3 => ⟨fun c4 => by omega, fun c4 => ⟨by omega, _, rfl, ?_⟩⟩, fun c3 => ⟨by omega, step (decide_eq_true (Or.inl c3))⟩⟩⟩
      have hno : isBl (t a) = false := decide_eq_false (by omega)
      have ha : a = h := by rw [← hr2]; exact (rnn_no (p := fun k => isBl (t k)) hno).symm
      have := done ha (fun _ => by omega)
      rw [if_pos (by omega), ← ha] at this; exact this
  exact lp (μ 76 2) μ rfl Fr.rf hr
theorem Fr2.w {i : Nat} {k : Int} (h : i = 76 ∧ k = 2) : W76 i k := ⟨h.1, Or.inl h.2⟩
theorem isL_m1 : isL (-1) = false := by decide
theorem isDg_m1 : isDg (-1) = false := by decide
theorem sM_isHere (hr : HR μ n t h e) {wd wn : Nat} {c : Int} (hwd : jCt[wd]? = some (.inl (.char, wn))) (hwn : wd < 121) (hn76 : wd ≠ 76) (hw : Wo μ wd wn c) (k : ∀ μ1, Fr (fun i k => i = 76 ∧ k = 2) μ μ1 → HR μ1 n t h e → μ1 76 2 = h → Q (b2i (isW n t h e c)) μ1) : Ci E mM_isHere [jvR 76, jvR ((wd : Nat) : Int)] μ Q := by
  have hwl : wn < 2147483648 := by have := hw.1.2.1; omega
  have hT0 := hr.1.2.1
  refine vM_isHere_0 hwd hwn hwl ⟨fun c1 => absurd hr.2.2.2.2 c1, fun _ => sM_look hr (fun μ1 f1 h1 p1 => sM_isLetter ?_)⟩
  have k1 := k μ1 f1 h1 p1
  unfold isW at k1
  have hH := hr.2.1.1
  refine ⟨fun c1 => ⟨_, rfl, ?_⟩, fun c1 => ?_⟩
  · have e1 : (decide (h < n) && isL (t h)) = false := by
      by_cases hh : h < n
      · rw [if_pos hh] at c1; rw [b2i_b0 c1, Bool.and_false]
      · rw [decide_eq_false hh, Bool.false_and]
    rw [e1, Bool.false_and, Bool.false_and, Bool.false_and] at k1; exact k1
  · have hh : h < n := by
      refine Classical.byContradiction (fun hno => ?_)
      rw [if_neg hno] at c1; exact c1 rfl
    rw [if_pos hh] at c1
    have hL := b2i_b c1
    obtain ⟨r1, r2, r3⟩ := wl_r hh hL
    rw [p1, h1.2.2.2.1]
    rw [decide_eq_true hh, hL, Bool.true_and, Bool.true_and] at k1
    refine ⟨fun c2 => ?_, fun c2 => ⟨_, rfl, by rw [decide_eq_false (fun hx => hx c2.symm), Bool.false_and, Bool.false_and] at k1; exact k1⟩⟩
    rw [decide_eq_true (show e ≠ h from fun hx => c2 hx.symm), Bool.true_and] at k1
    have wi := word_iff (n := n) (t := t) (h := h) (c := c) (len := wn) hh hL hw.1
    have hw1 : ∀ k : Int, 0 ≤ k → k < wn → μ1 wd k = ltr c k + 96 := fun k a b => by rw [f1 wd k (by omega)]; exact hw.2 k a b
    have k2 : Q (b2i (decide (wl n t h - h ≤ 6 ∧ wc n t h = c))) μ1 := by
      rw [Bool.decide_and]; exact k1
    have lp2 : ∀ (l2 l3 : Int), wl n t h - h = wn → 0 ≤ l3 → l3 ≤ wn → (∀ k, 0 ≤ k → k < l3 → t (h + k) = ltr c k + 96) → K 121 E mM_isHere 76 [some (jvR 76), some (jvR ((wd : Nat) : Int)), some (jvI l2), some (jvI l3)] [] μ1 (fun v μ1 => ∃ r, v = some (jvI r) ∧ Q r μ1) := by
      intro l2
      refine up_ind (wn : Int) _ ?_
      intro l3 ih g0 g1 g2 g3
      refine vM_isHere_76 hwd hwn hwl ?_
      rw [p1]
      refine ⟨fun c3 => ⟨_, rfl, ?_⟩, fun c3 => ⟨by omega, ?_⟩⟩
      · rw [decide_eq_true (wi.mpr ⟨g0, fun k a b => g3 k a (by omega)⟩)] at k2; exact k2
      · rw [(h1.1.2.2 (h + l3) (by omega) (by omega)).2, hw1 l3 g1 (by omega)]
        refine ⟨fun c4 => ⟨by omega, ih (by omega) g0 (by omega) (by omega) (fun k a b => ?_)⟩, fun c4 => ⟨_, rfl, ?_⟩⟩
        · by_cases hk : k = l3
          · rw [hk]; exact c4
          · exact g3 k a (by omega)
        · rw [decide_eq_false (fun hx => c4 ((wi.mp hx).2 l3 g1 (by omega)))] at k2; exact k2
    have lp1 : ∀ (l2 : Int), h ≤ l2 → l2 ≤ wl n t h → K 121 E mM_isHere 35 [some (jvR 76), some (jvR ((wd : Nat) : Int)), some (jvI l2), none] [] μ1 (fun v μ1 => ∃ r, v = some (jvI r) ∧ Q r μ1) := by
      refine fun l2 => up_ind (wl n t h) (fun l2 => h ≤ l2 → l2 ≤ wl n t h → K 121 E mM_isHere 35 [some (jvR 76), some (jvR ((wd : Nat) : Int)), some (jvI l2), none] [] μ1 (fun v μ1 => ∃ r, v = some (jvI r) ∧ Q r μ1)) ?_ l2
      intro l2 ih g0 g1
      have stop : l2 = wl n t h → (((l2 - h) = (wn : Int) → (K 121 E mM_isHere 76 [some (jvR 76), some (jvR ((wd : Nat) : Int)), some (jvI l2), some (jvI 0)] [] μ1 (fun v μ1 => ∃ r, v = some (jvI r) ∧ Q r μ1))) ∧ (¬ ((l2 - h) = (wn : Int)) → ∃ r, some (jvI 0) = some (jvI r) ∧ Q r μ1)) := by
        intro hs
        refine ⟨fun c3 => lp2 l2 0 (by omega) (by omega) (by omega) (fun k a b => by omega), fun c3 => ⟨_, rfl, ?_⟩⟩
        rw [decide_eq_false (fun hx => c3 (by have := (wi.mp hx).1; omega))] at k2; exact k2
      refine vM_isHere_35 hwd hwn hwl ?_
      rw [h1.1.1, p1]
      refine ⟨fun c3 => ⟨by omega, stop (by omega)⟩, fun c3 => ⟨by omega, ?_⟩⟩
      rw [(h1.1.2.2 l2 (by omega) (by omega)).2]
      refine sM_isLetter ?_
      rw [p1]
      refine ⟨fun c4 => ⟨by omega, stop ?_⟩, fun c4 => ⟨by omega, ih ?_ (by omega) ?_⟩⟩
      · refine Classical.byContradiction (fun hno => ?_)
        have := r3 l2 g0 (by omega)
        rw [this] at c4; cases c4
      · refine Classical.byContradiction (fun hno => ?_)
        have e2 : l2 = wl n t h := by omega
        have := rnn_stop (p := fun k => isL (t k)) (n := n) (a := h) (by omega) (show wl n t h < n by omega)
        have this : isL (t (wl n t h)) = false := this
        rw [e2, this] at c4; exact c4 rfl
      · have : l2 ≠ wl n t h := by
          intro e2
          have := rnn_stop (p := fun k => isL (t k)) (n := n) (a := h) (by omega) (show wl n t h < n by omega)
          have this : isL (t (wl n t h)) = false := this
          rw [e2, this] at c4; exact c4 rfl
        omega
    exact lp1 h (by omega) (by omega)
end
