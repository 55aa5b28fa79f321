/-! the reference reads a term: names, cells, parts -/
def TRf (μ : jMu) (P : jP) : Prop := (μ 87 2 = nG P ∧ μ 87 3 = nH P ∧ μ 76 23 = nC P) ∧ (∀ g, 0 ≤ g → g < nG P → μ 88 (48 + g) = e27 (nk P 2 g) ∧ μ 89 g = ar P g) ∧ (∀ i, 0 ≤ i → i < nH P → μ 88 (72 + i) = e27 (nk P 3 i)) ∧ (∀ x, 0 ≤ x → x < nC P → μ 90 x = sy P x)
def Wr2 (i : Nat) (k : Int) : Prop := (i = 76 ∧ (k = 2 ∨ k = 4 ∨ k = 5 ∨ k = 6 ∨ k = 18 ∨ k = 23)) ∨ (i = 87 ∧ (k = 2 ∨ k = 3)) ∨ (i = 88 ∧ 48 ≤ k ∧ k < 96) ∨ (i = 89 ∧ 0 ≤ k ∧ k < 24) ∨ (i = 90 ∧ 0 ≤ k ∧ k < 400)
def Wr3 (i : Nat) (k : Int) : Prop := Wr2 i k ∨ (i = 76 ∧ k = 38) ∨ (99 ≤ i ∧ i ≤ 101)
theorem W76.r2 : ∀ i k, W76 i k → Wr2 i k := fun i k h => by unfold W76 at h; unfold Wr2; omega
theorem Wr2.r3 : ∀ i k, Wr2 i k → Wr3 i k := fun i k h => Or.inl h
def SKR (μ : jMu) (P : jP) (m : Nat) (c p q : Int → Int) : Prop := μ 76 38 = m ∧ ∀ i : Int, 0 ≤ i → i < m → μ 99 i = sy P (c i) ∧ μ 100 i = p i ∧ μ 101 i = q i - 1
section
variable {E : jE} {μ μ1 : jMu} {Q : Int → jMu → Prop} {Q0 : jMu → Prop} {n h e start : Int} {t : Int → Int} {P : jP}
theorem TRf.fr (hT : TRf μ P) (hf : Fr (fun i k => ¬ (87 ≤ i ∧ i ≤ 90) ∧ ¬ (i = 76 ∧ k = 23)) μ μ1) : TRf μ1 P := by
  obtain ⟨⟨a1, a2, a3⟩, c, d, f⟩ := hT
  refine ⟨⟨?_, ?_, ?_⟩, fun x x1 x2 => ?_, fun x x1 x2 => ?_, fun x x1 x2 => ?_⟩
  · rw [hf 87 2 (by omega)]; exact a1
  · rw [hf 87 3 (by omega)]; exact a2
  · rw [hf 76 23 (by omega)]; exact a3
  · rw [hf 88 _ (by omega), hf 89 _ (by omega)]; exact c x x1 x2
  · rw [hf 88 _ (by omega)]; exact d x x1 x2
  · rw [hf 90 _ (by omega)]; exact f x x1 x2
theorem TRf.tk (hT : TRf μ P) (hf : Fr W76 μ μ1) : TRf μ1 P := hT.fr (hf.mono (fun i k hh => by unfold W76 at hh; omega))
theorem SKR.fr {m : Nat} {c p q : Int → Int} (hS : SKR μ P m c p q) (hf : Fr (fun i k => ¬ (99 ≤ i ∧ i ≤ 101) ∧ ¬ (i = 76 ∧ k = 38)) μ μ1) : SKR μ1 P m c p q := ⟨by rw [hf 76 38 (by omega)]; exact hS.1, fun i a b => by rw [hf 99 i (by omega), hf 100 i (by omega), hf 101 i (by omega)]; exact hS.2 i a b⟩
theorem sM_nameOf {kd c : Int} (h0 : 0 ≤ kd ∧ kd ≤ 3) (hn : μ 87 kd = nN P kd) (h24 : nN P kd ≤ 24) (hk : ∀ i, 0 ≤ i → i < nN P kd → μ 88 (24 * kd + i) = e27 (nk P kd i)) (hok : ∀ i, 0 ≤ i → i < nN P kd → okN (nk P kd i)) (hc : okN c) (k : Q (fnd P kd c) μ) : Ci E mM_nameOf [jvR 76, jvI kd, jvL (e27 c)] μ Q := by
  refine vM_nameOf_0 ?_
  have lp : ∀ l4 : Int, 0 ≤ l4 → (∀ i, 0 ≤ i → i < l4 → i < nN P kd → nk P kd i ≠ c) → K 121 E mM_nameOf 3 [some (jvR 76), some (jvI kd), some (jvL (e27 c)), none, some (jvI l4)] [] μ (fun v μ1 => ∃ r, v = some (jvI r) ∧ Q r μ1) := by
    refine up_ind (nN P kd) _ ?_
    intro l4 ih g0 g2
    refine vM_nameOf_3 ?_
    rw [hn]
    refine ⟨by omega, fun c1 => ⟨_, rfl, ?_⟩, fun c1 => ⟨by omega, ?_⟩⟩
    · rw [show fnd P kd c = -1 from ff_none (fun i x y => beq_eq_false_iff_ne.mpr (g2 i x (by omega) y))] at k; exact k
    · rw [hk l4 g0 (by omega)]
      refine ⟨fun c2 => ⟨by omega, ih (by omega) (by omega) (fun i x y z => ?_)⟩, fun c2 => ⟨_, rfl, ?_⟩⟩
      · by_cases hi : i = l4
        · rw [hi]; exact fun hx => c2 (by rw [hx])
        · exact g2 i x (by omega) z
      · have e := e27_inj (hok l4 g0 (by omega)) hc c2
        rw [show fnd P kd c = l4 from ff_eq g0 (by omega) (beq_iff_eq.mpr e) (fun i x y => beq_eq_false_iff_ne.mpr (g2 i x y (by omega)))] at k; exact k
  exact lp 0 (by omega) (fun i x y => by omega)
theorem sM_nameOf_b {kd v : Int} (h0 : 0 ≤ kd ∧ kd ≤ 3) (hn : μ 87 kd ≤ 24) (k : ∀ r, Q r μ) : Ci E mM_nameOf [jvR 76, jvI kd, jvL v] μ Q := by
  refine vM_nameOf_0 ?_
  have lp : ∀ l4 : Int, 0 ≤ l4 → K 121 E mM_nameOf 3 [some (jvR 76), some (jvI kd), some (jvL v), none, some (jvI l4)] [] μ (fun v μ1 => ∃ r, v = some (jvI r) ∧ Q r μ1) := by
    refine up_ind 24 _ ?_
    intro l4 ih g0
    exact vM_nameOf_3 ⟨by omega, fun c1 => ⟨_, rfl, k _⟩, fun c1 => ⟨by omega, fun c2 => ⟨by omega, ih (by omega) (by omega)⟩, fun c2 => ⟨_, rfl, k _⟩⟩⟩
  exact lp 0 (by omega)
theorem TRf_addN (hT : TRf μ P) (hw : WB P) {kd c : Int} (hk : kd = 2 ∨ kd = 3) (hr : nN P kd ≠ rm kd) (hc : okN c) (h1 : ∀ i k, ¬ (i = 88 ∧ k = 24 * kd + nN P kd) → ¬ (i = 89 ∧ k = nG P) → ¬ (i = 87 ∧ k = kd) → μ1 i k = μ i k) (h2 : μ1 88 (24 * kd + nN P kd) = e27 c) (h3 : kd = 2 → μ1 89 (nG P) = -1) (h4 : μ1 87 kd = nN P kd + 1) : TRf μ1 (addN P kd c) := by
  obtain ⟨⟨a1, a2, a3⟩, ac, ad, af⟩ := hT
  have hn := hw.1
  unfold WFn at hn
  have ek : ∀ kd' i, nk (addN P kd c) kd' i = if 24 * kd' + i = 24 * kd + nN P kd then c else nk P kd' i := fun kd' i => addN_k
  have eC : nC (addN P kd c) = nC P := by show addN P kd c 0 6 = _; rw [addN_n, if_neg (by omega)]; rfl
  have e2 : nN P 2 = nG P := rfl
  have e3 : nN P 3 = nH P := rfl
  have r2 : rm 2 = 24 := by unfold rm; rw [if_pos rfl]
  rcases hk with rfl | rfl
  · have eG : nG (addN P 2 c) = nG P + 1 := by show addN P 2 c 0 2 = _; rw [addN_n, if_pos rfl]; rfl
    have eH : nH (addN P 2 c) = nH P := by show addN P 2 c 0 3 = _; rw [addN_n, if_neg (by decide)]; rfl
    refine ⟨⟨?_, ?_, ?_⟩, fun g x y => ?_, fun i x y => ?_, fun z x y => ?_⟩
    · rw [h4, eG, e2]
    · rw [h1 87 3 (by omega) (by omega) (by omega), a2, eH]
    · rw [h1 76 23 (by omega) (by omega) (by omega), a3, eC]
    · rw [ek]
      by_cases hg : g = nG P
      · rw [if_pos (by omega), hg, addN_a2]
        exact ⟨by rw [← h2, e2]; congr 1, h3 rfl⟩
      · rw [if_neg (by omega), addN_a hg, h1 88 _ (by omega) (by omega) (by omega), h1 89 _ (by omega) (by omega) (by omega)]
        exact ac g x (by omega)
    · rw [ek, if_neg (by omega), h1 88 _ (by omega) (by omega) (by omega)]; exact ad i x (by omega)
    · have es : sy (addN P 2 c) z = sy P z := addN_i (by decide) (by decide) (by decide)
      rw [es, h1 90 _ (by omega) (by omega) (by omega)]; exact af z x (by omega)
  · have eG : nG (addN P 3 c) = nG P := by show addN P 3 c 0 2 = _; rw [addN_n, if_neg (by decide)]; rfl
    have eH : nH (addN P 3 c) = nH P + 1 := by show addN P 3 c 0 3 = _; rw [addN_n, if_pos rfl]; rfl
    refine ⟨⟨?_, ?_, ?_⟩, fun g x y => ?_, fun i x y => ?_, fun z x y => ?_⟩
    · rw [h1 87 2 (by omega) (by omega) (by omega), a1, eG]
    · rw [h4, eH, e3]
    · rw [h1 76 23 (by omega) (by omega) (by omega), a3, eC]
    · have ea : ar (addN P 3 c) g = ar P g := addN_a (by omega)
      rw [ek, if_neg (by omega), ea, h1 88 _ (by omega) (by omega) (by omega), h1 89 _ (by omega) (by omega) (by omega)]
      exact ac g x (by omega)
    · rw [ek]
      by_cases hi : i = nH P
      · rw [if_pos (by omega), hi, ← h2, e3]; congr 1
      · rw [if_neg (by omega), h1 88 _ (by omega) (by omega) (by omega)]; exact ad i x (by omega)
    · have es : sy (addN P 3 c) z = sy P z := addN_i (by decide) (by decide) (by decide)
      rw [es, h1 90 _ (by omega) (by omega) (by omega)]; exact af z x (by omega)
theorem sM_known (hr : HR μ n t h e) (hwd : Wds μ) (hT : TRf μ P) (hw : WB P) {kd rmk : Int} (hk : kd = 2 ∨ kd = 3) (hrm : rmk = rm kd) (kf : ∀ f, aName n t h e = .error f → ∀ μ1, Fr Wr2 μ μ1 → Bd μ1 f → μ1 76 23 = nC P → Q 0 μ1) (k5 : ∀ c h' e', aName n t h e = .ok (c, h', e') → fnd P kd c = -1 ∧ nN P kd = rm kd → ∀ μ1, Fr Wr2 μ μ1 → Bd μ1 (5, h) → μ1 76 23 = nC P → Q 0 μ1) (kt : ∀ c h' e', aName n t h e = .ok (c, h', e') → ¬ (fnd P kd c = -1 ∧ nN P kd = rm kd) → ∀ μ1, Fr Wr2 μ μ1 → HR μ1 n t h' e' → TRf μ1 (knoP P kd c) → μ1 76 18 = h → Q (knoV P kd c) μ1) : Ci E mM_known [jvR 76, jvI kd, jvI rmk] μ Q := by
  subst hrm
  have hn := hw.1
  unfold WFn at hn
  refine vM_known_0 (sM_name hr hwd (fun f hf μ1 f1 b1 => ⟨fun c1 => absurd (b1.1.symm.trans c1) b1.2.2, fun _ => ⟨_, rfl, kf f hf μ1 (f1.mono W76.r2) b1 (by rw [f1 76 23 (by unfold W76; omega)]; exact hT.1.2.2)⟩⟩) (fun c h' e' hok μ1 f1 x1 p1 => ⟨fun _ => ?_, fun c1 => absurd x1.2.2.2.2 c1⟩))
  have hno := aName_ok hr.2.1 hok
  have T1 := hT.tk f1
  obtain ⟨⟨a1, a2, a3⟩, ac, ad, af⟩ := T1
  have e87 : μ1 87 kd = nN P kd := by
    rcases hk with rfl | rfl
    · exact a1
    · exact a2
  have hrm24 : rm kd ≤ 24 ∧ nN P kd ≤ rm kd ∧ 0 ≤ nN P kd := by
    unfold rm
    rcases hk with rfl | rfl
    · rw [if_pos rfl]
      have : nN P 2 = nG P := rfl
      omega
    · rw [if_neg (by decide)]
      have : nN P 3 = nH P := rfl
      omega
  have e88 : ∀ i, 0 ≤ i → i < nN P kd → μ1 88 (24 * kd + i) = e27 (nk P kd i) := by
    intro i x y
    rcases hk with rfl | rfl
    · exact (ac i x y).1
    · exact ad i x y
  refine sM_nameOf (P := P) (by omega) e87 (by omega) e88 (fun i x y => hw.2.1 kd i (by omega) (by omega) x y) hno.2.2.1 ?_
  rw [e87]
  refine ⟨fun c1 => ⟨by omega, fun c2 => ?_, fun c2 => ?_⟩, fun c1 => ⟨_, rfl, ?_⟩⟩
  · have kt1 := kt c h' e' hok (fun hx => c2 hx.2)
    unfold knoP knoV at kt1
    rw [if_pos c1, if_pos c1] at kt1
    refine ⟨by omega, fun c3 => ⟨by omega, _, rfl, ?_⟩, fun c3 => ⟨by omega, _, rfl, ?_⟩⟩
    · have hk3 : kd = 3 := by omega
      have f2 : Fr Wr2 μ1 (j_up (j_up μ1 88 (24 * kd + nN P kd) (e27 c)) 87 kd (nN P kd + 1)) := (Fr.up (Or.inr (Or.inr (Or.inl ⟨rfl, by omega⟩)))).put (Or.inr (Or.inl ⟨rfl, by omega⟩))
      refine kt1 _ ((f1.mono W76.r2).tr f2) (x1.fr (f2.mono (fun i k hh => by unfold Wr2 at hh; omega) |> fun _ => (Fr.up (by omega)).put (by omega))) ?_ ?_
      · refine TRf_addN ⟨⟨a1, a2, a3⟩, ac, ad, af⟩ hw hk c2 hno.2.2.1 (fun i k y1 y2 y3 => ?_) ?_ (fun hh => by omega) up_eq
        · rw [show j_up (j_up μ1 88 (24 * kd + nN P kd) (e27 c)) 87 kd (nN P kd + 1) i k = j_up μ1 88 (24 * kd + nN P kd) (e27 c) i k from by
            unfold j_up; rw [if_neg y3]]
          unfold j_up; rw [if_neg y1]
        · rw [up_ne (by decide), up_eq]
      · rw [up_ne (by decide), up_ne (by decide)]; exact p1
    · have hk2 : kd = 2 := c3
      have eG : nN P kd = nG P := by rw [hk2]; rfl
      have f2 : Fr Wr2 μ1 (j_up (j_up (j_up μ1 88 (24 * kd + nN P kd) (e27 c)) 89 (nN P kd) (-1)) 87 kd (nN P kd + 1)) := ((Fr.up (Or.inr (Or.inr (Or.inl ⟨rfl, by omega⟩)))).put (Or.inr (Or.inr (Or.inr (Or.inl ⟨rfl, by omega⟩))))).put (Or.inr (Or.inl ⟨rfl, by omega⟩))
      refine kt1 _ ((f1.mono W76.r2).tr f2) (x1.fr (((Fr.up (by omega)).put (by omega)).put (by omega))) ?_ ?_
      · refine TRf_addN ⟨⟨a1, a2, a3⟩, ac, ad, af⟩ hw hk c2 hno.2.2.1 (fun i k y1 y2 y3 => ?_) ?_ (fun hh => ?_) up_eq
        · rw [← eG] at y2
          unfold j_up; rw [if_neg y3, if_neg y2, if_neg y1]
        · rw [up_ne (by decide), up_ne (by decide), up_eq]
        · rw [up_ne (by decide), ← eG, up_eq]
      · rw [up_ne (by decide), up_ne (by decide), up_ne (by decide)]; exact p1
  · rw [p1]
    exact sM_fail x1.2.2.2.2 (by decide) (fun μ2 f2 b2 => ⟨_, rfl, k5 c h' e' hok ⟨c1, c2⟩ μ2 ((f1.mono W76.r2).tr (f2.mono (fun i k hh => Or.inl ⟨hh.1, by omega⟩))) b2 (by rw [f2 76 23 (by omega)]; exact a3)⟩)
  · have kt1 := kt c h' e' hok (fun hx => c1 hx.1)
    unfold knoP knoV at kt1
    rw [if_neg c1, if_neg c1] at kt1
    exact kt1 μ1 (f1.mono W76.r2) x1 ⟨⟨a1, a2, a3⟩, ac, ad, af⟩ p1
theorem sM_lays (hr : HR μ n t h e) (hT : TRf μ P) (hC : 0 ≤ nC P ∧ nC P ≤ 400) {w a1 : Int} (h0 : 0 ≤ a1 ∧ a1 ≤ nC P ∧ nC P - a1 ≤ 24) (k5 : (24 ≤ nC P - a1 ∨ 400 ≤ nC P) → ∀ μ1, Fr Wr2 μ μ1 → Bd μ1 (5, μ 76 18) → μ1 76 23 = nC P → Q0 μ1) (kt : ¬ (24 ≤ nC P - a1 ∨ 400 ≤ nC P) → ∀ μ1, Fr Wr2 μ μ1 → HR μ1 n t h e → TRf μ1 (addC P w) → μ1 76 18 = μ 76 18 → Q0 μ1) : Cv E mM_lays [jvR 76, jvI w, jvI a1] μ Q0 := by
  have h5 := hr.2.2.2.2
  have e23 := hT.1.2.2
  have bad : (24 ≤ nC P - a1 ∨ 400 ≤ nC P) → Cv E mM_fail [jvR 76, jvI 5, jvI (μ 76 18)] μ (fun μ9 => (((μ9 76 5) = 0 → ((0 ≤ (μ9 76 23) ∧ (μ9 76 23) < 800) ∧ -2147483648 ≤ ((μ9 76 23) + 1) ∧ ((μ9 76 23) + 1) < 2147483648) ∧ (none = (none : Option AV) ∧ Q0 (j_up (j_up μ9 90 (μ9 76 23) w) 76 23 ((μ9 76 23) + 1)))) ∧ (¬ ((μ9 76 5) = 0) → (none = (none : Option AV) ∧ Q0 μ9)))) := fun hx => sM_fail h5 (by decide) (fun μ2 f2 b2 => ⟨fun c => absurd (b2.1.symm.trans c) b2.2.2, fun _ => ⟨rfl, k5 hx μ2 (f2.mono (fun i k hh => Or.inl ⟨hh.1, by omega⟩)) b2 (by rw [f2 76 23 (by omega)]; exact e23)⟩⟩)
  refine vM_lays_0 ⟨fun c => absurd h5 c, fun _ => ?_⟩
  rw [e23]
  refine ⟨by omega, fun c1 => bad (Or.inl (by omega)), fun c1 => ⟨fun c2 => ⟨fun _ => ⟨by omega, rfl, ?_⟩, fun c => absurd h5 c⟩, fun c2 => bad (Or.inr (by omega))⟩⟩
  have f2 : Fr Wr2 μ (j_up (j_up μ 90 (nC P) w) 76 23 (nC P + 1)) := (Fr.up (Or.inr (Or.inr (Or.inr (Or.inr ⟨rfl, by omega⟩))))).put (Or.inl ⟨rfl, by omega⟩)
  obtain ⟨⟨a1, a2, a3⟩, ac, ad, af⟩ := hT
  have eC := addC_C (P := P) (w := w)
  have eG : nG (addC P w) = nG P := addC_n (by decide)
  have eH : nH (addC P w) = nH P := addC_n (by decide)
  refine kt (by omega) _ f2 (hr.fr ((Fr.up (by omega)).put (by omega))) ⟨⟨?_, ?_, ?_⟩, fun g x y => ?_, fun i x y => ?_, fun z x y => ?_⟩ ?_
  · rw [up_ne (by decide), up_ne (by decide), a1, eG]
  · rw [up_ne (by decide), up_ne (by decide), a2, eH]
  · rw [up_eq, eC]
  · rw [up_ne (by decide), up_ne (by decide), up_ne (by decide), up_ne (by decide)]
    have e1 : nk (addC P w) 2 g = nk P 2 g := addC_o (by decide) (by decide) (by decide)
    have e2 : ar (addC P w) g = ar P g := addC_o (by decide) (by decide) (by decide)
    rw [e1, e2]; exact ac g x (by omega)
  · rw [up_ne (by decide), up_ne (by decide)]
    have e1 : nk (addC P w) 3 i = nk P 3 i := addC_o (by decide) (by decide) (by decide)
    rw [e1]; exact ad i x (by omega)
  · rw [up_ne (by decide), up_if, addC_s]
    by_cases hz : z = nC P
    · rw [if_pos hz, if_pos hz]
    · rw [if_neg hz, if_neg hz]; exact af z x (by omega)
  · rw [up_nk (by decide), up_ne (by decide)]
theorem sM_lays_b (hb : μ 76 5 ≠ 0) {w a1 : Int} (k : Q0 μ) : Cv E mM_lays [jvR 76, jvI w, jvI a1] μ Q0 := vM_lays_0 ⟨fun _ => ⟨fun c => absurd c hb, fun _ => ⟨rfl, k⟩⟩, fun c => absurd c hb⟩
theorem sM_ends (hr : HR μ n t h e) (hT : TRf μ P) {a q g pl : Int} (hg : g = sy P a) (h2 : 0 ≤ sy P a ∧ sy P a < nG P) (hG : nG P ≤ 24) (k3 : endO P a q = false → ∀ μ1, Fr Wr2 μ μ1 → Bd μ1 (3, pl) → μ1 76 23 = nC P → Q0 μ1) (kt : endO P a q = true → ∀ μ1, Fr Wr2 μ μ1 → HR μ1 n t h e → TRf μ1 (endP P a q) → Q0 μ1) : Cv E mM_ends [jvR 76, jvI g, jvI q, jvI pl] μ Q0 := by
  have h5 := hr.2.2.2.2
  subst hg
  obtain ⟨⟨a1, a2, a3⟩, ac, ad, af⟩ := hT
  have eC : nC (endP P a q) = nC P := endP_n (by decide) (by decide)
  have eG : nG (endP P a q) = nG P := endP_n (by decide) (by decide)
  have eH : nH (endP P a q) = nH P := endP_n (by decide) (by decide)
  have ek : ∀ kd i, nk (endP P a q) kd i = nk P kd i := fun kd i => endP_n (by decide) (by decide)
  have es : ∀ x, sy (endP P a q) x = sy P x := fun x => endP_n (by decide) (by decide)
  refine vM_ends_0 ⟨fun _ => ⟨by omega, ?_⟩, fun c => absurd h5 c⟩
  rw [(ac _ h2.1 h2.2).2]
  refine ⟨fun c1 => ⟨by omega, fun c2 => ⟨rfl, ?_⟩, fun c2 => ?_⟩, fun c1 => ⟨by omega, rfl, ?_⟩⟩
  · refine kt (decide_eq_true (Or.inr c2)) μ Fr.rf hr ⟨⟨by rw [a1, eG], by rw [a2, eH], by rw [a3, eC]⟩, fun g x y => ?_, fun i x y => ?_, fun z x y => ?_⟩
    · rw [ek, endP_a, if_neg (fun hh => c1 hh.2)]; exact ac g x (by omega)
    · rw [ek]; exact ad i x (by omega)
    · rw [es]; exact af z x (by omega)
  · exact sM_fail h5 (by decide) (fun μ2 f2 b2 => ⟨rfl, k3 (decide_eq_false (by omega)) μ2 (f2.mono (fun i k hh => Or.inl ⟨hh.1, by omega⟩)) b2 (by rw [f2 76 23 (by omega)]; exact a3)⟩)
  · refine kt (decide_eq_true (Or.inl c1)) _ (Fr.up (Or.inr (Or.inr (Or.inr (Or.inl ⟨rfl, by omega⟩))))) (hr.fr (Fr.up (by omega))) ⟨⟨?_, ?_, ?_⟩, fun g x y => ?_, fun i x y => ?_, fun z x y => ?_⟩
    · rw [up_ne (by decide), a1, eG]
    · rw [up_ne (by decide), a2, eH]
    · rw [up_ne (by decide), a3, eC]
    · rw [up_ne (by decide), up_if, ek, endP_a]
      refine ⟨(ac g x (by omega)).1, ?_⟩
      by_cases hg : g = sy P a
      · rw [if_pos hg, if_pos ⟨hg, c1⟩]
      · rw [if_neg hg, if_neg (fun hh => hg hh.1)]; exact (ac g x (by omega)).2
    · rw [up_ne (by decide), ek]; exact ad i x (by omega)
    · rw [up_ne (by decide), es]; exact af z x (by omega)
end
