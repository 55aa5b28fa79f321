/-! statements: how they are read; what holds then -/
def aNew (n : Int) (t : Int → Int) (h e : Int) (P : jP) : Except jF (Int × Int × Int) :=
  match aName n t h e with
  | .error f => .error f
  | .ok (c, h1, e1) => if fnd P 0 c ≠ -1 ∨ fnd P 1 c ≠ -1 then .error (3, h) else .ok (c, h1, e1)
def aPrem (n : Int) (t : Int → Int) : Nat → Int → Int → Int → jP → Except jF (Int × Int × Int × jP)
  | 0, j, h, e, P => .ok (j, h, e, P)
  | f + 1, j, h, e, P => match aT n t h e P with
    | .error g => .error g
    | .ok (h1, e1, P1) => if j + 1 < 3 ∧ isM n t h1 44 = true then aPrem n t f (j + 1) (sk n t (h1 + 1)) e1 (j_up P1 7 (4 * nR P + j) (nC P)) else .ok (j + 1, h1, e1, j_up P1 7 (4 * nR P + j) (nC P))
def adR (P : jP) (c k s : Int) : jP := j_up (j_up (j_up (j_up P 7 (4 * nR P + 3) s) 1 (nR P) k) 11 (nR P) c) 0 0 (nR P + 1)
def aPre (n : Int) (t : Int → Int) (h e : Int) (P : jP) : Except jF (Int × Int × Int × jP) := if isW n t h e 245044832 = true then .ok (0, h, e, P) else aPrem n t 3 0 h e P
def aRul2 (n : Int) (t : Int → Int) (c k h e : Int) (P : jP) : Except jF (Int × Int × jP) :=
  match aWord n t h e 245044832 with
  | .error f => .error f
  | .ok (h3, e3) => match aT n t h3 e3 P with
    | .error f => .error f
    | .ok (h4, e4, P4) => .ok (h4, e4, adR P4 c k (nC P))
def aRule (n : Int) (t : Int → Int) (h e : Int) (P : jP) : Except jF (Int × Int × jP) :=
  match aNew n t h e P with
  | .error f => .error f
  | .ok (c, h1, e1) => match aPre n t h1 e1 P with
    | .error f => .error f
    | .ok (k, h2, e2, P2) => aRul2 n t c k h2 e2 P2
def aNms (n : Int) (t : Int → Int) : Nat → Int → Int → Int → jP → Except jF (Int × Int × jP)
  | 0, _, h, e, P => .ok (h, e, P)
  | f + 1, j, h, e, P => match aNum n t h e 0 (nS P - 1) with
    | .error g => .error g
    | .ok (v, h1, e1) => aNms n t f (j + 1) h1 e1 (j_up P 3 (3 * nS P + j) v)
def adS (P : jP) (s r : Int) : jP := j_up (j_up (j_up P 7 (48 + nS P) s) 2 (nS P) r) 0 4 (nS P + 1)
def aStp2 (n : Int) (t : Int → Int) (s h e : Int) (P : jP) : Except jF (Int × Int × jP) :=
  match aWord n t h e 93323264 with
  | .error f => .error f
  | .ok (h2, e2) => match aName n t h2 e2 with
    | .error f => .error f
    | .ok (c, h3, e3) => if fnd P 0 c = -1 then .error (3, h2) else match aNms n t (pr P (fnd P 0 c)).toNat 0 h3 e3 P with
      | .error f => .error f
      | .ok (h4, e4, P4) => .ok (h4, e4, adS P4 s (fnd P 0 c))
def aStep (n : Int) (t : Int → Int) (h e : Int) (P : jP) : Except jF (Int × Int × jP) :=
  match aT n t h e P with
  | .error f => .error f
  | .ok (h1, e1, P1) => aStp2 n t (nC P) h1 e1 P1
def aGoal (n : Int) (t : Int → Int) (h e : Int) (P : jP) : Except jF (Int × Int × jP) :=
  match aNum n t h e 0 (nS P - 1) with
  | .error f => .error f
  | .ok (v, h1, e1) => .ok (h1, e1, j_up P 0 5 v)
def adD (P : jP) (c v a b : Int) : jP := j_up (j_up (j_up (j_up (j_up P 8 (nD P) v) 9 (nD P) a) 10 (nD P) b) 11 (24 + nD P) c) 0 1 (nD P + 1)
def aRea3 (n : Int) (t : Int → Int) (c v a h e : Int) (P : jP) : Except jF (Int × Int × jP) :=
  match aWord n t h e 686817280 with
  | .error f => .error f
  | .ok (h1, e1) => match aNum n t h1 e1 a (nS P - 1) with
    | .error f => .error f
    | .ok (b, h2, e2) => .ok (h2, e2, adD P c v a b)
def aRea2 (n : Int) (t : Int → Int) (c v h e : Int) (P : jP) : Except jF (Int × Int × jP) :=
  match aWord n t h e 220705792 with
  | .error f => .error f
  | .ok (h1, e1) => match aNum n t h1 e1 0 (nS P - 1) with
    | .error f => .error f
    | .ok (a, h2, e2) => aRea3 n t c v a h2 e2 P
def aRea1 (n : Int) (t : Int → Int) (c h e : Int) (P : jP) : Except jF (Int × Int × jP) :=
  match aWord n t h e 507661312 with
  | .error f => .error f
  | .ok (h1, e1) => match aNum n t h1 e1 0 100 with
    | .error f => .error f
    | .ok (v, h2, e2) => aRea2 n t c v h2 e2 P
def aReader (n : Int) (t : Int → Int) (h e : Int) (P : jP) : Except jF (Int × Int × jP) :=
  match aNew n t h e P with
  | .error f => .error f
  | .ok (c, h1, e1) => aRea1 n t c h1 e1 P
def aStat0 (n : Int) (t : Int → Int) (h e : Int) (P : jP) : Except jF (Int × Int × jP) :=
  if isW n t h e 626398208 = true then (if 12 ≤ nR P then .error (5, h) else aRule n t (sk n t (wl n t h)) (wl n t h) P)
  else if isW n t h e 658685952 = true then (if 40 ≤ nS P then .error (5, h) else aStep n t (sk n t (wl n t h)) (wl n t h) P)
  else if isW n t h e 250654720 = true then aGoal n t (sk n t (wl n t h)) (wl n t h) P
  else if isW n t h e 609259698 = true then (if 6 ≤ nD P then .error (5, h) else aReader n t (sk n t (wl n t h)) (wl n t h) P)
  else .error (1, h)
def aStat (n : Int) (t : Int → Int) (h e : Int) (P : jP) : Except jF (Int × Int × jP) :=
  match aStat0 n t h e P with
  | .error f => .error f
  | .ok (h1, e1, P1) => match aMark n t h1 e1 59 with
    | .error f => .error f
    | .ok (h2, e2) => .ok (h2, e2, P1)
def aAll (n : Int) (t : Int → Int) : Nat → Int → Int → Int → jP → Except jF (Int × jP)
  | 0, k, h, _, P => if n ≤ h then .ok (k, P) else .error (5, h)
  | f + 1, k, h, e, P => if n ≤ h then .ok (k, P) else match aStat n t h e P with
    | .error g => .error g
    | .ok (h1, e1, P1) => aAll n t f (k + 1) h1 e1 P1
def P00 : jP := fun i k => if i = 0 ∧ k = 5 then -1 else 0
def aPar (n : Int) (t : Int → Int) : Except jF (Int × jP) := aAll n t 80 0 (sk n t 0) (-1) P00
def goalP (P : jP) : jP := j_up P 0 5 (if gl P = -1 then nS P - 1 else gl P)
/-- a proof in the making -/
def WP (P : jP) : Prop := WB P ∧ AllC P ∧ WFr P ∧ WFs P ∧ WFm P ∧ WFt P ∧ WFd P ∧ (-1 ≤ gl P ∧ gl P < nS P ∨ (gl P = -1))
theorem inW_gt {P P' : jP} {w : Int} (hg : GT P P') : inW P' w → inW P w := by
  have e0 : nR P' = nR P := hg.2.1 0 (by decide) (by decide) (by decide)
  have e4 : nS P' = nS P := hg.2.1 4 (by decide) (by decide) (by decide)
  rintro (h | ⟨r, k, h0, h1, h2, h3, h4⟩)
  · exact Or.inl (by omega)
  · have ep : pr P' r = pr P r := hg.1 1 r (by decide) (by decide) (by decide) (by decide) (by decide)
    exact Or.inr ⟨r, k, h0, by omega, h2, by omega, h4⟩
theorem WP_gt {P P' : jP} (h : WP P) (hb : WB P') (hc : AllC P') (hg : GT P P') : WP P' := by
  obtain ⟨_, _, wr, ws, wm, wt, wd, wg⟩ := h
  have e0 : nR P' = nR P := hg.2.1 0 (by decide) (by decide) (by decide)
  have e1 : nD P' = nD P := hg.2.1 1 (by decide) (by decide) (by decide)
  have e4 : nS P' = nS P := hg.2.1 4 (by decide) (by decide) (by decide)
  have e5 : gl P' = gl P := hg.2.1 5 (by decide) (by decide) (by decide)
  have ei : ∀ (i : Nat) k, i ≠ 0 → i ≠ 4 → i ≠ 5 → i ≠ 6 → i ≠ 11 → P' i k = P i k := hg.1
  have ep : ∀ r, pr P' r = pr P r := fun r => ei 1 r (by decide) (by decide) (by decide) (by decide) (by decide)
  have er : ∀ r, ru P' r = ru P r := fun r => ei 2 r (by decide) (by decide) (by decide) (by decide) (by decide)
  have em : ∀ s k, nm P' s k = nm P s k := fun s k => ei 3 _ (by decide) (by decide) (by decide) (by decide) (by decide)
  have et : ∀ w, tf P' w = tf P w := fun w => ei 7 w (by decide) (by decide) (by decide) (by decide) (by decide)
  refine ⟨hb, hc, fun r a b => ?_, fun s a b => ?_, fun s k a b c d => ?_, fun w hw => ?_, fun d a b => ?_, by omega⟩
  · rw [ep]; exact wr r a (by omega)
  · rw [er, e0]; exact ws s a (by omega)
  · have epn : pn P' s = pn P s := by unfold pn; rw [er, ep]
    rw [em]; exact wm s k a (by omega) c (by omega)
  · obtain ⟨y1, y2, y3⟩ := wt w (inW_gt hg hw)
    unfold okT
    rw [et, (hg.2.2.2.1 _ y2).2]
    have := hg.2.2.1
    exact ⟨y1, by omega, y3⟩
  · have eo : od P' d = od P d := ei 8 d (by decide) (by decide) (by decide) (by decide) (by decide)
    have ef : rf P' d = rf P d := ei 9 d (by decide) (by decide) (by decide) (by decide) (by decide)
    have eg : rt P' d = rt P d := ei 10 d (by decide) (by decide) (by decide) (by decide) (by decide)
    rw [eo, ef, eg, e4]; exact wd d a (by omega)
theorem aT_WP {n : Int} {t : Int → Int} {h e h' e' : Int} {P P' : jP} (hh : Hd n t h e) (hp : WP P) (ha : aT n t h e P = .ok (h', e', P')) : Hd n t h' e' ∧ WP P' ∧ GT P P' ∧ (nC P < nC P' ∧ bh P' (nC P) = nC P' ∧ nC P' - nC P ≤ 24) := by
  obtain ⟨a1, a2, a3, a4, a5⟩ := aT_ok hh hp.1 hp.2.1 ha
  exact ⟨a1, WP_gt hp a2 a4 a3, a3, a5⟩
/-- what is told beside the counts of rules, steps and readers -/
theorem WB_out {P P' : jP} (h : WB P) (hn : WFn P') (hk : ∀ kd i, 0 ≤ kd → kd ≤ 3 → 0 ≤ i → i < nN P' kd → okN (nk P' kd i)) (hG : nG P' = nG P) (ha : ∀ g, ar P' g = ar P g) : WB P' := ⟨hn, fun kd i a b c d => hk kd i a b c d, fun g a b => by rw [ha]; exact h.2.2 g a (by omega)⟩
theorem AllC_out {P P' : jP} (h : AllC P) (hC : nC P' = nC P) (hG : nG P' = nG P) (hH : nH P' = nH P) (ha : ∀ g, ar P' g = ar P g) (hs : ∀ x, sy P' x = sy P x) (hb : ∀ x, bh P' x = bh P x) : AllC P' := by
  refine ⟨fun z a b => ?_, fun x a b => ?_⟩
  · rw [hb, hC] at *; exact h.1 z a (by omega)
  · have hx := h.1 x a (by omega)
    exact (h.2 x a (by omega)).mono h.1 (by omega) (by omega) (by omega) (hs x) (fun z _ _ => hb z) hx.1 (fun _ _ _ => ha _)
/-- a cell of a term that is not told yet -/
theorem WP_t7 {P : jP} (h : WP P) {w x : Int} (hw : ¬ inW P w) : WP (j_up P 7 w x) ∧ nR (j_up P 7 w x) = nR P ∧ nC (j_up P 7 w x) = nC P := by
  obtain ⟨wb, wc_, wr, ws, wm, wt, wd, wg⟩ := h
  have ei : ∀ (i : Nat) k, i ≠ 7 → (j_up P 7 w x) i k = P i k := fun i k hi => up_ne hi
  refine ⟨⟨WB_out wb ?_ (fun kd i a b c d => ?_) (ei 0 2 (by decide)) (fun g => ei 6 g (by decide)), AllC_out wc_ (ei 0 6 (by decide)) (ei 0 2 (by decide)) (ei 0 3 (by decide)) (fun g => ei 6 g (by decide)) (fun g => ei 4 g (by decide)) (fun g => ei 5 g (by decide)), wr, ws, wm, fun v hv => ?_, wd, wg⟩, rfl, rfl⟩
  · exact wb.1
  · exact wb.2.1 kd i a b c d
  · have hv' : inW P v := hv
    have hne : v ≠ w := fun hh => hw (hh ▸ hv')
    have : tf (j_up P 7 w x) v = tf P v := up_nk hne
    unfold okT
    rw [this]
    exact wt v hv'
