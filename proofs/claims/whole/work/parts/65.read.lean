/-! what may stand next: words, marks, names, numbers; the class takes them -/
abbrev jF : Type := Int × Int
def isW (n : Int) (t : Int → Int) (h e c : Int) : Bool := decide (h < n) && isL (t h) && decide (e ≠ h) && decide (wl n t h - h ≤ 6) && decide (wc n t h = c)
def isM (n : Int) (t : Int → Int) (h c : Int) : Bool := decide (h < n ∧ t h = c)
def aWord (n : Int) (t : Int → Int) (h e c : Int) : Except jF (Int × Int) := if isW n t h e c = true then .ok (sk n t (wl n t h), wl n t h) else .error (1, h)
def aMark (n : Int) (t : Int → Int) (h e c : Int) : Except jF (Int × Int) := if isM n t h c = true then .ok (sk n t (h + 1), e) else .error (1, h)
def own_ (c : Int) : Bool := decide (c = 93323264 ∨ c = 220705792 ∨ c = 245044832 ∨ c = 250654720 ∨ c = 507661312 ∨ c = 609259698 ∨ c = 626398208 ∨ c = 658685952 ∨ c = 686817280)
def aName (n : Int) (t : Int → Int) (h e : Int) : Except jF (Int × Int × Int) := if h < n ∧ isL (t h) = true ∧ e ≠ h then (if 6 < wl n t h - h then .error (1, h + 6) else if own_ (wc n t h) = true then .error (1, h) else .ok (wc n t h, sk n t (wl n t h), wl n t h)) else .error (1, h)
def aNum (n : Int) (t : Int → Int) (h e lo hi : Int) : Except jF (Int × Int × Int) := if h < n ∧ isDg (t h) = true ∧ e ≠ h then (if 4 < dl n t h - h then .error (1, h + 4) else if dv n t h < lo ∨ hi < dv n t h then .error (2, h) else .ok (dv n t h, sk n t (dl n t h), dl n t h)) else .error (1, h)
/-- the head stands well: at a byte that is no blank, or at the end -/
def Hd (n : Int) (t : Int → Int) (h e : Int) : Prop := ((0 ≤ h ∧ h ≤ n) ∧ -1 ≤ e ∧ e ≤ h) ∧ (h < n → isBl (t h) = false)
theorem sk_hd {n : Int} {t : Int → Int} {a e : Int} (h0 : 0 ≤ a) (h1 : a ≤ n) (he : -1 ≤ e) (h2 : e ≤ a) : Hd n t (sk n t a) e ∧ a ≤ sk n t a := by
  have r := rnn_r (p := fun k => isBl (t k)) (n := n) (a := a) h1
  have r : a ≤ sk n t a ∧ sk n t a ≤ n := r
  exact ⟨⟨by omega, fun hh => rnn_stop (p := fun k => isBl (t k)) h1 hh⟩, r.1⟩
theorem aWord_ok {n : Int} {t : Int → Int} {h e c h' e' : Int} (hh : Hd n t h e) (ha : aWord n t h e c = .ok (h', e')) : Hd n t h' e' ∧ h < h' := by
  unfold aWord at ha
  split at ha
  · rename_i hw
    unfold isW at hw
    simp only [Bool.and_eq_true, decide_eq_true_iff] at hw
    obtain ⟨⟨⟨⟨w1, w2⟩, w3⟩, w4⟩, w5⟩ := hw
    have r := wl_r w1 w2
    have := sk_hd (n := n) (t := t) (a := wl n t h) (e := wl n t h) (by have := hh.1; omega) (by omega) (by have := hh.1; omega) (by omega)
    cases ha
    exact ⟨this.1, by omega⟩
  · cases ha
theorem aMark_ok {n : Int} {t : Int → Int} {h e c h' e' : Int} (hh : Hd n t h e) (ha : aMark n t h e c = .ok (h', e')) : Hd n t h' e' ∧ h < h' ∧ e' = e := by
  unfold aMark at ha
  split at ha
  · rename_i hw
    have hw := of_decide_eq_true hw
    have h1 := hh.1
    have := sk_hd (n := n) (t := t) (a := h + 1) (e := e) (by omega) (by omega) (by omega) (by omega)
    cases ha
    exact ⟨this.1, by omega, rfl⟩
  · cases ha
theorem aName_ok {n : Int} {t : Int → Int} {h e c h' e' : Int} (hh : Hd n t h e) (ha : aName n t h e = .ok (c, h', e')) : Hd n t h' e' ∧ h < h' ∧ okN c ∧ own_ c = false ∧ c = wc n t h ∧ (h < n ∧ isL (t h) = true ∧ e ≠ h ∧ wl n t h - h ≤ 6) ∧ h' = sk n t (wl n t h) ∧ e' = wl n t h := by
  unfold aName at ha
  split at ha
  · rename_i hw
    split at ha
    · cases ha
    · rename_i h6
      split at ha
      · cases ha
      · rename_i ho
        have h1 := hh.1
        have r := wl_r hw.1 hw.2.1
        have := sk_hd (n := n) (t := t) (a := wl n t h) (e := wl n t h) (by omega) (by omega) (by omega) (by omega)
        cases ha
        exact ⟨this.1, by omega, (wc_ok hw.1 hw.2.1 (by omega)).1, Bool.eq_false_iff.mpr ho, rfl, ⟨hw.1, hw.2.1, hw.2.2, by omega⟩, rfl, rfl⟩
  · cases ha
theorem okN_0 {c : Int} (h : okN c) : c ≠ 0 := by
  obtain ⟨r, n, n1, n2, n3, n4⟩ := h
  intro hc
  subst hc
  have := n3 0 (by omega) (by omega)
  have e : ltr 0 0 = 0 := by decide
  omega
theorem aNum_ok {n : Int} {t : Int → Int} {h e lo hi v h' e' : Int} (hh : Hd n t h e) (ha : aNum n t h e lo hi = .ok (v, h', e')) : Hd n t h' e' ∧ h < h' ∧ (lo ≤ v ∧ v ≤ hi) ∧ (0 ≤ v ∧ v < 10000) ∧ v = dv n t h ∧ (h < n ∧ isDg (t h) = true ∧ e ≠ h ∧ dl n t h - h ≤ 4) ∧ h' = sk n t (dl n t h) ∧ e' = dl n t h := by
  unfold aNum at ha
  split at ha
  · rename_i hw
    split at ha
    · cases ha
    · rename_i h6
      split at ha
      · cases ha
      · rename_i ho
        have h1 := hh.1
        have r := dl_r hw.1 hw.2.1
        have := sk_hd (n := n) (t := t) (a := dl n t h) (e := dl n t h) (by omega) (by omega) (by omega) (by omega)
        have hv := dvN_r (t := t) (h := h) (dl n t h - h).toNat (by omega) (fun k a b => r.2.2 (h + k) (by omega) (by omega))
        have hp4 : 10 ^ (dl n t h - h).toNat ≤ 10 ^ 4 := Nat.pow_le_pow_right (by omega) (by omega)
        have ed : dv n t h = dvN t h (dl n t h - h).toNat := by
          unfold dv m4
          congr 1
          split <;> omega
        cases ha
        exact ⟨this.1, by omega, by omega, by omega, rfl, ⟨hw.1, hw.2.1, hw.2.2, by omega⟩, rfl, rfl⟩
  · cases ha
/-- the class: a fault is told -/
def Flt (μ : jMu) (f : jF) : Prop := μ 3 8 = f.1 ∧ μ 3 9 = f.2
def Wtk3 (i : Nat) (k : Int) : Prop := (i = 1 ∧ 2 ≤ k) ∨ (i = 3 ∧ 7 ≤ k)
theorem WTk.t3 : ∀ i k, WTk i k → Wtk3 i k := fun i k h => Or.inl h
section
variable {E : jE} {μ μ1 : jMu} {Q : Int → jMu → Prop} {Q0 : jMu → Prop} {n h e : Int} {t : Int → Int}
theorem HC.hd (hc : HC μ n t h e) : Hd n t h e := ⟨hc.2.1, hc.2.2.1⟩
theorem HC.fr (hc : HC μ n t h e) (hf : Fr (fun i k => i ≠ 2 ∧ i ≠ 1 ∧ ¬ (i = 3 ∧ (k = 8 ∨ k = 9))) μ μ1) : HC μ1 n t h e := by
  obtain ⟨a, b, c, d, e1, f, g, i⟩ := hc
  have h1 : ∀ k, μ1 1 k = μ 1 k := fun k => hf 1 k (by omega)
  refine ⟨a.fr (hf.mono (fun i k hh => by omega)), b, c, ?_, ?_, ?_, ?_, ?_⟩
  · rw [h1, h1, hf 3 8 (by omega), hf 3 9 (by omega)]; exact d
  · rw [h1]; exact e1
  · rw [h1, h1, h1]; exact f
  · rw [h1, h1, h1]; exact g
  · rw [h1, h1, h1]; exact i
theorem sPa_refuse {a p : Int} (k : ∀ μ1, Fr (fun i k => i = 3 ∧ (k = 8 ∨ k = 9)) μ μ1 → Flt μ1 (a, p) → Q 0 μ1) : Ci E mPa_refuse [jvR 3, jvI a, jvI p] μ Q := by
  refine vPa_refuse_0 ⟨_, rfl, k _ ((Fr.up ⟨rfl, Or.inl rfl⟩).put ⟨rfl, Or.inr rfl⟩) ⟨?_, up_eq⟩⟩
  rw [up_nk (by decide), up_eq]
theorem HC.w (hc : HC μ n t h e) : (μ 1 2 = 2 ↔ h < n ∧ isL (t h) = true) ∧ (μ 1 2 = 3 ↔ h < n ∧ isDg (t h) = true) ∧ (μ 1 2 = 0 ↔ n ≤ h) ∧ (μ 1 2 = 1 ↔ h < n ∧ isL (t h) = false ∧ isDg (t h) = false) ∧ (μ 1 6 = 0 ↔ e ≠ h) := by
  obtain ⟨a, b, c, ⟨d1, d2⟩, e1, f, g, i⟩ := hc
  have hg : (μ 1 6 = 0 ↔ e ≠ h) := by
    rw [d2.1]
    by_cases hh : e = h
    · rw [decide_eq_true hh, b2i_t]; omega
    · rw [decide_eq_false hh, b2i_f]; exact ⟨fun _ => hh, fun _ => rfl⟩
  by_cases hn : h < n
  · cases hl : isL (t h) with
    | true =>
      have hd : isDg (t h) = false := by
        have := of_decide_eq_true hl
        exact decide_eq_false (by omega)
      have := (f hn hl).1
      rw [hd]
      exact ⟨⟨fun _ => ⟨hn, rfl⟩, fun _ => this⟩, ⟨fun hh => absurd (this.symm.trans hh) (by decide), fun hh => (by cases hh.2)⟩, ⟨fun hh => absurd (this.symm.trans hh) (by decide), fun hh => (by omega)⟩, ⟨fun hh => absurd (this.symm.trans hh) (by decide), fun hh => (by cases hh.2.1)⟩, hg⟩
    | false =>
      cases hd : isDg (t h) with
      | true =>
        have := (g hn hd).1
        exact ⟨⟨fun hh => absurd (this.symm.trans hh) (by decide), fun hh => (by cases hh.2)⟩, ⟨fun _ => ⟨hn, rfl⟩, fun _ => this⟩, ⟨fun hh => absurd (this.symm.trans hh) (by decide), fun hh => (by omega)⟩, ⟨fun hh => absurd (this.symm.trans hh) (by decide), fun hh => (by cases hh.2.2)⟩, hg⟩
      | false =>
        have := (i hn hl hd).1
        exact ⟨⟨fun hh => absurd (this.symm.trans hh) (by decide), fun hh => (by cases hh.2)⟩, ⟨fun hh => absurd (this.symm.trans hh) (by decide), fun hh => (by cases hh.2)⟩, ⟨fun hh => absurd (this.symm.trans hh) (by decide), fun hh => (by omega)⟩, ⟨fun _ => ⟨hn, rfl, rfl⟩, fun _ => this⟩, hg⟩
  · have := e1 (by omega)
    exact ⟨⟨fun hh => absurd (this.symm.trans hh) (by decide), fun hh => absurd hh.1 hn⟩, ⟨fun hh => absurd (this.symm.trans hh) (by decide), fun hh => absurd hh.1 hn⟩, ⟨fun _ => (by omega), fun _ => this⟩, ⟨fun hh => absurd (this.symm.trans hh) (by decide), fun hh => absurd hh.1 hn⟩, hg⟩
theorem sTa_isWord (hc : HC μ n t h e) {c : Int} (k : Q (b2i (isW n t h e c)) μ) : Ci E mTa_isWord [jvR 1, jvI c] μ Q := by
  have hw := hc.w
  unfold isW at k
  refine vTa_isWord_0 ⟨fun c1 => ⟨_, rfl, ?_⟩, fun c1 => ⟨fun c2 => ⟨_, rfl, ?_⟩, fun c2 => ?_⟩⟩
  · have : ¬ (h < n ∧ isL (t h) = true) := fun hh => c1 (hw.1.mpr hh)
    have e1 : (decide (h < n) && isL (t h)) = false := by
      rw [Bool.eq_false_iff, ne_eq, Bool.and_eq_true, decide_eq_true_iff]; exact this
    rw [e1, Bool.false_and, Bool.false_and, Bool.false_and] at k; exact k
  · have e1 : decide (e ≠ h) = false := decide_eq_false (fun hh => c2 (hw.2.2.2.2.mpr hh))
    rw [e1, Bool.and_false, Bool.false_and, Bool.false_and] at k; exact k
  · have h1 := hw.1.mp c1
    have h2 := hc.2.2.2.2.2.1 h1.1 h1.2
    rw [h2.2.1, h2.2.2]
    rw [decide_eq_true h1.1, h1.2, decide_eq_true (hw.2.2.2.2.mp c2), Bool.true_and, Bool.true_and] at k
    refine ⟨fun c3 => ⟨_, rfl, ?_⟩, fun c3 => ⟨fun c4 => ⟨_, rfl, ?_⟩, fun c4 => ⟨_, rfl, ?_⟩⟩⟩
    · rw [show decide (wl n t h - h ≤ 6) = false from decide_eq_false (by omega), Bool.and_false, Bool.false_and] at k; exact k
    · rw [decide_eq_false c4, Bool.and_false] at k; exact k
    · rw [decide_eq_true (show wl n t h - h ≤ 6 by omega), decide_eq_true c4] at k; exact k
theorem isM_m {c : Int} (h1 : isL c = false) (h2 : isDg c = false) (hm : isM n t h c = true) : h < n ∧ isL (t h) = false ∧ isDg (t h) = false ∧ t h = c := by
  have := of_decide_eq_true hm
  rw [← this.2] at h1 h2
  exact ⟨this.1, h1, h2, this.2⟩
theorem sTa_isMark (hc : HC μ n t h e) {c : Int} (h1 : isL c = false) (h2 : isDg c = false) (k : Q (b2i (isM n t h c)) μ) : Ci E mTa_isMark [jvR 1, jvI c] μ Q := by
  have hw := hc.w
  refine vTa_isMark_0 ⟨fun c1 => ⟨_, rfl, ?_⟩, fun c1 => ?_⟩
  · have : isM n t h c = false := by
      rw [Bool.eq_false_iff]
      intro hh
      have := isM_m h1 h2 hh
      exact c1 (hw.2.2.2.1.mpr ⟨this.1, this.2.1, this.2.2.1⟩)
    rw [this] at k; exact k
  · have h3 := hw.2.2.2.1.mp c1
    have h4 := hc.2.2.2.2.2.2.2 h3.1 h3.2.1 h3.2.2
    rw [h4.2.2]
    refine ⟨fun c2 => ⟨_, rfl, ?_⟩, fun c2 => ⟨_, rfl, ?_⟩⟩
    · rw [show isM n t h c = false from decide_eq_false (fun hh => c2 hh.2)] at k; exact k
    · rw [show isM n t h c = true from decide_eq_true ⟨h3.1, c2⟩] at k; exact k
/-- over what stands there -/
theorem sTa_past (hc : HC μ n t h e) (hk : (h < n ∧ isL (t h) = true ∧ ∀ μ1, Fr WTk μ μ1 → HC μ1 n t (sk n t (wl n t h)) (wl n t h) → Q0 μ1) ∨ (h < n ∧ isDg (t h) = true ∧ ∀ μ1, Fr WTk μ μ1 → HC μ1 n t (sk n t (dl n t h)) (dl n t h) → Q0 μ1) ∨ (h < n ∧ isL (t h) = false ∧ isDg (t h) = false ∧ ∀ μ1, Fr WTk μ μ1 → HC μ1 n t (sk n t (h + 1)) e → Q0 μ1)) : Cv E mTa_advance [jvR 1] μ Q0 := by
  obtain ⟨a, b, c, ⟨d1, d2⟩, e1, f, g, i⟩ := hc
  rcases hk with ⟨k1, k2, k3⟩ | ⟨k1, k2, k3⟩ | ⟨k1, k2, k4, k3⟩
  · have r := wl_r k1 k2
    obtain ⟨f1, f2, f3⟩ := f k1 k2
    exact sTa_advance a d2.2 (p := wl n t h) (e := wl n t h) (by omega) (by omega) (by omega) (by omega) (fun _ => rfl) (fun hh => by omega) k3
  · have r := dl_r k1 k2
    obtain ⟨f1, f2, f3⟩ := g k1 k2
    exact sTa_advance a d2.2 (p := dl n t h) (e := dl n t h) (by omega) (by omega) (by omega) (by omega) (fun _ => rfl) (fun hh => by omega) k3
  · obtain ⟨f1, f2, f3⟩ := i k1 k2 k4
    exact sTa_advance a d2.2 (p := h + 1) (e := e) (by omega) (by omega) (by omega) (by omega) (fun hh => by omega) (fun hh => by omega) k3
theorem sTa_pastM (hc : HC μ n t h e) {c : Int} (h1 : isL c = false) (h2 : isDg c = false) (hm : isM n t h c = true) (k : ∀ μ1, Fr WTk μ μ1 → HC μ1 n t (sk n t (h + 1)) e → Q0 μ1) : Cv E mTa_advance [jvR 1] μ Q0 := by
  have := isM_m h1 h2 hm
  exact sTa_past hc (Or.inr (Or.inr ⟨this.1, this.2.1, this.2.2.1, k⟩))
theorem sTa_pastW (hc : HC μ n t h e) {c : Int} (hm : isW n t h e c = true) (k : ∀ μ1, Fr WTk μ μ1 → HC μ1 n t (sk n t (wl n t h)) (wl n t h) → Q0 μ1) : Cv E mTa_advance [jvR 1] μ Q0 := by
  unfold isW at hm
  simp only [Bool.and_eq_true, decide_eq_true_iff] at hm
  exact sTa_past hc (Or.inl ⟨hm.1.1.1.1, hm.1.1.1.2, k⟩)
theorem sPa_takeMark (hc : HC μ n t h e) (h34 : μ 3 4 = 1) {c : Int} (h1 : isL c = false) (h2 : isDg c = false) (kf : ∀ f, aMark n t h e c = .error f → ∀ μ1, Fr Wtk3 μ μ1 → Flt μ1 f → Q 0 μ1) (kt : ∀ h' e', aMark n t h e c = .ok (h', e') → ∀ μ1, Fr WTk μ μ1 → HC μ1 n t h' e' → Q 1 μ1) : Ci E mPa_takeMark [jvR 3, jvI c] μ Q := by
  refine vPa_takeMark_0 ⟨h34, sTa_isMark hc h1 h2 ⟨fun c1 => ⟨h34, ?_⟩, fun c1 => ⟨h34, sPa_refuse (fun μ1 f1 l1 => ⟨Or.inl rfl, _, rfl, kf (1, h) ?_ μ1 (f1.mono (fun i k hh => Or.inr (by omega))) ?_⟩)⟩⟩⟩
  · have hm := b2i_b c1
    exact sTa_pastM hc h1 h2 hm (fun μ1 f1 x1 => ⟨_, rfl, kt _ _ (by unfold aMark; rw [if_pos hm]) μ1 f1 x1⟩)
  · unfold aMark; rw [b2i_b0 c1]; rfl
  · rw [hc.2.2.2.1.1] at l1; exact l1
theorem sPa_takeWord (hc : HC μ n t h e) (h34 : μ 3 4 = 1) {c : Int} (kf : ∀ f, aWord n t h e c = .error f → ∀ μ1, Fr Wtk3 μ μ1 → Flt μ1 f → Q 0 μ1) (kt : ∀ h' e', aWord n t h e c = .ok (h', e') → ∀ μ1, Fr WTk μ μ1 → HC μ1 n t h' e' → Q 1 μ1) : Ci E mPa_takeWord [jvR 3, jvI c] μ Q := by
  refine vPa_takeWord_0 ⟨h34, sTa_isWord hc ⟨fun c1 => ⟨h34, ?_⟩, fun c1 => ⟨h34, sPa_refuse (fun μ1 f1 l1 => ⟨Or.inl rfl, _, rfl, kf (1, h) ?_ μ1 (f1.mono (fun i k hh => Or.inr (by omega))) ?_⟩)⟩⟩⟩
  · have hm := b2i_b c1
    exact sTa_pastW hc hm (fun μ1 f1 x1 => ⟨_, rfl, kt _ _ (by unfold aWord; rw [if_pos hm]) μ1 f1 x1⟩)
  · unfold aWord; rw [b2i_b0 c1]; rfl
  · rw [hc.2.2.2.1.1] at l1; exact l1
theorem sPa_isOwn {c : Int} (k : Q (b2i (own_ c)) μ) : Ci E mPa_isOwn [jvI c] μ Q := by
  have yes : ∀ (_ : c = 93323264 ∨ c = 220705792 ∨ c = 245044832 ∨ c = 250654720 ∨ c = 507661312 ∨ c = 609259698 ∨ c = 626398208 ∨ c = 658685952 ∨ c = 686817280), Q 1 μ := fun hh => by
    rw [show own_ c = true from decide_eq_true hh] at k; exact k
  refine vPa_isOwn_0 ⟨fun hh => ⟨_, rfl, yes (by omega)⟩, fun hh => ⟨_, rfl, yes (by omega)⟩, fun hh => ⟨_, rfl, yes (by omega)⟩, fun hh => ⟨_, rfl, yes (by omega)⟩, fun hh => ⟨_, rfl, yes (by omega)⟩, fun hh => ⟨_, rfl, yes (by omega)⟩, fun hh => ⟨_, rfl, yes (by omega)⟩, fun hh => ⟨_, rfl, yes (by omega)⟩, fun hh => ⟨_, rfl, yes (by omega)⟩, fun hh => ⟨_, rfl, ?_⟩⟩
  rw [show own_ c = false from decide_eq_false (by omega)] at k; exact k
theorem sPa_takeName (hc : HC μ n t h e) (h34 : μ 3 4 = 1) (kf : ∀ f, aName n t h e = .error f → ∀ μ1, Fr Wtk3 μ μ1 → Flt μ1 f → Q 0 μ1) (kt : ∀ c h' e', aName n t h e = .ok (c, h', e') → ∀ μ1, Fr Wtk3 μ μ1 → HC μ1 n t h' e' → μ1 3 7 = h → Q c μ1) : Ci E mPa_takeName [jvR 3] μ Q := by
  have hw := hc.w
  have e3 := hc.2.2.2.1.1
  have f0 : Fr Wtk3 μ (j_up μ 3 7 (μ 1 3)) := Fr.up (Or.inr ⟨rfl, by omega⟩)
  have h0 : HC (j_up μ 3 7 (μ 1 3)) n t h e := hc.fr (Fr.up (by omega))
  have e7 : (j_up μ 3 7 (μ 1 3)) 3 7 = h := by rw [up_eq]; exact e3
  have bad : ∀ p, aName n t h e = .error (1, p) → Ci E mPa_refuse [jvR 3, jvI 1, jvI p] (j_up μ 3 7 (μ 1 3)) (fun _ μ3 => ∃ r, some (jvI 0) = some (jvI r) ∧ Q r μ3) := fun p hp => sPa_refuse (fun μ1 f1 l1 => ⟨_, rfl, kf (1, p) hp μ1 (f0.tr (f1.mono (fun i k hh => Or.inr (by omega)))) l1⟩)
  refine vPa_takeName_0 ⟨⟨h34, h34, h34⟩, fun c1 => ?_, fun c1 => ⟨h34, fun c2 => ⟨h34, fun c3 => ?_, fun c3 => ⟨?_, ?_⟩⟩, fun c2 => ?_⟩⟩
  · rw [e3] at bad ⊢
    refine bad h ?_
    unfold aName
    rw [if_neg (fun hh => c1 (hw.1.mpr ⟨hh.1, hh.2.1⟩))]
  · have h1 := hw.1.mp c1
    have h2 := hc.2.2.2.2.2.1 h1.1 h1.2
    have hne := hw.2.2.2.2.mp c2
    rw [h2.2.1] at c3
    have en : aName n t h e = if own_ (wc n t h) = true then .error (1, h) else .ok (wc n t h, sk n t (wl n t h), wl n t h) := by
      unfold aName
      rw [if_pos ⟨h1.1, h1.2, hne⟩, if_neg (by omega)]
    rw [h2.2.2]
    refine sPa_isOwn ⟨fun c4 => ⟨by rw [up_nk (by decide)]; exact h34, ?_⟩, fun c4 => ?_⟩
    · rw [b2i_b0 c4, if_neg (by decide)] at en
      refine sTa_past h0 (Or.inl ⟨h1.1, h1.2, fun μ1 f1 x1 => ⟨_, rfl, kt _ _ _ en μ1 (f0.tr (f1.mono WTk.t3)) x1 ?_⟩⟩)
      rw [f1 3 7 (by unfold WTk; omega)]; exact e7
    · rw [b2i_b c4, if_pos rfl] at en
      rw [e7]
      exact bad h en
  · have h1 := hw.1.mp c1
    have := hc.2.1
    have := hc.1.2.1
    omega
  · have h1 := hw.1.mp c1
    have h2 := hc.2.2.2.2.2.1 h1.1 h1.2
    have hne := hw.2.2.2.2.mp c2
    rw [h2.2.1] at c3
    rw [e3] at bad ⊢
    refine bad (h + 6) ?_
    unfold aName
    rw [if_pos ⟨h1.1, h1.2, hne⟩, if_pos (by omega)]
  · rw [e3] at bad ⊢
    refine bad h ?_
    unfold aName
    rw [if_neg (fun hh => c2 (hw.2.2.2.2.mpr hh.2.2))]
theorem sPa_takeNumber (hc : HC μ n t h e) (h34 : μ 3 4 = 1) {lo hi : Int} (kf : ∀ f, aNum n t h e lo hi = .error f → ∀ μ1, Fr Wtk3 μ μ1 → Flt μ1 f → Q (-1) μ1) (kt : ∀ v h' e', aNum n t h e lo hi = .ok (v, h', e') → ∀ μ1, Fr WTk μ μ1 → HC μ1 n t h' e' → Q v μ1) : Ci E mPa_takeNumber [jvR 3, jvI lo, jvI hi] μ Q := by
  have hw := hc.w
  have e3 := hc.2.2.2.1.1
  have bad : ∀ a p, aNum n t h e lo hi = .error (a, p) → Ci E mPa_refuse [jvR 3, jvI a, jvI p] μ (fun _ μ3 => ∃ r, some (jvI (-1)) = some (jvI r) ∧ Q r μ3) := fun a p hp => sPa_refuse (fun μ1 f1 l1 => ⟨_, rfl, kf (a, p) hp μ1 (f1.mono (fun i k hh => Or.inr (by omega))) l1⟩)
  refine vPa_takeNumber_0 ⟨⟨h34, h34, h34⟩, fun c1 => ?_, fun c1 => ⟨h34, fun c2 => ⟨h34, fun c3 => ?_, fun c3 => ⟨?_, ?_⟩⟩, fun c2 => ?_⟩⟩
  · rw [e3]
    refine bad 1 h ?_
    unfold aNum
    rw [if_neg (fun hh => c1 (hw.2.1.mpr ⟨hh.1, hh.2.1⟩))]
  · have h1 := hw.2.1.mp c1
    have h2 := hc.2.2.2.2.2.2.1 h1.1 h1.2
    have hne := hw.2.2.2.2.mp c2
    rw [h2.2.1] at c3
    have en : aNum n t h e lo hi = if dv n t h < lo ∨ hi < dv n t h then .error (2, h) else .ok (dv n t h, sk n t (dl n t h), dl n t h) := by
      unfold aNum
      rw [if_pos ⟨h1.1, h1.2, hne⟩, if_neg (by omega)]
    rw [h2.2.2, e3]
    refine ⟨fun c4 => bad 2 h (by rw [en, if_pos (Or.inl c4)]), fun c4 => ⟨fun c5 => ⟨h34, ?_⟩, fun c5 => bad 2 h (by rw [en, if_pos (Or.inr (by omega))])⟩⟩
    rw [if_neg (by omega)] at en
    exact sTa_past hc (Or.inr (Or.inl ⟨h1.1, h1.2, fun μ1 f1 x1 => ⟨_, rfl, kt _ _ _ en μ1 f1 x1⟩⟩))
  · have h1 := hw.2.1.mp c1
    have := hc.2.1
    have := hc.1.2.1
    omega
  · have h1 := hw.2.1.mp c1
    have h2 := hc.2.2.2.2.2.2.1 h1.1 h1.2
    have hne := hw.2.2.2.2.mp c2
    rw [h2.2.1] at c3
    rw [e3]
    refine bad 1 (h + 4) ?_
    unfold aNum
    rw [if_pos ⟨h1.1, h1.2, hne⟩, if_pos (by omega)]
  · rw [e3]
    refine bad 1 h ?_
    unfold aNum
    rw [if_neg (fun hh => c2 (hw.2.2.2.2.mpr hh.2.2))]
end
