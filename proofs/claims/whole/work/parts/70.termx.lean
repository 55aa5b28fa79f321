/-! terms: the stack of open signs -/
theorem hup_eq {q : Int → Int} {i x : Int} : hup q i x i = x := by unfold hup; rw [if_pos rfl]
theorem hup_ne {q : Int → Int} {i j x : Int} (h : j ≠ i) : hup q i x j = q j := by unfold hup; rw [if_neg h]
theorem inK_hup {m : Nat} {c : Int → Int} {a x : Int} : inK (m + 1) (hup c m a) x ↔ (inK m c x ∨ x = a) := by
  constructor
  · rintro ⟨i, i0, i1, rfl⟩
    by_cases hi : i = m
    · right; rw [hi, hup_eq]
    · left; exact ⟨i, i0, by omega, by rw [hup_ne hi]⟩
  · rintro (⟨i, i0, i1, rfl⟩ | rfl)
    · exact ⟨i, i0, by omega, by rw [hup_ne (by omega)]⟩
    · exact ⟨m, by omega, by omega, by rw [hup_eq]⟩
theorem Sk_push {P : jP} {start : Int} {m : Nat} {c q : Int → Int} {w : Int} (h : Sk P start m c q 0) (hw : 0 ≤ w ∧ w < nG P) : Sk (addC P w) start (m + 1) (hup c m (nC P)) (hup q m 1) 0 := by
  obtain ⟨s0, mo, cm, op, up, be, c0, e0, e1⟩ := h
  have eC := addC_C (P := P) (w := w)
  have eG : nG (addC P w) = nG P := addC_n (by decide)
  have eH : nH (addC P w) = nH P := addC_n (by decide)
  have es : ∀ x, x < nC P → sy (addC P w) x = sy P x := fun x hx => by rw [addC_s, if_neg (by omega)]
  have eb : ∀ x, x < nC P → bh (addC P w) x = bh P x := fun x hx => by rw [addC_b, if_neg (by omega)]
  refine ⟨by omega, fun z a b => ?_, fun x a b => ?_, fun i a b => ?_, fun i a b => ?_, fun x i a1 a2 a3 a4 a5 a6 => ?_, fun _ => ?_, fun hh => by omega, fun hh => by omega⟩
  · by_cases hz : z = nC P
    · rw [addC_b, if_pos hz]; omega
    · rw [eb z (by omega)]
      have := mo z a (by omega)
      omega
  · by_cases hx : x = nC P
    · exact Or.inl (inK_hup.mpr (Or.inr hx))
    · refine (cm x a (by omega)).imp (fun hk => inK_hup.mpr (Or.inl hk)) (fun hc => ?_)
      have := mo x a (by omega)
      exact hc.mono mo (by omega) (by omega) (by omega) (es x (by omega)) (fun z _ hz => eb z (by omega)) this.1 (fun _ _ _ => addC_o (by decide) (by decide) (by decide))
  · by_cases hi : i = m
    · subst hi
      rw [hup_eq, hup_eq, addC_s, if_pos rfl]
      refine ⟨by omega, by omega, by omega, ?_⟩
      unfold nx dq
      rw [if_neg (by omega), if_neg (by omega)]
      show nC P + 1 = nC (addC P w)
      omega
    · obtain ⟨y1, y2, y3, y4⟩ := op i a (by omega)
      rw [hup_ne hi, hup_ne hi, es (c i) (by omega)]
      refine ⟨by omega, by omega, y3, ?_⟩
      have en : nx (addC P w) (m + 1) (hup c m (nC P)) i = nx P m c i := by
        unfold nx
        rw [if_pos (by omega)]
        by_cases h2 : i + 1 < m
        · rw [if_pos h2, hup_ne (by omega)]
        · rw [if_neg h2, show i + 1 = m by omega, hup_eq]
      have ed : dq (m + 1) 0 i = dq m 0 i := by
        unfold dq
        split <;> split <;> rfl
      rw [en, ed]
      refine Tc_fr mo (by omega) _ _ _ (fun z _ hz => eb z ?_) y4
      unfold nx at hz
      split at hz
      · have := (op (i + 1) (by omega) (by omega)).1
        omega
      · exact hz
  · by_cases h2 : i + 1 < m
    · rw [hup_ne (by omega), hup_ne (by omega)]; exact up i a h2
    · rw [show i + 1 = (m : Int) by omega, hup_eq, hup_ne (by omega)]
      exact (op i a (by omega)).1.2
  · have hx : x ≠ nC P := fun hh => a5 (inK_hup.mpr (Or.inr hh))
    have hk : ¬ inK m c x := fun hh => a5 (inK_hup.mpr (Or.inl hh))
    rw [eb x (by omega)]
    have hm := mo x a1 (by omega)
    by_cases hi : i = m
    · rw [hi, hup_eq]; omega
    · rw [hup_ne hi] at a6 ⊢
      exact be x i a1 (by omega) a3 (by omega) hk a6
  · by_cases hm : m = 0
    · subst hm
      show hup c ((0 : Nat) : Int) (nC P) 0 = start
      unfold hup
      rw [if_pos (by decide)]
      exact e0 rfl rfl
    · rw [hup_ne (by omega)]; exact c0 (by omega)
theorem Sk_leaf {P P' : jP} {start : Int} {m : Nat} {c q : Int → Int} (h : Sk P start m c q 0) (eC : nC P' = nC P + 1) (eG : nG P' = nG P) (eH : nH P' = nH P) (es : ∀ x, x < nC P → sy P' x = sy P x) (eb : ∀ x, x < nC P → bh P' x = bh P x) (en : bh P' (nC P) = nC P + 1) (ea : ∀ g, 0 ≤ ar P g → ar P' g = ar P g) (hc : Cmp P' (nC P)) : Sk P' start m c q 1 := by
  obtain ⟨s0, mo, cm, op, up, be, c0, e0, e1⟩ := h
  have opL : ∀ i : Int, 0 ≤ i → i < m → nx P m c i ≤ nC P := fun i a b => by
    unfold nx
    split
    · have := (op (i + 1) (by omega) (by omega)).1
      omega
    · omega
  refine ⟨by omega, fun z a b => ?_, fun x a b => ?_, fun i a b => ?_, up, fun x i a1 a2 a3 a4 a5 a6 => ?_, c0, fun _ hh => absurd hh (by decide), fun hm _ => ?_⟩
  · by_cases hz : z = nC P
    · rw [hz, en]; omega
    · rw [eb z (by omega)]
      have := mo z a (by omega)
      omega
  · by_cases hx : x = nC P
    · rw [hx]; exact Or.inr hc
    · refine (cm x a (by omega)).imp id (fun hc => ?_)
      have := mo x a (by omega)
      exact hc.mono mo (by omega) (by omega) (by omega) (es x (by omega)) (fun z _ hz => eb z (by omega)) this.1 (fun _ _ u => ea _ u)
  · obtain ⟨y1, y2, y3, y4⟩ := op i a b
    have hl := opL i a b
    have y5 : Tc P' (q i - 1 + dq m 0 i).toNat (c i + 1) (nx P m c i) := Tc_fr mo (by omega) _ _ _ (fun z _ hz => eb z (by omega)) y4
    rw [es (c i) (by omega)]
    refine ⟨by omega, by omega, y3, ?_⟩
    unfold nx dq at y5 ⊢
    by_cases h2 : i + 1 < m
    · rw [if_pos h2, if_pos h2] at y5 ⊢; exact y5
    · rw [if_neg h2, if_neg h2] at y5 ⊢
      have := Tc_app _ 1 _ _ (nC P') y5 ⟨by omega, by omega, by show bh P' (nC P) = nC P'; omega⟩
      rw [show (q i - 1 + 1).toNat = (q i - 1 + 0).toNat + 1 by omega]
      exact this
  · by_cases hx : x = nC P
    · have := (op i a3 a4).1
      omega
    · rw [eb x (by omega)]; exact be x i a1 (by omega) a3 a4 a5 a6
  · have := e0 hm rfl
    rw [← this]
    exact ⟨by omega, by omega⟩
theorem Sk_comma {P : jP} {start : Int} {m : Nat} {c q : Int → Int} (h : Sk P start (m + 1) c q 1) (hq : q m < 3) : Sk P start (m + 1) c (hup q m (q m + 1)) 0 := by
  obtain ⟨s0, mo, cm, op, up, be, c0, e0, e1⟩ := h
  refine ⟨s0, mo, cm, fun i a b => ?_, up, be, c0, fun hh => by omega, fun hh => by omega⟩
  obtain ⟨y1, y2, y3, y4⟩ := op i a b
  refine ⟨y1, y2, ?_⟩
  by_cases hi : i = m
  · subst hi
    rw [hup_eq]
    refine ⟨by omega, ?_⟩
    unfold dq at y4 ⊢
    rw [if_neg (by omega)] at y4 ⊢
    rw [show (q (m : Int) + 1 - 1 + 0).toNat = (q (m : Int) - 1 + 1).toNat by omega]
    exact y4
  · rw [hup_ne hi]
    refine ⟨y3, ?_⟩
    unfold dq at y4 ⊢
    rw [if_pos (by omega)] at y4 ⊢
    exact y4
theorem up_le {m : Nat} {c : Int → Int} (up : ∀ i : Int, 0 ≤ i → i + 1 < m → c i < c (i + 1)) : ∀ (k : Nat) (i : Int), 0 ≤ i → i + k < m → c i + k ≤ c (i + k)
  | 0, i, _, _ => by rw [show i + ((0 : Nat) : Int) = i by omega]; omega
  | k + 1, i, h0, h1 => by
    have ih := up_le up k i h0 (by omega)
    have := up (i + k) (by omega) (by omega)
    rw [show i + ((k + 1 : Nat) : Int) = i + k + 1 by omega]
    omega
theorem Sk_close {P : jP} {start : Int} {m : Nat} {c q : Int → Int} (h : Sk P start (m + 1) c q 1) (hG : nG P ≤ 24) (ho : endO P (c m) (q m) = true) : Sk (endP P (c m) (q m)) start m c q 1 := by
  obtain ⟨s0, mo, cm, op, up, be, c0, e0, e1⟩ := h
  have lt : ∀ i : Int, 0 ≤ i → i < m → c i < c m := fun i a b => by
    have := up_le up (m - i).toNat i a (by omega)
    rw [show i + (((m - i).toNat : Nat) : Int) = m by omega] at this
    omega
  have eC : nC (endP P (c m) (q m)) = nC P := endP_n (by decide) (by decide)
  have eG : nG (endP P (c m) (q m)) = nG P := endP_n (by decide) (by decide)
  have eH : nH (endP P (c m) (q m)) = nH P := endP_n (by decide) (by decide)
  have es : ∀ x, sy (endP P (c m) (q m)) x = sy P x := fun x => endP_n (by decide) (by decide)
  have eb : ∀ x, x ≠ c m → bh (endP P (c m) (q m)) x = bh P x := fun x hx => by rw [endP_b, if_neg hx]
  obtain ⟨z1, z2, z3, z4⟩ := op m (by omega) (by omega)
  have en : bh (endP P (c m) (q m)) (c m) = nC P := by rw [endP_b, if_pos rfl]
  have z5 : Tc P (q m).toNat (c m + 1) (nC P) := by
    unfold nx dq at z4
    rw [if_neg (by omega), if_neg (by omega)] at z4
    rw [show (q (m : Int)).toNat = (q (m : Int) - 1 + 1).toNat by omega]
    exact z4
  have z6 : Tc (endP P (c m) (q m)) (q m).toNat (c m + 1) (nC P) := Tc_fr mo (by omega) _ _ _ (fun z hz _ => eb z (by omega)) z5
  refine ⟨by omega, fun z a b => ?_, fun x a b => ?_, fun i a b => ?_, fun i a b => up i a (by omega), fun x i a1 a2 a3 a4 a5 a6 => ?_, fun _ => c0 (by omega), fun _ hh => absurd hh (by decide), fun hm _ => ?_⟩
  · rw [eC] at b ⊢
    by_cases hz : z = c m
    · rw [hz, en]; omega
    · rw [eb z hz]; exact mo z a b
  · rw [eC] at b
    by_cases hx : x = c m
    · right
      rw [hx]
      refine ⟨fun g => ?_, fun g => ?_⟩
      · rw [es] at g ⊢
        rw [endP_ok ho, en, eG]
        exact ⟨z2, by omega, z6⟩
      · rw [es] at g; omega
    · by_cases hk : inK (m + 1) c x
      · left
        obtain ⟨i, i0, i1, hi⟩ := hk
        refine ⟨i, i0, ?_, hi⟩
        have : i ≠ m := fun hh => hx (by rw [hi, hh])
        omega
      · right
        have hc := (cm x a b).resolve_left hk
        have hm := mo x a b
        refine hc.mono mo (by omega) (by omega) (by omega) (es x) (fun z hz1 hz2 => eb z ?_) hm.1 (fun _ _ u => endP_old u)
        rcases Int.lt_trichotomy x (c m) with hl | hl | hl
        · have := be x m a b (by omega) (by omega) hk hl
          omega
        · exact absurd hl hx
        · omega
  · obtain ⟨y1, y2, y3, y4⟩ := op i a (by omega)
    rw [es, eC, eG]
    refine ⟨y1, y2, y3, ?_⟩
    have hi := lt i a b
    unfold nx dq at y4 ⊢
    rw [if_pos (by omega), if_pos (by omega)] at y4
    by_cases h2 : i + 1 < m
    · rw [if_pos h2, if_pos h2]
      have h3 := lt (i + 1) (by omega) h2
      exact Tc_fr mo (by omega) _ _ _ (fun z hz1 hz2 => eb z (by omega)) y4
    · rw [if_neg h2, if_neg h2, eC]
      rw [show i + 1 = (m : Int) by omega] at y4
      have y5 := Tc_fr (P' := endP P (c m) (q m)) mo (by omega) _ _ _ (fun z hz1 hz2 => eb z (by omega)) y4
      have := Tc_app _ 1 _ _ (nC P) y5 ⟨by omega, by omega, en⟩
      rw [show (q i - 1 + 1).toNat = (q i - 1 + 0).toNat + 1 by omega]
      exact this
  · rw [eC] at a2
    have hi := lt i a3 a4
    have hx : x ≠ c m := by omega
    rw [eb x hx]
    refine be x i a1 a2 a3 (by omega) ?_ a6
    rintro ⟨j, j0, j1, hj⟩
    refine a5 ⟨j, j0, ?_, hj⟩
    have : j ≠ m := fun hh => hx (by rw [hj, hh])
    omega
  · subst hm
    have := c0 (by omega)
    have e : c ((0 : Nat) : Int) = start := this
    rw [eC]
    rw [e] at z1 en
    rw [e]
    exact ⟨z1.2, en⟩
