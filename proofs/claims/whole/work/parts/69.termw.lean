/-! terms: what each act of the reading keeps -/
theorem addC_C {P : jP} {w : Int} : nC (addC P w) = nC P + 1 := by
  show addC P w 0 6 = _
  unfold addC
  rw [up_eq]
theorem addC_n {P : jP} {w k : Int} (h : k ≠ 6) : addC P w 0 k = P 0 k := by
  unfold addC
  rw [up_nk h, up_ne (by decide), up_ne (by decide)]
theorem addC_s {P : jP} {w x : Int} : sy (addC P w) x = if x = nC P then w else sy P x := by
  show addC P w 4 x = _
  unfold addC
  rw [up_ne (by decide), up_ne (by decide), up_if]
  rfl
theorem addC_b {P : jP} {w x : Int} : bh (addC P w) x = if x = nC P then nC P + 1 else bh P x := by
  show addC P w 5 x = _
  unfold addC
  rw [up_ne (by decide), up_if, up_ne (by decide)]
  rfl
theorem addC_o {P : jP} {w x : Int} {i : Nat} (h0 : i ≠ 0) (h4 : i ≠ 4) (h5 : i ≠ 5) : addC P w i x = P i x := by
  unfold addC
  rw [up_ne h0, up_ne h5, up_ne h4]
theorem endP_n {P : jP} {a q k : Int} {i : Nat} (h5 : i ≠ 5) (h6 : i ≠ 6) : endP P a q i k = P i k := by
  unfold endP
  split
  · rw [up_ne h6, up_ne h5]
  · rw [up_ne h5]
theorem endP_b {P : jP} {a q x : Int} : bh (endP P a q) x = if x = a then nC P else bh P x := by
  show endP P a q 5 x = _
  unfold endP
  split
  · rw [up_ne (by decide), up_if]; rfl
  · rw [up_if]; rfl
theorem endP_a {P : jP} {a q g : Int} : ar (endP P a q) g = if g = sy P a ∧ ar P (sy P a) = -1 then q else ar P g := by
  show endP P a q 6 g = _
  unfold endP
  split
  · rename_i h
    rw [up_if, up_ne (by decide)]
    by_cases hg : g = sy P a
    · rw [if_pos hg, if_pos ⟨hg, h⟩]
    · rw [if_neg hg, if_neg (fun hh => hg hh.1)]; rfl
  · rename_i h
    rw [up_ne (by decide), if_neg (fun hh => h hh.2)]; rfl
theorem endP_ok {P : jP} {a q : Int} (h : endO P a q = true) : ar (endP P a q) (sy P a) = q := by
  rw [endP_a]
  have := of_decide_eq_true h
  by_cases h1 : ar P (sy P a) = -1
  · rw [if_pos ⟨rfl, h1⟩]
  · rw [if_neg (fun hh => h1 hh.2)]; omega
theorem endP_old {P : jP} {a q g : Int} (h : 0 ≤ ar P g) : ar (endP P a q) g = ar P g := by
  rw [endP_a]
  by_cases h1 : g = sy P a ∧ ar P (sy P a) = -1
  · rw [← h1.1] at h1; omega
  · rw [if_neg h1]
theorem addN_i {P : jP} {kd c x : Int} {i : Nat} (h0 : i ≠ 0) (h6 : i ≠ 6) (h11 : i ≠ 11) : addN P kd c i x = P i x := by
  unfold addN
  split
  · rw [up_ne h0, up_ne h6, up_ne h11]
  · rw [up_ne h0, up_ne h11]
theorem addN_n {P : jP} {kd c k : Int} : addN P kd c 0 k = if k = kd then nN P kd + 1 else P 0 k := by
  unfold addN
  split
  · rw [up_if, up_ne (by decide), up_ne (by decide)]
  · rw [up_if, up_ne (by decide)]
theorem addN_k {P : jP} {kd c x : Int} : addN P kd c 11 x = if x = 24 * kd + nN P kd then c else P 11 x := by
  unfold addN
  split
  · rw [up_ne (by decide), up_ne (by decide), up_if]
  · rw [up_ne (by decide), up_if]
theorem addN_a {P : jP} {kd c g : Int} (h : g ≠ nG P) : ar (addN P kd c) g = ar P g := by
  show addN P kd c 6 g = P 6 g
  unfold addN
  split
  · rw [up_ne (by decide), up_nk h, up_ne (by decide)]
  · rw [up_ne (by decide), up_ne (by decide)]
theorem addN_a2 {P : jP} {c : Int} : ar (addN P 2 c) (nG P) = -1 := by
  show addN P 2 c 6 (nG P) = -1
  unfold addN
  rw [if_pos rfl, up_ne (by decide), up_eq]
/-- a new name -/
theorem WB_addN {P : jP} (h : WB P) {kd c : Int} (hk : kd = 2 ∨ kd = 3) (hr : nN P kd ≠ rm kd) (hc : okN c) : WB (addN P kd c) ∧ GT P (addN P kd c) ∧ (nC (addN P kd c) = nC P ∧ nN (addN P kd c) kd = nN P kd + 1 ∧ nN P kd < rm kd) := by
  obtain ⟨⟨n1, n2, n3, n4, n5, n6⟩, wk, wa⟩ := h
  have eN : ∀ k, nN (addN P kd c) k = if k = kd then nN P kd + 1 else nN P k := fun k => addN_n
  have e0 : nR (addN P kd c) = nR P := by
    show addN P kd c 0 0 = _
    rw [addN_n, if_neg (by omega)]; rfl
  have e1 : nD (addN P kd c) = nD P := by
    show addN P kd c 0 1 = _
    rw [addN_n, if_neg (by omega)]; rfl
  have e4 : nS (addN P kd c) = nS P := by
    show addN P kd c 0 4 = _
    rw [addN_n, if_neg (by omega)]; rfl
  have e6 : nC (addN P kd c) = nC P := by
    show addN P kd c 0 6 = _
    rw [addN_n, if_neg (by omega)]; rfl
  have h2 : nN P 2 = nG P := rfl
  have h3 : nN P 3 = nH P := rfl
  have e2 : nG (addN P kd c) = if kd = 2 then nG P + 1 else nG P := by
    show nN (addN P kd c) 2 = _
    rw [eN 2]
    rcases hk with rfl | rfl
    · rw [if_pos rfl, if_pos rfl, h2]
    · rw [if_neg (by decide), if_neg (by decide), h2]
  have e3 : nH (addN P kd c) = if kd = 3 then nH P + 1 else nH P := by
    show nN (addN P kd c) 3 = _
    rw [eN 3]
    rcases hk with rfl | rfl
    · rw [if_neg (by decide), if_neg (by decide), h3]
    · rw [if_pos rfl, if_pos rfl, h3]
  have hlt : nN P kd < rm kd ∧ rm kd ≤ 24 := by
    unfold rm at hr ⊢
    rcases hk with rfl | rfl
    · rw [if_pos rfl] at hr ⊢; omega
    · rw [if_neg (by decide)] at hr ⊢; omega
  have hup2 : nG P ≤ nG (addN P kd c) ∧ nG (addN P kd c) ≤ 24 ∧ nH P ≤ nH (addN P kd c) ∧ nH (addN P kd c) ≤ 12 := by
    rw [e2, e3]
    unfold rm at hlt
    rcases hk with rfl | rfl
    · rw [if_pos rfl] at hlt; rw [if_pos rfl, if_neg (by decide)]; omega
    · rw [if_neg (by decide)] at hlt; rw [if_neg (by decide), if_pos rfl]; omega
  have ek : ∀ kd' i, 0 ≤ kd' → kd' ≤ 3 → 0 ≤ i → i < nN P kd' → nk (addN P kd c) kd' i = nk P kd' i := by
    intro kd' i a1 a2 a3 a4
    show addN P kd c 11 (24 * kd' + i) = P 11 (24 * kd' + i)
    rw [addN_k, if_neg]
    intro hh
    have hi : i < 24 := by
      have : kd' = 0 ∨ kd' = 1 ∨ kd' = 2 ∨ kd' = 3 := by omega
      rcases this with rfl | rfl | rfl | rfl
      · have : nN P 0 = nR P := rfl
        omega
      · have : nN P 1 = nD P := rfl
        omega
      · omega
      · omega
    have h0 : 0 ≤ nN P kd := by rcases hk with rfl | rfl <;> omega
    have : kd' = kd := by omega
    subst this
    omega
  refine ⟨⟨⟨by omega, by omega, by omega, by omega, by omega, by omega⟩, fun kd' i a1 a2 a3 a4 => ?_, fun g a1 a2 => ?_⟩, ⟨fun i k x0 _ _ x6 x11 => addN_i x0 x6 x11, fun k x2 x3 _ => ?_, by omega, fun x hx => ⟨addN_i (by decide) (by decide) (by decide), addN_i (by decide) (by decide) (by decide)⟩, ek, fun g a1 a2 a3 => addN_a (by omega)⟩, e6, ?_, hlt.1⟩
  · rw [eN kd'] at a4
    by_cases hkk : kd' = kd
    · subst hkk
      rw [if_pos rfl] at a4
      by_cases hi : i = nN P kd'
      · subst hi
        show okN (addN P kd' c 11 (24 * kd' + nN P kd'))
        rw [addN_k, if_pos rfl]; exact hc
      · rw [ek kd' i a1 a2 a3 (by omega)]; exact wk kd' i a1 a2 a3 (by omega)
    · rw [if_neg hkk] at a4
      rw [ek kd' i a1 a2 a3 a4]; exact wk kd' i a1 a2 a3 a4
  · by_cases hg : g = nG P
    · subst hg
      rcases hk with rfl | rfl
      · rw [addN_a2]; omega
      · rw [e2, if_neg (by decide)] at a2; omega
    · rw [addN_a hg]
      refine wa g a1 ?_
      rw [e2] at a2
      split at a2 <;> omega
  · rw [addN_n, if_neg (by rcases hk with rfl | rfl <;> omega)]
  · rw [eN kd, if_pos rfl]
theorem Sk.mono {P P' : jP} {start : Int} {m : Nat} {c q : Int → Int} {d : Int} (h : Sk P start m c q d) (hg : GT P P') (hC : nC P' = nC P) : Sk P' start m c q d := by
  obtain ⟨s0, mo, cm, op, up, be, c0, e0, e1⟩ := h
  obtain ⟨g1, g2, g3, g4, g5, g6⟩ := hg
  refine ⟨by rw [hC]; exact s0, fun z a b => ?_, fun x a b => ?_, fun i a b => ?_, up, fun x i a1 a2 a3 a4 a5 a6 => ?_, c0, fun a b => by rw [hC]; exact e0 a b, fun a b => ?_⟩
  · rw [hC] at b ⊢; rw [(g4 z b).2]; exact mo z a b
  · rw [hC] at b
    refine (cm x a b).imp id (fun hc => ?_)
    have hb := mo x a b
    refine hc.mono mo (by omega) (by omega) (by omega) (g4 x b).1 (fun z _ hz => (g4 z (by omega)).2) hb.1 (fun u1 u2 u3 => g6 _ u1 u2 u3)
  · obtain ⟨y1, y2, y3, y4⟩ := op i a b
    rw [hC, (g4 (c i) y1.2).1]
    refine ⟨y1, by omega, y3, ?_⟩
    unfold nx at y4 ⊢
    rw [hC]
    refine Tc_fr mo (by omega) _ _ _ (fun z _ hz => (g4 z ?_).2) y4
    split at hz
    · have := (op (i + 1) (by omega) (by omega)).1
      omega
    · exact hz
  · rw [hC] at a2
    rw [(g4 x a2).2]; exact be x i a1 a2 a3 a4 a5 a6
  · have := e1 a b
    rw [hC, (g4 start this.1).2]; exact this
