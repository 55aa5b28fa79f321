/-! the tape, images, proofs: both answer alike -/
section
variable {E : jE} {μ μ1 μ2 : jMu} {Q : Int → jMu → Prop} {n : Int} {t : Int → Int} {P : jP} {b b2 : Nat} {w q : Int → Bool}
theorem RS.frg (h : RS μ P w q) (hf : Fr (fun i k => ¬ (87 ≤ i ∧ i ≤ 98) ∧ ¬ (103 ≤ i ∧ i ≤ 107) ∧ i ≠ 109 ∧ ¬ (i = 76 ∧ (k = 33 ∨ k = 44))) μ μ1) : RS μ1 P w q := by
  obtain ⟨⟨a, b, c, d⟩, e, f⟩ := h
  refine ⟨⟨a.frN (hf.mono (fun i k hw => by unfold NDr; omega)), fun s h0 h1 => ?_, fun k h0 h1 => ?_, ?_⟩, fun r h0 h1 => ?_, fun r h0 h1 => ?_⟩
  · rw [hf 103 s (by omega), hf 104 s (by omega), hf 106 s (by omega)]; exact b s h0 h1
  · rw [hf 105 k (by omega)]; exact c k h0 h1
  · rw [hf 76 44 (by omega)]; exact d
  · rw [hf 107 r (by omega)]; exact e r h0 h1
  · rw [hf 109 r (by omega)]; exact f r h0 h1
def Wtp (i : Nat) (k : Int) : Prop := i = 2 ∨ i = 77 ∨ (i = 1 ∧ k = 1) ∨ (i = 76 ∧ k = 1)
theorem IV.tape {n' : Int} {t' : Int → Int} (h : IV P b b2 w q n t μ) (f3 : Fr Wtp μ μ1) (hC : TC μ1 n' t') (hR : TR μ1 n' t') : IV P b b2 w q n' t' μ1 := by
  obtain ⟨x, r, ⟨a, b', c, d, e, f, g⟩, l, o, y⟩ := h
  refine ⟨x.fr (f3.mono (fun i k hh => by unfold Wtp at hh; unfold NXS; omega)), r.frg (f3.mono (fun i k hh => by unfold Wtp at hh; omega)), ⟨⟨a.1, a.2.1, by rw [f3 0 10 (by unfold Wtp; omega)]; exact a.2.2⟩, ⟨hC, hR⟩, ⟨by rw [f3 0 11 (by unfold Wtp; omega), f3 76 7 (by unfold Wtp; omega)]; exact c.1, by rw [f3 0 12 (by unfold Wtp; omega), f3 76 8 (by unfold Wtp; omega)]; exact c.2⟩, ⟨by rw [f3 74 1 (by unfold Wtp; omega), f3 76 61 (by unfold Wtp; omega)]; exact d.1, by rw [f3 74 1 (by unfold Wtp; omega)]; exact d.2⟩, e.fr (f3.mono (fun i k hh => by unfold Wtp at hh; omega)), f.fr (f3.mono (fun i k hh => by unfold Wtp at hh; omega)), g.fr (f3.mono (fun i k hh => by unfold Wtp at hh; omega))⟩, l.fr (f3.mono (fun i k hh => by unfold Wtp at hh; omega)), o.fr (f3.mono (fun i k hh => by unfold Wtp at hh; omega)), y.fr (f3.mono (fun i k hh => by unfold Wtp at hh; omega))⟩
theorem fb_r {a c d e f j : Int} : 0 ≤ fb a c d e f j ∧ fb a c d e f j ≤ 255 := by
  unfold fb
  have h1 := Int.emod_nonneg (wd5 a c d e f j / ((2 ^ (8 * (3 - j % 4)).toNat : Nat) : Int)) (b := 256) (by decide)
  have h2 := Int.emod_lt_of_pos (wd5 a c d e f j / ((2 ^ (8 * (3 - j % 4)).toNat : Nat) : Int)) (b := 256) (by decide)
  omega
theorem TC.n0 (h : μ 1 1 = 0) : TC μ 0 t := ⟨h, by decide, fun k a b => by omega⟩
theorem TR.n0 (h : μ 76 1 = 0) : TR μ 0 t := ⟨h, by decide, fun k a b => by omega⟩
theorem p_feed (h : Inv μ) {a0 a1 a2 a3 a4 : Int} (h0 : r32 a0) (h1 : r32 a1) (h2 : r32 a2) (h3 : r32 a3) (h4 : r32 a4) : Ci E mX_feed [jvR 0, jvI a0, jvI a1, jvI a2, jvI a3, jvI a4] μ (fun r μ1 => Ci E mM_feed [jvR 76, jvI a0, jvI a1, jvI a2, jvI a3, jvI a4] μ1 (fun r' μ2 => r = r' ∧ Inv μ2)) := by
  obtain ⟨P, b, b2, w, q, n, t, h⟩ := h
  obtain ⟨⟨c1, c2, c3⟩, ⟨d1, d2, d3⟩⟩ := h.2.2.1.2.1
  refine sX_feed h0 h1 h2 h3 h4 c1 c2.1 c2.2 (fun hn => sM_feed h0 h1 h2 h3 h4 d1 c2.1 c2.2 (fun _ => ⟨rfl, h.inv⟩) (fun μ2 hn2 => by omega)) (fun μ1 hn f1 e1 v1 => sM_feed h0 h1 h2 h3 h4 (c := n) (by rw [f1 76 1 (by unfold Wfx; omega)]; exact d1) c2.1 c2.2 (fun hn2 => by omega) (fun μ2 _ f2 e2 v2 => ⟨rfl, ?_⟩))
  have f3 : Fr Wtp μ μ2 := (f1.mono (fun i k hh => by unfold Wfx at hh; unfold Wtp; omega)).tr (f2.mono (fun i k hh => by unfold Wfe at hh; unfold Wtp; omega))
  refine (h.tape (n' := n + 20) (t' := fun k => if k < n then t k else fb a0 a1 a2 a3 a4 (k - n)) f3 ⟨?_, by omega, fun k a b => ?_⟩ ⟨e2, by omega, fun k a b => ?_⟩).inv
  · rw [f2 1 1 (by unfold Wfe; omega)]; exact e1
  · by_cases hk : k < n
    · have r1 := c3 k a hk
      show (0 ≤ (if k < n then t k else _) ∧ (if k < n then t k else _) ≤ 255) ∧ μ2 2 k = sb (if k < n then t k else _)
      rw [if_pos hk, f2 2 k (by unfold Wfe; omega), f1 2 k (by unfold Wfx; omega)]
      exact r1
    · show (0 ≤ (if k < n then t k else _) ∧ (if k < n then t k else _) ≤ 255) ∧ μ2 2 k = sb (if k < n then t k else _)
      have v := v1 (k - n) (by omega) (by omega)
      rw [show n + (k - n) = k by omega] at v
      rw [if_neg hk, f2 2 k (by unfold Wfe; omega), v]
      exact ⟨fb_r, rfl⟩
  · by_cases hk : k < n
    · have r1 := d3 k a hk
      show (0 ≤ (if k < n then t k else _) ∧ (if k < n then t k else _) ≤ 255) ∧ μ2 77 k = (if k < n then t k else _)
      rw [if_pos hk, f2 77 k (by unfold Wfe; omega), f1 77 k (by unfold Wfx; omega)]
      exact r1
    · show (0 ≤ (if k < n then t k else _) ∧ (if k < n then t k else _) ≤ 255) ∧ μ2 77 k = (if k < n then t k else _)
      have v := v2 (k - n) (by omega) (by omega)
      rw [show n + (k - n) = k by omega] at v
      rw [if_neg hk, v]
      exact ⟨fb_r, rfl⟩
theorem p_end (h : Inv μ) {a : Int} : Ci E mX_end [jvR 0, jvI a] μ (fun r μ1 => Ci E mM_end [jvR 76, jvI a] μ1 (fun r' μ2 => r = r' ∧ Inv μ2)) := by
  obtain ⟨P, b, b2, w, q, n, t, h⟩ := h
  obtain ⟨⟨c1, c2, c3⟩, ⟨d1, d2, d3⟩⟩ := h.2.2.1.2.1
  refine sX_end (fun g0 g1 => sM_end (fun _ _ => ⟨rfl, ?_⟩) (fun hh => absurd ⟨g0, by rw [up_ne (by decide), d1, ← c1]; exact g1⟩ hh)) (fun hh => sM_end (fun g0 g1 => absurd ⟨g0, by rw [c1, ← d1]; exact g1⟩ hh) (fun _ => ⟨rfl, h.inv⟩))
  rw [c1] at g1
  refine (h.tape (n' := a) (t' := t) ((Fr.up (by unfold Wtp; omega)).put (by unfold Wtp; omega)) ⟨?_, by omega, fun k x y => ?_⟩ ⟨up_eq, by omega, fun k x y => ?_⟩).inv
  · rw [up_ne (by decide), up_eq]
  · rw [up_ne (by decide), up_ne (by decide)]; exact c3 k x (by omega)
  · rw [up_ne (by decide), up_ne (by decide)]; exact d3 k x (by omega)
theorem p_on (h : Inv μ) : Ci E mX_on [jvR 0] μ (fun r μ1 => Ci E mM_on [jvR 76] μ1 (fun r' μ2 => r = r' ∧ Inv μ2)) := by
  obtain ⟨P, b, b2, w, q, n, t, h⟩ := h
  obtain ⟨C, R⟩ := h.2.2.1.2.1
  obtain ⟨d1, d2, d3⟩ := R
  refine sX_on h.1 C (fun hn => ?_) (fun μ1 hn ho f1 X1 e1 e69 => ?_)
  · have q1 : ∀ k, (j_up μ 1 1 0) 77 k = μ 77 k := fun k => up_ne (by decide)
    have e76 : (j_up μ 1 1 0) 76 1 = n := by rw [up_ne (by decide)]; exact d1
    refine sM_on (h.2.1.frl (Fr.up (by decide))) (fun hc j j0 j1 => ?_) (fun μ2 _ f2 e2 => ⟨rfl, ?_⟩) (fun μ2 hc ho f2 e2 R2 => ?_)
    · rw [e76] at hc
      rw [q1, (d3 j j0 (by omega)).2]; exact (d3 j j0 (by omega)).1
    · exact (h.tape (n' := 0) (t' := t) ((Fr.up (by unfold Wtp; omega)).tr (f2.mono (fun i k hh => by unfold Wtp; omega))) (TC.n0 (by rw [f2 1 1 (by omega), up_eq])) (TR.n0 e2)).inv
    · exfalso
      rw [e76] at hc
      rw [q1, q1, q1, q1, (d3 0 (by decide) (by omega)).2, (d3 1 (by decide) (by omega)).2, (d3 2 (by decide) (by omega)).2, (d3 3 (by decide) (by omega)).2] at ho
      rcases hn with hn | hn
      · exact hn hc
      · rw [hn] at ho; cases ho
  · have q1 : ∀ k, μ1 77 k = μ 77 k := fun k => f1 77 k (by unfold WOx Wsw; omega)
    have e76 : μ1 76 1 = n := by rw [f1 76 1 (by unfold WOx Wsw; omega)]; exact d1
    have t0 := (d3 0 (by decide) (by omega)).2
    have t1 := (d3 1 (by decide) (by omega)).2
    have t2 := (d3 2 (by decide) (by omega)).2
    have t3 := (d3 3 (by decide) (by omega)).2
    refine sM_on (h.2.1.frl (f1.mono (fun i k hh => by unfold WOx Wsw at hh; omega))) (fun hc j j0 j1 => ?_) (fun μ2 hc f2 e2 => ?_) (fun μ2 hc ho2 f2 e2 R2 => ⟨rfl, ?_⟩)
    · rw [q1, (d3 j j0 (by omega)).2]; exact (d3 j j0 (by omega)).1
    · exfalso
      rw [e76, q1, q1, q1, q1, t0, t1, t2, t3] at hc
      rcases hc with hc | hc
      · exact hc hn
      · rw [hc] at ho; cases ho
    · rw [q1, q1, q1, t0, t1, t2] at R2
      have f3 : Fr (fun i k => Wsw i k ∨ (i = 74 ∧ k = 0) ∨ (i = 1 ∧ k = 1) ∨ i = 107 ∨ i = 109 ∨ (i = 76 ∧ k = 1)) μ μ2 := (f1.mono (fun i k hh => by unfold WOx at hh; rcases hh with hh | hh | hh; exact Or.inl hh; exact Or.inr (Or.inl hh); exact Or.inr (Or.inr (Or.inl hh)))).tr (f2.mono (fun i k hh => by unfold WOn at hh; exact Or.inr (Or.inr (Or.inr hh))))
      obtain ⟨x, r, ⟨a, b', c, d, e, f, g⟩, l, o, y⟩ := h
      refine ⟨P, b, b2, _, _, 0, t, X1.frh (f2.mono (fun i k hh => by unfold WOn at hh; omega)), R2, ⟨⟨a.1, a.2.1, by rw [f3 0 10 (by unfold Wsw; omega)]; exact a.2.2⟩, ⟨TC.n0 (by rw [f2 1 1 (by unfold WOn; omega)]; exact e1), TR.n0 e2⟩, ⟨by rw [f3 0 11 (by unfold Wsw; omega), f3 76 7 (by unfold Wsw; omega)]; exact c.1, by rw [f3 0 12 (by unfold Wsw; omega), f3 76 8 (by unfold Wsw; omega)]; exact c.2⟩, ⟨by rw [f3 74 1 (by unfold Wsw; omega), f3 76 61 (by unfold Wsw; omega)]; exact d.1, by rw [f3 74 1 (by unfold Wsw; omega)]; exact d.2⟩, e.fr (f3.mono (fun i k hh => by unfold Wsw at hh; omega)), f.fr (f3.mono (fun i k hh => by unfold Wsw at hh; omega)), g.fr (f3.mono (fun i k hh => by unfold Wsw at hh; omega))⟩, l.fr (f3.mono (fun i k hh => by unfold Wsw at hh; omega)), o.fr (f3.mono (fun i k hh => by unfold Wsw at hh; omega)), Or.inl (by rw [f2 69 4 (by unfold WOn; omega)]; exact e69)⟩
/-- the reference: what stands is not touched by what is read -/
theorem RS.fmp (h : RS μ P w q) (hf : Fr Wmp μ μ1) : RS μ1 P w q := by
  have hn := h.wf.n
  obtain ⟨⟨⟨wf, ⟨a1, a2, a3, a4, a5, a6⟩, b, c, d, e, f, g, i, j⟩, k1, k2, k3⟩, e1, e2⟩ := h
  have h87 : ∀ k, 5 ≤ k → μ1 87 k = μ 87 k := fun k hk => hf 87 k (by unfold Wmp Wpq Wps Wru Wr3 Wr2; omega)
  refine ⟨⟨⟨wf, ⟨?_, ?_, ?_, ?_, ?_, fun hs => ?_⟩, fun r x y => ?_, fun s x y => ?_, fun s k x y z u => ?_, fun x y z => ?_, fun x y z => ?_, fun v hv => ?_, fun x y z => ?_, fun kd i' x y z u => ?_⟩, fun s x y => ?_, fun k x y => ?_, ?_⟩, fun r x y => ?_, fun r x y => ?_⟩
  · rw [h87 _ (by decide)]; exact a1
  · rw [h87 _ (by decide)]; exact a2
  · rw [h87 _ (by decide)]; exact a3
  · rw [h87 _ (by decide)]; exact a4
  · rw [h87 _ (by decide)]; exact a5
  · rw [hf 76 33 (by unfold Wmp Wpq Wps Wru Wr3 Wr2; omega)]; exact a6 hs
  · rw [hf 93 _ (by unfold Wmp Wpq Wps Wru Wr3 Wr2; omega)]; exact b r x y
  · rw [hf 94 _ (by unfold Wmp Wpq Wps Wru Wr3 Wr2; omega)]; exact c s x y
  · rw [hf 95 _ (by unfold Wmp Wpq Wps Wru Wr3 Wr2; omega)]; exact d s k x y z u
  · rw [hf 90 _ (by unfold Wmp Wpq Wps Wru Wr3 Wr2; omega)]; exact e x y z
  · rw [hf 89 _ (by unfold Wmp Wpq Wps Wru Wr3 Wr2; omega)]; exact f x y z
  · have hv0 : 0 ≤ v := by
      rcases hv with hh | ⟨r, k, a0, a1, a2, a3, a4⟩
      · omega
      · omega
    rw [hf 91 _ (by unfold Wmp Wpq Wps Wru Wr3 Wr2; omega), hf 92 _ (by unfold Wmp Wpq Wps Wru Wr3 Wr2; omega)]; exact g v hv
  · rw [hf 96 _ (by unfold Wmp Wpq Wps Wru Wr3 Wr2; omega), hf 97 _ (by unfold Wmp Wpq Wps Wru Wr3 Wr2; omega), hf 98 _ (by unfold Wmp Wpq Wps Wru Wr3 Wr2; omega)]; exact i x y z
  · rw [hf 88 _ (by unfold Wmp Wpq Wps Wru Wr3 Wr2; omega)]; exact j kd i' x y z u
  · rw [hf 103 s (by unfold Wmp Wpq Wps Wru Wr3 Wr2; omega), hf 104 s (by unfold Wmp Wpq Wps Wru Wr3 Wr2; omega), hf 106 s (by unfold Wmp Wpq Wps Wru Wr3 Wr2; omega)]; exact k1 s x y
  · rw [hf 105 k (by unfold Wmp Wpq Wps Wru Wr3 Wr2; omega)]; exact k2 k x y
  · rw [hf 76 44 (by unfold Wmp Wpq Wps Wru Wr3 Wr2; omega)]; exact k3
  · rw [hf 107 r (by unfold Wmp Wpq Wps Wru Wr3 Wr2; omega)]; exact e1 r x y
  · rw [hf 109 r (by unfold Wmp Wpq Wps Wru Wr3 Wr2; omega)]; exact e2 r x y
theorem p_proof (h : Inv μ) : Ci E mX_proof [jvR 0] μ (fun r μ1 => Ci E mM_proof [jvR 76] μ1 (fun r' μ2 => r = r' ∧ Inv μ2)) := by
  obtain ⟨P, b, b2, w, q, n, t, h⟩ := h
  obtain ⟨x, r, ⟨a, b', c, d, e, f, g⟩, l, o, y⟩ := h
  refine sX_proof x a.1 a.2.1 a.2.2 b'.1 (fun fl hfl μ1 f1 X1 e1 e2 e3 => ?_) (fun k' P' hok μ1 f1 X1 e10 e1 e2 e3 c1 c2 c3 => ?_)
  · refine sM_proof (n := n) (t := t) (b'.2.fr (f1.mono (fun i k hh => by unfold Wxf at hh; omega))) (f.fr (f1.mono (fun i k hh => by unfold Wxf at hh; omega))) (g.fr (f1.mono (fun i k hh => by unfold Wxf at hh; omega))) (fun fl2 hfl2 μ2 f2 y1 y2 y3 G2 => ⟨rfl, ?_⟩) (fun k2 P2 hok2 => by rw [hfl] at hok2; cases hok2)
    have hff : fl = fl2 := by rw [hfl] at hfl2; cases hfl2; rfl
    have f2' : Fr (fun i k => (i = 76 ∧ k ≠ 61 ∧ k ≠ 63) ∨ (87 ≤ i ∧ i ≤ 101)) μ1 μ2 := f2.mono (fun i k hh => by unfold Wmp Wpq Wps Wru Wr3 Wr2 at hh; omega)
    have f3 : Fr (fun i k => Wxf i k ∨ (i = 76 ∧ k ≠ 61 ∧ k ≠ 63) ∨ (87 ≤ i ∧ i ≤ 101)) μ μ2 := (f1.mono (fun i k hh => Or.inl hh)).tr (f2'.mono (fun i k hh => Or.inr hh))
    refine ⟨P, b, b2, w, q, 0, t, X1.frh (f2'.mono (fun i k hh => by omega)), (r.frl (f1.mono (fun i k hh => by unfold Wxf at hh; omega))).fmp f2, ⟨⟨a.1, a.2.1, by rw [f3 0 10 (by unfold Wxf; omega)]; exact a.2.2⟩, ⟨TC.n0 (by rw [f2' 1 1 (by omega)]; exact e1), TR.n0 y1⟩, ⟨by rw [f2' 0 11 (by omega), e2, y2, hff], by rw [f2' 0 12 (by omega), e3, y3, hff]⟩, ⟨by rw [f3 74 1 (by unfold Wxf; omega), f3 76 61 (by unfold Wxf; omega)]; exact d.1, by rw [f3 74 1 (by unfold Wxf; omega)]; exact d.2⟩, e.fr (f3.mono (fun i k hh => by unfold Wxf at hh; omega)), f.fr (f3.mono (fun i k hh => by unfold Wxf at hh; omega)), G2⟩, l.fr (f3.mono (fun i k hh => by unfold Wxf at hh; omega)), o.fr (f3.mono (fun i k hh => by unfold Wxf at hh; omega)), y.fr (f3.mono (fun i k hh => by unfold Wxf at hh; omega))⟩
  · refine sM_proof (n := n) (t := t) (b'.2.fr (f1.mono (fun i k hh => by unfold Wxp at hh; omega))) (f.fr (f1.mono (fun i k hh => by unfold Wxp at hh; omega))) (g.fr (f1.mono (fun i k hh => by unfold Wxp at hh; omega))) (fun fl2 hfl2 => by rw [hok] at hfl2; cases hfl2) (fun k2 P2 hok2 μ2 f2 y1 y2 y3 R2 G2 => ?_)
    have hkk : k' = k2 ∧ P' = P2 := by rw [hok] at hok2; cases hok2; exact ⟨rfl, rfl⟩
    have f2' : Fr (fun i k => (i = 76 ∧ k ≠ 61 ∧ k ≠ 63) ∨ (87 ≤ i ∧ i ≤ 109)) μ1 μ2 := f2.mono (fun i k hh => by unfold WmP Wst0 WK Wmp Wpq Wps Wru Wr3 Wr2 at hh; omega)
    have f3 : Fr (fun i k => Wxp i k ∨ (i = 76 ∧ k ≠ 61 ∧ k ≠ 63) ∨ (87 ≤ i ∧ i ≤ 109)) μ μ2 := (f1.mono (fun i k hh => Or.inl hh)).tr (f2'.mono (fun i k hh => Or.inr hh))
    refine ⟨hkk.1, goalP P', b2, b, _, _, 0, t, X1.frh (f2'.mono (fun i k hh => by omega)), by rw [hkk.2]; exact R2, ⟨⟨x.ib, fun hh => a.2.1 hh.symm, by rw [f2' 0 10 (by omega)]; exact e10⟩, ⟨TC.n0 (by rw [f2' 1 1 (by omega)]; exact e1), TR.n0 y1⟩, ⟨by rw [f2' 0 11 (by omega), e2, y2], by rw [f2' 0 12 (by omega), e3, y3]⟩, ⟨by rw [f3 74 1 (by unfold Wxp; omega), f3 76 61 (by unfold Wxp; omega)]; exact d.1, by rw [f3 74 1 (by unfold Wxp; omega)]; exact d.2⟩, e.fr (f3.mono (fun i k hh => by unfold Wxp at hh; omega)), f.fr (f3.mono (fun i k hh => by unfold Wxp at hh; omega)), G2⟩, fun hc => absurd (by rw [f2' 63 0 (by omega)]; exact c1) hc, fun hc => absurd (by rw [f2' 64 4 (by omega)]; exact c2) hc, Or.inl (by rw [f2' 69 4 (by omega)]; exact c3)⟩
end
