/-! each question: both answer alike -/
section
variable {E : jE} {μ μ1 : jMu} {Q : Int → jMu → Prop} {n : Int} {t : Int → Int} {P : jP} {b b2 : Nat} {w q : Int → Bool}
theorem p_has (h : Inv μ) {a : Int} : Ci E mX_has [jvR 0, jvI a] μ (fun y1 μ1 => Ci E mM_has [jvR 76, jvI a] μ1 (fun y2 μ2 => y1 = y2 ∧ Inv μ2)) := by
  obtain ⟨P, b, b2, w, q, n, t, h⟩ := h
  exact sX_has h.1 (sM_has h.2.1 (fun μ2 f2 => ⟨rfl, (h.rf f2).inv⟩))
theorem p_letter (h : Inv μ) {kd i kk : Int} : Ci E mX_letter [jvR 0, jvI kd, jvI i, jvI kk] μ (fun y1 μ1 => Ci E mM_letter [jvR 76, jvI kd, jvI i, jvI kk] μ1 (fun y2 μ2 => y1 = y2 ∧ Inv μ2)) := by
  obtain ⟨P, b, b2, w, q, n, t, h⟩ := h
  exact sX_letter h.1 (sM_letter h.2.1.1.1 ⟨rfl, h.inv⟩)
theorem p_rule (h : Inv μ) {r a : Int} : Ci E mX_rule [jvR 0, jvI r, jvI a] μ (fun y1 μ1 => Ci E mM_rule [jvR 76, jvI r, jvI a] μ1 (fun y2 μ2 => y1 = y2 ∧ Inv μ2)) := by
  obtain ⟨P, b, b2, w, q, n, t, h⟩ := h
  exact sX_rule h.1 (sM_rule h.2.1 (fun μ2 f2 => ⟨rfl, (h.rf f2).inv⟩))
theorem p_step (h : Inv μ) {s a : Int} : Ci E mX_step [jvR 0, jvI s, jvI a] μ (fun y1 μ1 => Ci E mM_step [jvR 76, jvI s, jvI a] μ1 (fun y2 μ2 => y1 = y2 ∧ Inv μ2)) := by
  obtain ⟨P, b, b2, w, q, n, t, h⟩ := h
  exact sX_step h.1 (sM_step h.2.1 (fun μ2 f2 => ⟨rfl, (h.rf f2).inv⟩))
theorem p_names (h : Inv μ) {s a : Int} : Ci E mX_names [jvR 0, jvI s, jvI a] μ (fun y1 μ1 => Ci E mM_names [jvR 76, jvI s, jvI a] μ1 (fun y2 μ2 => y1 = y2 ∧ Inv μ2)) := by
  obtain ⟨P, b, b2, w, q, n, t, h⟩ := h
  exact sX_names h.1 (sM_names h.2.1.1.1 ⟨rfl, h.inv⟩)
theorem p_term (h : Inv μ) {s a : Int} : Ci E mX_term [jvR 0, jvI s, jvI a] μ (fun y1 μ1 => Ci E mM_term [jvR 76, jvI s, jvI a] μ1 (fun y2 μ2 => y1 = y2 ∧ Inv μ2)) := by
  obtain ⟨P, b, b2, w, q, n, t, h⟩ := h
  exact sX_term h.1 (sM_term h.2.1.1.1 ⟨rfl, h.inv⟩)
theorem p_wrong (h : Inv μ) : Ci E mX_wrong [jvR 0] μ (fun y1 μ1 => Ci E mM_wrong [jvR 76] μ1 (fun y2 μ2 => y1 = y2 ∧ Inv μ2)) := by
  obtain ⟨P, b, b2, w, q, n, t, h⟩ := h
  exact sX_wrong h.1 (sM_wrong h.2.1.1.1 (fun μ2 f2 => ⟨rfl, (h.rf f2).inv⟩))
theorem p_rest (h : Inv μ) {a : Int} : Ci E mX_rest [jvR 0, jvI a] μ (fun y1 μ1 => Ci E mM_rest [jvR 76, jvI a] μ1 (fun y2 μ2 => y1 = y2 ∧ Inv μ2)) := by
  obtain ⟨P, b, b2, w, q, n, t, h⟩ := h
  exact sX_rest h.1 (sM_rest h.2.1.1 ⟨rfl, h.inv⟩)
theorem p_leans (h : Inv μ) {a i : Int} : Ci E mX_leans [jvR 0, jvI a, jvI i] μ (fun y1 μ1 => Ci E mM_leans [jvR 76, jvI a, jvI i] μ1 (fun y2 μ2 => y1 = y2 ∧ Inv μ2)) := by
  obtain ⟨P, b, b2, w, q, n, t, h⟩ := h
  exact sX_leans h.1 (sM_leans h.2.1.1 ⟨rfl, h.inv⟩)
theorem p_upon (h : Inv μ) {s o : Int} : Ci E mX_upon [jvR 0, jvI s, jvI o] μ (fun y1 μ1 => Ci E mM_upon [jvR 76, jvI s, jvI o] μ1 (fun y2 μ2 => y1 = y2 ∧ Inv μ2)) := by
  obtain ⟨P, b, b2, w, q, n, t, h⟩ := h
  exact sX_upon h.1 (sM_upon h.2.1.1 ⟨rfl, h.inv⟩)
theorem p_depth (h : Inv μ) {s : Int} : Ci E mX_depth [jvR 0, jvI s] μ (fun y1 μ1 => Ci E mM_depth [jvR 76, jvI s] μ1 (fun y2 μ2 => y1 = y2 ∧ Inv μ2)) := by
  obtain ⟨P, b, b2, w, q, n, t, h⟩ := h
  exact sX_depth h.1 (sM_depth h.2.1.1.1 (fun μ2 f2 => ⟨rfl, (h.rf f2).inv⟩))
theorem p_load (h : Inv μ) {s : Int} : Ci E mX_load [jvR 0, jvI s] μ (fun y1 μ1 => Ci E mM_load [jvR 76, jvI s] μ1 (fun y2 μ2 => y1 = y2 ∧ Inv μ2)) := by
  obtain ⟨P, b, b2, w, q, n, t, h⟩ := h
  exact sX_load h.1 (sM_load h.2.1.1 ⟨rfl, h.inv⟩)
theorem p_covers (h : Inv μ) {s : Int} : Ci E mX_covers [jvR 0, jvI s] μ (fun y1 μ1 => Ci E mM_covers [jvR 76, jvI s] μ1 (fun y2 μ2 => y1 = y2 ∧ Inv μ2)) := by
  obtain ⟨P, b, b2, w, q, n, t, h⟩ := h
  exact sX_covers h.1 (sM_covers h.2.1.1.1 (fun μ2 f2 => ⟨rfl, (h.rf f2).inv⟩))
theorem p_vital (h : Inv μ) {s : Int} : Ci E mX_vital [jvR 0, jvI s] μ (fun y1 μ1 => Ci E mM_vital [jvR 76, jvI s] μ1 (fun y2 μ2 => y1 = y2 ∧ Inv μ2)) := by
  obtain ⟨P, b, b2, w, q, n, t, h⟩ := h
  exact sX_vital h.1 (sM_vital h.2.1.1 (fun μ2 f2 => ⟨rfl, (h.rf f2).inv⟩))
theorem p_vitals (h : Inv μ) {a : Int} : Ci E mX_vitals [jvR 0, jvI a] μ (fun y1 μ1 => Ci E mM_vitals [jvR 76, jvI a] μ1 (fun y2 μ2 => y1 = y2 ∧ Inv μ2)) := by
  obtain ⟨P, b, b2, w, q, n, t, h⟩ := h
  exact sX_vitals h.1 (sM_vitals h.2.1.1 (fun μ2 f2 => ⟨rfl, (h.rf f2).inv⟩))
theorem p_run (h : Inv μ) {f m : Int} : Ci E mX_run [jvR 0, jvI f, jvI m] μ (fun y1 μ1 => Ci E mM_run [jvR 76, jvI f, jvI m] μ1 (fun y2 μ2 => y1 = y2 ∧ Inv μ2)) := by
  obtain ⟨P, b, b2, w, q, n, t, h⟩ := h
  exact sX_run h.1 (sM_run h.2.1.1.1 ⟨rfl, h.inv⟩)
theorem p_alike (h : Inv μ) {x y m : Int} : Ci E mX_alike [jvR 0, jvI x, jvI y, jvI m] μ (fun y1 μ1 => Ci E mM_alike [jvR 76, jvI x, jvI y, jvI m] μ1 (fun y2 μ2 => y1 = y2 ∧ Inv μ2)) := by
  obtain ⟨P, b, b2, w, q, n, t, h⟩ := h
  exact sX_alike h.1 (sM_alike h.2.1.1.1 ⟨rfl, h.inv⟩)
theorem p_worth (h : Inv μ) {f m : Int} : Ci E mX_worth [jvR 0, jvI f, jvI m] μ (fun y1 μ1 => Ci E mM_worth [jvR 76, jvI f, jvI m] μ1 (fun y2 μ2 => y1 = y2 ∧ Inv μ2)) := by
  obtain ⟨P, b, b2, w, q, n, t, h⟩ := h
  exact sX_worth h.1 (sM_worth h.2.1.1.1 ⟨rfl, h.inv⟩)
theorem p_held (h : Inv μ) : Ci E mX_held [jvR 0] μ (fun y1 μ1 => Ci E mM_held [jvR 76] μ1 (fun y2 μ2 => y1 = y2 ∧ Inv μ2)) := by
  obtain ⟨P, b, b2, w, q, n, t, h⟩ := h
  exact sX_held h.1 (sM_held h.2.1.1 ⟨rfl, h.inv⟩)
theorem p_stands (h : Inv μ) : Ci E mX_stands [jvR 0] μ (fun y1 μ1 => Ci E mM_stands [jvR 76] μ1 (fun y2 μ2 => y1 = y2 ∧ Inv μ2)) := by
  obtain ⟨P, b, b2, w, q, n, t, h⟩ := h
  exact sX_stands h.1 (sM_stands h.2.1 (fun μ2 f2 => ⟨rfl, (h.rf f2).inv⟩))
theorem p_least (h : Inv μ) {a : Int} : Ci E mX_least [jvR 0, jvI a] μ (fun y1 μ1 => Ci E mM_least [jvR 76, jvI a] μ1 (fun y2 μ2 => y1 = y2 ∧ Inv μ2)) := by
  obtain ⟨P, b, b2, w, q, n, t, h⟩ := h
  exact sX_least h.1 (sM_least h.2.1 ⟨rfl, h.inv⟩)
theorem p_whom (h : Inv μ) : Ci E mX_whom [jvR 0] μ (fun y1 μ1 => Ci E mM_whom [jvR 76] μ1 (fun y2 μ2 => y1 = y2 ∧ Inv μ2)) := by
  obtain ⟨P, b, b2, w, q, n, t, h⟩ := h
  exact sX_whom h.1 (sM_whom h.2.1 ⟨rfl, h.inv⟩)
theorem p_beside (h : Inv μ) {x y a : Int} : Ci E mX_beside [jvR 0, jvI x, jvI y, jvI a] μ (fun y1 μ1 => Ci E mM_beside [jvR 76, jvI x, jvI y, jvI a] μ1 (fun y2 μ2 => y1 = y2 ∧ Inv μ2)) := by
  obtain ⟨P, b, b2, w, q, n, t, h⟩ := h
  refine sX_beside h.1 (fun μ1 f1 => ?_)
  have h1 : IV P b b2 w q n t μ1 := h.xf (f1.mono (fun i k hh => by unfold W59 at hh; omega)) (h.2.2.2.1.fr (f1.mono (fun i k hh => by unfold W59 at hh; omega))) (h.2.2.2.2.1.fr (f1.mono (fun i k hh => by unfold W59 at hh; omega))) (h.2.2.2.2.2.fr (f1.mono (fun i k hh => by unfold W59 at hh; omega)))
  exact sM_beside h1.2.1.1.1 (fun μ2 f2 => ⟨rfl, (h1.rf f2).inv⟩)
theorem p_common (h : Inv μ) {x y a : Int} : Ci E mX_common [jvR 0, jvI x, jvI y, jvI a] μ (fun y1 μ1 => Ci E mM_common [jvR 76, jvI x, jvI y, jvI a] μ1 (fun y2 μ2 => y1 = y2 ∧ Inv μ2)) := by
  obtain ⟨P, b, b2, w, q, n, t, h⟩ := h
  refine sX_common h.1 (fun μ1 f1 => ?_)
  have h1 : IV P b b2 w q n t μ1 := h.xf (f1.mono (fun i k hh => by unfold W59 at hh; omega)) (h.2.2.2.1.fr (f1.mono (fun i k hh => by unfold W59 at hh; omega))) (h.2.2.2.2.1.fr (f1.mono (fun i k hh => by unfold W59 at hh; omega))) (h.2.2.2.2.2.fr (f1.mono (fun i k hh => by unfold W59 at hh; omega)))
  exact sM_common h1.2.1.1.1 (fun μ2 f2 => ⟨rfl, (h1.rf f2).inv⟩)
theorem p_pages (h : Inv μ) {p a : Int} (ha : r32 a) : Ci E mX_pages [jvR 0, jvI p, jvI a] μ (fun y1 μ1 => Ci E mM_pages [jvR 76, jvI p, jvI a] μ1 (fun y2 μ2 => y1 = y2 ∧ Inv μ2)) := by
  obtain ⟨P, b, b2, w, q, n, t, h⟩ := h
  refine sX_pages h.1 ha (fun μ1 f1 => ?_)
  have h1 : IV P b b2 w q n t μ1 := h.xf (f1.mono (fun i k hh => by unfold Wpg at hh; omega)) (h.2.2.2.1.fr (f1.mono (fun i k hh => by unfold Wpg at hh; omega))) (h.2.2.2.2.1.fr (f1.mono (fun i k hh => by unfold Wpg at hh; omega))) (h.2.2.2.2.2.fr (f1.mono (fun i k hh => by unfold Wpg at hh; omega)))
  exact sM_pages h1.2.1.1 ha (fun μ2 f2 => ⟨rfl, (h1.rf f2).inv⟩)
theorem p_lemma (h : Inv μ) {a : Int} : Ci E mX_lemma [jvR 0, jvI a] μ (fun y1 μ1 => Ci E mM_lemma [jvR 76, jvI a] μ1 (fun y2 μ2 => y1 = y2 ∧ Inv μ2)) := by
  obtain ⟨P, b, b2, w, q, n, t, h⟩ := h
  refine sX_lemma h.1 h.2.2.2.1 (fun μ1 f1 L1 => ?_)
  have h1 : IV P b b2 w q n t μ1 := h.xf (f1.mono (fun i k hh => by unfold W63 at hh; omega)) L1 (h.2.2.2.2.1.fr (f1.mono (fun i k hh => by unfold W63 at hh; omega))) (h.2.2.2.2.2.fr (f1.mono (fun i k hh => by unfold W63 at hh; omega)))
  exact sM_lemma h1.2.1.1.1 ⟨rfl, h1.inv⟩
theorem p_order (h : Inv μ) {a : Int} : Ci E mX_order [jvR 0, jvI a] μ (fun y1 μ1 => Ci E mM_order [jvR 76, jvI a] μ1 (fun y2 μ2 => y1 = y2 ∧ Inv μ2)) := by
  obtain ⟨P, b, b2, w, q, n, t, h⟩ := h
  refine sX_order h.1 h.2.2.2.2.1 (fun μ1 f1 O1 => ?_)
  have h1 : IV P b b2 w q n t μ1 := h.xf (f1.mono (fun i k hh => by unfold W64 at hh; omega)) (h.2.2.2.1.fr (f1.mono (fun i k hh => by unfold W64 at hh; omega))) O1 (h.2.2.2.2.2.fr (f1.mono (fun i k hh => by unfold W64 at hh; omega)))
  exact sM_order h1.2.1.1 (fun μ2 f2 => ⟨rfl, (h1.rf f2).inv⟩)
theorem p_fewest (h : Inv μ) {a : Int} : Ci E mX_fewest [jvR 0, jvI a] μ (fun y1 μ1 => Ci E mM_fewest [jvR 76, jvI a] μ1 (fun y2 μ2 => y1 = y2 ∧ Inv μ2)) := by
  obtain ⟨P, b, b2, w, q, n, t, h⟩ := h
  refine sX_fewest h.1 h.2.2.2.2.2 (fun μ1 f1 Y1 => ?_)
  have h1 : IV P b b2 w q n t μ1 := h.xf (f1.mono (fun i k hh => by unfold Wwy at hh; omega)) (h.2.2.2.1.fr (f1.mono (fun i k hh => by unfold Wwy at hh; omega))) (h.2.2.2.2.1.fr (f1.mono (fun i k hh => by unfold Wwy at hh; omega))) Y1
  exact sM_fewest h1.2.1 (fun μ2 f2 => ⟨rfl, (h1.rf f2).inv⟩)
theorem p_fault (h : Inv μ) {a : Int} : Ci E mX_fault [jvR 0, jvI a] μ (fun y1 μ1 => Ci E mM_fault [jvR 76, jvI a] μ1 (fun y2 μ2 => y1 = y2 ∧ Inv μ2)) := by
  obtain ⟨P, b, b2, w, q, n, t, h⟩ := h
  have e := h.2.2.1.2.2.1
  refine sX_fault a (sM_fault a ⟨?_, h.inv⟩)
  rw [e.1, e.2]
theorem p_blame (h : Inv μ) {r x : Int} {v : Bool} (hx : x = b2i v) : Ci E mX_blame [jvR 0, jvI r, jvI x] μ (fun y1 μ1 => Ci E mM_blame [jvR 76, jvI r, jvI x] μ1 (fun y2 μ2 => y1 = y2 ∧ Inv μ2)) := by
  obtain ⟨P, b, b2, w, q, n, t, h⟩ := h
  refine sX_blame h.1 hx (fun μ1 f1 X1 c1 => sM_blame (h.2.1.frl (f1.mono (fun i k hh => by unfold Wsw at hh; omega))) hx (fun μ2 f2 R2 => ⟨rfl, P, b, b2, _, q, n, t, X1.frh (f2.mono (fun i k hh => by unfold WR7 SR at hh; omega)), R2, (h.2.2.1.fr (f1.mono (fun i k hh => by unfold Wsw at hh; unfold NRB; omega))).fr (f2.mono (fun i k hh => by unfold WR7 SR at hh; unfold NRB; omega)), (h.2.2.2.1.fr (f1.mono (fun i k hh => by unfold Wsw at hh; omega))).fr (f2.mono (fun i k hh => by unfold WR7 SR at hh; omega)), (h.2.2.2.2.1.fr (f1.mono (fun i k hh => by unfold Wsw at hh; omega))).fr (f2.mono (fun i k hh => by unfold WR7 SR at hh; omega)), ?_⟩))
  have f2' : Fr (fun i k => ¬ (i = 69 ∧ (k = 4 ∨ k = 5))) μ1 μ2 := f2.mono (fun i k hh => by unfold WR7 SR at hh; omega)
  refine YCa.fr ?_ f2'
  rcases c1 with c1 | ⟨c1, c2⟩
  · exact Or.inl c1
  · rw [c1, c2]; exact h.2.2.2.2.2
theorem p_ask (h : Inv μ) {r x : Int} {v : Bool} (hx : x = b2i v) : Ci E mX_ask [jvR 0, jvI r, jvI x] μ (fun y1 μ1 => Ci E mM_ask [jvR 76, jvI r, jvI x] μ1 (fun y2 μ2 => y1 = y2 ∧ Inv μ2)) := by
  obtain ⟨P, b, b2, w, q, n, t, h⟩ := h
  refine sX_ask h.1 hx (fun μ1 f1 X1 => sM_ask (h.2.1.frl (f1.mono (fun i k hh => by omega))) hx (fun μ2 f2 R2 => ⟨rfl, P, b, b2, w, _, n, t, X1.frh (f2.mono (fun i k hh => by omega)), R2, (h.2.2.1.fr (f1.mono (fun i k hh => by unfold NRB; omega))).fr (f2.mono (fun i k hh => by unfold NRB; omega)), (h.2.2.2.1.fr (f1.mono (fun i k hh => by omega))).fr (f2.mono (fun i k hh => by omega)), (h.2.2.2.2.1.fr (f1.mono (fun i k hh => by omega))).fr (f2.mono (fun i k hh => by omega)), (h.2.2.2.2.2.fr (f1.mono (fun i k hh => by omega))).fr (f2.mono (fun i k hh => by omega))⟩))
/-- both draw alike -/
theorem IV.draw {d : Int} {μ2 : jMu} (h : IV P b b2 w q n t μ) (f1 : Fr W741 μ μ1) (f2 : Fr W61 μ1 μ2) (e1 : μ1 74 1 = d) (e2 : μ2 76 61 = d) (hd : okD d) : IV P b b2 w q n t μ2 := by
  obtain ⟨x, r, ⟨a, b', c, _, e, f, g⟩, l, o, y⟩ := h
  have f3 : Fr (fun i k => (i = 74 ∧ k = 1) ∨ (i = 76 ∧ k = 61)) μ μ2 := (f1.mono (fun i k hh => Or.inl hh)).tr (f2.mono (fun i k hh => Or.inr hh))
  refine ⟨(x.fr741 f1).frh (f2.mono (fun i k hh => by unfold W61 at hh; omega)), (r.frl (f1.mono (fun i k hh => by unfold W741 at hh; omega))).fr61 f2, ⟨⟨a.1, a.2.1, by rw [f3 0 10 (by omega)]; exact a.2.2⟩, ⟨b'.1.fr (f3.mono (fun i k hh => by omega)), b'.2.fr (f3.mono (fun i k hh => by omega))⟩, ⟨by rw [f3 0 11 (by omega), f3 76 7 (by omega)]; exact c.1, by rw [f3 0 12 (by omega), f3 76 8 (by omega)]; exact c.2⟩, ?_, e.fr (f3.mono (fun i k hh => by omega)), f.fr (f3.mono (fun i k hh => by omega)), g.fr (f3.mono (fun i k hh => by omega))⟩, l.fr (f3.mono (fun i k hh => by omega)), o.fr (f3.mono (fun i k hh => by omega)), y.fr (f3.mono (fun i k hh => by omega))⟩
  rw [f2 74 1 (by unfold W61; omega), e1, e2]
  exact ⟨rfl, hd⟩
theorem p_seed (h : Inv μ) {a : Int} (ha : r32 a) : Ci E mX_seed [jvR 0, jvI a] μ (fun y1 μ1 => Ci E mM_seed [jvR 76, jvI a] μ1 (fun y2 μ2 => y1 = y2 ∧ Inv μ2)) := by
  obtain ⟨P, b, b2, w, q, n, t, h⟩ := h
  have ha2 := ha.2
  refine sX_seed (fun c => sM_seed (fun c2 => ⟨rfl, ?_⟩) (fun c2 => by omega)) (fun c => sM_seed (fun c2 => by omega) (fun c2 => ⟨rfl, h.inv⟩))
  exact (h.draw (d := a) (Fr.up ⟨rfl, rfl⟩) (Fr.up ⟨rfl, rfl⟩) up_eq up_eq ⟨c, ha2⟩).inv
theorem p_trials (h : Inv μ) {s m : Int} : Ci E mX_trials [jvR 0, jvI s, jvI m] μ (fun y1 μ1 => Ci E mM_trials [jvR 76, jvI s, jvI m] μ1 (fun y2 μ2 => y1 = y2 ∧ Inv μ2)) := by
  obtain ⟨P, b, b2, w, q, n, t, h⟩ := h
  have e := h.2.2.1.2.2.2.1
  have hd : okD (dTrials P q s m (μ 74 1)) := by
    unfold dTrials
    split
    · exact (trN_ok e.2 _).1
    · exact e.2
  refine sX_trials h.1 rfl e.2 (fun μ1 f1 e1 => sM_trials (d := μ 74 1) (h.2.1.frl (f1.mono (fun i k hh => by unfold W741 at hh; omega))) (by rw [f1 76 61 (by unfold W741; omega)]; exact e.1.symm) e.2 (fun μ2 f2 e2 => ⟨rfl, (h.draw f1 f2 e1 e2 hd).inv⟩))
theorem p_image (h : Inv μ) : Ci E mX_image [jvR 0] μ (fun y1 μ1 => Ci E mM_image [jvR 76] μ1 (fun y2 μ2 => y1 = y2 ∧ Inv μ2)) := by
  obtain ⟨P, b, b2, w, q, n, t, h⟩ := h
  refine sX_image h.1 (fun μ1 f1 a0 a1 a2 a3 a4 => sM_image (w := w) (q := q) (P := P) (h.2.1.frl (f1.mono (fun i k hh => by unfold WIx at hh; omega))) h.1.2.2.2.2.2.1 h.1.2.2.2.2.2.2 (fun μ2 f2 c0 c1 c2 c3 c4 => ⟨rfl, ?_⟩))
  obtain ⟨x, r, ⟨a, b', c, d, e, f, g⟩, l, o, y⟩ := h
  have f3 : Fr (fun i k => i = 75 ∨ (i = 0 ∧ k = 15) ∨ i = 120 ∨ (i = 76 ∧ k = 63)) μ μ2 := (f1.mono (fun i k hh => by unfold WIx at hh; omega)).tr (f2.mono (fun i k hh => by unfold WIm at hh; omega))
  refine ⟨P, b, b2, w, q, n, t, x.fr (f3.mono (fun i k hh => by unfold NXS; omega)), (r.frl (f1.mono (fun i k hh => by unfold WIx at hh; omega))).frI (f2.mono (fun i k hh => Or.inl hh)), ⟨⟨a.1, a.2.1, by rw [f3 0 10 (by omega)]; exact a.2.2⟩, ⟨b'.1.fr (f3.mono (fun i k hh => by omega)), b'.2.fr (f3.mono (fun i k hh => by omega))⟩, ⟨by rw [f3 0 11 (by omega), f3 76 7 (by omega)]; exact c.1, by rw [f3 0 12 (by omega), f3 76 8 (by omega)]; exact c.2⟩, ⟨by rw [f3 74 1 (by omega), f3 76 61 (by omega)]; exact d.1, by rw [f3 74 1 (by omega)]; exact d.2⟩, Or.inr ⟨c4, by rw [f2 0 15 (by unfold WIm; omega)]; exact a4, fun k k0 k1 => ?_⟩, f.fr (f3.mono (fun i k hh => by omega)), g.fr (f3.mono (fun i k hh => by omega))⟩, l.fr (f3.mono (fun i k hh => by omega)), o.fr (f3.mono (fun i k hh => by omega)), y.fr (f3.mono (fun i k hh => by omega))⟩
  rw [f2 75 k (by unfold WIm; omega)]
  have hk : k = 0 ∨ k = 1 ∨ k = 2 ∨ k = 3 := by omega
  rcases hk with rfl | rfl | rfl | rfl
  · rw [a0, c0]
  · rw [a1, c1]
  · rw [a2, c2]
  · rw [a3, c3]
theorem p_octet (h : Inv μ) {a : Int} : Ci E mX_octet [jvR 0, jvI a] μ (fun y1 μ1 => Ci E mM_octet [jvR 76, jvI a] μ1 (fun y2 μ2 => y1 = y2 ∧ Inv μ2)) := by
  obtain ⟨P, b, b2, w, q, n, t, h⟩ := h
  have e := h.2.2.1.2.2.2.2.1
  refine sX_octet (sM_octet ⟨?_, h.inv⟩ (by rcases e with e | e <;> omega))
  rcases e with e | e
  · rw [if_neg (by omega), if_neg (by omega)]
  · by_cases hc : 0 ≤ a ∧ a < 4
    · rw [if_pos ⟨hc.1, hc.2, by omega⟩, if_pos ⟨hc.1, hc.2, e.1⟩]
      exact e.2.2 a hc.1 hc.2
    · rw [if_neg (by omega), if_neg (by omega)]
end
