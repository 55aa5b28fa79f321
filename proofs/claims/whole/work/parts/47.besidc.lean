/-! two terms side by side, the class -/
def NXS (i : Nat) (k : Int) : Prop := i = 14 ∨ i = 33 ∨ (1 ≤ i ∧ i < 7) ∨ (59 ≤ i ∧ i ≠ 74) ∨ (i = 74 ∧ k ≠ 0) ∨ (i = 0 ∧ k ≠ 9 ∧ k ≠ 13 ∧ k ≠ 14)
theorem FC.fr {b : Nat} {μ μ1 : jMu} {P : jP} (h : FC b μ P) (hf : Fr NB μ μ1) (h4 : ∀ (i : Nat) (k : Int), 45 ≤ i → i ≤ 58 → μ1 i k = μ i k) : FC b μ1 P := by
  obtain ⟨a, c, d, ⟨e1, e2, e3, e4, e5⟩, f1, f2, f3, f4⟩ := h
  refine ⟨a.fr hf, ?_, fun s h0 h1 => ?_, ⟨?_, ?_, ?_, ?_, ?_⟩, ?_, fun s h0 h1 => ?_, fun k h0 h1 => ?_, fun k i h0 h1 h2 h3 => ?_⟩
  · rw [h4 _ _ (by omega) (by omega)]; exact c
  · rw [h4 46 _ (by omega) (by omega), h4 47 _ (by omega) (by omega), h4 48 _ (by omega) (by omega), h4 49 _ (by omega) (by omega), h4 50 _ (by omega) (by omega), h4 51 _ (by omega) (by omega)]; exact d s h0 h1
  · rw [h4 _ _ (by omega) (by omega)]; exact e1
  · rw [h4 _ _ (by omega) (by omega)]; exact e2
  · rw [h4 _ _ (by omega) (by omega)]; exact e3
  · rw [h4 _ _ (by omega) (by omega)]; exact e4
  · rw [h4 _ _ (by omega) (by omega)]; exact e5
  · rw [h4 _ _ (by omega) (by omega)]; exact f1
  · rw [h4 _ _ (by omega) (by omega)]; exact f2 s h0 h1
  · rw [h4 53 _ (by omega) (by omega), h4 55 _ (by omega) (by omega), h4 57 _ (by omega) (by omega), h4 58 _ (by omega) (by omega)]; exact f3 k h0 h1
  · rw [h4 _ _ (by omega) (by omega)]; exact f4 k i h0 h1 h2 h3
theorem XS.fr {b : Nat} {μ μ1 : jMu} {P : jP} {w q : Int → Bool} (h : XS b μ P w q) (hf : Fr NXS μ μ1) : XS b μ1 P w q := by
  obtain ⟨a, c, d, e, f, g, i⟩ := h
  refine ⟨a.fr (hf.mono (fun i k hw => by unfold NXS at hw; unfold NB; omega)) (fun i k h1 h2 => hf i k (by unfold NXS; omega)), ?_, ?_, ?_, ?_, g, i⟩
  · rw [hf 0 9 (by unfold NXS; omega)]; exact c
  · rw [hf 0 13 (by unfold NXS; omega)]; exact d
  · rw [hf 0 14 (by unfold NXS; omega)]; exact e
  · rw [hf 74 0 (by unfold NXS; omega)]; exact f
def W59 (i : Nat) (_ : Int) : Prop := 59 ≤ i ∧ i ≤ 62
theorem W59.nb : ∀ i k, W59 i k → NB i k := by
  intro i k h
  unfold W59 at h
  unfold NB
  omega
theorem W59.nx : ∀ i k, W59 i k → NXS i k := by
  intro i k h
  unfold W59 at h
  unfold NXS
  omega
section
variable {E : jE} {μ : jMu} {P : jP} {b : Nat} {Q : Int → jMu → Prop} {Q0 : jMu → Prop}
theorem sBe_holeFor (h : CB b μ P) {s : lyT} (ho : okL P s) (hb : BCm μ s) (h24 : s.2.2.2.2.2 < 24) {x z : Int} (h0 : 0 ≤ x) (h1 : x < nC P) (h2 : 0 ≤ z) (h3 : z < nC P) (kf : hl P s.2.1 s.2.2.1 s.2.2.2.2.2 x z ≠ -1 → Q (hl P s.2.1 s.2.2.1 s.2.2.2.2.2 x z) μ) (kn : hl P s.2.1 s.2.2.1 s.2.2.2.2.2 x z = -1 → Q s.2.2.2.2.2 (j_up (j_up (j_up μ 61 s.2.2.2.2.2 x) 62 s.2.2.2.2.2 z) 59 5 (s.2.2.2.2.2 + 1))) : Ci E mBe_holeFor [jvR 59, jvR ((b + 1 : Nat) : Int), jvI x, jvI z] μ Q := by
  have o1 := ho.1
  refine vBe_holeFor_0 h.1 ?_
  have lp : ∀ l3 : Int, 0 ≤ l3 → l3 ≤ s.2.2.2.2.2 → (∀ j, 0 ≤ j → j < l3 → (sm P (s.2.1 j) x && sm P (s.2.2.1 j) z) = false) → K 121 E mBe_holeFor 3 [some (jvR 59), some (jvR ((b + 1 : Nat) : Int)), some (jvI x), some (jvI z), some (jvI l3)] [] μ (fun v μ1 => ∃ r, v = some (jvI r) ∧ Q r μ1) := by
    refine up_ind s.2.2.2.2.2 _ ?_
    intro l3 ih g0 g1 g3
    refine vBe_holeFor_3 h.1 ?_
    rw [hb.1.2.2]
    refine ⟨fun c => ⟨by omega, _, rfl, ?_⟩, fun c => ⟨by omega, ?_⟩⟩
    · have e : hl P s.2.1 s.2.2.1 s.2.2.2.2.2 x z = -1 := ff_none (fun j a b => g3 j a (by omega))
      rw [show s.2.2.2.2.2 + 1 - 1 = s.2.2.2.2.2 by omega]
      exact kn e
    · have e1 := hb.2.2 l3 g0 (by omega)
      have o2 := ho.2 l3 g0 (by omega)
      have step : (sm P (s.2.1 l3) x && sm P (s.2.2.1 l3) z) = false → K 121 E mBe_holeFor 3 [some (jvR 59), some (jvR ((b + 1 : Nat) : Int)), some (jvI x), some (jvI z), some (jvI (l3 + 1))] [] μ (fun v μ1 => ∃ r, v = some (jvI r) ∧ Q r μ1) := fun hh => ih (by omega) (by omega) (by omega) (fun j a b => by
        by_cases hj : j = l3
        · subst hj; exact hh
        · exact g3 j a (by omega))
      rw [e1.1]
      refine sTe_areSame h o2.1.1 o2.1.2 h0 h1 (fun s1 => ⟨fun c => absurd c (by decide), fun _ => ⟨by omega, ?_⟩⟩) (fun s1 => ⟨fun _ => ⟨by omega, step (by rw [s1, Bool.false_and])⟩, fun c => absurd rfl c⟩)
      rw [e1.2]
      refine sTe_areSame h o2.2.1 o2.2.2 h2 h3 (fun s2 => ⟨fun c => absurd c (by decide), fun _ => ⟨_, rfl, ?_⟩⟩) (fun s2 => ⟨fun _ => ⟨by omega, step (by rw [s2, Bool.and_false])⟩, fun c => absurd rfl c⟩)
      have e : hl P s.2.1 s.2.2.1 s.2.2.2.2.2 x z = l3 := ff_eq g0 (by omega) (by rw [s1, s2]; rfl) (fun j a b => g3 j a (by omega))
      rw [e] at kf
      exact kf (by omega)
  exact lp 0 (by omega) (by omega) (fun j a b => by omega)
theorem lBe_lay {R : lyT → Prop} (h : CB b μ P) {a0 b0 : Int} (ha0 : 0 ≤ a0) (ha1 : a0 < nC P) (hb0 : 0 ≤ b0) (hb1 : b0 < nC P) (h24 : bh P a0 - a0 ≤ 24) (k : ∀ μ1 s, Fr W59 μ μ1 → BCm μ1 s → okL P s → s.2.2.2.1 ≤ 24 → R s → Q0 μ1) : ∀ (n c : Nat) (x z : Int) (s : lyT) (μ0 : jMu), Fr W59 μ μ0 → BCm μ0 s → okL P s → s.2.2.2.1 ≤ x - a0 → (bh P a0 - x).toNat ≤ n → a0 ≤ x → x ≤ bh P a0 → 0 ≤ z → Tc P c x (bh P a0) → Tc P c z (bh P b0) → R (ly P (bh P a0) n x z s) → K 121 E mBe_lay 21 [some (jvR 59), some (jvR ((b + 1 : Nat) : Int)), some (jvI a0), some (jvI b0), some (jvI x), some (jvI z)] [] μ0 (fun v μ1 => v = none ∧ Q0 μ1) := by
  have hn0 := h.n
  have hb7 : ∀ o : Nat, o ≤ 18 → b + o ≠ 59 ∧ b + o ≠ 60 ∧ b + o ≠ 61 ∧ b + o ≠ 62 := fun o ho => by rcases h.1 with hb | hb <;> omega
  intro n
  induction n with
  | zero =>
    rintro c x z s μ0 f hb ho hz hn h1 h2 h3 t1 t2 r
    have hR := h.fr (f.mono W59.nb)
    refine vBe_lay_21 h.1 ⟨fun _ => ⟨rfl, k μ0 s f hb ho (by omega) r⟩, fun c1 => ⟨by omega, ?_⟩⟩
    rw [hR.e6 ha0 ha1]
    exact ⟨fun _ => ⟨rfl, k μ0 s f hb ho (by omega) r⟩, fun c => by omega⟩
  | succ n ih =>
    rintro c x z s μ0 f hb ho hz hn h1 h2 h3 t1 t2 r
    have hR := h.fr (f.mono W59.nb)
    by_cases hea : bh P a0 ≤ x
    · have r' : R s := by
        unfold ly at r
        rw [if_pos hea] at r
        exact r
      refine vBe_lay_21 h.1 ⟨fun _ => ⟨rfl, k μ0 s f hb ho (by omega) r'⟩, fun c1 => ⟨by omega, ?_⟩⟩
      rw [hR.e6 ha0 ha1]
      exact ⟨fun _ => ⟨rfl, k μ0 s f hb ho (by omega) r'⟩, fun c => by omega⟩
    · cases c with
      | zero =>
        have t1 : x = bh P a0 := t1
        omega
      | succ c =>
        obtain ⟨u1, u2, u3⟩ := t1
        obtain ⟨v1, v2, v3⟩ := t2
        obtain ⟨c1, c2, c3, c4⟩ := h.w.c x u1 u2
        obtain ⟨d1, d2, d3, d4⟩ := h.w.c z v1 v2
        have o1 := ho.1
        have hle := Tc_le h.w.c _ _ _ u3
        have hle2 := Tc_le h.w.c _ _ _ v3
        unfold ly at r
        rw [if_neg hea] at r
        refine vBe_lay_21 h.1 ?_
        rw [hb.1.1]
        refine ⟨fun c => by omega, fun _ => ⟨by omega, ?_⟩⟩
        rw [hR.e6 ha0 ha1, hR.e6 hb0 hb1]
        refine ⟨fun c => by omega, fun _ => ⟨by omega, fun c => by omega, fun _ => ⟨by omega, ?_⟩⟩⟩
        rw [hR.e5 u1 u2, hR.e5 v1 v2]
        refine ⟨fun q => ?_, fun q => ⟨by omega, ?_⟩⟩
        · rw [if_neg q] at r
          have tail : ∀ (v : Int) (μ6 : jMu), Fr W59 μ μ6 → μ6 59 4 = s.2.2.2.2.1 → μ6 59 3 = s.2.2.2.1 → (0 ≤ v ∧ v ≤ 24) → (∀ j, 0 ≤ j → j < s.2.2.2.1 → μ6 60 j = s.1 j) → (∀ μ7, Fr W59 μ μ7 → μ7 59 3 = s.2.2.2.1 + 1 → μ7 59 4 = s.2.2.2.2.1 + 1 → μ7 59 5 = μ6 59 5 → (∀ j, 0 ≤ j → j < s.2.2.2.1 → μ7 60 j = s.1 j) → μ7 60 s.2.2.2.1 = 200 + v → (∀ j, μ7 61 j = μ6 61 j ∧ μ7 62 j = μ6 62 j) → BCm μ7 (lyN P s x z)) →
              ((-2147483648 ≤ (200 + v) ∧ (200 + v) < 2147483648) ∧ (0 ≤ s.2.2.2.1 ∧ s.2.2.2.1 < 24) ∧ (-2147483648 ≤ ((μ6 59 4) + 1) ∧ ((μ6 59 4) + 1) < 2147483648) ∧ (0 ≤ x ∧ x < 400) ∧ (0 ≤ z ∧ z < 400) ∧ (-2147483648 ≤ ((μ6 59 3) + 1) ∧ ((μ6 59 3) + 1) < 2147483648)) ∧ (K 121 E mBe_lay 21 [some (jvR 59), some (jvR ((b + 1 : Nat) : Int)), some (jvI a0), some (jvI b0), some (jvI ((j_up (j_up μ6 60 s.2.2.2.1 (200 + v)) 59 4 ((μ6 59 4) + 1)) (b + 6) x)), some (jvI ((j_up (j_up μ6 60 s.2.2.2.1 (200 + v)) 59 4 ((μ6 59 4) + 1)) (b + 6) z))] [] (j_up (j_up (j_up μ6 60 s.2.2.2.1 (200 + v)) 59 4 ((μ6 59 4) + 1)) 59 3 ((μ6 59 3) + 1)) (fun v μ1 => v = none ∧ Q0 μ1)) := by
            intro v μ6 f6 x1 x2 x3 x4 x5
            refine ⟨by omega, ?_⟩
            have h66 := hb7 6 (by omega)
            rw [up_ne (by omega), up_ne (by omega), up_ne (by omega), up_ne (by omega), (h.fr (f6.mono W59.nb)).e6 u1 u2, (h.fr (f6.mono W59.nb)).e6 v1 v2, x1, x2]
            have f7 : Fr W59 μ (j_up (j_up (j_up μ6 60 s.2.2.2.1 (200 + v)) 59 4 (s.2.2.2.2.1 + 1)) 59 3 (s.2.2.2.1 + 1)) := ((f6.put (by unfold W59; omega)).put (by unfold W59; omega)).put (by unfold W59; omega)
            refine ih c (bh P x) (bh P z) (lyN P s x z) _ f7 ?_ (okL_N ho ⟨u1, u2⟩ ⟨v1, v2⟩) ?_ (by omega) (by omega) (by omega) (by omega) u3 v3 r
            · refine x5 _ f7 up_eq ?_ ?_ (fun j j0 j1 => ?_) ?_ (fun j => ?_)
              · rw [up_nk (by decide), up_eq]
              · rw [up_nk (by decide), up_nk (by decide), up_ne (by decide)]
              · rw [up_ne (by decide), up_ne (by decide), up_nk (by omega)]; exact x4 j j0 j1
              · rw [up_ne (by decide), up_ne (by decide), up_eq]
              · rw [up_ne (by decide), up_ne (by decide), up_ne (by decide), up_ne (by decide), up_ne (by decide), up_ne (by decide)]; exact ⟨rfl, rfl⟩
            · rw [lyN_z]; omega
          refine sBe_holeFor hR ho hb (by omega) u1 u2 v1 v2 (fun hf => ?_) (fun hf => ?_)
          · have hr : 0 ≤ hl P s.2.1 s.2.2.1 s.2.2.2.2.2 x z ∧ hl P s.2.1 s.2.2.1 s.2.2.2.2.2 x z < s.2.2.2.2.2 := by
              rcases ff_cases (fun k => sm P (s.2.1 k) x && sm P (s.2.2.1 k) z) s.2.2.2.2.2 with ⟨g1, g2⟩ | ⟨g1, g2, g3, g4⟩
              · exact absurd g1 hf
              · exact ⟨g1, g2⟩
            refine tail _ μ0 f hb.1.2.1 hb.1.1 (by omega) hb.2.1 (fun μ7 f7 y1 y2 y3 y4 y5 y6 => ?_)
            unfold lyN
            rw [if_neg hf]
            refine ⟨⟨y1, y2, by rw [y3]; exact hb.1.2.2⟩, fun j j0 j1 => ?_, fun j j0 j1 => ?_⟩
            · have j1 : j < s.2.2.2.1 + 1 := j1
              show μ7 60 j = hup s.1 s.2.2.2.1 _ j
              unfold hup
              split
              · rename_i e; rw [e]; exact y5
              · exact y4 j j0 (by omega)
            · rw [(y6 j).1, (y6 j).2]; exact hb.2.2 j j0 j1
          · refine tail _ _ (((f.put (by unfold W59; omega)).put (by unfold W59; omega)).put (by unfold W59; omega)) ?_ ?_ (by omega) (fun j j0 j1 => ?_) (fun μ7 f7 y1 y2 y3 y4 y5 y6 => ?_)
            · rw [up_nk (by decide), up_ne (by decide), up_ne (by decide)]; exact hb.1.2.1
            · rw [up_nk (by decide), up_ne (by decide), up_ne (by decide)]; exact hb.1.1
            · rw [up_ne (by decide), up_ne (by decide), up_ne (by decide)]; exact hb.2.1 j j0 j1
            · unfold lyN
              rw [if_pos hf]
              refine ⟨⟨y1, y2, by rw [y3, up_eq]⟩, fun j j0 j1 => ?_, fun j j0 j1 => ?_⟩
              · have j1 : j < s.2.2.2.1 + 1 := j1
                show μ7 60 j = hup s.1 s.2.2.2.1 _ j
                unfold hup
                split
                · rename_i e; rw [e]; exact y5
                · exact y4 j j0 (by omega)
              · have j1 : j < s.2.2.2.2.2 + 1 := j1
                rw [(y6 j).1, (y6 j).2, up_ne (by decide), up_ne (by decide), up_if, up_ne (by decide), up_if]
                show _ = hup s.2.1 s.2.2.2.2.2 x j ∧ _ = hup s.2.2.1 s.2.2.2.2.2 z j
                unfold hup
                by_cases hj : j = s.2.2.2.2.2
                · rw [if_pos hj, if_pos hj, if_pos hj, if_pos hj]; exact ⟨rfl, rfl⟩
                · rw [if_neg hj, if_neg hj, if_neg hj, if_neg hj, up_ne (by decide)]; exact hb.2.2 j j0 (by omega)
        · rw [if_pos q] at r
          have hst : ∃ c', Tc P c' (x + 1) (bh P a0) ∧ Tc P c' (z + 1) (bh P b0) := by
            by_cases hs : sy P x < 100
            · have w1 := c3 hs
              have w2 := d3 (by omega)
              rw [← q] at w2
              exact ⟨_, Tc_app _ _ _ _ _ w1.2.2.2.2 u3, Tc_app _ _ _ _ _ w2.2.2.2.2 v3⟩
            · have w1 := c4 (by omega)
              have w2 := d4 (by omega)
              rw [w1.2] at u3
              rw [w2.2] at v3
              exact ⟨_, u3, v3⟩
          obtain ⟨c', x1, x2⟩ := hst
          refine ih c' (x + 1) (z + 1) (lyE P s x) _ ((f.put (by unfold W59; omega)).put (by unfold W59; omega)) ?_ (okL_E ho) (by show s.2.2.2.1 + 1 ≤ _; omega) (by omega) (by omega) (by omega) (by omega) x1 x2 r
          refine ⟨⟨up_eq, ?_, ?_⟩, fun j j0 j1 => ?_, fun j j0 j1 => ?_⟩
          · rw [up_nk (by decide), up_ne (by decide)]; exact hb.1.2.1
          · rw [up_nk (by decide), up_ne (by decide)]; exact hb.1.2.2
          · have j1 : j < s.2.2.2.1 + 1 := j1
            show _ = hup s.1 s.2.2.2.1 (sy P x) j
            rw [up_ne (by decide), up_if]
            unfold hup
            split
            · rfl
            · exact hb.2.1 j j0 (by omega)
          · rw [up_ne (by decide), up_ne (by decide), up_ne (by decide), up_ne (by decide)]; exact hb.2.2 j j0 j1
theorem sBe_lay (h : CB b μ P) {x z : Int} (h0 : 0 ≤ x) (h1 : x < nC P) (h2 : 0 ≤ z) (h3 : z < nC P) (h24 : bh P x - x ≤ 24) (k : ∀ μ1, Fr W59 μ μ1 → BCm μ1 (lay P x z) → okL P (lay P x z) → (lay P x z).2.2.2.1 ≤ 24 → Q0 μ1) : Cv E mBe_lay [jvR 59, jvR ((b + 1 : Nat) : Int), jvI x, jvI z] μ Q0 := by
  have c1 := h.w.c _ h0 h1
  have f0 : Fr W59 μ (j_up (j_up (j_up μ 59 3 0) 59 4 0) 59 5 0) := ((Fr.rf.put (by unfold W59; omega)).put (by unfold W59; omega)).put (by unfold W59; omega)
  refine vBe_lay_0 h.1 ?_
  refine lBe_lay (R := fun s => s = lay P x z) h h0 h1 h2 h3 h24 (fun μ1 s g1 g2 g3 g4 g5 => k μ1 g1 (g5 ▸ g2) (g5 ▸ g3) (g5 ▸ g4)) (bh P x - x).toNat 1 x z ly0 _ f0 ?_ ?_ (by show (0 : Int) ≤ _; omega) (by omega) (by omega) (by omega) h2 ⟨h0, h1, rfl⟩ ⟨h2, h3, rfl⟩ rfl
  · refine ⟨⟨?_, ?_, up_eq⟩, fun j j0 j1 => ?_, fun j j0 j1 => ?_⟩
    · rw [up_nk (by decide), up_nk (by decide), up_eq]; rfl
    · rw [up_nk (by decide), up_eq]; rfl
    · have j1 : j < 0 := j1
      omega
    · have j1 : j < 0 := j1
      omega
  · refine ⟨⟨Int.le_refl 0, Int.le_refl 0, Int.le_refl 0, Int.le_refl 0, Int.le_refl 0⟩, fun j j0 j1 => ?_⟩
    have j1 : j < 0 := j1
    omega
theorem sX_beside {w q : Int → Bool} (h : XS b μ P w q) {s1 s2 a : Int} (k : ∀ μ1, Fr W59 μ μ1 → Q (vBeside P s1 s2 a) μ1) : Ci E mX_beside [jvR 0, jvI s1, jvI s2, jvI a] μ Q := by
  have hn := h.n
  unfold vBeside at k
  refine vX_beside_0 h.ib ⟨h.2.1, sBk_hasStep h.c (fun h0 h1 => ⟨fun c => absurd c (by decide), fun _ => ⟨h.2.1, sBk_hasStep h.c (fun h2 h3 => ⟨fun _ => ⟨⟨h.2.1, h.2.1, by omega, h.2.1, by omega⟩, ?_⟩, fun c => absurd c (by decide)⟩) (fun h2 => ⟨fun c => absurd rfl c, fun _ => ⟨_, rfl, ?_⟩⟩)⟩⟩) (fun h0 => ⟨fun _ => ⟨_, rfl, ?_⟩, fun c => absurd rfl c⟩)⟩
  · rw [if_pos (by omega)] at k
    have t1 := h.wf.t (inW_s h0 h1)
    have t2 := h.wf.t (inW_s h2 h3)
    rw [h.c.e13 h0 h1, h.c.e13 h2 h3]
    refine sBe_lay h.c t1.1 t1.2.1 t2.1 t2.2.1 t1.2.2 (fun μ1 f1 b1 _ _ => ⟨fun c => ⟨_, rfl, ?_⟩, fun c => ⟨_, rfl, ?_⟩, fun c => ⟨_, rfl, ?_⟩, fun c => ⟨_, rfl, ?_⟩⟩)
    · rw [if_pos c] at k; rw [b1.1.1]; exact k μ1 f1
    · rw [if_neg (by omega), if_pos c] at k; rw [b1.1.2.1]; exact k μ1 f1
    · rw [if_neg (by omega), if_neg (by omega), if_pos c] at k; rw [b1.1.2.2]; exact k μ1 f1
    · rw [if_neg (by omega), if_neg (by omega), if_neg (by omega)] at k; exact k μ1 f1
  · rw [if_neg (by omega)] at k; exact k μ Fr.rf
  · rw [if_neg (by omega)] at k; exact k μ Fr.rf
theorem sX_common {w q : Int → Bool} (h : XS b μ P w q) {s1 s2 a : Int} (k : ∀ μ1, Fr W59 μ μ1 → Q (vCommon P s1 s2 a) μ1) : Ci E mX_common [jvR 0, jvI s1, jvI s2, jvI a] μ Q := by
  have hn := h.n
  unfold vCommon at k
  refine vX_common_0 h.ib ⟨h.2.1, sBk_hasStep h.c (fun h0 h1 => ⟨fun c => absurd c (by decide), fun _ => ⟨h.2.1, sBk_hasStep h.c (fun h2 h3 => ⟨fun c => absurd c (by decide), fun _ => ⟨fun c => ⟨⟨h.2.1, h.2.1, by omega, h.2.1, by omega⟩, ?_⟩, fun c => ⟨_, rfl, ?_⟩⟩⟩) (fun h2 => ⟨fun _ => ⟨_, rfl, ?_⟩, fun c => absurd rfl c⟩)⟩⟩) (fun h0 => ⟨fun _ => ⟨_, rfl, ?_⟩, fun c => absurd rfl c⟩)⟩
  · have t1 := h.wf.t (inW_s h0 h1)
    have t2 := h.wf.t (inW_s h2 h3)
    rw [h.c.e13 h0 h1, h.c.e13 h2 h3]
    refine sBe_lay h.c t1.1 t1.2.1 t2.1 t2.2.1 t1.2.2 (fun μ1 f1 b1 o1 z1 => ?_)
    rw [b1.1.1]
    refine ⟨fun c2 => ⟨_, rfl, ?_⟩, fun c2 => ⟨by omega, _, rfl, ?_⟩⟩
    · rw [if_neg (by omega)] at k; exact k μ1 f1
    · rw [if_pos (by omega)] at k; rw [b1.2.1 a (by omega) (by omega)]; exact k μ1 f1
  · rw [if_neg (by omega)] at k; exact k μ Fr.rf
  · rw [if_neg (by omega)] at k; exact k μ Fr.rf
  · rw [if_neg (by omega)] at k; exact k μ Fr.rf
end
