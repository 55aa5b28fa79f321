/-! two terms side by side -/
abbrev lyT : Type := (Int → Int) × (Int → Int) × (Int → Int) × Int × Int × Int
def hl (P : jP) (pA pB : Int → Int) (n a b : Int) : Int := ff (fun k => sm P (pA k) a && sm P (pB k) b) n
def lyE (P : jP) (s : lyT) (a : Int) : lyT := (hup s.1 s.2.2.2.1 (sy P a), s.2.1, s.2.2.1, s.2.2.2.1 + 1, s.2.2.2.2.1, s.2.2.2.2.2)
def lyN (P : jP) (s : lyT) (a b : Int) : lyT := if hl P s.2.1 s.2.2.1 s.2.2.2.2.2 a b = -1 then (hup s.1 s.2.2.2.1 (200 + s.2.2.2.2.2), hup s.2.1 s.2.2.2.2.2 a, hup s.2.2.1 s.2.2.2.2.2 b, s.2.2.2.1 + 1, s.2.2.2.2.1 + 1, s.2.2.2.2.2 + 1) else (hup s.1 s.2.2.2.1 (200 + hl P s.2.1 s.2.2.1 s.2.2.2.2.2 a b), s.2.1, s.2.2.1, s.2.2.2.1 + 1, s.2.2.2.2.1 + 1, s.2.2.2.2.2)
def ly (P : jP) (ea : Int) : Nat → Int → Int → lyT → lyT
  | 0, _, _, s => s
  | n + 1, a, b, s => if ea ≤ a then s else if sy P a = sy P b then ly P ea n (a + 1) (b + 1) (lyE P s a) else ly P ea n (bh P a) (bh P b) (lyN P s a b)
def ly0 : lyT := (fun _ => 0, fun _ => 0, fun _ => 0, 0, 0, 0)
def lay (P : jP) (a b : Int) : lyT := ly P (bh P a) (bh P a - a).toNat a b ly0
def okL (P : jP) (s : lyT) : Prop := (0 ≤ s.2.2.2.1 ∧ 0 ≤ s.2.2.2.2.1 ∧ s.2.2.2.2.1 ≤ s.2.2.2.1 ∧ 0 ≤ s.2.2.2.2.2 ∧ s.2.2.2.2.2 ≤ s.2.2.2.1) ∧ ∀ k, 0 ≤ k → k < s.2.2.2.2.2 → (0 ≤ s.2.1 k ∧ s.2.1 k < nC P) ∧ (0 ≤ s.2.2.1 k ∧ s.2.2.1 k < nC P)
def BRm (μ : jMu) (s : lyT) : Prop := (μ 76 51 = s.2.2.2.1 ∧ μ 76 55 = s.2.2.2.2.1 ∧ μ 76 54 = s.2.2.2.2.2) ∧ (∀ k, 0 ≤ k → k < s.2.2.2.1 → μ 112 k = s.1 k) ∧ ∀ k, 0 ≤ k → k < s.2.2.2.2.2 → μ 113 k = 400 + s.2.1 k ∧ μ 114 k = 400 + s.2.2.1 k
def BCm (μ : jMu) (s : lyT) : Prop := (μ 59 3 = s.2.2.2.1 ∧ μ 59 4 = s.2.2.2.2.1 ∧ μ 59 5 = s.2.2.2.2.2) ∧ (∀ k, 0 ≤ k → k < s.2.2.2.1 → μ 60 k = s.1 k) ∧ ∀ k, 0 ≤ k → k < s.2.2.2.2.2 → μ 61 k = s.2.1 k ∧ μ 62 k = s.2.2.1 k
theorem okL_E {P : jP} {s : lyT} {a : Int} (h : okL P s) : okL P (lyE P s a) := ⟨⟨by have := h.1; show 0 ≤ s.2.2.2.1 + 1; omega, h.1.2.1, by have := h.1; show s.2.2.2.2.1 ≤ s.2.2.2.1 + 1; omega, h.1.2.2.2.1, by have := h.1; show s.2.2.2.2.2 ≤ s.2.2.2.1 + 1; omega⟩, h.2⟩
theorem okL_N {P : jP} {s : lyT} {a b : Int} (h : okL P s) (ha : 0 ≤ a ∧ a < nC P) (hb : 0 ≤ b ∧ b < nC P) : okL P (lyN P s a b) := by
  have h1 := h.1
  unfold lyN
  split
  · refine ⟨⟨?_, ?_, ?_, ?_, ?_⟩, fun k k0 k1 => ?_⟩
    · show 0 ≤ s.2.2.2.1 + 1; omega
    · show 0 ≤ s.2.2.2.2.1 + 1; omega
    · show s.2.2.2.2.1 + 1 ≤ s.2.2.2.1 + 1; omega
    · show 0 ≤ s.2.2.2.2.2 + 1; omega
    · show s.2.2.2.2.2 + 1 ≤ s.2.2.2.1 + 1; omega
    · have k1 : k < s.2.2.2.2.2 + 1 := k1
      show (0 ≤ hup s.2.1 s.2.2.2.2.2 a k ∧ hup s.2.1 s.2.2.2.2.2 a k < nC P) ∧ (0 ≤ hup s.2.2.1 s.2.2.2.2.2 b k ∧ hup s.2.2.1 s.2.2.2.2.2 b k < nC P)
      unfold hup
      by_cases hk : k = s.2.2.2.2.2
      · rw [if_pos hk, if_pos hk]; exact ⟨ha, hb⟩
      · rw [if_neg hk, if_neg hk]; exact h.2 k k0 (by omega)
  · refine ⟨⟨?_, ?_, ?_, ?_, ?_⟩, h.2⟩
    · show 0 ≤ s.2.2.2.1 + 1; omega
    · show 0 ≤ s.2.2.2.2.1 + 1; omega
    · show s.2.2.2.2.1 + 1 ≤ s.2.2.2.1 + 1; omega
    · exact h1.2.2.2.1
    · show s.2.2.2.2.2 ≤ s.2.2.2.1 + 1; omega
theorem lyN_z {P : jP} {s : lyT} {a b : Int} : (lyN P s a b).2.2.2.1 = s.2.2.2.1 + 1 := by
  unfold lyN
  split <;> rfl
section
variable {E : jE} {μ : jMu} {P : jP} {Q : Int → jMu → Prop} {Q0 : jMu → Prop}
theorem sM_pairOf (h : RR μ P) {s : lyT} (ho : okL P s) (hb : BRm μ s) (h24 : s.2.2.2.2.2 < 24) {a b x z : Int} (ha : a = 400 + x) (hz : b = 400 + z) (h0 : 0 ≤ x) (h1 : x < nC P) (h2 : 0 ≤ z) (h3 : z < nC P) (kf : hl P s.2.1 s.2.2.1 s.2.2.2.2.2 x z ≠ -1 → Q (hl P s.2.1 s.2.2.1 s.2.2.2.2.2 x z) μ) (kn : hl P s.2.1 s.2.2.1 s.2.2.2.2.2 x z = -1 → Q s.2.2.2.2.2 (j_up (j_up (j_up μ 113 s.2.2.2.2.2 a) 114 s.2.2.2.2.2 b) 76 54 (s.2.2.2.2.2 + 1))) : Ci E mM_pairOf [jvR 76, jvI a, jvI b] μ Q := by
  have o1 := ho.1
  refine vM_pairOf_0 ?_
  have lp : ∀ l3 : Int, 0 ≤ l3 → l3 ≤ s.2.2.2.2.2 → (∀ j, 0 ≤ j → j < l3 → (sm P (s.2.1 j) x && sm P (s.2.2.1 j) z) = false) → K 121 E mM_pairOf 2 [some (jvR 76), some (jvI a), some (jvI b), some (jvI l3)] [] μ (fun v μ1 => ∃ r, v = some (jvI r) ∧ Q r μ1) := by
    refine up_ind s.2.2.2.2.2 _ ?_
    intro l3 ih g0 g1 g3
    refine vM_pairOf_2 ?_
    rw [hb.1.2.2]
    refine ⟨fun c => ⟨fun _ => ⟨by omega, _, rfl, ?_⟩, fun c2 => absurd c c2⟩, fun c => ⟨by omega, ?_⟩⟩
    · have e : hl P s.2.1 s.2.2.1 s.2.2.2.2.2 x z = -1 := ff_none (fun j a b => g3 j a (by omega))
      rw [show l3 = s.2.2.2.2.2 by omega]
      exact kn e
    · have e1 := hb.2.2 l3 g0 (by omega)
      have o2 := ho.2 l3 g0 (by omega)
      have step : (sm P (s.2.1 l3) x && sm P (s.2.2.1 l3) z) = false → K 121 E mM_pairOf 2 [some (jvR 76), some (jvI a), some (jvI b), some (jvI (l3 + 1))] [] μ (fun v μ1 => ∃ r, v = some (jvI r) ∧ Q r μ1) := fun hh => ih (by omega) (by omega) (by omega) (fun j a b => by
        by_cases hj : j = l3
        · subst hj; exact hh
        · exact g3 j a (by omega))
      rw [e1.1]
      refine sM_areSame h rfl ha o2.1.1 o2.1.2 h0 h1 (fun s1 => ⟨fun c => absurd c (by decide), fun _ => ⟨by omega, ?_⟩⟩) (fun s1 => ⟨fun _ => ⟨by omega, step (by rw [s1, Bool.false_and])⟩, fun c => absurd rfl c⟩)
      rw [e1.2]
      refine sM_areSame h rfl hz o2.2.1 o2.2.2 h2 h3 (fun s2 => ⟨fun _ => ?_, fun c => absurd c (by decide)⟩) (fun s2 => ⟨fun c => absurd rfl c, fun _ => ⟨by omega, step (by rw [s2, Bool.and_false])⟩⟩)
      rw [hb.1.2.2]
      refine ⟨fun c2 => absurd c2 c, fun _ => ⟨_, rfl, ?_⟩⟩
      have e : hl P s.2.1 s.2.2.1 s.2.2.2.2.2 x z = l3 := ff_eq g0 (by omega) (by rw [s1, s2]; rfl) (fun j a b => g3 j a (by omega))
      rw [e] at kf
      exact kf (by omega)
  exact lp 0 (by omega) (by omega) (fun j a b => by omega)
theorem lM_lays {R : lyT → Prop} (h : RR μ P) {a0 e0 : Int} (ha0 : 0 ≤ a0) (he : e0 ≤ nC P) (h24 : e0 - a0 ≤ 24) (k : ∀ μ1 s, Fr SR μ μ1 → BRm μ1 s → okL P s → s.2.2.2.1 ≤ 24 → R s → Q0 μ1) : ∀ (n c : Nat) (a b eb l1 l2 l3 l4 : Int) (s : lyT) (μ0 : jMu), Fr SR μ μ0 → BRm μ0 s → okL P s → s.2.2.2.1 ≤ a - a0 → (e0 - a).toNat ≤ n → a0 ≤ a → a ≤ e0 → 0 ≤ b → Tc P c a e0 → Tc P c b eb → l3 = 400 + a → l4 = 400 + b → R (ly P e0 n a b s) → K 121 E mM_laysBeside 46 [some (jvR 76), some (jvI l1), some (jvI l2), some (jvI l3), some (jvI l4), some (jvI (400 + e0))] [] μ0 (fun v μ1 => v = none ∧ Q0 μ1) := by
  intro n
  induction n with
  | zero =>
    rintro c a b eb l1 l2 l3 l4 s μ0 f hb ho hz hn h1 h2 h3 t1 t2 rfl rfl r
    exact vM_laysBeside_46 ⟨fun _ => ⟨rfl, k μ0 s f hb ho (by omega) r⟩, fun c => by omega⟩
  | succ n ih =>
    rintro c a b eb l1 l2 l3 l4 s μ0 f hb ho hz hn h1 h2 h3 t1 t2 rfl rfl r
    have hn0 := h.n
    by_cases hea : e0 ≤ a
    · refine vM_laysBeside_46 ⟨fun _ => ⟨rfl, k μ0 s f hb ho (by omega) ?_⟩, fun c => by omega⟩
      unfold ly at r
      rw [if_pos hea] at r
      exact r
    · cases c with
      | zero =>
        have t1 : a = e0 := t1
        omega
      | succ c =>
        obtain ⟨u1, u2, u3⟩ := t1
        obtain ⟨v1, v2, v3⟩ := t2
        obtain ⟨c1, c2, c3, c4⟩ := h.1.c a u1 u2
        obtain ⟨d1, d2, d3, d4⟩ := h.1.c b v1 v2
        have hR := h.fr f
        have o1 := ho.1
        have hle := Tc_le h.1.c _ _ _ u3
        unfold ly at r
        rw [if_neg hea] at r
        refine vM_laysBeside_46 ⟨fun c => by omega, fun _ => ⟨by omega, ?_⟩⟩
        rw [hR.e90 u1 u2, hR.e90 v1 v2, hb.1.1]
        refine ⟨fun q => ?_, fun q => ⟨by omega, ?_⟩⟩
        · rw [if_neg q] at r
          have tail : ∀ (v : Int) (μ6 : jMu), Fr SR μ μ6 → μ6 76 55 = s.2.2.2.2.1 → μ6 76 51 = s.2.2.2.1 → (0 ≤ v ∧ v ≤ 24) → (∀ j, 0 ≤ j → j < s.2.2.2.1 → μ6 112 j = s.1 j) → (BRm μ6 s → False ∨ True) → (∀ μ7, Fr SR μ μ7 → μ7 76 51 = s.2.2.2.1 + 1 → μ7 76 55 = s.2.2.2.2.1 + 1 → μ7 76 54 = μ6 76 54 → (∀ j, 0 ≤ j → j < s.2.2.2.1 → μ7 112 j = s.1 j) → μ7 112 s.2.2.2.1 = 200 + v → (∀ j, μ7 113 j = μ6 113 j ∧ μ7 114 j = μ6 114 j) → BRm μ7 (lyN P s a b)) →
              ((-2147483648 ≤ (200 + v) ∧ (200 + v) < 2147483648) ∧ (0 ≤ s.2.2.2.1 ∧ s.2.2.2.1 < 24) ∧ (-2147483648 ≤ ((μ6 76 55) + 1) ∧ ((μ6 76 55) + 1) < 2147483648)) ∧ (Ci E mM_partLong [jvR 76, jvI (400 + a)] (j_up (j_up μ6 112 s.2.2.2.1 (200 + v)) 76 55 ((μ6 76 55) + 1)) (fun r13 μ10 => ((-2147483648 ≤ (400 + a + r13) ∧ (400 + a + r13) < 2147483648)) ∧ (Ci E mM_partLong [jvR 76, jvI (400 + b)] μ10 (fun r17 μ14 => ((-2147483648 ≤ (400 + b + r17) ∧ (400 + b + r17) < 2147483648) ∧ (-2147483648 ≤ ((μ14 76 51) + 1) ∧ ((μ14 76 51) + 1) < 2147483648)) ∧ (K 121 E mM_laysBeside 46 [some (jvR 76), some (jvI l1), some (jvI l2), some (jvI (400 + a + r13)), some (jvI (400 + b + r17)), some (jvI (400 + e0))] [] (j_up μ14 76 51 ((μ14 76 51) + 1)) (fun v μ1 => v = none ∧ Q0 μ1)))))) := by
            intro v μ6 f6 x1 x2 x3 x4 _ x5
            refine ⟨by omega, ?_⟩
            have f7 : Fr SR μ (j_up (j_up μ6 112 s.2.2.2.1 (200 + v)) 76 55 ((μ6 76 55) + 1)) := (f6.put (Or.inr (Or.inr (Or.inl (by omega))))).put (Or.inr (Or.inr (Or.inr ⟨rfl, by omega⟩)))
            refine sM_partLong (h.fr f7) rfl u1 u2 ⟨by omega, sM_partLong (h.fr f7) rfl v1 v2 ?_⟩
            rw [up_nk (by decide), up_ne (by decide), x2, x1]
            refine ⟨by omega, ih c (bh P a) (bh P b) eb l1 l2 _ _ (lyN P s a b) _ ?_ ?_ (okL_N ho ⟨u1, u2⟩ ⟨v1, v2⟩) ?_ (by omega) (by omega) (by omega) (by omega) u3 v3 (by omega) (by omega) r⟩
            · rw [x1] at f7
              exact f7.put (Or.inr (Or.inr (Or.inr ⟨rfl, by omega⟩)))
            · rw [x1] at f7
              refine x5 _ (f7.put (Or.inr (Or.inr (Or.inr ⟨rfl, by omega⟩)))) up_eq ?_ ?_ (fun j j0 j1 => ?_) ?_ (fun j => ?_)
              · rw [up_nk (by decide), up_eq]
              · rw [up_nk (by decide), up_nk (by decide), up_ne (by decide)]
              · rw [up_ne (by decide), up_ne (by decide), up_nk (by omega)]; exact x4 j j0 j1
              · rw [up_ne (by decide), up_ne (by decide), up_eq]
              · rw [up_ne (by decide), up_ne (by decide), up_ne (by decide), up_ne (by decide), up_ne (by decide), up_ne (by decide)]; exact ⟨rfl, rfl⟩
            · rw [lyN_z]; omega
          refine sM_pairOf hR ho hb (by omega) rfl rfl u1 u2 v1 v2 (fun hf => ?_) (fun hf => ?_)
          · have hr : 0 ≤ hl P s.2.1 s.2.2.1 s.2.2.2.2.2 a b ∧ hl P s.2.1 s.2.2.1 s.2.2.2.2.2 a b < s.2.2.2.2.2 := by
              rcases ff_cases (fun k => sm P (s.2.1 k) a && sm P (s.2.2.1 k) b) s.2.2.2.2.2 with ⟨g1, g2⟩ | ⟨g1, g2, g3, g4⟩
              · exact absurd g1 hf
              · exact ⟨g1, g2⟩
            refine tail _ μ0 f hb.1.2.1 hb.1.1 (by omega) hb.2.1 (fun _ => Or.inr trivial) (fun μ7 f7 y1 y2 y3 y4 y5 y6 => ?_)
            unfold lyN
            rw [if_neg hf]
            refine ⟨⟨y1, y2, by rw [y3]; exact hb.1.2.2⟩, fun j j0 j1 => ?_, fun j j0 j1 => ?_⟩
            · have j1 : j < s.2.2.2.1 + 1 := j1
              show μ7 112 j = hup s.1 s.2.2.2.1 _ j
              unfold hup
              split
              · rename_i e; rw [e]; exact y5
              · exact y4 j j0 (by omega)
            · rw [(y6 j).1, (y6 j).2]; exact hb.2.2 j j0 j1
          · refine tail _ _ (((f.put (Or.inr (Or.inr (Or.inl (by omega))))).put (Or.inr (Or.inr (Or.inl (by omega))))).put (Or.inr (Or.inr (Or.inr ⟨rfl, by omega⟩)))) ?_ ?_ (by omega) (fun j j0 j1 => ?_) (fun _ => Or.inr trivial) (fun μ7 f7 y1 y2 y3 y4 y5 y6 => ?_)
            · rw [up_nk (by decide), up_ne (by decide), up_ne (by decide)]; exact hb.1.2.1
            · rw [up_nk (by decide), up_ne (by decide), up_ne (by decide)]; exact hb.1.1
            · rw [up_ne (by decide), up_ne (by decide), up_ne (by decide)]; exact hb.2.1 j j0 j1
            · unfold lyN
              rw [if_pos hf]
              refine ⟨⟨y1, y2, by rw [y3, up_eq]⟩, fun j j0 j1 => ?_, fun j j0 j1 => ?_⟩
              · have j1 : j < s.2.2.2.1 + 1 := j1
                show μ7 112 j = hup s.1 s.2.2.2.1 _ j
                unfold hup
                split
                · rename_i e; rw [e]; exact y5
                · exact y4 j j0 (by omega)
              · have j1 : j < s.2.2.2.2.2 + 1 := j1
                rw [(y6 j).1, (y6 j).2, up_ne (by decide), up_ne (by decide), up_if, up_ne (by decide), up_if]
                show _ = 400 + hup s.2.1 s.2.2.2.2.2 a j ∧ _ = 400 + hup s.2.2.1 s.2.2.2.2.2 b j
                unfold hup
                by_cases hj : j = s.2.2.2.2.2
                · rw [if_pos hj, if_pos hj, if_pos hj, if_pos hj]; exact ⟨rfl, rfl⟩
                · rw [if_neg hj, if_neg hj, if_neg hj, if_neg hj, up_ne (by decide)]; exact hb.2.2 j j0 (by omega)
        · rw [if_pos q] at r
          -- the same sign or hole on both sides
          have hst : ∃ c', Tc P c' (a + 1) e0 ∧ Tc P c' (b + 1) eb := by
            by_cases hs : sy P a < 100
            · have w1 := c3 hs
              have w2 := d3 (by omega)
              rw [← q] at w2
              exact ⟨_, Tc_app _ _ _ _ _ w1.2.2.2.2 u3, Tc_app _ _ _ _ _ w2.2.2.2.2 v3⟩
            · have w1 := c4 (by omega)
              have w2 := d4 (by omega)
              rw [w1.2] at u3
              rw [w2.2] at v3
              exact ⟨_, u3, v3⟩
          obtain ⟨c', x1, x2⟩ := hst
          refine ih c' (a + 1) (b + 1) eb l1 l2 _ _ (lyE P s a) _ ((f.put (Or.inr (Or.inr (Or.inl (by omega))))).put (Or.inr (Or.inr (Or.inr ⟨rfl, by omega⟩)))) ?_ (okL_E ho) (by show s.2.2.2.1 + 1 ≤ _; omega) (by omega) (by omega) (by omega) (by omega) x1 x2 (by omega) (by omega) r
          refine ⟨⟨up_eq, ?_, ?_⟩, fun j j0 j1 => ?_, fun j j0 j1 => ?_⟩
          · rw [up_nk (by decide), up_ne (by decide)]; exact hb.1.2.1
          · rw [up_nk (by decide), up_ne (by decide)]; exact hb.1.2.2
          · have j1 : j < s.2.2.2.1 + 1 := j1
            show _ = hup s.1 s.2.2.2.1 (sy P a) j
            rw [up_ne (by decide), up_if]
            unfold hup
            split
            · rfl
            · exact hb.2.1 j j0 (by omega)
          · rw [up_ne (by decide), up_ne (by decide), up_ne (by decide), up_ne (by decide)]; exact hb.2.2 j j0 j1
theorem sM_laysBeside (h : RR μ P) {s1 s2 : Int} (h0 : 0 ≤ s1) (h1 : s1 < nS P) (h2 : 0 ≤ s2) (h3 : s2 < nS P) (k : ∀ μ1, Fr SR μ μ1 → BRm μ1 (lay P (tf P (48 + s1)) (tf P (48 + s2))) → okL P (lay P (tf P (48 + s1)) (tf P (48 + s2))) → (lay P (tf P (48 + s1)) (tf P (48 + s2))).2.2.2.1 ≤ 24 → Q0 μ1) : Cv E mM_laysBeside [jvR 76, jvI s1, jvI s2] μ Q0 := by
  have hn := h.n
  have t1 := h.1.t (inW_s h0 h1)
  have t2 := h.1.t (inW_s h2 h3)
  have c1 := h.1.c _ t1.1 t1.2.1
  have c2 := h.1.c _ t2.1 t2.2.1
  have t11 := t1.1
  have t12 := t1.2.2
  have f0 : Fr SR μ (j_up (j_up (j_up μ 76 51 0) 76 54 0) 76 55 0) := ((Fr.rf.put (Or.inr (Or.inr (Or.inr ⟨rfl, by omega⟩)))).put (Or.inr (Or.inr (Or.inr ⟨rfl, by omega⟩)))).put (Or.inr (Or.inr (Or.inr ⟨rfl, by omega⟩)))
  refine vM_laysBeside_0 ⟨by omega, sM_fromOf h (inW_s h0 h1) ⟨by omega, sM_fromOf h (inW_s h2 h3) ⟨by omega, sM_longOf h (inW_s h0 h1) ⟨by omega, ?_⟩⟩⟩⟩
  rw [show 400 + tf P (48 + s1) + (bh P (tf P (48 + s1)) - tf P (48 + s1)) = 400 + bh P (tf P (48 + s1)) by omega]
  refine lM_lays (R := fun s => s = lay P (tf P (48 + s1)) (tf P (48 + s2))) h (a0 := tf P (48 + s1)) (e0 := bh P (tf P (48 + s1))) t1.1 c1.2.1 t1.2.2 (fun μ1 s g1 g2 g3 g4 g5 => k μ1 g1 (g5 ▸ g2) (g5 ▸ g3) (g5 ▸ g4)) (bh P (tf P (48 + s1)) - tf P (48 + s1)).toNat 1 (tf P (48 + s1)) (tf P (48 + s2)) (bh P (tf P (48 + s2))) _ _ _ _ ly0 _ f0 ?_ ?_ (by show (0 : Int) ≤ _; omega) (by omega) (by omega) (by omega) t2.1 ⟨t1.1, t1.2.1, rfl⟩ ⟨t2.1, t2.2.1, rfl⟩ rfl rfl rfl
  · refine ⟨⟨?_, up_eq, ?_⟩, fun j j0 j1 => ?_, fun j j0 j1 => ?_⟩
    · rw [up_nk (by decide), up_nk (by decide), up_eq]; rfl
    · rw [up_nk (by decide), up_eq]; rfl
    · have j1 : j < 0 := j1
      omega
    · have j1 : j < 0 := j1
      omega
  · refine ⟨⟨Int.le_refl 0, Int.le_refl 0, Int.le_refl 0, Int.le_refl 0, Int.le_refl 0⟩, fun j j0 j1 => ?_⟩
    have j1 : j < 0 := j1
    omega
end
def vBeside (P : jP) (s1 s2 a : Int) : Int := if (0 ≤ s1 ∧ s1 < nS P) ∧ (0 ≤ s2 ∧ s2 < nS P) then (if a = 0 then (lay P (tf P (48 + s1)) (tf P (48 + s2))).2.2.2.1 else if a = 1 then (lay P (tf P (48 + s1)) (tf P (48 + s2))).2.2.2.2.1 else if a = 2 then (lay P (tf P (48 + s1)) (tf P (48 + s2))).2.2.2.2.2 else -1) else -1
def vCommon (P : jP) (s1 s2 a : Int) : Int := if (0 ≤ s1 ∧ s1 < nS P) ∧ (0 ≤ s2 ∧ s2 < nS P) ∧ (0 ≤ a ∧ a < (lay P (tf P (48 + s1)) (tf P (48 + s2))).2.2.2.1) then (lay P (tf P (48 + s1)) (tf P (48 + s2))).1 a else -1
section
variable {E : jE} {μ : jMu} {P : jP} {Q : Int → jMu → Prop} {Q0 : jMu → Prop}
theorem sM_beside (h : RR μ P) {s1 s2 a : Int} (k : ∀ μ1, Fr SR μ μ1 → Q (vBeside P s1 s2 a) μ1) : Ci E mM_beside [jvR 76, jvI s1, jvI s2, jvI a] μ Q := by
  unfold vBeside at k
  refine vM_beside_0 (sM_isStep h (fun h0 h1 => ⟨fun c => absurd c (by decide), fun _ => sM_isStep h (fun h2 h3 => ⟨fun c => absurd c (by decide), fun _ => sM_isIn (fun a1 a2 => ⟨fun _ => ?_, fun c => absurd c (by decide)⟩) (fun a1 => ⟨fun c => absurd rfl c, fun _ => ⟨_, rfl, ?_⟩⟩)⟩) (fun h2 => ⟨fun _ => ⟨_, rfl, ?_⟩, fun c => absurd rfl c⟩)⟩) (fun h0 => ⟨fun _ => ⟨_, rfl, ?_⟩, fun c => absurd rfl c⟩))
  · rw [if_pos (by omega)] at k
    refine sM_laysBeside h h0 h1 h2 h3 (fun μ1 f1 b1 _ _ => ⟨fun c => ⟨fun c2 => ⟨_, rfl, ?_⟩, fun c2 => ⟨_, rfl, ?_⟩⟩, fun c => ⟨_, rfl, ?_⟩⟩)
    · rw [if_neg c, if_neg c2, if_pos (by omega)] at k
      rw [b1.1.2.2]; exact k μ1 f1
    · rw [if_neg c, if_pos c2] at k
      rw [b1.1.2.1]; exact k μ1 f1
    · rw [if_pos c] at k
      rw [b1.1.1]; exact k μ1 f1
  · by_cases hh : (0 ≤ s1 ∧ s1 < nS P) ∧ (0 ≤ s2 ∧ s2 < nS P)
    · rw [if_pos hh, if_neg (by omega), if_neg (by omega), if_neg (by omega)] at k; exact k μ Fr.rf
    · rw [if_neg hh] at k; exact k μ Fr.rf
  · rw [if_neg (by omega)] at k; exact k μ Fr.rf
  · rw [if_neg (by omega)] at k; exact k μ Fr.rf
theorem sM_common (h : RR μ P) {s1 s2 a : Int} (k : ∀ μ1, Fr SR μ μ1 → Q (vCommon P s1 s2 a) μ1) : Ci E mM_common [jvR 76, jvI s1, jvI s2, jvI a] μ Q := by
  unfold vCommon at k
  refine vM_common_0 (sM_isStep h (fun h0 h1 => ⟨fun c => absurd c (by decide), fun _ => sM_isStep h (fun h2 h3 => ⟨fun _ => ?_, fun c => absurd c (by decide)⟩) (fun h2 => ⟨fun c => absurd rfl c, fun _ => ⟨_, rfl, ?_⟩⟩)⟩) (fun h0 => ⟨fun _ => ⟨_, rfl, ?_⟩, fun c => absurd rfl c⟩))
  · refine sM_laysBeside h h0 h1 h2 h3 (fun μ1 f1 b1 o1 z1 => ?_)
    have := o1.1
    rw [b1.1.1]
    refine ⟨by omega, sM_isIn (fun a1 a2 => ⟨fun c => absurd c (by decide), fun _ => ⟨by omega, _, rfl, ?_⟩⟩) (fun a1 => ⟨fun _ => ⟨_, rfl, ?_⟩, fun c => absurd rfl c⟩)⟩
    · rw [if_pos (by omega)] at k
      rw [b1.2.1 a a1 (by omega)]; exact k μ1 f1
    · rw [if_neg (by omega)] at k; exact k μ1 f1
  · rw [if_neg (by omega)] at k; exact k μ Fr.rf
  · rw [if_neg (by omega)] at k; exact k μ Fr.rf
end
