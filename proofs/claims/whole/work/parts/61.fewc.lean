/-! the fewest: the class -/
def Wwy (i : Nat) (k : Int) : Prop := (70 ≤ i ∧ i ≤ 73) ∨ (i = 69 ∧ (k = 4 ∨ k = 5))
def Ww7 (i : Nat) (_ : Int) : Prop := 70 ≤ i ∧ i ≤ 73
theorem Ww7.wy : ∀ i k, Ww7 i k → Wwy i k := fun i k h => Or.inl h
theorem up_up {μ : jMu} {i : Nat} {k x y : Int} : j_up (j_up μ i k x) i k y = j_up μ i k y := by
  funext j l
  unfold j_up
  split
  · rfl
  · rfl
section
variable {E : jE} {μ μ1 : jMu} {P : jP} {w q : Int → Bool} {Q : Int → jMu → Prop} {Q0 : jMu → Prop} {b : Nat}
theorem XS.frwy (h : XS b μ P w q) (hf : Fr Wwy μ μ1) : XS b μ1 P w q := h.fr (hf.mono (fun i k hh => by unfold Wwy at hh; unfold NXS; omega))
theorem XS.frw7 (h : XS b μ P w q) (hf : Fr Ww7 μ μ1) : XS b μ1 P w q := h.frwy (hf.mono Ww7.wy)
theorem nxt_d {f s : Int} (h0 : 0 ≤ s) (h1 : s < nS P) : nxt P w f (s - 1) = if okw P w f s = true then s else nxt P w f s := by
  split
  · rename_i hh
    exact ff_eq h0 h1 (by rw [decide_eq_true (by omega), hh]; rfl) (fun j a b => by rw [decide_eq_false (by omega), Bool.false_and])
  · rename_i hh
    refine ff_congr (fun j a b => ?_)
    by_cases hj : j = s
    · rw [hj, Bool.eq_false_iff.mpr hh, Bool.and_false, Bool.and_false]
    · by_cases hl : s < j
      · rw [decide_eq_true hl, decide_eq_true (show s - 1 < j by omega)]
      · rw [decide_eq_false hl, decide_eq_false (show ¬ s - 1 < j by omega)]
def TkC (μ : jMu) (P : jP) (p : Int → Int) : Prop := ∀ f, 0 ≤ f → f < nS P → μ 72 f = p f
def StC (μ : jMu) (P : jP) (w : Int → Bool) : Prop := (∀ f, 0 ≤ f → f < nS P → μ 70 f = nxt P w f (-1)) ∧ (∀ s, 0 ≤ s → s < nS P → w (ru P s) = false → μ 73 s = nxt P w (fs P s) s)
theorem sWy_lineUp (h : XS b μ P w q) {x : Int} (hx : x = bs w 12) (k : ∀ μ1, Fr Ww7 μ μ1 → StC μ1 P w → TkC μ1 P (p0 P w) → Q (tw_ P w) μ1) : Ci E mWy_lineUp [jvR 69, jvR 45, jvI x] μ Q := by
  have hn := h.n
  subst hx
  refine vWy_lineUp_0 h.ib ⟨h.1.2.1, sAr_fill (fi := 70) (wl := 40) rfl (by decide) (by decide) (fun μ1 f1 z1 => sAr_fill (fi := 71) (wl := 40) rfl (by decide) (by decide) (fun μ2 f2 z2 => ?_))⟩
  have f2' : Fr Ww7 μ μ2 := (f1.mono (fun i k hh => by unfold Ww7; omega)).tr (f2.mono (fun i k hh => by unfold Ww7; omega))
  rw [(h.frw7 f2').c.e0.2.1]
  have lp2 : ∀ (l5 : Int) (μ0 : jMu), 0 ≤ l5 → l5 ≤ nS P → Fr Ww7 μ μ0 → StC μ0 P w → (∀ f, 0 ≤ f → f < nS P → μ0 71 f = own P w f) → (∀ f, 0 ≤ f → f < l5 → μ0 72 f = p0 P w f) → K 121 E mWy_lineUp 103 [some (jvR 69), some (jvR 45), some (jvI (bs w 12)), some (jvR ((b : Nat) : Int)), some (jvI (prN P w l5.toNat)), some (jvI l5), none] [] μ0 (fun v μ1 => ∃ r, v = some (jvI r) ∧ Q r μ1) := by
    refine up_ind (nS P) _ ?_
    intro l5 ih μ0 g0 g1 g2 g3 g4 g5
    refine vWy_lineUp_103 h.ib ?_
    rw [(h.frw7 g2).c.e0.2.1]
    refine ⟨fun c => ⟨_, rfl, ?_⟩, fun c => ?_⟩
    · rw [show l5 = nS P by omega, tw_pr h.wf]
      exact k μ0 g2 g3 (fun f a b => g5 f a (by omega))
    · rw [g4 l5 g0 (by omega), g3.1 l5 g0 (by omega), ← prN_s g0]
      have hr := prN_r h.wf (w := w) (n := (l5 + 1).toNat) (by omega)
      refine ⟨by omega, ih (by omega) _ (by omega) (by omega) (g2.put (show Ww7 72 _ by unfold Ww7; omega)) ?_ (fun f a b => ?_) (fun f a b => ?_)⟩
      · refine ⟨fun f a b => ?_, fun s a b c => ?_⟩
        · rw [up_ne (by decide)]; exact g3.1 f a b
        · rw [up_ne (by decide)]; exact g3.2 s a b c
      · rw [up_ne (by decide)]; exact g4 f a b
      · rw [up_if]
        split
        · rename_i e; rw [e]; rfl
        · exact g5 f a (by omega)
  have lp : ∀ (l5 : Int) (μ0 : jMu), -1 ≤ l5 → l5 < nS P → Fr Ww7 μ μ0 → (∀ f, 0 ≤ f → f < nS P → μ0 70 f = nxt P w f l5 ∧ μ0 71 f = own P w f - cnt (okw P w f) (l5 + 1)) → (∀ s, l5 < s → s < nS P → w (ru P s) = false → μ0 73 s = nxt P w (fs P s) s) → K 121 E mWy_lineUp 32 [some (jvR 69), some (jvR 45), some (jvI (bs w 12)), some (jvR ((b : Nat) : Int)), some (jvI 1), some (jvI l5), none] [] μ0 (fun v μ1 => ∃ r, v = some (jvI r) ∧ Q r μ1) := by
    refine down_ind _ ?_
    intro l5 ih μ0 g0 g1 g2 g3 g4
    have hX := h.frw7 g2
    refine vWy_lineUp_32 h.ib ⟨fun c => ?_, fun c => ⟨by omega, ?_⟩⟩
    · refine lp2 0 μ0 (by omega) (by omega) g2 ⟨fun f a b => ?_, fun s a b c2 => g4 s (by omega) b c2⟩ (fun f a b => ?_) (fun f a b => by omega)
      · rw [(g3 f a b).1, show l5 = -1 by omega]
      · rw [(g3 f a b).2, show l5 + 1 = 0 by omega]
        show own P w f - 0 = _
        omega
    · have hs := h.wf.s l5 (by omega) g1
      have hf := fs_r P (show 0 ≤ l5 by omega)
      rw [hX.c.e12 (by omega) g1, bs_in32 hs.1 (by omega) (by omega), decide_eq_true (show ru P l5 < 12 by omega), Bool.true_and, (hX.1.e (by omega) g1).1]
      have hd : ∀ f, nxt P w f (l5 - 1) = if okw P w f l5 = true then l5 else nxt P w f l5 := fun f => nxt_d (by omega) g1
      have hcs : ∀ f, cnt (okw P w f) (l5 + 1) = cnt (okw P w f) l5 + b2i (okw P w f l5) := fun f => cnt_s _ (by omega)
      refine ⟨fun c2 => ⟨by omega, ih (by omega) μ0 (by omega) (by omega) g2 (fun f a b => ?_) (fun s a b c3 => ?_)⟩, fun c2 => ?_⟩
      · have hk : okw P w f l5 = false := by unfold okw; rw [b2i_b c2, Bool.not_true, Bool.and_false]
        have h1 := hcs f
        rw [hk, b2i_f] at h1
        rw [hd f, hk, if_neg (by decide), (g3 f a b).1, (g3 f a b).2, show l5 - 1 + 1 = l5 by omega]
        exact ⟨rfl, by omega⟩
      · by_cases hj : s = l5
        · rw [hj, b2i_b c2] at c3; cases c3
        · exact g4 s (by omega) b c3
      · have hw0 := b2i_b0 c2
        have hk : ∀ f, okw P w f l5 = (fs P l5 == f) := fun f => by unfold okw; rw [hw0, Bool.not_false, Bool.and_true]
        have h3 := g3 _ hf.1 (show fs P l5 < nS P by omega)
        have hol := own_r h.wf (w := w) (f := fs P l5)
        have hcl := cnt_le (okw P w (fs P l5)) (show 0 ≤ l5 + 1 by omega)
        refine ⟨by omega, ih (by omega) _ (by omega) (by omega) (((g2.put (show Ww7 73 _ by unfold Ww7; omega)).put (show Ww7 70 _ by unfold Ww7; omega)).put (show Ww7 71 _ by unfold Ww7; omega)) (fun f a b => ?_) (fun s a b c3 => ?_)⟩
        · rw [up_ne (by decide), up_if, up_ne (by decide), up_if, up_ne (by decide), up_ne (by decide), hd f, hk f, show l5 - 1 + 1 = l5 by omega]
          have h1 := hcs f
          rw [hk f] at h1
          have h2 := g3 f a b
          by_cases hj : f = fs P l5
          · rw [if_pos hj, if_pos hj, beq_iff_eq.mpr hj.symm, if_pos rfl]
            rw [beq_iff_eq.mpr hj.symm, b2i_t] at h1
            rw [← hj]
            exact ⟨rfl, by omega⟩
          · rw [if_neg hj, if_neg hj, beq_eq_false_iff_ne.mpr (fun e => hj e.symm), if_neg (by decide)]
            rw [beq_eq_false_iff_ne.mpr (fun e => hj e.symm), b2i_f] at h1
            exact ⟨h2.1, by omega⟩
        · rw [up_ne (by decide), up_ne (by decide), up_if]
          split
          · rename_i e; rw [e]; exact h3.1
          · exact g4 s (by omega) b c3
  refine ⟨by omega, lp (nS P - 1) μ2 (by omega) (by omega) f2' (fun f a b => ⟨?_, ?_⟩) (fun s a b _ => by omega)⟩
  · rw [f2 70 f (by omega), z1 f a (by omega)]
    exact (ff_none (fun j x y => by rw [decide_eq_false (by omega), Bool.false_and])).symm
  · rw [z2 f a (by omega), show nS P - 1 + 1 = nS P by omega]
    show 0 = cnt (okw P w f) (nS P) - cnt (okw P w f) (nS P)
    omega
theorem hud_top {p : Int → Int} (h1 : p (fs P (gl P)) < nS P) : ∀ n : Nat, p (fs P (gl P)) ≤ nS P - 1 - n → hud P p (nS P - 1 - n) = some (fun j => j == p (fs P (gl P)))
  | 0, _ => by
    unfold hud
    rw [show (nS P - 1 - (nS P - 1 - ((0 : Nat) : Int))).toNat = 0 by omega]
    rfl
  | n + 1, h => by
    have ih := hud_top h1 n (by omega)
    have := hud_s (P := P) (p := p) (s := nS P - 1 - n) (by omega)
    rw [ih] at this
    rw [show nS P - 1 - ((n + 1 : Nat) : Int) = nS P - 1 - n - 1 by omega, this]
    show (if (nS P - 1 - (n : Int) == p (fs P (gl P))) = true then _ else _) = _
    rw [if_neg (by rw [beq_iff_eq]; omega)]
theorem inN_sub {p : Int → Int} {s : Int} {S : Int → Bool} {j : Int} (hj : S j = true) : ∀ (k : Nat) (T : Int → Bool), inN P p s S k = some T → T j = true
  | 0, T, h => by
    have : S = T := Option.some.inj h
    rw [← this]; exact hj
  | k + 1, T, h => by
    unfold inN at h
    cases hk : inN P p s S k with
    | none => rw [hk] at h; cases h
    | some U =>
      rw [hk] at h
      have ih := inN_sub hj k U hk
      by_cases hb : p (fs P (nm P s k)) = -1 ∨ s ≤ p (fs P (nm P s k))
      · simp only [hb, if_true] at h; cases h
      · simp only [hb, if_false] at h
        have := Option.some.inj h
        rw [← this]
        show (U j || _) = true
        rw [ih, Bool.true_or]
theorem sWy_setOf (h : XS b μ P w q) (hn0 : 0 < nS P) {p : Int → Int} (hp : okP P w p) (ht : TkC μ P p) (k : Q (su P p) μ) : Cl E mWy_setOf [jvR 69, jvR 45] μ Q := by
  have hn := h.n
  have hg := h.wf.g.1 hn0
  have hfg := fs_r P hg.1
  unfold su at k
  refine vWy_setOf_0 h.ib ?_
  rw [h.c.e0.2.2.2.1, (h.1.e hg.1 hg.2).1, ht _ hfg.1 (by omega)]
  have hpg := okP1_r (hp _ hfg.1 (by omega))
  refine ⟨⟨h.1.2.1, by omega⟩, fun c => ?_, fun c => ⟨_, rfl, by rw [if_pos c] at k; exact k⟩⟩
  rw [if_neg c] at k
  refine sX_bit (show 0 ≤ p (fs P (gl P)) by omega) (show p (fs P (gl P)) < 40 by omega) ?_
  have hfail : ∀ s, s < nS P → -1 ≤ s → hud P p s = none → Q 0 μ := by
    intro s hs hs2 hh
    have := hud_none (s + 1).toNat s hs hh
    rw [show s - (((s + 1).toNat : Nat) : Int) = -1 by omega] at this
    rw [this] at k
    exact k
  generalize et : p (fs P (gl P)) = top at *
  have lp : ∀ (l3 : Int) (S : Int → Bool), -1 ≤ l3 → l3 < nS P → hud P p l3 = some S → K 121 E mWy_setOf 36 [some (jvR 69), some (jvR 45), some (jvR ((b : Nat) : Int)), some (jvI top), some (jvL (bs S 40)), none, some (jvI l3), none, none] [] μ (fun v μ1 => ∃ r, v = some (jvL r) ∧ Q r μ1) := by
    refine down_ind _ ?_
    intro l3 ih S g0 g1 g3
    have hs := hud_s (P := P) (p := p) g1
    rw [g3] at hs
    refine vWy_setOf_36 h.ib ⟨fun c2 => ⟨_, rfl, ?_⟩, fun c2 => ?_⟩
    · rw [show (-1 : Int) = l3 by omega, g3] at k; exact k
    · have hpp := h.wf.p (show 0 ≤ l3 by omega) g1
      cases hS : S l3 with
      | false =>
        refine vWy_setOf_44 h.ib (sX_isIn rfl (by omega) (by omega) (fun hh => by rw [hS] at hh; cases hh) (fun _ => ⟨fun _ => ⟨by omega, ih (by omega) S (by omega) (by omega) ?_⟩, fun c => absurd rfl c⟩))
        rw [hs]
        show (if S l3 = true then _ else some S) = some S
        rw [hS, if_neg (by decide)]
      | true =>
        simp only [hS, if_true] at hs
        have lp2 : ∀ (l4 : Int) (T : Int → Bool), 0 ≤ l4 → l4 ≤ pn P l3 → inN P p l3 S l4.toNat = some T → K 121 E mWy_setOf 44 [some (jvR 69), some (jvR 45), some (jvR ((b : Nat) : Int)), some (jvI top), some (jvL (bs T 40)), none, some (jvI l3), some (jvI l4), none] [] μ (fun v μ1 => ∃ r, v = some (jvL r) ∧ Q r μ1) := by
          refine up_ind (pn P l3) _ ?_
          intro l4 ih4 T d0 d1 d3
          have hT := inN_sub hS l4.toNat T d3
          refine vWy_setOf_44 h.ib (sX_isIn rfl (by omega) (by omega) (fun _ => ⟨fun c => absurd c (by decide), fun _ => ?_⟩) (fun hh => by rw [hT] at hh; cases hh))
          refine sBk_nameCount h.c (by omega) g1 ⟨fun c4 => ⟨by omega, ih (by omega) T (by omega) (by omega) ?_⟩, fun c4 => ?_⟩
          · rw [hs, ← show l4 = pn P l3 by omega]; exact d3
          · have hm := h.wf.m l3 l4 (by omega) g1 d0 (by omega)
            have hf := fs_r P hm.1
            have hst := inN_s d0 d3
            have hpx := okP1_r (hp _ hf.1 (show fs P (nm P l3 l4) < nS P by omega))
            have bad : (p (fs P (nm P l3 l4)) = -1 ∨ l3 ≤ p (fs P (nm P l3 l4))) → Q 0 μ := by
              intro hb
              rw [if_pos hb] at hst
              have := inN_none (pn P l3).toNat (l4 + 1).toNat hst (by omega)
              rw [this] at hs
              exact hfail (l3 - 1) (by omega) (by omega) hs
            refine sBk_named h.c (by omega) g1 d0 (by omega) ?_
            rw [(h.1.e hm.1 (by omega)).1, ht _ hf.1 (by omega)]
            refine ⟨by omega, fun c5 => ⟨_, rfl, bad (Or.inl c5)⟩, fun c5 => ⟨fun c6 => ?_, fun c6 => ⟨_, rfl, bad (Or.inr (by omega))⟩⟩⟩
            rw [if_neg (by omega)] at hst
            refine sX_bit (show 0 ≤ p (fs P (nm P l3 l4)) by omega) (show p (fs P (nm P l3 l4)) < 40 by omega) ⟨by omega, ?_⟩
            rw [bs_or (by omega)]
            exact ih4 (by omega) _ (by omega) (by omega) hst
        exact lp2 0 S (by omega) (by omega) rfl
  refine lp top _ (by omega) (by omega) ?_
  have := hud_top (P := P) (p := p) (by omega) (nS P - 1 - top).toNat (by omega)
  rw [show nS P - 1 - (((nS P - 1 - top).toNat : Nat) : Int) = top by omega] at this
  rw [this, et]
theorem sWy_keepIfFewer {x y : Int} (hy : μ 69 5 = y) (oy : ok40 y) (ox : ok40 x) (k : ∀ μ1, Fr (fun i k => i = 69 ∧ k = 5) μ μ1 → μ1 69 5 = kfw y x → Q0 μ1) : Cv E mWy_keepIfFewer [jvR 69, jvL x] μ Q0 := by
  have pr1 := pcv_r x
  have pr2 := pcv_r y
  have hkf := kfw_c (b := y) (x := x)
  have up : x = kfw y x → Q0 (j_up μ 69 5 x) := fun hh => k _ (Fr.up ⟨rfl, rfl⟩) (by rw [up_eq]; exact hh)
  have stay : y = kfw y x → Q0 μ := fun hh => k μ Fr.rf (by rw [hy]; exact hh)
  refine vWy_keepIfFewer_0 (sLg_bitCount (bs_bt40 ox).symm (sLg_bitCount (p := bt y) (by rw [hy, bs_bt40 oy]) ?_))
  rw [hy]
  show (-2147483648 ≤ pcv x - pcv y ∧ pcv x - pcv y < 2147483648) ∧ (x = 0 → _) ∧ (¬ x = 0 → (y = 0 → _) ∧ (¬ y = 0 → (pcv x - pcv y < 0 → _) ∧ (¬ pcv x - pcv y < 0 → (¬ pcv x - pcv y = 0 → _) ∧ (pcv x - pcv y = 0 → _))))
  refine ⟨by omega, fun c => ⟨rfl, stay ?_⟩, fun c => ⟨fun c2 => ⟨rfl, up ?_⟩, fun c2 => ⟨fun c3 => ⟨rfl, up ?_⟩, fun c3 => ⟨fun c4 => ⟨rfl, stay ?_⟩, fun c4 => ⟨fun c5 => ⟨rfl, stay ?_⟩, fun c5 => ⟨rfl, up ?_⟩⟩⟩⟩⟩⟩
  · rw [hkf.1 c]
  · rw [hkf.2.1 c c2]
  · rw [hkf.2.2.1 c c2 (by omega)]
  · rw [hkf.2.2.2.1 c2 (by omega)]
  · rw [hkf.2.2.2.2.1 c2 (by omega) c5]
  · rw [hkf.2.2.2.2.2 c c2 (by omega) (by omega)]
theorem sWy_advance (hw : WF P) {p : Int → Int} (hp : okP P w p) (ht : TkC μ P p) (hs : StC μ P w) (k : ∀ μ1, Fr (fun i _ => i = 72) μ μ1 → TkC μ1 P (ad P w p).2 → Q0 μ1) : Cv E mWy_advance [jvR 69, jvI (nS P)] μ Q0 := by
  have hn := hw.n
  refine vWy_advance_0 ?_
  have lp : ∀ (n : Nat) (l1 : Int) (p' : Int → Int) (μ0 : jMu), nS P - l1 = n → 0 ≤ l1 → Fr (fun i _ => i = 72) μ μ0 → okP P w p' → TkC μ0 P p' → adv P w n l1 p' = ad P w p → K 121 E mWy_advance 2 [some (jvR 69), some (jvI (nS P)), some (jvI l1)] [] μ0 (fun v μ1 => v = none ∧ Q0 μ1) := by
    intro n
    induction n with
    | zero =>
      intro l1 p' μ0 g0 g1 g2 g3 g4 g5
      refine vWy_advance_2 ⟨fun c => ⟨rfl, ?_⟩, fun c => by omega⟩
      have k2 := k μ0 g2
      rw [← g5] at k2
      exact k2 g4
    | succ n ih =>
      intro l1 p' μ0 g0 g1 g2 g3 g4 g5
      have hx := g3 l1 g1 (by omega)
      have hxr := okP1_r hx
      refine vWy_advance_2 ⟨fun c => by omega, fun c => ⟨by omega, ?_⟩⟩
      rw [g4 l1 g1 (by omega), up_eq, up_up]
      refine ⟨fun c2 => ⟨by omega, ih (l1 + 1) p' μ0 (by omega) (by omega) g2 g3 g4 (by
        rw [← g5]
        show _ = (if p' l1 = -1 then _ else _)
        rw [if_pos c2])⟩, fun c2 => ?_⟩
      have hok : okw P w l1 (p' l1) = true := by
        rcases hx with ⟨a, b⟩ | ⟨a, b, c', d⟩
        · exact absurd b c2
        · exact d
      have hok2 : fs P (p' l1) = l1 ∧ w (ru P (p' l1)) = false := by
        unfold okw at hok
        rw [Bool.and_eq_true, beq_iff_eq] at hok
        exact ⟨hok.1, by cases hh : w (ru P (p' l1)); rfl; rw [hh] at hok; cases hok.2⟩
      have e73 : μ0 73 (p' l1) = nxt P w l1 (p' l1) := by
        rw [g2 73 _ (by omega), hs.2 _ (by omega) (by omega) hok2.2, hok2.1]
      have e70 : μ0 70 l1 = nxt P w l1 (-1) := by rw [g2 70 _ (by omega)]; exact hs.1 l1 g1 (by omega)
      rw [e73, e70]
      refine ⟨by omega, fun c3 => ⟨by omega, ih (l1 + 1) (hup p' l1 (nxt P w l1 (-1))) _ (by omega) (by omega) (g2.put rfl) (okP_up g3 (st_ok hw).1) (fun f a b => ?_) ?_⟩, fun c3 => ⟨rfl, ?_⟩⟩
      · rw [up_if]
        unfold hup
        split
        · rfl
        · exact g4 f a b
      · rw [← g5]
        show _ = (if p' l1 = -1 then _ else if nxt P w l1 (p' l1) = -1 then _ else _)
        rw [if_neg c2, if_pos c3]
      · have e : adv P w (n + 1) l1 p' = (true, hup p' l1 (nxt P w l1 (p' l1))) := by
          show (if p' l1 = -1 then _ else if nxt P w l1 (p' l1) = -1 then _ else _) = _
          rw [if_neg c2, if_neg c3]
        have k2 := k (j_up μ0 72 l1 (nxt P w l1 (p' l1))) (g2.put rfl)
        rw [← g5, e] at k2
        refine k2 (fun f a b => ?_)
        rw [up_if]
        show _ = hup p' l1 _ f
        unfold hup
        split
        · rfl
        · exact g4 f a b
  exact lp (nS P).toNat 0 p μ (by omega) (by omega) Fr.rf hp ht rfl
/-- what the ways keep -/
def YCa (μ : jMu) (P : jP) (w : Int → Bool) : Prop := μ 69 4 = 0 ∨ μ 69 5 = vBest P w
theorem sWy_search (h : XS b μ P w q) (hc : YCa μ P w) {x : Int} (hx : x = bs w 12) (k : ∀ μ1, Fr Wwy μ μ1 → μ1 69 5 = vBest P w → Q0 μ1) : Cv E mWy_search [jvR 69, jvR 45, jvI x] μ Q0 := by
  have hn := h.n
  refine vWy_search_0 h.ib ⟨fun c => ?_, fun c => ⟨rfl, k μ Fr.rf (hc.resolve_left c)⟩⟩
  have f1 : Fr Wwy μ (j_up (j_up μ 69 4 1) 69 5 0) := (Fr.up (Or.inr ⟨rfl, Or.inl rfl⟩)).put (Or.inr ⟨rfl, Or.inr rfl⟩)
  refine sWy_lineUp (h.frwy f1) hx (fun μ2 f2 s2 t2 => ?_)
  have f2' : Fr Wwy μ μ2 := f1.tr (f2.mono Ww7.wy)
  have h2 := h.frwy f2'
  have e5 : μ2 69 5 = 0 := by rw [f2 69 5 (by unfold Ww7; omega), up_eq]
  rw [h2.c.e0.2.1]
  refine ⟨h2.1.2.1, fun c2 => ⟨rfl, k μ2 f2' ?_⟩, fun c2 => ⟨fun c3 => ?_, fun c3 => ⟨rfl, k μ2 f2' ?_⟩⟩⟩
  · unfold vBest; rw [if_pos (Or.inl c2)]; exact e5
  · have hv : vBest P w = bst P w (tw_ P w).toNat := by
      unfold vBest
      rw [if_neg (by omega)]
    have htw : 1 ≤ tw_ P w := by rw [← tw_pr h.wf]; exact prN_pos _
    have lp : ∀ (i : Int) (μ0 : jMu), 0 ≤ i → i ≤ tw_ P w → Fr Wwy μ μ0 → StC μ0 P w → (i < tw_ P w → TkC μ0 P (pi P w i.toNat)) → μ0 69 5 = bst P w i.toNat → K 121 E mWy_search 46 [some (jvR 69), some (jvR 45), some (jvI x), some (jvI (tw_ P w)), some (jvI i)] [] μ0 (fun v μ1 => v = none ∧ Q0 μ1) := by
      refine up_ind (tw_ P w) _ ?_
      intro i ih μ0 g0 g1 g2 g3 g4 g5
      have hX := h.frwy g2
      refine vWy_search_46 h.ib ⟨fun c => ⟨rfl, k μ0 g2 ?_⟩, fun c => ?_⟩
      · rw [hv, g5, show i = tw_ P w by omega]
      · obtain ⟨q1, q2, q3⟩ := pi_c h.wf (w := w) i.toNat (by omega)
        have tk := g4 (by omega)
        refine sWy_setOf hX (by omega) q1 tk (sWy_keepIfFewer g5 (bst_ok P w _) (su_ok P _) (fun μ3 f3 e3 => ?_))
        have g3' : Fr Wwy μ μ3 := g2.tr (f3.mono (fun i k hh => Or.inr ⟨hh.1, Or.inr hh.2⟩))
        have hX3 := h.frwy g3'
        rw [hX3.c.e0.2.1]
        have s3 : StC μ3 P w := ⟨fun f a b => by rw [f3 70 f (by omega)]; exact g3.1 f a b, fun s a b c => by rw [f3 73 s (by omega)]; exact g3.2 s a b c⟩
        refine ⟨hX3.1.2.1, sWy_advance h.wf q1 (fun f a b => by rw [f3 72 f (by omega)]; exact tk f a b) s3 (fun μ4 f4 t4 => ⟨by omega, ih (by omega) μ4 (by omega) (by omega) (g3'.tr (f4.mono (fun i k hh => Or.inl (by omega)))) ⟨fun f a b => by rw [f4 70 f (by omega)]; exact s3.1 f a b, fun s a b c => by rw [f4 73 s (by omega)]; exact s3.2 s a b c⟩ (fun _ => ?_) ?_⟩)⟩
        · rw [show (i + 1).toNat = i.toNat + 1 by omega]; exact t4
        · rw [f4 69 5 (by omega), e3, show (i + 1).toNat = i.toNat + 1 by omega]; rfl
    exact lp 0 μ2 (by omega) (by omega) f2' s2 (fun _ => t2) e5
  · unfold vBest; rw [if_pos (Or.inr (by omega))]; exact e5
theorem vBest_ok (P : jP) (w : Int → Bool) : ok40 (vBest P w) := by
  unfold vBest
  split
  · exact ⟨by omega, by omega⟩
  · exact bst_ok P w _
theorem sX_fewest (h : XS b μ P w q) (hc : YCa μ P w) {a : Int} (k : ∀ μ1, Fr Wwy μ μ1 → YCa μ1 P w → Q (vFewest P w a) μ1) : Ci E mX_fewest [jvR 0, jvI a] μ Q := by
  unfold vFewest at k
  have ho := vBest_ok P w
  refine vX_fewest_0 (sWy_search h hc h.2.2.1 (fun μ1 f1 e1 => ?_))
  have k1 := k μ1 f1 (Or.inr e1)
  rw [e1]
  refine ⟨fun c => ⟨fun c2 => sX_kthOf (bs_bt40 ho).symm ⟨_, rfl, ?_⟩, fun c2 => sLg_bitCount (bs_bt40 ho).symm ⟨_, rfl, ?_⟩⟩, fun c => ⟨_, rfl, ?_⟩⟩
  · rw [if_neg c, if_neg c2] at k1; exact k1
  · rw [if_neg c, if_pos c2] at k1; exact k1
  · rw [if_pos c] at k1; exact k1
end
