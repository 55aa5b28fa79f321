/-! the reference takes words, marks, names, numbers -/
section
variable {E : jE} {μ μ1 : jMu} {Q : Int → jMu → Prop} {Q0 : jMu → Prop} {n h e : Int} {t : Int → Int}
theorem HR.to (hr : HR μ n t h e) {p : Int} (h0 : 0 ≤ p) (h1 : p ≤ n) (hf : Fr (fun i k => i = 76 ∧ (k = 2 ∨ k = 4)) μ μ1) (h2 : μ1 76 2 = p) (h4 : -1 ≤ μ1 76 4 ∧ μ1 76 4 ≤ p) : HR μ1 n t (sk n t p) (μ1 76 4) := by
  obtain ⟨hT, hH, hp, h4', h5⟩ := hr
  refine ⟨hT.fr (hf.mono (fun i k hh => by omega)), (sk_hd h0 h1 h4.1 h4.2).1, ⟨by rw [h2]; exact ⟨h0, h1⟩, by rw [h2]⟩, rfl, ?_⟩
  rw [hf 76 5 (by omega)]; exact h5
theorem sM_takes (hr : HR μ n t h e) {wd wn : Nat} {c : Int} (hwd : jCt[wd]? = some (.inl (.char, wn))) (hwn : wd < 121) (hn76 : wd ≠ 76) (hw : Wo μ wd wn c) (kf : isW n t h e c = false → ∀ μ1, Fr W76 μ μ1 → HR μ1 n t h e → μ1 76 2 = h → Q 0 μ1) (kt : isW n t h e c = true → ∀ μ1, Fr W76 μ μ1 → HR μ1 n t (sk n t (wl n t h)) (wl n t h) → Q 1 μ1) : Ci E mM_takes [jvR 76, jvR ((wd : Nat) : Int)] μ Q := by
  have hwl : wn < 2147483648 := by have := hw.1.2.1; omega
  refine vM_takes_0 hwd hwn hwl (sM_isHere hr hwd hwn hn76 hw (fun μ1 f1 h1 p1 => ⟨fun c1 => ?_, fun c1 => ⟨_, rfl, kf (b2i_b0 c1) μ1 (f1.mono (fun i k hh => Fr2.w hh)) h1 p1⟩⟩))
  have hm := b2i_b c1
  have hm2 := hm
  unfold isW at hm2
  simp only [Bool.and_eq_true, decide_eq_true_iff] at hm2
  obtain ⟨⟨⟨⟨w1, w2⟩, w3⟩, w4⟩, w5⟩ := hm2
  have hlen := ((word_iff w1 w2 hw.1).mp ⟨w4, w5⟩).1
  obtain ⟨r1, r2, r3⟩ := wl_r w1 w2
  have hH := hr.2.1.1
  have hT := hr.1.2.1
  rw [p1, show h + (wn : Int) = wl n t h by omega]
  have f2 : Fr (fun i k => i = 76 ∧ (k = 2 ∨ k = 4)) μ1 (j_up (j_up μ1 76 2 (wl n t h)) 76 4 (wl n t h)) := (Fr.up ⟨rfl, Or.inl rfl⟩).put ⟨rfl, Or.inr rfl⟩
  have hto := h1.to (p := wl n t h) (by omega) r2 f2 (by rw [up_nk (by decide), up_eq]) (by rw [up_eq]; omega)
  rw [up_eq] at hto
  exact ⟨by omega, _, rfl, kt hm _ ((f1.mono (fun i k hh => Fr2.w hh)).tr (f2.mono (fun i k hh => ⟨hh.1, by omega⟩))) hto⟩
theorem sM_asks (hr : HR μ n t h e) {wd wn : Nat} {c : Int} (hwd : jCt[wd]? = some (.inl (.char, wn))) (hwn : wd < 121) (hn76 : wd ≠ 76) (hw : Wo μ wd wn c) (kf : ∀ f, aWord n t h e c = .error f → ∀ μ1, Fr W76 μ μ1 → Bd μ1 f → Q0 μ1) (kt : ∀ h' e', aWord n t h e c = .ok (h', e') → ∀ μ1, Fr W76 μ μ1 → HR μ1 n t h' e' → Q0 μ1) : Cv E mM_asks [jvR 76, jvR ((wd : Nat) : Int)] μ Q0 := by
  have hwl : wn < 2147483648 := by have := hw.1.2.1; omega
  refine vM_asks_0 hwd hwn hwl ⟨fun c1 => absurd hr.2.2.2.2 c1, fun _ => sM_takes hr hwd hwn hn76 hw (fun hm μ1 f1 h1 p1 => ⟨fun c2 => absurd rfl c2, fun _ => ?_⟩) (fun hm μ1 f1 h1 => ⟨fun _ => ⟨rfl, kt _ _ (by unfold aWord; rw [if_pos hm]) μ1 f1 h1⟩, fun c2 => absurd c2 (by decide)⟩)⟩
  rw [p1]
  exact sM_fail h1.2.2.2.2 (by decide) (fun μ2 f2 b2 => ⟨rfl, kf _ (by unfold aWord; rw [hm]; rfl) μ2 (f1.tr (f2.mono (fun i k hh => ⟨hh.1, by omega⟩))) b2⟩)
theorem sM_asks_b (hb : μ 76 5 ≠ 0) {wd wn : Nat} (hwd : jCt[wd]? = some (.inl (.char, wn))) (hwn : wd < 121) (hwl : wn < 2147483648) (k : Q0 μ) : Cv E mM_asks [jvR 76, jvR ((wd : Nat) : Int)] μ Q0 := vM_asks_0 hwd hwn hwl ⟨fun _ => ⟨rfl, k⟩, fun c => absurd c hb⟩
theorem sM_takesSign (hr : HR μ n t h e) {c : Int} (hc : 0 ≤ c) (kf : isM n t h c = false → ∀ μ1, Fr W76 μ μ1 → HR μ1 n t h e → μ1 76 2 = h → Q 0 μ1) (kt : isM n t h c = true → ∀ μ1, Fr W76 μ μ1 → HR μ1 n t (sk n t (h + 1)) e → Q 1 μ1) : Ci E mM_takesSign [jvR 76, jvI c] μ Q := by
  refine vM_takesSign_0 ⟨fun c1 => absurd hr.2.2.2.2 c1, fun _ => sM_look hr (fun μ1 f1 h1 p1 => ⟨fun c2 => ?_, fun c2 => ⟨_, rfl, kf ?_ μ1 (f1.mono (fun i k hh => Fr2.w hh)) h1 p1⟩⟩)⟩
  · have hh : h < n := by
      refine Classical.byContradiction (fun hno => ?_)
      rw [if_neg hno] at c2; omega
    rw [if_pos hh] at c2
    have hH := hr.2.1.1
    have hT := hr.1.2.1
    rw [p1]
    have f2 : Fr (fun i k => i = 76 ∧ (k = 2 ∨ k = 4)) μ1 (j_up μ1 76 2 (h + 1)) := Fr.up ⟨rfl, Or.inl rfl⟩
    have e4 : (j_up μ1 76 2 (h + 1)) 76 4 = e := by rw [up_nk (by decide)]; exact h1.2.2.2.1
    have hto := h1.to (p := h + 1) (by omega) (by omega) f2 up_eq (by rw [e4]; omega)
    rw [e4] at hto
    exact ⟨by omega, _, rfl, kt (decide_eq_true ⟨hh, c2⟩) _ ((f1.mono (fun i k hh => Fr2.w hh)).tr (f2.mono (fun i k hh => ⟨hh.1, by omega⟩))) hto⟩
  · refine decide_eq_false (fun hx => c2 ?_)
    rw [if_pos hx.1]; exact hx.2
theorem sM_takesSign_b (hb : μ 76 5 ≠ 0) {c : Int} (k : Q 0 μ) : Ci E mM_takesSign [jvR 76, jvI c] μ Q := vM_takesSign_0 ⟨fun _ => ⟨_, rfl, k⟩, fun c => absurd c hb⟩
theorem sM_asksSign (hr : HR μ n t h e) {c : Int} (hc : 0 ≤ c) (kf : ∀ f, aMark n t h e c = .error f → ∀ μ1, Fr W76 μ μ1 → Bd μ1 f → Q0 μ1) (kt : ∀ h' e', aMark n t h e c = .ok (h', e') → ∀ μ1, Fr W76 μ μ1 → HR μ1 n t h' e' → Q0 μ1) : Cv E mM_asksSign [jvR 76, jvI c] μ Q0 := by
  refine vM_asksSign_0 ⟨fun c1 => absurd hr.2.2.2.2 c1, fun _ => sM_takesSign hr hc (fun hm μ1 f1 h1 p1 => ⟨fun c2 => absurd rfl c2, fun _ => ?_⟩) (fun hm μ1 f1 h1 => ⟨fun _ => ⟨rfl, kt _ _ (by unfold aMark; rw [if_pos hm]) μ1 f1 h1⟩, fun c2 => absurd c2 (by decide)⟩)⟩
  rw [p1]
  exact sM_fail h1.2.2.2.2 (by decide) (fun μ2 f2 b2 => ⟨rfl, kf _ (by unfold aMark; rw [hm]; rfl) μ2 (f1.tr (f2.mono (fun i k hh => ⟨hh.1, by omega⟩))) b2⟩)
theorem sM_asksSign_b (hb : μ 76 5 ≠ 0) {c : Int} (k : Q0 μ) : Cv E mM_asksSign [jvR 76, jvI c] μ Q0 := vM_asksSign_0 ⟨fun _ => ⟨rfl, k⟩, fun c => absurd c hb⟩
theorem sM_isInL {a lo hi : Int} (k : Q (b2i (decide (lo ≤ a ∧ a ≤ hi))) μ) : Ci E mM_isIn [jvL a, jvL lo, jvL hi] μ Q := by
  refine vM_isIn_0 ⟨fun c1 => ⟨_, rfl, ?_⟩, fun c1 => ⟨fun c2 => ⟨_, rfl, ?_⟩, fun c2 => ⟨_, rfl, ?_⟩⟩⟩
  · rw [decide_eq_false (by omega)] at k; exact k
  · rw [decide_eq_false (by omega)] at k; exact k
  · rw [decide_eq_true (by omega)] at k; exact k
theorem sM_number (hr : HR μ n t h e) {lo hi : Int} (kf : ∀ f, aNum n t h e lo hi = .error f → ∀ r μ1, Fr W76 μ μ1 → Bd μ1 f → Q r μ1) (kt : ∀ v h' e', aNum n t h e lo hi = .ok (v, h', e') → ∀ μ1, Fr W76 μ μ1 → HR μ1 n t h' e' → Q v μ1) : Ci E mM_number [jvR 76, jvI lo, jvI hi] μ Q := by
  have hH := hr.2.1.1
  have hT := hr.1.2.1
  refine vM_number_0 ⟨fun _ => sM_look hr (fun μ1 f1 h1 p1 => sM_isDigit ?_), fun c => absurd hr.2.2.2.2 c⟩
  have f1' : Fr W76 μ μ1 := f1.mono (fun i k hh => Fr2.w hh)
  rw [p1, h1.2.2.2.1]
  have bad : ∀ (a p : Int) (μ2 : jMu), a ≠ 0 → Fr W76 μ μ2 → μ2 76 5 = 0 → aNum n t h e lo hi = .error (a, p) → ∀ r : Int, Cv E mM_fail [jvR 76, jvI a, jvI p] μ2 (fun μ3 => ∃ r', some (jvI r) = some (jvI r') ∧ Q r' μ3) := fun a p μ2 ha f2 h2 hp r => sM_fail h2 ha (fun μ3 f3 b3 => ⟨_, rfl, kf _ hp r μ3 (f2.tr (f3.mono (fun i k hh => ⟨hh.1, by omega⟩))) b3⟩)
  refine ⟨fun c1 => bad 1 h μ1 (by decide) f1' h1.2.2.2.2 ?_ 0, fun c1 => ?_⟩
  · unfold aNum
    rw [if_neg]
    rintro ⟨x1, x2, _⟩
    rw [if_pos x1, x2] at c1; cases c1
  have hh : h < n := by
    refine Classical.byContradiction (fun hno => ?_)
    rw [if_neg hno] at c1; exact c1 rfl
  rw [if_pos hh] at c1
  have hD := b2i_b c1
  obtain ⟨r1, r2, r3⟩ := dl_r hh hD
  refine ⟨fun c2 => ?_, fun c2 => bad 1 h μ1 (by decide) f1' h1.2.2.2.2 ?_ 0⟩
  · have en : aNum n t h e lo hi = if 4 < dl n t h - h then .error (1, h + 4) else if dv n t h < lo ∨ hi < dv n t h then .error (2, h) else .ok (dv n t h, sk n t (dl n t h), dl n t h) := by
      unfold aNum
      rw [if_pos ⟨hh, hD, fun hx => c2 hx.symm⟩]
    have lp : ∀ (x : Int) (μ2 : jMu), h ≤ x → x ≤ dl n t h → x - h ≤ 4 → Fr W76 μ μ2 → Fr (fun i k => i = 76 ∧ k = 2) μ1 μ2 → μ2 76 2 = x → K 121 E mM_number 49 [some (jvR 76), some (jvI lo), some (jvI hi), some (jvI h), some (jvI (dvN t h (x - h).toNat))] [] μ2 (fun v μ1 => ∃ r, v = some (jvI r) ∧ Q r μ1) := by
      refine fun x => up_ind (dl n t h) (fun x => ∀ (μ2 : jMu), h ≤ x → x ≤ dl n t h → x - h ≤ 4 → Fr W76 μ μ2 → Fr (fun i k => i = 76 ∧ k = 2) μ1 μ2 → μ2 76 2 = x → K 121 E mM_number 49 [some (jvR 76), some (jvI lo), some (jvI hi), some (jvI h), some (jvI (dvN t h (x - h).toNat))] [] μ2 (fun v μ1 => ∃ r, v = some (jvI r) ∧ Q r μ1)) ?_ x
      intro x ih μ2 g0 g1 g4 g2 g3 g5
      have hT2 := h1.1.fr (g3.mono (fun i k hh => by omega))
      have h25 : μ2 76 5 = 0 := by rw [g3 76 5 (by omega)]; exact h1.2.2.2.2
      have stop : x = dl n t h → Ci E mM_isIn [jvL (dvN t h (x - h).toNat), jvL lo, jvL hi] (j_up μ2 76 4 x) (fun r6 μ3 => ((¬ r6 = 0 → ∃ r, some (jvI (dvN t h (x - h).toNat)) = some (jvI r) ∧ Q r μ3) ∧ (r6 = 0 → (Cv E mM_fail [jvR 76, jvI 2, jvI h] μ3 (fun μ10 => ∃ r, some (jvI (dvN t h (x - h).toNat)) = some (jvI r) ∧ Q r μ10))))) := by
        intro hx
        have ed : dv n t h = dvN t h (x - h).toNat := by
          unfold dv m4
          congr 1
          split <;> omega
        rw [if_neg (by omega), ed] at en
        have f4 : Fr W76 μ (j_up μ2 76 4 x) := g2.put ⟨rfl, by omega⟩
        refine sM_isInL ⟨fun c3 => ⟨_, rfl, ?_⟩, fun c3 => ?_⟩
        · have := of_decide_eq_true (b2i_b c3)
          rw [if_neg (by omega)] at en
          refine kt _ _ _ en _ f4 ?_
          have f5 : Fr (fun i k => i = 76 ∧ (k = 2 ∨ k = 4)) μ1 (j_up μ2 76 4 x) := (g3.mono (fun i k hh => ⟨hh.1, Or.inl hh.2⟩)).put ⟨rfl, Or.inr rfl⟩
          have hto := h1.to (p := x) (by omega) (by omega) f5 (by rw [up_nk (by decide)]; exact g5) (by rw [up_eq]; omega)
          rw [up_eq] at hto
          rw [← hx]
          exact hto
        · have := of_decide_eq_false (b2i_b0 c3)
          rw [if_pos (by omega)] at en
          exact bad 2 h _ (by decide) f4 (by rw [up_nk (by decide)]; exact h25) en _
      refine vM_number_49 ?_
      rw [hT2.1, g5]
      refine ⟨fun c3 => stop (by omega), fun c3 => ⟨by omega, ?_⟩⟩
      rw [(hT2.2.2 x (by omega) (by omega)).2]
      refine sM_isDigit ?_
      rw [g5]
      refine ⟨fun c4 => stop ?_, fun c4 => ?_⟩
      · refine Classical.byContradiction (fun hno => ?_)
        have := r3 x g0 (by omega)
        rw [this] at c4; cases c4
      · have hx : x < dl n t h := by
          refine Classical.byContradiction (fun hno => ?_)
          have e2 : x = dl n t h := by omega
          have := rnn_stop (p := fun k => isDg (t k)) (n := n) (a := h) (by omega) (show dl n t h < n by omega)
          have this : isDg (t (dl n t h)) = false := this
          rw [e2, this] at c4; exact c4 rfl
        have hxd := of_decide_eq_true (r3 x g0 hx)
        refine ⟨by omega, fun c5 => ?_, fun c5 => ?_⟩
        · have hr2 := dvN_r (t := t) (h := h) (x - h).toNat (by omega) (fun k a b => r3 (h + k) (by omega) (by omega))
          have hp4 : 10 ^ (x - h).toNat ≤ 10 ^ 4 := Nat.pow_le_pow_right (by omega) (by omega)
          rw [(hT2.2.2 x (by omega) (by omega)).2]
          have es : 10 * dvN t h (x - h).toNat + t x - 48 = dvN t h (x + 1 - h).toNat := by
            rw [show (x + 1 - h).toNat = (x - h).toNat + 1 by omega]
            show _ = 10 * dvN t h (x - h).toNat + t (h + (((x - h).toNat : Nat) : Int)) - 48
            rw [show h + (((x - h).toNat : Nat) : Int) = x by omega]
          refine ⟨by omega, ?_⟩
          rw [es]
          exact ih hx _ (by omega) (by omega) (by omega) (g2.put ⟨rfl, Or.inl rfl⟩) (g3.put ⟨rfl, rfl⟩) up_eq
        · rw [if_pos (by omega)] at en
          rw [show x = h + 4 by omega]
          exact bad 1 (h + 4) μ2 (by decide) g2 h25 en 0
    have := lp h μ1 (by omega) (by omega) (by omega) f1' Fr.rf p1
    rw [show (h - h).toNat = 0 by omega] at this
    exact this
  · unfold aNum
    rw [if_neg (fun hx => hx.2.2 c2.symm)]
theorem sM_number_b (hb : μ 76 5 ≠ 0) {lo hi : Int} (k : Q 0 μ) : Ci E mM_number [jvR 76, jvI lo, jvI hi] μ Q := vM_number_0 ⟨fun c => absurd c hb, fun _ => ⟨_, rfl, k⟩⟩
theorem own_or {hh : h < n} {hL : isL (t h) = true} {he : e ≠ h} : (decide (wl n t h - h ≤ 6) && own_ (wc n t h)) = (isW n t h e 626398208 || isW n t h e 245044832 || isW n t h e 658685952 || isW n t h e 93323264 || isW n t h e 250654720 || isW n t h e 609259698 || isW n t h e 507661312 || isW n t h e 220705792 || isW n t h e 686817280) := by
  rw [Bool.eq_iff_iff]
  unfold isW own_
  have he' : (e ≠ h) = True := eq_true he
  have hh' : (h < n) = True := eq_true hh
  simp only [Bool.and_eq_true, Bool.or_eq_true, decide_eq_true_iff, hL, he', hh', true_and, and_true]
  omega
theorem sM_isOwnHere (hr : HR μ n t h e) (hw : Wds μ) (hh : h < n) (hL : isL (t h) = true) (he : e ≠ h) (k : ∀ μ1, Fr (fun i k => i = 76 ∧ k = 2) μ μ1 → HR μ1 n t h e → μ1 76 2 = h → Q (b2i (decide (wl n t h - h ≤ 6) && own_ (wc n t h))) μ1) : Ci E mM_isOwnHere [jvR 76] μ Q := by
  rw [own_or (hh := hh) (hL := hL) (he := he)] at k
  have fw : ∀ {μ1}, Fr (fun i k => i = 76 ∧ k = 2) μ μ1 → Wds μ1 := fun f => hw.fr (f.mono (fun i k hh => by omega))
  have yes : ∀ μ1, Fr (fun i k => i = 76 ∧ k = 2) μ μ1 → HR μ1 n t h e → μ1 76 2 = h → (isW n t h e 626398208 || isW n t h e 245044832 || isW n t h e 658685952 || isW n t h e 93323264 || isW n t h e 250654720 || isW n t h e 609259698 || isW n t h e 507661312 || isW n t h e 220705792 || isW n t h e 686817280) = true → Q 1 μ1 := fun μ1 f x p hx => by have := k μ1 f x p; rw [hx] at this; exact this
  have yes60 : ∀ μ1, Fr (fun i k => i = 76 ∧ k = 2) μ μ1 → HR μ1 n t h e → μ1 76 2 = h → (isW n t h e 626398208 || isW n t h e 245044832 || isW n t h e 658685952 || isW n t h e 93323264 || isW n t h e 250654720 || isW n t h e 609259698 || isW n t h e 507661312 || isW n t h e 220705792 || isW n t h e 686817280) = true → K 121 E mM_isOwnHere 60 [some (jvR 76), none] [jvI 1] μ1 (fun v μ1 => ∃ r, v = some (jvI r) ∧ Q r μ1) := fun μ1 f x p hx => vM_isOwnHere_60 ⟨fun _ => ⟨_, rfl, yes μ1 f x p hx⟩, fun c => absurd c (by decide)⟩
  refine vM_isOwnHere_0 (sM_isHere hr (wd := 78) rfl (by decide) (by decide) hw.1 (fun μ1 f1 h1 p1 => ⟨fun c => yes60 μ1 f1 h1 p1 (by rw [b2i_b c]; simp), fun c => ?_⟩))
  have n1 := b2i_b0 c
  refine sM_isHere h1 (wd := 79) rfl (by decide) (by decide) (fw f1).2.1 (fun μ2 f2 h2 p2 => ?_)
  have f2' := f1.tr f2
  refine ⟨fun c => yes60 μ2 f2' h2 p2 (by rw [b2i_b c]; simp), fun c => ?_⟩
  have n2 := b2i_b0 c
  refine sM_isHere h2 (wd := 80) rfl (by decide) (by decide) (fw f2').2.2.1 (fun μ3 f3 h3 p3 => ?_)
  have f3' := f2'.tr f3
  refine ⟨fun c => yes60 μ3 f3' h3 p3 (by rw [b2i_b c]; simp), fun c => ?_⟩
  have n3 := b2i_b0 c
  refine sM_isHere h3 (wd := 81) rfl (by decide) (by decide) (fw f3').2.2.2.1 (fun μ4 f4 h4 p4 => ?_)
  have f4' := f3'.tr f4
  refine ⟨fun c => yes60 μ4 f4' h4 p4 (by rw [b2i_b c]; simp), fun c => ?_⟩
  have n4 := b2i_b0 c
  refine sM_isHere h4 (wd := 82) rfl (by decide) (by decide) (fw f4').2.2.2.2.1 (fun μ5 f5 h5 p5 => ?_)
  have f5' := f4'.tr f5
  refine ⟨fun c => ?_, fun c => yes60 μ5 f5' h5 p5 (by rw [b2i_b c]; simp)⟩
  have n5 := b2i_b0 c
  refine vM_isOwnHere_60 ⟨fun c => absurd rfl c, fun _ => ?_⟩
  refine sM_isHere h5 (wd := 83) rfl (by decide) (by decide) (fw f5').2.2.2.2.2.1 (fun μ6 f6 h6 p6 => ?_)
  have f6' := f5'.tr f6
  refine ⟨fun c => ⟨_, rfl, yes μ6 f6' h6 p6 (by rw [b2i_b c]; simp)⟩, fun c => ?_⟩
  have n6 := b2i_b0 c
  refine sM_isHere h6 (wd := 84) rfl (by decide) (by decide) (fw f6').2.2.2.2.2.2.1 (fun μ7 f7 h7 p7 => ?_)
  have f7' := f6'.tr f7
  refine ⟨fun c => ⟨_, rfl, yes μ7 f7' h7 p7 (by rw [b2i_b c]; simp)⟩, fun c => ?_⟩
  have n7 := b2i_b0 c
  refine sM_isHere h7 (wd := 85) rfl (by decide) (by decide) (fw f7').2.2.2.2.2.2.2.1 (fun μ8 f8 h8 p8 => ?_)
  have f8' := f7'.tr f8
  refine ⟨fun c => ⟨_, rfl, yes μ8 f8' h8 p8 (by rw [b2i_b c]; simp)⟩, fun c => ?_⟩
  have n8 := b2i_b0 c
  refine sM_isHere h8 (wd := 86) rfl (by decide) (by decide) (fw f8').2.2.2.2.2.2.2.2 (fun μ9 f9 h9 p9 => ?_)
  have f9' := f8'.tr f9
  have k9 := k μ9 f9' h9 p9
  refine ⟨fun c => ⟨_, rfl, ?_⟩, fun c => ⟨_, rfl, yes μ9 f9' h9 p9 (by rw [b2i_b c]; simp)⟩⟩
  rw [n1, n2, n3, n4, n5, n6, n7, n8, b2i_b0 c] at k9
  exact k9
theorem sM_name (hr : HR μ n t h e) (hw : Wds μ) (kf : ∀ f, aName n t h e = .error f → ∀ μ1, Fr W76 μ μ1 → Bd μ1 f → Q 0 μ1) (kt : ∀ c h' e', aName n t h e = .ok (c, h', e') → ∀ μ1, Fr W76 μ μ1 → HR μ1 n t h' e' → μ1 76 18 = h → Q (e27 c) μ1) : Cl E mM_name [jvR 76] μ Q := by
  have hH := hr.2.1.1
  have hT := hr.1.2.1
  refine vM_name_0 ⟨fun _ => sM_look hr (fun μ1 f1 h1 p1 => sM_isLetter ?_), fun c => absurd hr.2.2.2.2 c⟩
  have f1' : Fr W76 μ μ1 := f1.mono (fun i k hh => Fr2.w hh)
  rw [p1, h1.2.2.2.1]
  have bad : ∀ (a p : Int) (μ2 : jMu), a ≠ 0 → Fr W76 μ μ2 → μ2 76 5 = 0 → aName n t h e = .error (a, p) → Cv E mM_fail [jvR 76, jvI a, jvI p] μ2 (fun μ3 => ∃ r', some (jvL 0) = some (jvL r') ∧ Q r' μ3) := fun a p μ2 ha f2 h2 hp => sM_fail h2 ha (fun μ3 f3 b3 => ⟨_, rfl, kf _ hp μ3 (f2.tr (f3.mono (fun i k hh => ⟨hh.1, by omega⟩))) b3⟩)
  refine ⟨fun c1 => bad 1 h μ1 (by decide) f1' h1.2.2.2.2 ?_, fun c1 => ?_⟩
  · unfold aName
    rw [if_neg]
    rintro ⟨x1, x2, _⟩
    rw [if_pos x1, x2] at c1; cases c1
  have hh : h < n := by
    refine Classical.byContradiction (fun hno => ?_)
    rw [if_neg hno] at c1; exact c1 rfl
  rw [if_pos hh] at c1
  have hL := b2i_b c1
  obtain ⟨r1, r2, r3⟩ := wl_r hh hL
  refine ⟨fun c2 => bad 1 h μ1 (by decide) f1' h1.2.2.2.2 ?_, fun c2 => ?_⟩
  · unfold aName
    rw [if_neg (fun hx => hx.2.2 c2.symm)]
  · have en : aName n t h e = if 6 < wl n t h - h then .error (1, h + 6) else if own_ (wc n t h) = true then .error (1, h) else .ok (wc n t h, sk n t (wl n t h), wl n t h) := by
      unfold aName
      rw [if_pos ⟨hh, hL, fun hx => c2 hx.symm⟩]
    refine sM_isOwnHere h1 (hw.fr (f1.mono (fun i k hh => by omega))) hh hL (fun hx => c2 hx.symm) (fun μ2 f2 h2 p2 => ?_)
    have f2' : Fr W76 μ μ2 := f1'.tr (f2.mono (fun i k hh => Fr2.w hh))
    rw [p2]
    refine ⟨fun c3 => ?_, fun c3 => bad 1 h μ2 (by decide) f2' h2.2.2.2.2 ?_⟩
    · have hno := b2i_b0 c3
      have lp : ∀ (x : Int) (μ3 : jMu), h ≤ x → x ≤ wl n t h → x - h ≤ 6 → Fr W76 μ μ3 → Fr (fun i k => i = 76 ∧ (k = 2 ∨ k = 18)) μ2 μ3 → μ3 76 2 = x → μ3 76 18 = h → K 121 E mM_name 58 [some (jvR 76), some (jvL (v27 (fun k => t (h + k) - 96) (x - h).toNat)), none] [] μ3 (fun v μ1 => ∃ r, v = some (jvL r) ∧ Q r μ1) := by
        refine fun x => up_ind (wl n t h) (fun x => ∀ (μ3 : jMu), h ≤ x → x ≤ wl n t h → x - h ≤ 6 → Fr W76 μ μ3 → Fr (fun i k => i = 76 ∧ (k = 2 ∨ k = 18)) μ2 μ3 → μ3 76 2 = x → μ3 76 18 = h → K 121 E mM_name 58 [some (jvR 76), some (jvL (v27 (fun k => t (h + k) - 96) (x - h).toNat)), none] [] μ3 (fun v μ1 => ∃ r, v = some (jvL r) ∧ Q r μ1)) ?_ x
        intro x ih μ3 g0 g1 g4 g2 g3 g5 g6
        have hT3 := h2.1.fr (g3.mono (fun i k hh => by omega))
        have h35 : μ3 76 5 = 0 := by rw [g3 76 5 (by omega)]; exact h2.2.2.2.2
        have stop : x = wl n t h → ∃ r, some (jvL (v27 (fun k => t (h + k) - 96) (x - h).toNat)) = some (jvL r) ∧ Q r (j_up μ3 76 4 x) := by
          intro hx
          refine ⟨_, rfl, ?_⟩
          rw [decide_eq_true (show wl n t h - h ≤ 6 by omega), Bool.true_and] at hno
          rw [if_neg (by omega), hno, if_neg (by decide)] at en
          have ev := (wc_ok hh hL (by omega)).2.1
          rw [hx, ← ev]
          refine kt _ _ _ en _ (g2.put ⟨rfl, by omega⟩) ?_ (by rw [up_nk (by decide)]; exact g6)
          have h3 : HR μ3 n t h e ∨ True := Or.inr trivial
          refine ⟨hT3.fr (Fr.up (by omega)), (sk_hd (by omega) r2 (by omega) (by omega)).1, ⟨?_, ?_⟩, up_eq, ?_⟩
          · rw [up_nk (by decide), g5]; omega
          · rw [up_nk (by decide), g5, hx]
          · rw [up_nk (by decide)]; exact h35
        refine vM_name_58 ?_
        rw [hT3.1, g5]
        refine ⟨fun c4 => stop (by omega), fun c4 => ⟨by omega, ?_⟩⟩
        rw [(hT3.2.2 x (by omega) (by omega)).2]
        refine sM_isLetter ?_
        rw [g5, g6]
        refine ⟨fun c5 => stop ?_, fun c5 => ?_⟩
        · refine Classical.byContradiction (fun hno => ?_)
          have := r3 x g0 (by omega)
          rw [this] at c5; cases c5
        · have hx : x < wl n t h := by
            refine Classical.byContradiction (fun hno => ?_)
            have e2 : x = wl n t h := by omega
            have := rnn_stop (p := fun k => isL (t k)) (n := n) (a := h) (by omega) (show wl n t h < n by omega)
            have this : isL (t (wl n t h)) = false := this
            rw [e2, this] at c5; exact c5 rfl
          have hxd := of_decide_eq_true (r3 x g0 hx)
          refine ⟨by omega, fun c6 => ?_, fun c6 => ?_⟩
          · have hb : ∀ k : Int, 0 ≤ k → k < ((x - h).toNat : Nat) → 1 ≤ t (h + k) - 96 ∧ t (h + k) - 96 ≤ 26 := fun k a b => by
              have := of_decide_eq_true (r3 (h + k) (by omega) (by omega))
              omega
            have hr2 := v27_lt (x := fun k => t (h + k) - 96) (x - h).toNat hb
            have hr3 := (v27_pos (x := fun k => t (h + k) - 96) (x - h).toNat (fun k a b => (hb k a b).1)).1
            have hp4 : 27 ^ (x - h).toNat ≤ 27 ^ 6 := Nat.pow_le_pow_right (by omega) (by omega)
            rw [(hT3.2.2 x (by omega) (by omega)).2]
            have es : 27 * v27 (fun k => t (h + k) - 96) (x - h).toNat + t x - 97 + 1 = v27 (fun k => t (h + k) - 96) (x + 1 - h).toNat := by
              rw [show (x + 1 - h).toNat = (x - h).toNat + 1 by omega]
              show _ = 27 * v27 (fun k => t (h + k) - 96) (x - h).toNat + (t (h + (((x - h).toNat : Nat) : Int)) - 96)
              rw [show h + (((x - h).toNat : Nat) : Int) = x by omega]
              omega
            refine ⟨by omega, ?_⟩
            rw [es]
            exact ih hx _ (by omega) (by omega) (by omega) (g2.put ⟨rfl, Or.inl rfl⟩) (g3.put ⟨rfl, Or.inl rfl⟩) up_eq (by rw [up_nk (by decide)]; exact g6)
          · rw [if_pos (by omega)] at en
            rw [show x = h + 6 by omega]
            exact bad 1 (h + 6) μ3 (by decide) g2 h35 en
      have := lp h (j_up μ2 76 18 h) (by omega) (by omega) (by omega) (f2'.put ⟨rfl, by omega⟩) (Fr.up ⟨rfl, Or.inr rfl⟩) (by rw [up_nk (by decide)]; exact p2) up_eq
      rw [show (h - h).toNat = 0 by omega] at this
      exact this
    · have hy := b2i_b c3
      rw [Bool.and_eq_true, decide_eq_true_iff] at hy
      rw [en, if_neg (by omega), if_pos hy.2]
theorem sM_name_b (hb : μ 76 5 ≠ 0) (k : Q 0 μ) : Cl E mM_name [jvR 76] μ Q := vM_name_0 ⟨fun c => absurd c hb, fun _ => ⟨_, rfl, k⟩⟩
end
