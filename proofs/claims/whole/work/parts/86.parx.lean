/-! the class reads the whole text -/
def Wpa (b : Nat) (i : Nat) (k : Int) : Prop := (i = 1 ∧ 2 ≤ k) ∨ (3 ≤ i ∧ i ≤ 6) ∨ (b ≤ i ∧ i ≤ b + 18)
section
variable {E : jE} {μ μ1 : jMu} {Q : Int → jMu → Prop} {Q0 : jMu → Prop} {n h e : Int} {t : Int → Int} {P P' : jP} {b : Nat}
theorem Wss.pa : ∀ i k, Wss b i k → Wpa b i k := fun i k hh => by
  unfold Wss Wtm at hh
  unfold Wpa
  omega
theorem BKp_cb (hb : isB b) (hB : BKp b μ P) (hp : WP P) (hg : μ b 15 = gl (goalP P)) : CB b μ (goalP P) := by
  obtain ⟨⟨⟨a1, a2, a3⟩, ac, ad, af⟩, ⟨c1, c2, c3⟩, r1, r2, s1, s2, d1, k1, k2⟩ := hB
  have ei : ∀ (i : Nat) k, i ≠ 0 → goalP P i k = P i k := fun i k hi => by unfold goalP; rw [up_ne hi]
  have eo : ∀ k, k ≠ 5 → goalP P 0 k = P 0 k := fun k hk => by unfold goalP; rw [up_nk hk]
  have e0 : nR (goalP P) = nR P := eo 0 (by decide)
  have e1 : nD (goalP P) = nD P := eo 1 (by decide)
  have e2 : nG (goalP P) = nG P := eo 2 (by decide)
  have e3 : nH (goalP P) = nH P := eo 3 (by decide)
  have e4 : nS (goalP P) = nS P := eo 4 (by decide)
  have e6 : nC (goalP P) = nC P := eo 6 (by decide)
  have ep : ∀ x, pr (goalP P) x = pr P x := fun x => ei 1 x (by decide)
  have er : ∀ x, ru (goalP P) x = ru P x := fun x => ei 2 x (by decide)
  have et : ∀ x, tf (goalP P) x = tf P x := fun x => ei 7 x (by decide)
  have ek : ∀ kd i, nk (goalP P) kd i = nk P kd i := fun kd i => ei 11 _ (by decide)
  refine ⟨hb, goalP_WF hp, ⟨by rw [c1, e0], by rw [c2, e4], by rw [c3, e1], hg, by rw [a1, e2], by rw [a2, e3], by rw [a3, e6]⟩, fun r a c => ?_, fun r k a c d f => ?_, fun s a c => ?_, fun s k a c d f => ?_, fun x a c => ?_, fun d a c => ?_, fun i a c => ?_, fun i a c => ?_, fun i a c => ?_, fun i a c => ?_⟩
  · rw [ep, et]; exact r1 r a (by omega)
  · rw [ep] at f
    rw [et]; exact r2 r k a (by omega) d f
  · rw [er, et]; exact s1 s a (by omega)
  · have : pn (goalP P) s = pn P s := by unfold pn; rw [er, ep]
    rw [show nm (goalP P) s k = nm P s k from ei 3 _ (by decide)]; exact s2 s k a (by omega) d (by omega)
  · rw [show sy (goalP P) x = sy P x from ei 4 _ (by decide), show bh (goalP P) x = bh P x from ei 5 _ (by decide)]; exact af x a (by omega)
  · rw [show od (goalP P) d = od P d from ei 8 _ (by decide), show rf (goalP P) d = rf P d from ei 9 _ (by decide), show rt (goalP P) d = rt P d from ei 10 _ (by decide)]; exact d1 d a (by omega)
  · rw [ek]; exact k1 i a (by omega)
  · rw [ek]; exact k2 i a (by omega)
  · rw [ek]; exact (ac i a (by omega)).1
  · rw [ek]; exact ad i a (by omega)
theorem BKp.u15 (hb : isB b) (hB : BKp b μ P) {x : Int} : BKp b (j_up μ b 15 x) P := by
  obtain ⟨hT, ⟨c1, c2, c3⟩, r1, r2, s1, s2, d1, k1, k2⟩ := hB
  have m : ∀ (i : Nat) k, i ≠ b → (j_up μ b 15 x) i k = μ i k := fun i k hi => up_ne hi
  refine ⟨hT.fr (Fr.up (by omega)), ⟨?_, ?_, ?_⟩, fun r a c => ?_, fun r k a c d f => ?_, fun s a c => ?_, fun s k a c d f => ?_, fun d a c => ?_, fun i a c => ?_, fun i a c => ?_⟩
  · rw [up_nk (by decide)]; exact c1
  · rw [up_nk (by decide)]; exact c2
  · rw [up_nk (by decide)]; exact c3
  · rw [m _ _ (by omega), m _ _ (by omega)]; exact r1 r a c
  · rw [m _ _ (by omega)]; exact r2 r k a c d f
  · rw [m _ _ (by omega), m _ _ (by omega)]; exact s1 s a c
  · rw [m _ _ (by omega)]; exact s2 s k a c d f
  · rw [m _ _ (by omega), m _ _ (by omega), m _ _ (by omega)]; exact d1 d a c
  · rw [m _ _ (by omega)]; exact k1 i a c
  · rw [m _ _ (by omega)]; exact k2 i a c
theorem sPa_parseL (hb : isB b) : ∀ (f : Nat) (k h e : Int) (P : jP) (μ : jMu), 0 ≤ k → k + f = 80 → HC μ n t h e → PL b μ → BKp b μ P → WP P → μ 3 6 = gl P → (∀ g, aAll n t f k h e P = .error g → ∀ μ1, Fr (Wpa b) μ μ1 → Flt μ1 g → Q (-1) μ1) → (∀ k' P', aAll n t f k h e P = .ok (k', P') → 0 ≤ k' → ∀ μ1, Fr (Wpa b) μ μ1 → CB b μ1 (goalP P') → Flt μ1 (0, -1) → Q k' μ1) → K 121 E mPa_parse 41 [some (jvR 3), some (jvR 1), some (jvR ((b : Nat) : Int)), some (jvI k)] [] μ (fun v μ1 => ∃ r, v = some (jvI r) ∧ Q r μ1) := by
  have hB7 := isB_7 hb
  intro f
  induction f with
  | zero =>
    intro k h e P μ h0 hk hc hL hB hp hg kf kt
    have hn := hp.1.1
    unfold WFn at hn
    have hw := hc.w.2.2.1
    have done : n ≤ h → ∀ x, x = gl (goalP P) → Q k (j_up μ b 15 x) := fun hh x hx => kt k P (by unfold aAll; rw [if_pos hh]) h0 _ (Fr.up (show Wpa b b 15 from Or.inr (Or.inr (by omega)))) (BKp_cb hb (hB.u15 hb) hp (by rw [up_eq]; exact hx)) ⟨by rw [up_ne (by omega)]; exact hc.k0.1, by rw [up_ne (by omega)]; exact hc.k0.2⟩
    have eg : gl (goalP P) = if gl P = -1 then nS P - 1 else gl P := by show goalP P 0 5 = _; unfold goalP; rw [up_eq]
    refine vPa_parse_41 hb ⟨fun _ => ⟨hL.1, fun c2 => ⟨hL.2, ?_⟩, fun c2 => ⟨hL.1, ?_⟩⟩, fun c => by omega⟩
    · rw [hg, hB.2.1.2.1]
      exact ⟨fun c3 => ⟨_, rfl, done (hw.mp c2) _ (by rw [eg, if_neg c3])⟩, fun c3 => ⟨⟨hL.2, by omega⟩, _, rfl, done (hw.mp c2) _ (by rw [eg, if_pos c3])⟩⟩
    · rw [hc.2.2.2.1.1]
      exact sPa_refuse (fun μ1 f1 l1 => ⟨_, rfl, kf _ (by unfold aAll; rw [if_neg (fun hh => c2 (hw.mpr hh))]) μ1 (f1.mono (fun i k hh => by unfold Wpa; omega)) l1⟩)
  | succ f ih =>
    intro k h e P μ h0 hk hc hL hB hp hg kf kt
    have hn := hp.1.1
    unfold WFn at hn
    have hw := hc.w.2.2.1
    have done : n ≤ h → ∀ x, x = gl (goalP P) → Q k (j_up μ b 15 x) := fun hh x hx => kt k P (by unfold aAll; rw [if_pos hh]) h0 _ (Fr.up (show Wpa b b 15 from Or.inr (Or.inr (by omega)))) (BKp_cb hb (hB.u15 hb) hp (by rw [up_eq]; exact hx)) ⟨by rw [up_ne (by omega)]; exact hc.k0.1, by rw [up_ne (by omega)]; exact hc.k0.2⟩
    have eg : gl (goalP P) = if gl P = -1 then nS P - 1 else gl P := by show goalP P 0 5 = _; unfold goalP; rw [up_eq]
    refine vPa_parse_41 hb ⟨fun c => by omega, fun _ => ⟨hL.1, fun c2 => ⟨hL.1, fun _ => ⟨hL.2, ?_⟩, fun c3 => absurd c2 c3⟩, fun c2 => ?_⟩⟩
    · rw [hg, hB.2.1.2.1]
      exact ⟨fun c3 => ⟨_, rfl, done (hw.mp c2) _ (by rw [eg, if_neg c3])⟩, fun c3 => ⟨⟨hL.2, by omega⟩, _, rfl, done (hw.mp c2) _ (by rw [eg, if_pos c3])⟩⟩
    · have hno : ¬ n ≤ h := fun hh => c2 (hw.mpr hh)
      refine sPa_readStatement hb hc hL hB hp hg (fun g hgf μ1 f1 l1 => ⟨fun c => absurd rfl c, fun _ => ⟨_, rfl, kf g (by unfold aAll; rw [if_neg hno, hgf]) μ1 (f1.mono Wss.pa) l1⟩⟩) (fun h1 e1 P1 hok μ1 f1 x1 B1 g1 => ⟨fun _ => ⟨by omega, ?_⟩, fun c => absurd c (by decide)⟩)
      have s := aStat_ok hc.hd hp hok
      have ea : aAll n t (f + 1) k h e P = aAll n t f (k + 1) h1 e1 P1 := by
        conv => lhs; unfold aAll
        rw [if_neg hno, hok]
      exact ih (k + 1) h1 e1 P1 μ1 (by omega) (by omega) x1 (hL.ss hb f1) B1 s.2 g1 (fun g hgf μ2 f2 l2 => kf g (by rw [ea]; exact hgf) μ2 ((f1.mono Wss.pa).tr f2) l2) (fun k' P' hok' h0' μ2 f2 C2 l2 => kt k' P' (by rw [ea]; exact hok') h0' μ2 ((f1.mono Wss.pa).tr f2) C2 l2)
end
