/-! the class's head on the tape -/
def WTk (i : Nat) (k : Int) : Prop := i = 1 ∧ 2 ≤ k
def HC (μ : jMu) (n : Int) (t : Int → Int) (h e : Int) : Prop := TC μ n t ∧ ((0 ≤ h ∧ h ≤ n) ∧ -1 ≤ e ∧ e ≤ h) ∧ (h < n → isBl (t h) = false) ∧ (μ 1 3 = h ∧ μ 1 6 = b2i (decide (e = h)) ∧ μ 3 8 = 0 ∧ μ 3 9 = -1) ∧ (n ≤ h → μ 1 2 = 0) ∧ (h < n → isL (t h) = true → μ 1 2 = 2 ∧ μ 1 4 = wl n t h - h ∧ μ 1 5 = wc n t h) ∧ (h < n → isDg (t h) = true → μ 1 2 = 3 ∧ μ 1 4 = dl n t h - h ∧ μ 1 5 = dv n t h) ∧ (h < n → isL (t h) = false → isDg (t h) = false → μ 1 2 = 1 ∧ μ 1 4 = 1 ∧ μ 1 5 = t h)
theorem shl5 : ∀ m : Nat, m < 6 → ∀ x : Nat, x < 27 → ishl32 (x : Int) (5 * (5 - (m : Int))) = ((x * 32 ^ (5 - m) : Nat) : Int) := by decide +kernel
theorem wcN_div {t : Int → Int} {h : Int} : ∀ m : Nat, m ≤ 6 → (∀ k : Int, 0 ≤ k → k < m → isL (t (h + k)) = true) → ∃ A : Nat, wcN t h m = ((A * 32 ^ (6 - m) : Nat) : Int)
  | 0, _, _ => ⟨0, by rw [Nat.zero_mul]; rfl⟩
  | m + 1, hm, hl => by
    obtain ⟨A, hA⟩ := wcN_div m (by omega) (fun k a b => hl k a (by omega))
    have hb := of_decide_eq_true (hl m (by omega) (by omega))
    refine ⟨A * 32 + (t (h + m) - 96).toNat, ?_⟩
    show wcN t h m + (t (h + m) - 96) * ((32 ^ (5 - m) : Nat) : Int) = _
    rw [hA, show 6 - m = (5 - m) + 1 by omega, show 6 - (m + 1) = 5 - m by omega, Nat.pow_succ, Nat.add_mul]
    generalize 32 ^ (5 - m) = B
    rw [show A * (B * 32) = A * 32 * B by ac_rfl, Int.natCast_add, Int.natCast_mul ((t (h + m) - 96).toNat) B, show (((t (h + m) - 96).toNat : Nat) : Int) = t (h + m) - 96 by omega]
theorem wcN_or {t : Int → Int} {h : Int} {m : Nat} (hm : m < 6) (hl : ∀ k : Int, 0 ≤ k → k < m + 1 → isL (t (h + k)) = true) : ior32 (wcN t h m) (ishl32 (t (h + m) - 97 + 1) (5 * (5 - (m : Int)))) = wcN t h (m + 1) := by
  obtain ⟨A, hA⟩ := wcN_div (t := t) (h := h) m (by omega) (fun k a b => hl k a (by omega))
  have hb := of_decide_eq_true (hl m (by omega) (by omega))
  have e := shl5 m hm (t (h + m) - 96).toNat (by omega)
  rw [show (((t (h + m) - 96).toNat : Nat) : Int) = t (h + m) - 96 by omega] at e
  have r1 := (wcN_c (t := t) (h := h) (m := m) (by omega) (fun k a b => hl k a (by omega))).1
  have r2 := (wcN_c (t := t) (h := h) (m := m + 1) (by omega) (fun k a b => hl k a (by omega))).1
  have s : wcN t h (m + 1) = wcN t h m + (t (h + m) - 96) * ((32 ^ (5 - m) : Nat) : Int) := rfl
  have em : (t (h + m) - 96) * ((32 ^ (5 - m) : Nat) : Int) = (((t (h + m) - 96).toNat * 32 ^ (5 - m) : Nat) : Int) := by
    rw [Int.natCast_mul, show (((t (h + m) - 96).toNat : Nat) : Int) = t (h + m) - 96 by omega]
  rw [show t (h + m) - 97 + 1 = t (h + m) - 96 by omega, e, s, em, hA]
  have hlt : (t (h + m) - 96).toNat * 32 ^ (5 - m) < 2 ^ (5 * (6 - m)) := by
    rw [show (2 : Nat) ^ (5 * (6 - m)) = 32 ^ (6 - m) by rw [Nat.pow_mul], show 6 - m = (5 - m) + 1 by omega, Nat.pow_succ, Nat.mul_comm (32 ^ (5 - m))]
    exact Nat.mul_lt_mul_of_pos_right (by omega) (Nat.pow_pos (by omega))
  have ea : A * 32 ^ (6 - m) = 2 ^ (5 * (6 - m)) * A := by rw [show (2 : Nat) ^ (5 * (6 - m)) = 32 ^ (6 - m) by rw [Nat.pow_mul], Nat.mul_comm]
  have o := Nat.two_pow_add_eq_or_of_lt hlt A
  rw [em, hA] at s
  have l1 : A * 32 ^ (6 - m) < 2 ^ 31 := by omega
  have l2 : (t (h + m) - 96).toNat * 32 ^ (5 - m) < 2 ^ 31 := by omega
  rw [or32 l1 l2, ea, ← o]
  omega
section
variable {E : jE} {μ μ1 : jMu} {Q : Int → jMu → Prop} {Q0 : jMu → Prop} {n h e : Int} {t : Int → Int}
theorem TC.fr (h : TC μ n t) (hf : Fr (fun i k => i ≠ 2 ∧ ¬ (i = 1 ∧ k = 1)) μ μ1) : TC μ1 n t := ⟨by rw [hf 1 1 (by omega)]; exact h.1, h.2.1, fun k a b => by rw [hf 2 k (by omega)]; exact h.2.2 k a b⟩
theorem TC.tk (h : TC μ n t) (hf : Fr WTk μ μ1) : TC μ1 n t := h.fr (hf.mono (fun i k hh => by unfold WTk at hh; omega))
theorem sbc {x : Int} (h : 0 ≤ x ∧ x ≤ 255) : (sb x = 32 ↔ x = 32) ∧ (sb x = 10 ↔ x = 10) ∧ (sb x < 97 ↔ (x < 97 ∨ 128 ≤ x)) ∧ (122 < sb x ↔ (122 < x ∧ x < 128)) ∧ (sb x < 48 ↔ (x < 48 ∨ 128 ≤ x)) ∧ (57 < sb x ↔ (57 < x ∧ x < 128)) ∧ (x < 128 → sb x = x) := by
  unfold sb
  split <;> omega
theorem sTa_advance (hT : TC μ n t) (hK : μ 3 8 = 0 ∧ μ 3 9 = -1) {p e : Int} (hp : p = μ 1 3 + μ 1 4) (h0 : 0 ≤ p) (h1 : p ≤ n) (he : -1 ≤ e) (e1 : 2 ≤ μ 1 2 → e = p) (e2 : μ 1 2 < 2 → e < p) (k : ∀ μ1, Fr WTk μ μ1 → HC μ1 n t (sk n t p) e → Q0 μ1) : Cv E mTa_advance [jvR 1] μ Q0 := by
  have hn := hT.2.1
  have hb := hT.2.2
  have hK' : ∀ {μ2}, Fr WTk μ μ2 → μ2 3 8 = 0 ∧ μ2 3 9 = -1 := fun f => ⟨by rw [f 3 8 (by unfold WTk; omega)]; exact hK.1, by rw [f 3 9 (by unfold WTk; omega)]; exact hK.2⟩
  refine vTa_advance_0 ?_
  rw [← hp]
  refine ⟨by omega, ?_⟩
  -- what stands at the place
  have fin : ∀ (l1 s0 : Int), p ≤ l1 → l1 ≤ n → l1 = sk n t p → (l1 < n → isBl (t l1) = false) → s0 = b2i (decide (e = l1)) → K 121 E mTa_advance 73 [some (jvR 1), some (jvI l1), none, none, none, none] [jvI s0, jvR 1] μ (fun v μ1 => v = none ∧ Q0 μ1) := by
    intro l1 s0 g0 g1 g2 g3 g4
    have hs0 := b2i_01 (decide (e = l1))
    rw [← g4] at hs0
    have hel : e ≤ l1 := by
      by_cases hh : 2 ≤ μ 1 2
      · have := e1 hh; omega
      · have := e2 (by omega); omega
    rw [← g2] at k
    have f0 : Fr WTk μ (j_up (j_up (j_up (j_up μ 1 6 s0) 1 3 l1) 1 4 0) 1 5 0) := (((Fr.up ⟨rfl, by omega⟩).put ⟨rfl, by omega⟩).put ⟨rfl, by omega⟩).put ⟨rfl, by omega⟩
    generalize hμ0 : j_up (j_up (j_up (j_up μ 1 6 s0) 1 3 l1) 1 4 0) 1 5 0 = μ0 at f0
    have v3 : μ0 1 3 = l1 := by rw [← hμ0, up_nk (by decide), up_nk (by decide), up_eq]
    have v4 : μ0 1 4 = 0 := by rw [← hμ0, up_nk (by decide), up_eq]
    have v5 : μ0 1 5 = 0 := by rw [← hμ0, up_eq]
    have v6 : μ0 1 6 = s0 := by rw [← hμ0, up_nk (by decide), up_nk (by decide), up_nk (by decide), up_eq]
    refine vTa_advance_73 ?_
    rw [hμ0, hT.1]
    refine ⟨hs0, fun c => ?_, fun c => ⟨rfl, k _ (f0.put ⟨rfl, by omega⟩) ⟨hT.tk (f0.put ⟨rfl, by omega⟩), by omega, fun hh => by omega, ⟨?_, ?_, hK' (f0.put ⟨rfl, by omega⟩)⟩, fun _ => up_eq, fun hh => by omega, fun hh => by omega, fun hh => by omega⟩⟩⟩
    · have hbl := hb l1 (by omega) c
      have hT0 := hT.tk f0
      have hcmp := sbc hbl.1
      rw [hbl.2]
      -- the loop over a word or a number
      have lpW : isL (t l1) = true → ∀ (x : Int) (μ5 : jMu), l1 ≤ x → x ≤ wl n t l1 → Fr WTk μ μ5 → μ5 1 2 = 2 → μ5 1 3 = l1 → μ5 1 6 = s0 → μ5 1 4 = x - l1 → μ5 1 5 = wcN t l1 (m6 (x - l1)).toNat → K 121 E mTa_advance 236 [some (jvR 1), some (jvI x), some (jvI 1), some (jvI 0), some (jvI 97), some (jvI 122)] [] μ5 (fun v μ1 => v = none ∧ Q0 μ1) := by
        intro hL
        obtain ⟨w1, w2, w3⟩ := wl_r c hL
        refine fun x => up_ind (wl n t l1) (fun x => ∀ (μ5 : jMu), l1 ≤ x → x ≤ wl n t l1 → Fr WTk μ μ5 → μ5 1 2 = 2 → μ5 1 3 = l1 → μ5 1 6 = s0 → μ5 1 4 = x - l1 → μ5 1 5 = wcN t l1 (m6 (x - l1)).toNat → K 121 E mTa_advance 236 [some (jvR 1), some (jvI x), some (jvI 1), some (jvI 0), some (jvI 97), some (jvI 122)] [] μ5 (fun v μ1 => v = none ∧ Q0 μ1)) ?_ x
        intro x ih μ5 d0 d1 d2 d3 d4 d5 d6 d7
        have hT5 := hT.tk d2
        have done : x = wl n t l1 → Q0 μ5 := fun hx => k μ5 d2 ⟨hT5, by omega, g3, ⟨d4, by rw [d5]; exact g4, hK' d2⟩, fun hh => by omega, fun _ _ => ⟨d3, by omega, by rw [d7, hx]; rfl⟩, fun _ hh => by
          have a1 := of_decide_eq_true hL
          have a2 := of_decide_eq_true hh
          omega, fun _ hh => by rw [hL] at hh; cases hh⟩
        refine vTa_advance_236 ?_
        rw [hT5.1]
        by_cases hx : x < wl n t l1
        · have hxb := hT5.2.2 x (by omega) (by omega)
          have hxl := of_decide_eq_true (w3 x d0 hx)
          have hxs : sb (t x) = t x := (sbc hxb.1).2.2.2.2.2.2 (by omega)
          rw [hxb.2, hxs, d6, d7]
          refine ⟨fun c2 => by omega, fun c2 => ⟨by omega, fun c3 => by omega, fun c3 => ⟨by omega, fun c4 => by omega, fun c4 => ⟨fun c5 => absurd c5 (by decide), fun c5 => ⟨fun c6 => ⟨fun c7 => ?_, fun c7 => absurd rfl c7⟩, fun c6 => ⟨by omega, ?_⟩⟩⟩⟩⟩⟩
          · refine vTa_advance_344 ?_
            rw [d6]
            refine ⟨by omega, ih hx _ (by omega) (by omega) (d2.put ⟨rfl, by omega⟩) ?_ ?_ ?_ ?_ ?_⟩
            · rw [up_nk (by decide)]; exact d3
            · rw [up_nk (by decide)]; exact d4
            · rw [up_nk (by decide)]; exact d5
            · rw [up_eq]; omega
            · rw [up_nk (by decide), d7]
              unfold m6
              rw [if_neg (by omega), if_neg (by omega)]
          · refine vTa_advance_344 ?_
            rw [up_nk (by decide), d6]
            have eo := wcN_or (t := t) (h := l1) (m := (x - l1).toNat) (by omega) (fun k a b => w3 (l1 + k) (by omega) (by omega))
            rw [show (((x - l1).toNat : Nat) : Int) = x - l1 by omega, show l1 + (x - l1) = x by omega] at eo
            rw [show m6 (x - l1) = x - l1 by unfold m6; rw [if_pos (by omega)], eo]
            refine ⟨by omega, ih hx _ (by omega) (by omega) ((d2.put ⟨rfl, by omega⟩).put ⟨rfl, by omega⟩) ?_ ?_ ?_ ?_ ?_⟩
            · rw [up_nk (by decide), up_nk (by decide)]; exact d3
            · rw [up_nk (by decide), up_nk (by decide)]; exact d4
            · rw [up_nk (by decide), up_nk (by decide)]; exact d5
            · rw [up_eq]; omega
            · rw [up_nk (by decide), up_eq]
              congr 1
              unfold m6
              split <;> omega
        · have hxe : x = wl n t l1 := by omega
          refine ⟨fun c2 => ⟨rfl, done hxe⟩, fun c2 => ⟨by omega, ?_⟩⟩
          have hxb := hT5.2.2 x (by omega) (by omega)
          have hst : isL (t x) = false := by
            have := rnn_stop (p := fun k => isL (t k)) (n := n) (a := l1) (by omega) (by show wl n t l1 < n; omega)
            rw [hxe]; exact this
          have hst2 : ¬ (97 ≤ t x ∧ t x ≤ 122) := of_decide_eq_false hst
          have hcx := sbc hxb.1
          rw [hxb.2]
          refine ⟨fun c3 => ⟨rfl, done hxe⟩, fun c3 => ⟨by omega, fun c4 => ⟨rfl, done hxe⟩, fun c4 => by omega⟩⟩
      have lpD : isDg (t l1) = true → ∀ (x : Int) (μ5 : jMu), l1 ≤ x → x ≤ dl n t l1 → Fr WTk μ μ5 → μ5 1 2 = 3 → μ5 1 3 = l1 → μ5 1 6 = s0 → μ5 1 4 = x - l1 → μ5 1 5 = dvN t l1 (m4 (x - l1)).toNat → K 121 E mTa_advance 236 [some (jvR 1), some (jvI x), some (jvI 0), some (jvI 1), some (jvI 48), some (jvI 57)] [] μ5 (fun v μ1 => v = none ∧ Q0 μ1) := by
        intro hL
        obtain ⟨w1, w2, w3⟩ := dl_r c hL
        refine fun x => up_ind (dl n t l1) (fun x => ∀ (μ5 : jMu), l1 ≤ x → x ≤ dl n t l1 → Fr WTk μ μ5 → μ5 1 2 = 3 → μ5 1 3 = l1 → μ5 1 6 = s0 → μ5 1 4 = x - l1 → μ5 1 5 = dvN t l1 (m4 (x - l1)).toNat → K 121 E mTa_advance 236 [some (jvR 1), some (jvI x), some (jvI 0), some (jvI 1), some (jvI 48), some (jvI 57)] [] μ5 (fun v μ1 => v = none ∧ Q0 μ1)) ?_ x
        intro x ih μ5 d0 d1 d2 d3 d4 d5 d6 d7
        have hT5 := hT.tk d2
        have done : x = dl n t l1 → Q0 μ5 := fun hx => k μ5 d2 ⟨hT5, by omega, g3, ⟨d4, by rw [d5]; exact g4, hK' d2⟩, fun hh => by omega, fun _ hh => by
          have a1 := of_decide_eq_true hL
          have a2 := of_decide_eq_true hh
          omega, fun _ _ => ⟨d3, by omega, by rw [d7, hx]; rfl⟩, fun _ _ hh => by rw [hL] at hh; cases hh⟩
        refine vTa_advance_236 ?_
        rw [hT5.1]
        by_cases hx : x < dl n t l1
        · have hxb := hT5.2.2 x (by omega) (by omega)
          have hxl := of_decide_eq_true (w3 x d0 hx)
          have hxs : sb (t x) = t x := (sbc hxb.1).2.2.2.2.2.2 (by omega)
          rw [hxb.2, hxs, d6, d7]
          refine ⟨fun c2 => by omega, fun c2 => ⟨by omega, fun c3 => by omega, fun c3 => ⟨by omega, fun c4 => by omega, fun c4 => ⟨fun c5 => ⟨fun c6 => absurd c6 (by decide), fun c6 => ⟨fun c7 => ?_, fun c7 => ?_⟩⟩, fun c5 => absurd rfl c5⟩⟩⟩⟩
          · refine vTa_advance_344 ?_
            rw [d6]
            refine ⟨by omega, ih hx _ (by omega) (by omega) (d2.put ⟨rfl, by omega⟩) ?_ ?_ ?_ ?_ ?_⟩
            · rw [up_nk (by decide)]; exact d3
            · rw [up_nk (by decide)]; exact d4
            · rw [up_nk (by decide)]; exact d5
            · rw [up_eq]; omega
            · rw [up_nk (by decide), d7]
              unfold m4
              rw [if_neg (by omega), if_neg (by omega)]
          · rw [show m4 (x - l1) = x - l1 by unfold m4; rw [if_pos (by omega)]]
            have hr := dvN_r (t := t) (h := l1) (x - l1).toNat (by omega) (fun k a b => w3 (l1 + k) (by omega) (by omega))
            have hp4 : 10 ^ (x - l1).toNat ≤ 10 ^ 4 := Nat.pow_le_pow_right (by omega) (by omega)
            have es : 10 * dvN t l1 (x - l1).toNat + t x - 48 = dvN t l1 (x + 1 - l1).toNat := by
              rw [show (x + 1 - l1).toNat = (x - l1).toNat + 1 by omega]
              show _ = 10 * dvN t l1 (x - l1).toNat + t (l1 + (((x - l1).toNat : Nat) : Int)) - 48
              rw [show l1 + (((x - l1).toNat : Nat) : Int) = x by omega]
            refine ⟨by omega, vTa_advance_344 ?_⟩
            rw [up_nk (by decide), d6, es]
            refine ⟨by omega, ih hx _ (by omega) (by omega) ((d2.put ⟨rfl, by omega⟩).put ⟨rfl, by omega⟩) ?_ ?_ ?_ ?_ ?_⟩
            · rw [up_nk (by decide), up_nk (by decide)]; exact d3
            · rw [up_nk (by decide), up_nk (by decide)]; exact d4
            · rw [up_nk (by decide), up_nk (by decide)]; exact d5
            · rw [up_eq]; omega
            · rw [up_nk (by decide), up_eq]
              congr 1
              unfold m4
              split <;> omega
        · have hxe : x = dl n t l1 := by omega
          refine ⟨fun c2 => ⟨rfl, done hxe⟩, fun c2 => ⟨by omega, ?_⟩⟩
          have hxb := hT5.2.2 x (by omega) (by omega)
          have hst : isDg (t x) = false := by
            have := rnn_stop (p := fun k => isDg (t k)) (n := n) (a := l1) (by omega) (by show dl n t l1 < n; omega)
            rw [hxe]; exact this
          have hst2 : ¬ (48 ≤ t x ∧ t x ≤ 57) := of_decide_eq_false hst
          have hcx := sbc hxb.1
          rw [hxb.2]
          refine ⟨fun c3 => ⟨rfl, done hxe⟩, fun c3 => ⟨by omega, fun c4 => ⟨rfl, done hxe⟩, fun c4 => by omega⟩⟩
      have go1 : isL (t l1) = true → K 121 E mTa_advance 132 [some (jvR 1), some (jvI l1), none, none, none, none] [jvI 1] μ0 (fun v μ1 => v = none ∧ Q0 μ1) := by
        intro hL
        have hl := of_decide_eq_true hL
        refine vTa_advance_132 ?_
        rw [(hT0.2.2 l1 (by omega) c).2]
        refine ⟨by omega, fun c2 => by omega, fun c2 => ⟨by omega, fun c3 => vTa_advance_160 ⟨fun c4 => absurd c4 (by decide), fun c4 => ⟨fun c5 => absurd c5 (by decide), fun c5 => ⟨fun c6 => absurd c6 (by decide), fun c6 => ?_⟩⟩⟩, fun c3 => by omega⟩⟩
        refine lpW hL l1 _ (by omega) (by have := wl_r c hL; omega) (f0.put ⟨rfl, by omega⟩) up_eq ?_ ?_ ?_ ?_
        · rw [up_nk (by decide)]; exact v3
        · rw [up_nk (by decide)]; exact v6
        · rw [up_nk (by decide), v4]; omega
        · rw [up_nk (by decide), v5, show l1 - l1 = 0 by omega]; rfl
      have go0 : isL (t l1) = false → K 121 E mTa_advance 132 [some (jvR 1), some (jvI l1), none, none, none, none] [jvI 0] μ0 (fun v μ1 => v = none ∧ Q0 μ1) := by
        intro hL
        have hl : ¬ (97 ≤ t l1 ∧ t l1 ≤ 122) := of_decide_eq_false hL
        have mark : isDg (t l1) = false → K 121 E mTa_advance 160 [some (jvR 1), some (jvI l1), some (jvI 0), none, none, none] [jvI 0] μ0 (fun v μ1 => v = none ∧ Q0 μ1) := by
          intro hD
          refine vTa_advance_160 ⟨fun _ => ⟨fun _ => ?_, fun c5 => absurd rfl c5⟩, fun c4 => absurd rfl c4⟩
          rw [(hT0.2.2 l1 (by omega) c).2, and255, sb_m _ hbl.1]
          have f1 : Fr WTk μ (j_up (j_up (j_up μ0 1 2 1) 1 5 (t l1)) 1 4 1) := ((f0.put ⟨rfl, by omega⟩).put ⟨rfl, by omega⟩).put ⟨rfl, by omega⟩
          refine ⟨by omega, rfl, k _ f1 ⟨hT.tk f1, by omega, g3, ⟨?_, ?_, hK' f1⟩, fun hh => by omega, fun _ hh => (by rw [hL] at hh; cases hh), fun _ hh => (by rw [hD] at hh; cases hh), fun _ _ _ => ⟨?_, up_eq, ?_⟩⟩⟩
          · rw [up_nk (by decide), up_nk (by decide), up_nk (by decide)]; exact v3
          · rw [up_nk (by decide), up_nk (by decide), up_nk (by decide), v6]; exact g4
          · rw [up_nk (by decide), up_nk (by decide), up_eq]
          · rw [up_nk (by decide), up_eq]
        refine vTa_advance_132 ?_
        rw [(hT0.2.2 l1 (by omega) c).2]
        refine ⟨by omega, fun c2 => mark (decide_eq_false (by omega)), fun c2 => ⟨by omega, fun c3 => mark (decide_eq_false (by omega)), fun c3 => ?_⟩⟩
        have hD : isDg (t l1) = true := decide_eq_true (by omega)
        refine vTa_advance_160 ⟨fun _ => ⟨fun c5 => absurd c5 (by decide), fun _ => ⟨fun _ => ⟨fun _ => ?_, fun c5 => absurd rfl c5⟩, fun c5 => absurd rfl c5⟩⟩, fun c4 => absurd rfl c4⟩
        refine lpD hD l1 _ (by omega) (by have := dl_r c hD; omega) (f0.put ⟨rfl, by omega⟩) up_eq ?_ ?_ ?_ ?_
        · rw [up_nk (by decide)]; exact v3
        · rw [up_nk (by decide)]; exact v6
        · rw [up_nk (by decide), v4]; omega
        · rw [up_nk (by decide), v5, show l1 - l1 = 0 by omega]; rfl
      refine ⟨by omega, fun c2 => go0 (decide_eq_false (by omega)), fun c2 => ⟨by omega, fun c3 => go0 (decide_eq_false (by omega)), fun c3 => go1 (decide_eq_true (by omega))⟩⟩
    · rw [up_nk (by decide)]; exact v3
    · rw [up_nk (by decide), v6]; exact g4
  have lp : ∀ (l1 : Int), p ≤ l1 → l1 ≤ n → sk n t l1 = sk n t p → K 121 E mTa_advance 10 [some (jvR 1), some (jvI l1), none, none, none, none] [] μ (fun v μ1 => v = none ∧ Q0 μ1) := by
    refine fun l1 => up_ind n (fun l1 => p ≤ l1 → l1 ≤ n → sk n t l1 = sk n t p → K 121 E mTa_advance 10 [some (jvR 1), some (jvI l1), none, none, none, none] [] μ (fun v μ1 => v = none ∧ Q0 μ1)) ?_ l1
    intro l1 ih g0 g1 g2
    have stop : l1 = sk n t p → (l1 < n → isBl (t l1) = false) → ((μ 1 2 < 2 → K 121 E mTa_advance 73 [some (jvR 1), some (jvI l1), none, none, none, none] [jvI 0, jvR 1] μ (fun v μ1 => v = none ∧ Q0 μ1)) ∧ (¬ (μ 1 2 < 2) → (-2147483648 ≤ p ∧ p < 2147483648) ∧ ((¬ l1 = p → K 121 E mTa_advance 73 [some (jvR 1), some (jvI l1), none, none, none, none] [jvI 0, jvR 1] μ (fun v μ1 => v = none ∧ Q0 μ1)) ∧ (l1 = p → K 121 E mTa_advance 73 [some (jvR 1), some (jvI l1), none, none, none, none] [jvI 1, jvR 1] μ (fun v μ1 => v = none ∧ Q0 μ1))))) := by
      intro s1 s2
      refine ⟨fun c => fin l1 0 g0 g1 s1 s2 ?_, fun c => ⟨by omega, fun c2 => fin l1 0 g0 g1 s1 s2 ?_, fun c2 => fin l1 1 g0 g1 s1 s2 ?_⟩⟩
      · have := e2 c
        rw [decide_eq_false (by omega)]; rfl
      · have := e1 (by omega)
        rw [decide_eq_false (by omega)]; rfl
      · have := e1 (by omega)
        rw [decide_eq_true (by omega)]; rfl
    refine vTa_advance_10 ?_
    rw [hT.1, ← hp]
    refine ⟨fun c => stop ?_ (fun hh => by omega), fun c => ⟨by omega, ?_⟩⟩
    · rw [← g2]; exact (rnn_end (by omega)).symm
    · have hbl := hb l1 (by omega) (by omega)
      have hc := sbc hbl.1
      rw [hbl.2]
      have step : isBl (t l1) = true → K 121 E mTa_advance 10 [some (jvR 1), some (jvI (l1 + 1)), none, none, none, none] [] μ (fun v μ1 => v = none ∧ Q0 μ1) := fun hh => ih (by omega) (by omega) (by omega) (by rw [← g2]; exact (rnn_yes (p := fun k => isBl (t k)) (by omega) hh).symm)
      refine ⟨fun c2 => ⟨by omega, step (decide_eq_true (Or.inl (hc.1.mp c2)))⟩, fun c2 => ⟨by omega, fun c3 => ?_, fun c3 => ⟨by omega, step (decide_eq_true (Or.inr (hc.2.1.mp c3)))⟩⟩⟩
      have hno : isBl (t l1) = false := decide_eq_false (by omega)
      exact stop (by rw [← g2]; exact (rnn_no (p := fun k => isBl (t k)) hno).symm) (fun _ => hno)
  exact lp p (by omega) h1 rfl
end
