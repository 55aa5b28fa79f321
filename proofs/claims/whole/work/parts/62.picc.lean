/-! the picture: the class -/
theorem shl8 : ∀ a : Nat, a < 256 → ishl32 (a : Int) 8 = ((256 * a : Nat) : Int) := by decide +kernel
theorem or8 {a b : Int} (ha : 0 ≤ a ∧ a ≤ 255) (hb : 0 ≤ b ∧ b ≤ 255) : ior32 (ishl32 a 8) b = 256 * a + b := by
  have e := shl8 a.toNat (by omega)
  rw [show ((a.toNat : Nat) : Int) = a by omega] at e
  have e2 := or32 (a := 256 * a.toNat) (b := b.toNat) (by omega) (by omega)
  rw [show ((b.toNat : Nat) : Int) = b by omega] at e2
  rw [e, e2]
  have e3 := Nat.two_pow_add_eq_or_of_lt (i := 8) (b := b.toNat) (by omega) a.toNat
  rw [show 256 * a.toNat = 2 ^ 8 * a.toNat by omega, ← e3]
  omega
def TC (μ : jMu) (n : Int) (t : Int → Int) : Prop := μ 1 1 = n ∧ (0 ≤ n ∧ n ≤ 1600) ∧ ∀ k, 0 ≤ k → k < n → (0 ≤ t k ∧ t k ≤ 255) ∧ μ 2 k = sb (t k)
def TR (μ : jMu) (n : Int) (t : Int → Int) : Prop := μ 76 1 = n ∧ (0 ≤ n ∧ n ≤ 1600) ∧ ∀ k, 0 ≤ k → k < n → (0 ≤ t k ∧ t k ≤ 255) ∧ μ 77 k = t k
def WOx (i : Nat) (k : Int) : Prop := Wsw i k ∨ (i = 74 ∧ k = 0) ∨ (i = 1 ∧ k = 1)
def WIx (i : Nat) (k : Int) : Prop := i = 75 ∨ (i = 0 ∧ k = 15)
section
variable {E : jE} {μ μ1 : jMu} {P : jP} {w q : Int → Bool} {Q : Int → jMu → Prop} {Q0 : jMu → Prop} {b : Nat} {n : Int} {t : Int → Int}
theorem sTa_byteAt (h : TC μ n t) {a : Int} (k : Q (if 0 ≤ a ∧ a < n then t a else -1) μ) : Ci E mTa_byteAt [jvR 1, jvI a] μ Q := by
  obtain ⟨h1, h2, h3⟩ := h
  refine vTa_byteAt_0 ?_
  rw [h1]
  refine ⟨fun c => ⟨_, rfl, by rw [if_neg (by omega)] at k; exact k⟩, fun c => ⟨fun c2 => ⟨_, rfl, by rw [if_neg (by omega)] at k; exact k⟩, fun c2 => ⟨by omega, _, rfl, ?_⟩⟩⟩
  rw [if_pos (by omega)] at k
  have h4 := h3 a (by omega) (by omega)
  rw [h4.2, and255, sb_m _ h4.1]
  exact k
theorem sX_image (h : XS b μ P w q) (k : ∀ μ1, Fr WIx μ μ1 → μ1 75 0 = bs w 12 / 256 → μ1 75 1 = bs w 12 % 256 → μ1 75 2 = bs q 12 → μ1 75 3 = ck (bs w 12 / 256) (bs w 12 % 256) (bs q 12) → μ1 0 15 = 1 → Q 4 μ1) : Ci E mX_image [jvR 0] μ Q := by
  have hn := h.n
  have hv := v12 w
  have hq6 := v6 (by omega) h.2.2.2.2.2.2
  refine vX_image_0 ?_
  have e8 : ishr32 (bs w 12) 8 = bs w 12 / 256 := shr32 (k := 8) (by omega) (by omega)
  rw [h.2.2.1, h.2.2.2.2.1, e8, and255, and255, show bs w 12 / 256 % 256 = bs w 12 / 256 by omega]
  refine sX_check (by omega) (by omega) (by omega) ⟨_, rfl, k _ ?_ ?_ ?_ ?_ ?_ up_eq⟩
  · exact ((((Fr.up (Or.inl rfl)).put (Or.inl rfl)).put (Or.inl rfl)).put (Or.inl rfl)).put (Or.inr ⟨rfl, rfl⟩)
  · rw [up_ne (by decide), up_nk (by decide), up_nk (by decide), up_nk (by decide), up_eq]
  · rw [up_ne (by decide), up_nk (by decide), up_nk (by decide), up_eq]
  · rw [up_ne (by decide), up_nk (by decide), up_eq]
  · rw [up_ne (by decide), up_eq]
theorem sX_octet {a : Int} (k : Q (if 0 ≤ a ∧ a < 4 ∧ μ 0 15 ≠ 0 then μ 75 a else -1) μ) : Ci E mX_octet [jvR 0, jvI a] μ Q := by
  refine vX_octet_0 ⟨fun c => ⟨_, rfl, ?_⟩, fun c => ⟨fun c2 => ⟨_, rfl, ?_⟩, fun c2 => ⟨fun c3 => ⟨_, rfl, ?_⟩, fun c3 => ⟨by omega, _, rfl, ?_⟩⟩⟩⟩
  · rw [if_neg (by omega)] at k; exact k
  · rw [if_neg (by omega)] at k; exact k
  · rw [if_neg (by omega)] at k; exact k
  · rw [if_pos (by omega)] at k; exact k
theorem sX_on (h : XS b μ P w q) (ht : TC μ n t) (kf : (n ≠ 4 ∨ onV P (t 0) (t 1) (t 2) (t 3) = false) → Q 0 (j_up μ 1 1 0)) (kt : ∀ μ1, n = 4 → onV P (t 0) (t 1) (t 2) (t 3) = true → Fr WOx μ μ1 → XS b μ1 P (bt (256 * t 0 + t 1)) (bt (t 2)) → μ1 1 1 = 0 → μ1 69 4 = 0 → Q 1 μ1) : Ci E mX_on [jvR 0] μ Q := by
  have hn := h.n
  have no : (n ≠ 4 ∨ onV P (t 0) (t 1) (t 2) (t 3) = false) → ∀ x y : Int, K 121 E mX_on 101 [some (jvR 0), some (jvI x), some (jvI y), none] [jvI 0] μ (fun v μ1 => ∃ r, v = some (jvI r) ∧ Q r μ1) := fun hh x y => vX_on_101 ⟨fun _ => ⟨Or.inl rfl, _, rfl, kf hh⟩, fun c => absurd rfl c⟩
  refine vX_on_0 h.ib (sTa_byteAt ht (sTa_byteAt ht (sTa_byteAt ht ?_)))
  rw [ht.1]
  refine ⟨fun c => no (Or.inl c) _ _, fun c => ?_⟩
  subst c
  have b0 := (ht.2.2 0 (by omega) (by omega)).1
  have b1 := (ht.2.2 1 (by omega) (by omega)).1
  have b2 := (ht.2.2 2 (by omega) (by omega)).1
  have b3 := (ht.2.2 3 (by omega) (by omega)).1
  rw [if_pos (by omega), if_pos (by omega), if_pos (by omega), or8 b0 b1]
  refine sTa_byteAt ht (sTa_byteAt ht (sTa_byteAt ht ?_))
  rw [if_pos (by omega), if_pos (by omega), if_pos (by omega)]
  refine sX_check b0 b1 b2 ?_
  rw [h.c.e0.1, h.c.e0.2.2.1]
  have hz := shr_0 (x := 256 * t 0 + t 1) (r := nR P) (by omega) (by omega) (by omega) (by omega)
  have hz2 := shr_0 (x := t 2) (r := nD P) (by omega) (by omega) (by omega) (by omega)
  refine ⟨fun c2 => no (Or.inr (decide_eq_false (fun hh => c2 hh.1))) _ _, fun c2 => ⟨h.2.1, fun c3 => no (Or.inr (decide_eq_false (fun hh => c3 (hz.mpr hh.2.1)))) _ _, fun c3 => ⟨h.2.1, fun c4 => no (Or.inr (decide_eq_false (fun hh => c4 (hz2.mpr hh.2.2)))) _ _, fun c4 => ?_⟩⟩⟩
  have hv := hz.mp c3
  have hc := hz2.mp c4
  have hon : onV P (t 0) (t 1) (t 2) (t 3) = true := decide_eq_true ⟨c2, hv, hc⟩
  have h4 : ((2 ^ (nR P).toNat : Nat) : Int) ≤ 4096 := by
    have : 2 ^ (nR P).toNat ≤ 2 ^ 12 := Nat.pow_le_pow_right (by omega) (by omega)
    omega
  have f1 : Fr WOx μ (j_up (j_up μ 1 1 0) 74 0 (t 2)) := (Fr.up (Or.inr (Or.inr ⟨rfl, rfl⟩))).put (Or.inr (Or.inl ⟨rfl, rfl⟩))
  refine vX_on_101 ⟨fun c => absurd c (by decide), fun _ => ?_⟩
  refine sX_setWrong (q := bt (t 2)) (h.1.frx (f1.mono (fun i k hh => by unfold WOx Wsw at hh; omega))) ?_ ?_ (fun r hr => bt_lt b2.1 (by omega) hc hr) (w := bt (256 * t 0 + t 1)) ?_ (fun r hr => bt_lt (by omega) (by omega) hv hr) (fun μ2 f2 x2 z2 => ⟨Or.inr rfl, _, rfl, kt μ2 rfl hon (f1.tr (f2.mono (fun i k hh => Or.inl hh))) x2 ?_ z2⟩)
  · rw [f1 0 9 (by unfold WOx Wsw; omega)]; exact h.2.1
  · rw [up_eq]; exact (bs_btn (n := 12) b2.1 (by omega)).symm
  · exact (bs_btn (n := 12) (by omega) (by omega)).symm
  · rw [f2 1 1 (by unfold Wsw; omega), up_ne (by decide), up_eq]
end
