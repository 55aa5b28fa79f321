/-! the reference: blame, readers, trials, images -/
def setb (w : Int → Bool) (r : Int) (v : Bool) : Int → Bool := fun j => if j = r then v else w j
def vBlame (P : jP) (w : Int → Bool) (r : Int) (v : Bool) : Int := if 0 ≤ r ∧ r < nR P then cnt (flt P (setb w r v)) (nS P) else -1
def wBlame (P : jP) (w : Int → Bool) (r : Int) (v : Bool) : Int → Bool := if 0 ≤ r ∧ r < nR P then setb w r v else w
def vStands (P : jP) (w : Int → Bool) : Int := if nS P = 0 then -1 else b2i (anyB (fun s => fs P s == fs P (gl P) && !flt P w s) (nS P))
def vAsk (P : jP) (q : Int → Bool) (r : Int) (v : Bool) : Int := if 0 ≤ r ∧ r < nD P then cnt (setb q r v) (nD P) else -1
def qAsk (P : jP) (q : Int → Bool) (r : Int) (v : Bool) : Int → Bool := if 0 ≤ r ∧ r < nD P then setb q r v else q
def lsN (P : jP) (A : Int → Bool) : Nat → Int
  | 0 => -1
  | n + 1 => if nd P n = true then (if lsN P A n = -1 then (n : Int) else if sn P A n < sn P A (lsN P A n) then (n : Int) else lsN P A n) else lsN P A n
def lst (P : jP) (A : Int → Bool) : Int := lsN P A (nS P).toNat
theorem lsN_s {P : jP} {A : Int → Bool} {n : Int} (h : 0 ≤ n) : lsN P A (n + 1).toNat = if nd P n = true then (if lsN P A n.toNat = -1 then n else if sn P A n < sn P A (lsN P A n.toNat) then n else lsN P A n.toNat) else lsN P A n.toNat := by
  rw [show (n + 1).toNat = n.toNat + 1 by omega]
  show (if nd P ((n.toNat : Nat) : Int) = true then (if lsN P A n.toNat = -1 then ((n.toNat : Nat) : Int) else if sn P A ((n.toNat : Nat) : Int) < sn P A (lsN P A n.toNat) then ((n.toNat : Nat) : Int) else lsN P A n.toNat) else lsN P A n.toNat) = _
  rw [show ((n.toNat : Nat) : Int) = n by omega]
def vLeast (P : jP) (q : Int → Bool) (a : Int) : Int := if nS P = 0 then -1 else if a = 0 then sn P q (lst P q) else if a = 1 then lst P q else -1
def whN (P : jP) (q : Int → Bool) : Nat → Int × Int
  | 0 => (-1, -1)
  | n + 1 => if q n = true then whN P q n else if (whN P q n).2 < sn P (setb q n true) (lst P (setb q n true)) then ((n : Int), sn P (setb q n true) (lst P (setb q n true))) else whN P q n
theorem whN_s {P : jP} {q : Int → Bool} {n : Int} (h : 0 ≤ n) : whN P q (n + 1).toNat = if q n = true then whN P q n.toNat else if (whN P q n.toNat).2 < sn P (setb q n true) (lst P (setb q n true)) then (n, sn P (setb q n true) (lst P (setb q n true))) else whN P q n.toNat := by
  rw [show (n + 1).toNat = n.toNat + 1 by omega]
  show (if q ((n.toNat : Nat) : Int) = true then whN P q n.toNat else if (whN P q n.toNat).2 < sn P (setb q ((n.toNat : Nat) : Int) true) (lst P (setb q ((n.toNat : Nat) : Int) true)) then (((n.toNat : Nat) : Int), sn P (setb q ((n.toNat : Nat) : Int) true) (lst P (setb q ((n.toNat : Nat) : Int) true))) else whN P q n.toNat) = _
  rw [show ((n.toNat : Nat) : Int) = n by omega]
def vWhom (P : jP) (q : Int → Bool) : Int := if nS P = 0 then -1 else (whN P q (nD P).toNat).1
/-- draws -/
def dr (d : Int) : Int := (1103515245 * d + 12345) % 2147483648
def tsN (P : jP) (q : Int → Bool) (s d : Int) : Nat → Bool × Int
  | 0 => (false, d)
  | n + 1 => if (q n && decide (rf P n ≤ s ∧ s ≤ rt P n)) = true then ((tsN P q s d n).1 || decide (dr (tsN P q s d n).2 / 64 % 100 < od P n), dr (tsN P q s d n).2) else tsN P q s d n
theorem tsN_s {P : jP} {q : Int → Bool} {s d n : Int} (h : 0 ≤ n) : tsN P q s d (n + 1).toNat = if (q n && decide (rf P n ≤ s ∧ s ≤ rt P n)) = true then ((tsN P q s d n.toNat).1 || decide (dr (tsN P q s d n.toNat).2 / 64 % 100 < od P n), dr (tsN P q s d n.toNat).2) else tsN P q s d n.toNat := by
  rw [show (n + 1).toNat = n.toNat + 1 by omega]
  show (if (q ((n.toNat : Nat) : Int) && decide (rf P ((n.toNat : Nat) : Int) ≤ s ∧ s ≤ rt P ((n.toNat : Nat) : Int))) = true then ((tsN P q s d n.toNat).1 || decide (dr (tsN P q s d n.toNat).2 / 64 % 100 < od P ((n.toNat : Nat) : Int)), dr (tsN P q s d n.toNat).2) else tsN P q s d n.toNat) = _
  rw [show ((n.toNat : Nat) : Int) = n by omega]
def tr1 (P : jP) (q : Int → Bool) (s d : Int) : Bool × Int := tsN P q s d (nD P).toNat
def trN (P : jP) (q : Int → Bool) (s d : Int) : Nat → Int × Int
  | 0 => (0, d)
  | n + 1 => ((trN P q s d n).1 + b2i (tr1 P q s (trN P q s d n).2).1, (tr1 P q s (trN P q s d n).2).2)
theorem trN_s {P : jP} {q : Int → Bool} {s d n : Int} (h : 0 ≤ n) : trN P q s d (n + 1).toNat = ((trN P q s d n.toNat).1 + b2i (tr1 P q s (trN P q s d n.toNat).2).1, (tr1 P q s (trN P q s d n.toNat).2).2) := by
  rw [show (n + 1).toNat = n.toNat + 1 by omega]
  rfl
def okD (d : Int) : Prop := 0 ≤ d ∧ d < 2147483648
theorem dr_ok (d : Int) : okD (dr d) := by
  unfold okD dr
  omega
theorem tsN_ok {P : jP} {q : Int → Bool} {s d : Int} (h : okD d) : ∀ n : Nat, okD (tsN P q s d n).2
  | 0 => h
  | n + 1 => by
    unfold tsN
    split
    · exact dr_ok _
    · exact tsN_ok h n
theorem trN_ok {P : jP} {q : Int → Bool} {s d : Int} (h : okD d) : ∀ n : Nat, okD (trN P q s d n).2 ∧ 0 ≤ (trN P q s d n).1 ∧ (trN P q s d n).1 ≤ n
  | 0 => ⟨h, Int.le_refl 0, Int.le_refl 0⟩
  | n + 1 => by
    have ih := trN_ok (P := P) (q := q) (s := s) h n
    refine ⟨tsN_ok ih.1 _, ?_⟩
    have := b2i_01 (tr1 P q s (trN P q s d n).2).1
    show 0 ≤ (trN P q s d n).1 + b2i (tr1 P q s (trN P q s d n).2).1 ∧ (trN P q s d n).1 + b2i (tr1 P q s (trN P q s d n).2).1 ≤ _
    omega
def vTrials (P : jP) (q : Int → Bool) (s n d : Int) : Int := if (0 ≤ s ∧ s < nS P) ∧ (1 ≤ n ∧ n ≤ 1000) then (trN P q s d n.toNat).1 else -1
def dTrials (P : jP) (q : Int → Bool) (s n d : Int) : Int := if (0 ≤ s ∧ s < nS P) ∧ (1 ≤ n ∧ n ≤ 1000) then (trN P q s d n.toNat).2 else d
def ck (a b c : Int) : Int := Int.tmod ((7 * (Int.tmod ((7 * (Int.tmod (427 + a) 247)) + b) 247)) + c) 247
section
variable {E : jE} {μ μ1 : jMu} {P : jP} {w q : Int → Bool} {Q : Int → jMu → Prop}
theorem RK.frw (h : RK μ P) (hf : Fr (fun i _ => i = 107 ∨ i = 109 ∨ i = 120 ∨ i = 77) μ μ1) : RK μ1 P := by
  obtain ⟨a, b, c, d⟩ := h
  refine ⟨a.frN (hf.mono (fun i k hw => by unfold NDr; omega)), fun s h0 h1 => ?_, fun k h0 h1 => ?_, ?_⟩
  · rw [hf 103 s (by omega), hf 104 s (by omega), hf 106 s (by omega)]; exact b s h0 h1
  · rw [hf 105 k (by omega)]; exact c k h0 h1
  · rw [hf 76 44 (by omega)]; exact d
theorem RS.setw (h : RS μ P w q) {r x : Int} {v : Bool} (hx : x = b2i v) : RS (j_up μ 107 r x) P (setb w r v) q := by
  refine ⟨h.1.frw (Fr.up (Or.inl rfl)), fun j a b => ?_, fun j a b => ?_⟩
  · rw [up_if]
    unfold setb
    split
    · exact hx
    · exact h.2.1 j a b
  · rw [up_ne (by decide)]; exact h.2.2 j a b
theorem RS.setq (h : RS μ P w q) {r x : Int} {v : Bool} (hx : x = b2i v) : RS (j_up μ 109 r x) P w (setb q r v) := by
  refine ⟨h.1.frw (Fr.up (Or.inr (Or.inl rfl))), fun j a b => ?_, fun j a b => ?_⟩
  · rw [up_ne (by decide)]; exact h.2.1 j a b
  · rw [up_if]
    unfold setb
    split
    · exact hx
    · exact h.2.2 j a b
def WR7 (i : Nat) (k : Int) : Prop := i = 107 ∨ SR i k
theorem sM_blame (h : RS μ P w q) {r x : Int} {v : Bool} (hx : x = b2i v) (k : ∀ μ1, Fr WR7 μ μ1 → RS μ1 P (wBlame P w r v) q → Q (vBlame P w r v) μ1) : Ci E mM_blame [jvR 76, jvI r, jvI x] μ Q := by
  have hn := h.n
  unfold vBlame wBlame at k
  refine vM_blame_0 (sM_isRule h.r (fun h0 h1 => ⟨fun _ => ⟨⟨by omega, by rw [hx]; exact b2i_01 v⟩, ?_⟩, fun c => absurd c (by decide)⟩) (fun h0 => ⟨fun c => absurd rfl c, fun _ => ⟨_, rfl, ?_⟩⟩))
  · rw [if_pos ⟨h0, h1⟩, if_pos ⟨h0, h1⟩] at k
    have hS := h.setw (r := r) hx
    exact sM_falls hS (fun μ1 f1 _ => ⟨_, rfl, k μ1 ((Fr.up (W := WR7) (Or.inl rfl)).tr (f1.mono (fun i j hh => Or.inr hh))) (hS.fr f1)⟩)
  · rw [if_neg (by omega), if_neg (by omega)] at k; exact k μ Fr.rf h
theorem sM_stands (h : RS μ P w q) (k : ∀ μ1, Fr SR μ μ1 → Q (vStands P w) μ1) : Ci E mM_stands [jvR 76] μ Q := by
  have hn := h.n
  unfold vStands at k
  refine vM_stands_0 (sM_steps h.r ⟨fun c => sM_falls h (fun μ1 f1 e1 => ?_), fun c => ⟨_, rfl, ?_⟩⟩)
  · rw [if_neg c] at k
    have hg := h.wf.g.1 (by omega)
    have hR := h.fr f1
    have lp : ∀ (l2 : Int), 0 ≤ l2 → l2 ≤ nS P → anyB (fun s => fs P s == fs P (gl P) && !flt P w s) l2 = false → K 121 E mM_stands 16 [some (jvR 76), some (jvI (cnt (flt P w) (nS P))), some (jvI l2)] [] μ1 (fun v μ1 => ∃ r, v = some (jvI r) ∧ Q r μ1) := by
      refine up_ind (nS P) _ ?_
      intro l2 ih g0 g1 g3
      refine vM_stands_16 (sM_steps hR.r ⟨fun c2 => ⟨_, rfl, ?_⟩, fun c2 => ?_⟩)
      · rw [show nS P = l2 by omega, g3] at k; exact k μ1 f1
      · rw [hR.r.e0.2.2.2.2.2 (by omega), hR.1.e103 g0 (by omega), hR.1.e103 hg.1 hg.2, e1 l2 g0 (by omega)]
        have step : (fs P l2 == fs P (gl P) && !flt P w l2) = false → K 121 E mM_stands 16 [some (jvR 76), some (jvI (cnt (flt P w) (nS P))), some (jvI (l2 + 1))] [] μ1 (fun v μ1 => ∃ r, v = some (jvI r) ∧ Q r μ1) := fun hh => ih (by omega) (by omega) (by omega) (by rw [anyB_s g0, g3, hh]; rfl)
        refine ⟨by omega, fun c3 => ⟨by omega, step (by rw [beq_eq_false_iff_ne.mpr c3, Bool.false_and])⟩, fun c3 => ⟨by omega, fun c4 => ⟨by omega, step (by rw [b2i_b c4, Bool.not_true, Bool.and_false])⟩, fun c4 => ⟨_, rfl, ?_⟩⟩⟩
        have : anyB (fun s => fs P s == fs P (gl P) && !flt P w s) (nS P) = true := anyB_iff.mpr ⟨l2, g0, by omega, by rw [beq_iff_eq.mpr c3, b2i_b0 c4]; rfl⟩
        rw [this] at k; exact k μ1 f1
    exact lp 0 (by omega) (by omega) (anyB_0 (by omega))
  · rw [if_pos c] at k; exact k μ Fr.rf
theorem sM_ask (h : RS μ P w q) {r x : Int} {v : Bool} (hx : x = b2i v) (k : ∀ μ1, Fr (fun i _ => i = 109) μ μ1 → RS μ1 P w (qAsk P q r v) → Q (vAsk P q r v) μ1) : Ci E mM_ask [jvR 76, jvI r, jvI x] μ Q := by
  have hn := h.n
  unfold vAsk qAsk at k
  refine vM_ask_0 (sM_isReader h.r (fun h0 h1 => ⟨fun _ => ⟨⟨by omega, by rw [hx]; exact b2i_01 v⟩, ?_⟩, fun c => absurd c (by decide)⟩) (fun h0 => ⟨fun c => absurd rfl c, fun _ => ⟨_, rfl, ?_⟩⟩))
  · rw [if_pos ⟨h0, h1⟩, if_pos ⟨h0, h1⟩] at k
    have hS := h.setq (r := r) hx
    exact sM_askedMany hS ⟨_, rfl, k _ (Fr.up rfl) hS⟩
  · rw [if_neg (by omega), if_neg (by omega)] at k; exact k μ Fr.rf h
theorem sM_leastBy (h : RS μ P w q) {o : Int} (k : Q (lst P (fun r => q r || r == o)) μ) : Ci E mM_leastBy [jvR 76, jvI o] μ Q := by
  have hn := h.n
  refine vM_leastBy_0 ?_
  have lp : ∀ (l3 l2 : Int), 0 ≤ l3 → l3 ≤ nS P → l2 = lsN P (fun r => q r || r == o) l3.toNat → K 121 E mM_leastBy 4 [some (jvR 76), some (jvI o), some (jvI l2), some (jvI l3)] [] μ (fun v μ1 => ∃ r, v = some (jvI r) ∧ Q r μ1) := by
    refine up_ind (nS P) _ ?_
    intro l3 ih l2 g0 g1 g3
    have hs := lsN_s (P := P) (A := fun r => q r || r == o) g0
    rw [← g3] at hs
    refine vM_leastBy_4 (sM_steps h.r ⟨fun c => ⟨_, rfl, ?_⟩, fun c => sM_isNeeded h.1 g0 (by omega) ⟨fun c2 => ⟨by omega, ih (by omega) l2 (by omega) (by omega) ?_⟩, fun c2 => ⟨fun c3 => ⟨by omega, ih (by omega) l3 (by omega) (by omega) ?_⟩, fun c3 => sM_seenOf h (sM_seenOf h ⟨fun c4 => ⟨by omega, ih (by omega) l2 (by omega) (by omega) ?_⟩, fun c4 => ⟨by omega, ih (by omega) l3 (by omega) (by omega) ?_⟩⟩)⟩⟩⟩)
    · rw [g3, show l3 = nS P by omega]; exact k
    · rw [hs, b2i_b0 c2, if_neg (by decide)]
    · rw [hs, if_pos (b2i_b c2), if_pos c3]
    · rw [hs, if_pos (b2i_b c2), if_neg c3, if_neg (by omega)]
    · rw [hs, if_pos (b2i_b c2), if_neg c3, if_pos (by omega)]
  exact lp 0 (-1) (by omega) (by omega) rfl
theorem sn_congr {P : jP} {A B : Int → Bool} {s : Int} (h : ∀ r : Int, 0 ≤ r → r < nD P → A r = B r) : sn P A s = sn P B s := by
  have key : ∀ n : Nat, (n : Int) ≤ nD P → snN P A s n = snN P B s n := by
    intro n
    induction n with
    | zero => intro _; rfl
    | succ n ih =>
      intro hn
      unfold snN
      rw [ih (by omega), h n (by omega) (by omega)]
  unfold sn
  by_cases hd : 0 ≤ nD P
  · rw [key (nD P).toNat (by omega)]
  · rw [show (nD P).toNat = 0 by omega]; rfl
theorem lst_congr {P : jP} {A B : Int → Bool} (h : ∀ r : Int, 0 ≤ r → r < nD P → A r = B r) : lst P A = lst P B := by
  have key : ∀ n : Nat, lsN P A n = lsN P B n := by
    intro n
    induction n with
    | zero => rfl
    | succ n ih =>
      unfold lsN
      rw [ih, sn_congr h, sn_congr (s := lsN P B n) h]
  exact key _
theorem sM_least (h : RS μ P w q) {a : Int} (k : Q (vLeast P q a) μ) : Ci E mM_least [jvR 76, jvI a] μ Q := by
  have hn := h.n
  have e : ∀ r : Int, 0 ≤ r → r < nD P → (q r || r == -1) = q r := fun r a b => by rw [beq_eq_false_iff_ne.mpr (by omega), Bool.or_false]
  unfold vLeast at k
  refine vM_least_0 (sM_steps h.r ⟨fun c => ⟨_, rfl, ?_⟩, fun c => sM_isIn (fun a1 a2 => ⟨fun _ => sM_leastBy h ⟨fun c2 => ⟨_, rfl, ?_⟩, fun c2 => sM_seenOf h ⟨_, rfl, ?_⟩⟩, fun c => absurd c (by decide)⟩) (fun a1 => ⟨fun c => absurd rfl c, fun _ => ⟨_, rfl, ?_⟩⟩)⟩)
  · rw [if_pos c] at k; exact k
  · rw [if_neg c, if_neg c2, if_pos (by omega)] at k
    rw [lst_congr e]; exact k
  · rw [if_neg c, if_pos c2] at k
    rw [sn_congr e, lst_congr e]; exact k
  · rw [if_neg c, if_neg (by omega), if_neg (by omega)] at k; exact k
theorem sM_whom (h : RS μ P w q) (k : Q (vWhom P q) μ) : Ci E mM_whom [jvR 76] μ Q := by
  have hn := h.n
  unfold vWhom at k
  refine vM_whom_0 (sM_steps h.r ⟨fun c => ?_, fun c => ⟨_, rfl, ?_⟩⟩)
  · rw [if_neg c] at k
    have lp : ∀ (l3 l1 l2 : Int), 0 ≤ l3 → l3 ≤ nD P → (l1, l2) = whN P q l3.toNat → K 121 E mM_whom 15 [some (jvR 76), some (jvI l1), some (jvI l2), some (jvI l3), none] [] μ (fun v μ1 => ∃ r, v = some (jvI r) ∧ Q r μ1) := by
      refine up_ind (nD P) _ ?_
      intro l3 ih l1 l2 g0 g1 g3
      have hs := whN_s (P := P) (q := q) g0
      rw [← g3] at hs
      refine vM_whom_15 (sM_readers h.r ⟨fun c2 => ⟨_, rfl, ?_⟩, fun c2 => ⟨by omega, ?_⟩⟩)
      · rw [show nD P = l3 by omega, ← g3] at k; exact k
      · rw [h.2.2 l3 g0 (by omega)]
        have e : ∀ r : Int, 0 ≤ r → r < nD P → (q r || r == l3) = setb q l3 true r := fun r a b => by
          unfold setb
          by_cases hr : r = l3
          · rw [if_pos hr, beq_iff_eq.mpr hr, Bool.or_true]
          · rw [if_neg hr, beq_eq_false_iff_ne.mpr hr, Bool.or_false]
        refine ⟨fun c3 => sM_leastBy h (sM_seenOf h ?_), fun c3 => ⟨by omega, ih (by omega) l1 l2 (by omega) (by omega) ?_⟩⟩
        · rw [sn_congr e, lst_congr e]
          rw [if_neg (by rw [b2i_b0 c3]; decide)] at hs
          refine ⟨fun c4 => ⟨by omega, ih (by omega) l3 _ (by omega) (by omega) ?_⟩, fun c4 => ⟨by omega, ih (by omega) l1 l2 (by omega) (by omega) ?_⟩⟩
          · rw [hs, if_pos c4]
          · rw [hs, if_neg c4]
        · rw [hs, if_pos (b2i_b c3)]
    exact lp 0 (-1) (-1) (by omega) (by omega) rfl
  · rw [if_pos c] at k; exact k
theorem sM_seed {a : Int} (kt : 0 ≤ a → Q 1 (j_up μ 76 61 a)) (kf : a < 0 → Q 0 μ) : Ci E mM_seed [jvR 76, jvI a] μ Q := vM_seed_0 ⟨fun c => ⟨_, rfl, kt c⟩, fun c => ⟨_, rfl, kf (by omega)⟩⟩
def W61 (i : Nat) (k : Int) : Prop := i = 76 ∧ k = 61
theorem RS.fr61 (h : RS μ P w q) (hf : Fr W61 μ μ1) : RS μ1 P w q := by
  obtain ⟨⟨a, b, c, d⟩, e, f⟩ := h
  refine ⟨⟨a.frN (hf.mono (fun i k hw => by unfold W61 at hw; unfold NDr; omega)), fun s h0 h1 => ?_, fun k h0 h1 => ?_, ?_⟩, fun r h0 h1 => ?_, fun r h0 h1 => ?_⟩
  · rw [hf 103 s (by unfold W61; omega), hf 104 s (by unfold W61; omega), hf 106 s (by unfold W61; omega)]; exact b s h0 h1
  · rw [hf 105 k (by unfold W61; omega)]; exact c k h0 h1
  · rw [hf 76 44 (by unfold W61; omega)]; exact d
  · rw [hf 107 r (by unfold W61; omega)]; exact e r h0 h1
  · rw [hf 109 r (by unfold W61; omega)]; exact f r h0 h1
theorem sM_drawOf {d : Int} (hd : μ 76 61 = d) (ho : okD d) (k : Q (dr d / 64 % 100) (j_up μ 76 61 (dr d))) : Ci E mM_drawOf [jvR 76, jvI 100] μ Q := by
  have h1 := ho.1
  have h2 := ho.2
  refine vM_drawOf_0 ?_
  rw [hd]
  have e1 : Int.tmod (1103515245 * d + 12345) 2147483648 = dr d := Int.tmod_eq_emod_of_nonneg (by omega)
  have hk := dr_ok d
  have hk1 := hk.1
  have hk2 := hk.2
  rw [e1, Int.tdiv_eq_ediv_of_nonneg hk1, Int.tmod_eq_emod_of_nonneg (by omega)]
  exact ⟨⟨by omega, by omega, by omega, by decide, by omega⟩, _, rfl, k⟩
theorem sM_trials (h : RS μ P w q) {s n d : Int} (hd : μ 76 61 = d) (ho : okD d) (k : ∀ μ1, Fr W61 μ μ1 → μ1 76 61 = dTrials P q s n d → Q (vTrials P q s n d) μ1) : Ci E mM_trials [jvR 76, jvI s, jvI n] μ Q := by
  have hn := h.n
  unfold vTrials dTrials at k
  refine vM_trials_0 (sM_isStep h.r (fun h0 h1 => ⟨fun c => absurd c (by decide), fun _ => sM_isIn (fun a1 a2 => ⟨fun _ => ?_, fun c => absurd c (by decide)⟩) (fun a1 => ⟨fun c => absurd rfl c, fun _ => ⟨_, rfl, ?_⟩⟩)⟩) (fun h0 => ⟨fun _ => ⟨_, rfl, ?_⟩, fun c => absurd rfl c⟩))
  · rw [if_pos (by omega), if_pos (by omega)] at k
    have lp : ∀ (l4 l3 : Int) (μ0 : jMu), 0 ≤ l4 → l4 ≤ n → Fr W61 μ μ0 → l3 = (trN P q s d l4.toNat).1 → μ0 76 61 = (trN P q s d l4.toNat).2 → K 121 E mM_trials 27 [some (jvR 76), some (jvI s), some (jvI n), some (jvI l3), some (jvI l4), none, none] [] μ0 (fun v μ1 => ∃ r, v = some (jvI r) ∧ Q r μ1) := by
      refine up_ind n _ ?_
      intro l4 ih l3 μ0 g0 g1 g2 g3 g4
      have ht := trN_ok (P := P) (q := q) (s := s) ho l4.toNat
      have hs := trN_s (P := P) (q := q) (s := s) (d := d) g0
      refine vM_trials_27 ⟨fun c => ⟨_, rfl, ?_⟩, fun c => ?_⟩
      · rw [g3, show l4 = n by omega]
        rw [show l4 = n by omega] at g4
        exact k μ0 g2 g4
      · have lp2 : ∀ (l6 l5 : Int) (μ3 : jMu), 0 ≤ l6 → l6 ≤ nD P → Fr W61 μ μ3 → l5 = b2i (tsN P q s (trN P q s d l4.toNat).2 l6.toNat).1 → μ3 76 61 = (tsN P q s (trN P q s d l4.toNat).2 l6.toNat).2 → K 121 E mM_trials 39 [some (jvR 76), some (jvI s), some (jvI n), some (jvI l3), some (jvI l4), some (jvI l5), some (jvI l6)] [] μ3 (fun v μ1 => ∃ r, v = some (jvI r) ∧ Q r μ1) := by
          refine up_ind (nD P) _ ?_
          intro l6 ih6 l5 μ3 d0 d1 d2 d3 d4
          have hR := h.fr61 d2
          have ht2 := tsN_ok (P := P) (q := q) (s := s) ht.1 l6.toNat
          have hs2 := tsN_s (P := P) (q := q) (s := s) (d := (trN P q s d l4.toNat).2) d0
          refine vM_trials_39 (sM_readers hR.r ⟨fun c6 => ?_, fun c6 => ⟨by omega, ?_⟩⟩)
          · rw [show l6 = nD P by omega] at d3 d4
            have hb := b2i_01 (tr1 P q s (trN P q s d l4.toNat).2).1
            have e5 : l5 = b2i (tr1 P q s (trN P q s d l4.toNat).2).1 := d3
            refine ⟨fun c7 => ⟨by omega, ih (by omega) _ μ3 (by omega) (by omega) d2 ?_ ?_⟩, fun c7 => ⟨by omega, ih (by omega) _ μ3 (by omega) (by omega) d2 ?_ ?_⟩⟩
            · rw [hs]; show l3 = (trN P q s d l4.toNat).1 + b2i (tr1 P q s (trN P q s d l4.toNat).2).1; omega
            · rw [hs]; exact d4
            · rw [hs]; show l3 + 1 = (trN P q s d l4.toNat).1 + b2i (tr1 P q s (trN P q s d l4.toNat).2).1; omega
            · rw [hs]; exact d4
          · rw [hR.2.2 l6 d0 (by omega)]
            have skip : (q l6 && decide (rf P l6 ≤ s ∧ s ≤ rt P l6)) = false → K 121 E mM_trials 39 [some (jvR 76), some (jvI s), some (jvI n), some (jvI l3), some (jvI l4), some (jvI l5), some (jvI (l6 + 1))] [] μ3 (fun v μ1 => ∃ r, v = some (jvI r) ∧ Q r μ1) := fun hh => by
              rw [hh, if_neg (by decide)] at hs2
              exact ih6 (by omega) l5 μ3 (by omega) (by omega) d2 (by rw [hs2]; exact d3) (by rw [hs2]; exact d4)
            refine ⟨fun c7 => ⟨by omega, skip (by rw [b2i_b0 c7, Bool.false_and])⟩, fun c7 => sM_reads hR.r d0 (by omega) (fun r1 r2 => ⟨fun c => absurd c (by decide), fun _ => ?_⟩) (fun r1 => ⟨fun _ => ⟨by omega, skip (by rw [decide_eq_false (by omega), Bool.and_false])⟩, fun c => absurd rfl c⟩)⟩
            rw [b2i_b c7, decide_eq_true (show rf P l6 ≤ s ∧ s ≤ rt P l6 from ⟨r1, r2⟩), if_pos (by decide)] at hs2
            refine sM_drawOf d4 ht2 ?_
            rw [up_ne (by decide), (hR.r.e96 d0 (by omega)).1]
            refine ⟨by omega, fun c8 => ⟨by omega, ih6 (by omega) l5 _ (by omega) (by omega) (d2.put ⟨rfl, rfl⟩) ?_ ?_⟩, fun c8 => ⟨by omega, ih6 (by omega) 1 _ (by omega) (by omega) (d2.put ⟨rfl, rfl⟩) ?_ ?_⟩⟩
            · rw [hs2, decide_eq_false (by omega)]
              show l5 = b2i ((tsN P q s (trN P q s d l4.toNat).2 l6.toNat).1 || false)
              rw [Bool.or_false]; exact d3
            · rw [hs2, up_eq]
            · rw [hs2, decide_eq_true (by omega)]
              show (1 : Int) = b2i ((tsN P q s (trN P q s d l4.toNat).2 l6.toNat).1 || true)
              rw [Bool.or_true]; rfl
            · rw [hs2, up_eq]
        exact lp2 0 0 μ0 (by omega) (by omega) g2 rfl g4
    exact lp 0 0 μ (by omega) (by omega) Fr.rf rfl hd
  · rw [if_neg (by omega), if_neg (by omega)] at k; exact k μ Fr.rf hd
  · rw [if_neg (by omega), if_neg (by omega)] at k; exact k μ Fr.rf hd
theorem ck_ok {a b c : Int} (ha : 0 ≤ a ∧ a ≤ 255) (hb : 0 ≤ b ∧ b ≤ 255) (hc : 0 ≤ c ∧ c ≤ 255) : (-2147483648 ≤ (427 + a) ∧ (427 + a) < 2147483648) ∧ (-2147483648 ≤ (7 * (Int.tmod (427 + a) 247)) ∧ (7 * (Int.tmod (427 + a) 247)) < 2147483648) ∧ (-2147483648 ≤ ((7 * (Int.tmod (427 + a) 247)) + b) ∧ ((7 * (Int.tmod (427 + a) 247)) + b) < 2147483648) ∧ (-2147483648 ≤ (7 * (Int.tmod ((7 * (Int.tmod (427 + a) 247)) + b) 247)) ∧ (7 * (Int.tmod ((7 * (Int.tmod (427 + a) 247)) + b) 247)) < 2147483648) ∧ (-2147483648 ≤ ((7 * (Int.tmod ((7 * (Int.tmod (427 + a) 247)) + b) 247)) + c) ∧ ((7 * (Int.tmod ((7 * (Int.tmod (427 + a) 247)) + b) 247)) + c) < 2147483648) := by
  have e1 : Int.tmod (427 + a) 247 = (427 + a) % 247 := Int.tmod_eq_emod_of_nonneg (by omega)
  rw [e1]
  have e2 : Int.tmod (7 * ((427 + a) % 247) + b) 247 = (7 * ((427 + a) % 247) + b) % 247 := Int.tmod_eq_emod_of_nonneg (by omega)
  rw [e2]
  omega
theorem sM_checked {a b c : Int} (ha : 0 ≤ a ∧ a ≤ 255) (hb : 0 ≤ b ∧ b ≤ 255) (hc : 0 ≤ c ∧ c ≤ 255) (k : Q (ck a b c) μ) : Ci E mM_checked [jvI a, jvI b, jvI c] μ Q := vM_checked_0 ⟨ck_ok ha hb hc, _, rfl, k⟩
theorem sX_check {a b c : Int} (ha : 0 ≤ a ∧ a ≤ 255) (hb : 0 ≤ b ∧ b ≤ 255) (hc : 0 ≤ c ∧ c ≤ 255) (k : Q (ck a b c) μ) : Ci E mX_check [jvI a, jvI b, jvI c] μ Q := vX_check_0 ⟨ck_ok ha hb hc, _, rfl, k⟩
theorem bs_add1 {p : Int → Bool} {n l : Int} (h0 : 0 ≤ l) (h1 : l < n) (hn : n ≤ 30) (hp : p l = true) : ior32 (bs (fun j => decide (j < l) && p j) n) (ishl32 1 l) = bs (fun j => decide (j < l + 1) && p j) n := by
  rw [bs_bit32 h0 h1 hn, bs_or32 hn, ← bs_up h0]
  refine bs_congr (fun j _ _ => ?_)
  rw [hp, Bool.and_true]
theorem bs_add0 {p : Int → Bool} {n l : Int} (h0 : 0 ≤ l) (hp : p l = false) : bs (fun j => decide (j < l) && p j) n = bs (fun j => decide (j < l + 1) && p j) n := by
  rw [← bs_up h0]
  refine bs_congr (fun j _ _ => ?_)
  rw [hp, Bool.and_false, Bool.or_false]
theorem bs_cut {p : Int → Bool} {m n : Int} (h : ∀ r, p r = true → r < m) : bs (fun j => decide (j < m) && p j) n = bs p n := bs_congr (fun j _ _ => by
  cases hp : p j
  · rw [Bool.and_false]
  · rw [decide_eq_true (h j hp)]; rfl)
theorem sM_wrongBits (h : RS μ P w q) (hw : ∀ r, w r = true → r < nR P) (k : Q (bs w 12) μ) : Ci E mM_wrongBits [jvR 76] μ Q := by
  have hn := h.n
  refine vM_wrongBits_0 ?_
  have lp : ∀ (l2 : Int), 0 ≤ l2 → l2 ≤ nR P → K 121 E mM_wrongBits 4 [some (jvR 76), some (jvI (bs (fun j => decide (j < l2) && w j) 12)), some (jvI l2)] [] μ (fun v μ1 => ∃ r, v = some (jvI r) ∧ Q r μ1) := by
    refine up_ind (nR P) _ ?_
    intro l2 ih g0 g1
    refine vM_wrongBits_4 (sM_rules h.r ⟨fun c => ⟨_, rfl, ?_⟩, fun c => ⟨by omega, ?_⟩⟩)
    · rw [show l2 = nR P by omega, bs_cut hw]; exact k
    · rw [h.2.1 l2 g0 (by omega)]
      refine ⟨fun c2 => ⟨by omega, ?_⟩, fun c2 => ⟨by omega, ?_⟩⟩
      · rw [bs_add0 g0 (b2i_b0 c2)]; exact ih (by omega) (by omega) (by omega)
      · rw [bs_add1 g0 (by omega) (by omega) (b2i_b c2)]; exact ih (by omega) (by omega) (by omega)
  have := lp 0 (by omega) (by omega)
  rw [show bs (fun j => decide (j < 0) && w j) 12 = 0 from bs_0 (fun j a _ => by rw [decide_eq_false (by omega), Bool.false_and])] at this
  exact this
end
