/-! the fewest: ways, one after another -/
def okw (P : jP) (w : Int → Bool) (f s : Int) : Bool := fs P s == f && !w (ru P s)
def nxt (P : jP) (w : Int → Bool) (f t : Int) : Int := ff (fun k => decide (t < k) && okw P w f k) (nS P)
def own (P : jP) (w : Int → Bool) (f : Int) : Int := cnt (okw P w f) (nS P)
def adv (P : jP) (w : Int → Bool) : Nat → Int → (Int → Int) → Bool × (Int → Int)
  | 0, _, p => (false, p)
  | n + 1, f, p => if p f = -1 then adv P w n (f + 1) p else if nxt P w f (p f) = -1 then adv P w n (f + 1) (hup p f (nxt P w f (-1))) else (true, hup p f (nxt P w f (p f)))
def dg (P : jP) (w : Int → Bool) (p : Int → Int) (f : Int) : Int := cnt (okw P w f) (p f)
def val (P : jP) (w : Int → Bool) : Nat → Int → (Int → Int) → Int
  | 0, _, _ => 0
  | n + 1, f, p => if p f = -1 then val P w n (f + 1) p else dg P w p f + own P w f * val P w n (f + 1) p
def tot (P : jP) (w : Int → Bool) : Nat → Int → Int
  | 0, _ => 1
  | n + 1, f => if own P w f = 0 then tot P w n (f + 1) else own P w f * tot P w n (f + 1)
def okP1 (P : jP) (w : Int → Bool) (f x : Int) : Prop := (own P w f = 0 ∧ x = -1) ∨ (0 < own P w f ∧ 0 ≤ x ∧ x < nS P ∧ okw P w f x = true)
theorem own_r {P : jP} (h : WF P) {w : Int → Bool} {f : Int} : 0 ≤ own P w f ∧ own P w f ≤ nS P := by
  have hn := h.n
  exact cnt_le (okw P w f) (by omega)
theorem nxt_c {P : jP} {w : Int → Bool} {f t : Int} (hn : 0 ≤ nS P) (ht : -1 ≤ t) (ht2 : t < nS P) : (nxt P w f t = -1 ∧ ∀ k, t < k → k < nS P → okw P w f k = false) ∨ (t < nxt P w f t ∧ nxt P w f t < nS P ∧ okw P w f (nxt P w f t) = true ∧ ∀ k, t < k → k < nxt P w f t → okw P w f k = false) := by
  rcases ff_cases (fun k => decide (t < k) && okw P w f k) (nS P) with ⟨g1, g2⟩ | ⟨g1, g2, g3, g4⟩
  · refine Or.inl ⟨g1, fun k a b => ?_⟩
    have := g2 k (by omega) b
    rw [decide_eq_true a, Bool.true_and] at this
    exact this
  · rw [Bool.and_eq_true, decide_eq_true_iff] at g3
    refine Or.inr ⟨g3.1, g2, g3.2, fun k a b => ?_⟩
    have := g4 k (by omega) b
    rw [decide_eq_true a, Bool.true_and] at this
    exact this
theorem cnt_gap {p : Int → Bool} {a b : Int} (h0 : 0 ≤ a) (h1 : a ≤ b) (h : ∀ k, a ≤ k → k < b → p k = false) : cnt p b = cnt p a := cnt_ext h0 h1 (fun _ _ _ => rfl) h
theorem st_ok {P : jP} (h : WF P) {w : Int → Bool} {f : Int} : okP1 P w f (nxt P w f (-1)) ∧ (nxt P w f (-1) ≠ -1 → cnt (okw P w f) (nxt P w f (-1)) = 0) := by
  have hn := h.n
  by_cases h0 : 0 < nS P
  · rcases nxt_c (P := P) (w := w) (f := f) (t := -1) (by omega) (by omega) (by omega) with ⟨g1, g2⟩ | ⟨g1, g2, g3, g4⟩
    · refine ⟨Or.inl ⟨cnt_z (fun k a b => g2 k (by omega) b), g1⟩, fun hh => absurd g1 hh⟩
    · refine ⟨Or.inr ⟨?_, by omega, g2, g3⟩, fun _ => cnt_z (fun k a b => g4 k (by omega) b)⟩
      have := cnt_lt (p := okw P w f) (m := nxt P w f (-1)) (n := nS P) (by omega) g2 g3
      have h2 := cnt_le (okw P w f) (k := nxt P w f (-1)) (by omega)
      unfold own
      omega
  · have e : nxt P w f (-1) = -1 := ff_none (fun j a b => by omega)
    refine ⟨Or.inl ⟨cnt_z (fun k a b => by omega), e⟩, fun hh => absurd e hh⟩
theorem nx_ok {P : jP} (h : WF P) {w : Int → Bool} {f x : Int} (hx : okP1 P w f x) (hne : x ≠ -1) : (nxt P w f x = -1 ∧ cnt (okw P w f) x = own P w f - 1) ∨ (nxt P w f x ≠ -1 ∧ okP1 P w f (nxt P w f x) ∧ cnt (okw P w f) (nxt P w f x) = cnt (okw P w f) x + 1) := by
  have hn := h.n
  rcases hx with hx | ⟨x1, x2, x3, x4⟩
  · exact absurd hx.2 hne
  · have hs := cnt_s (okw P w f) x2
    rw [x4, b2i_t] at hs
    rcases nxt_c (P := P) (w := w) (f := f) (t := x) (by omega) (by omega) x3 with ⟨g1, g2⟩ | ⟨g1, g2, g3, g4⟩
    · refine Or.inl ⟨g1, ?_⟩
      have := cnt_gap (p := okw P w f) (a := x + 1) (b := nS P) (by omega) (by omega) (fun k a b => g2 k (by omega) b)
      unfold own
      omega
    · refine Or.inr ⟨by omega, Or.inr ⟨x1, by omega, g2, g3⟩, ?_⟩
      have := cnt_gap (p := okw P w f) (a := x + 1) (b := nxt P w f x) (by omega) (by omega) (fun k a b => g4 k (by omega) b)
      omega
def okP (P : jP) (w : Int → Bool) (p : Int → Int) : Prop := ∀ f, 0 ≤ f → f < nS P → okP1 P w f (p f)
theorem okP_up {P : jP} {w : Int → Bool} {p : Int → Int} {f x : Int} (h : okP P w p) (hx : okP1 P w f x) : okP P w (hup p f x) := by
  intro g g0 g1
  unfold hup
  split
  · rename_i e; rw [e]; exact hx
  · exact h g g0 g1
theorem val_congr {P : jP} {w : Int → Bool} : ∀ (n : Nat) (f : Int) (p p' : Int → Int), (∀ g, f ≤ g → p g = p' g) → val P w n f p = val P w n f p'
  | 0, _, _, _, _ => rfl
  | n + 1, f, p, p', h => by
    unfold val dg
    rw [val_congr n (f + 1) p p' (fun g hg => h g (by omega)), h f (by omega)]
theorem val_r {P : jP} (h : WF P) {w : Int → Bool} {p : Int → Int} (hp : okP P w p) : ∀ (n : Nat) (f : Int), 0 ≤ f → f + n ≤ nS P → 0 ≤ val P w n f p ∧ val P w n f p < tot P w n f
  | 0, f, _, _ => by show (0 : Int) ≤ 0 ∧ (0 : Int) < 1; omega
  | n + 1, f, h0, h1 => by
    have ih := val_r h hp n (f + 1) (by omega) (by omega)
    have hx := hp f h0 (by omega)
    unfold val tot
    rcases hx with ⟨a, b⟩ | ⟨a, b, c, d⟩
    · rw [if_pos b, if_pos a]; exact ih
    · rw [if_neg (by omega), if_neg (by omega)]
      have hs := cnt_lt (p := okw P w f) b c d
      have hl := cnt_le (okw P w f) b
      have hd : dg P w p f = cnt (okw P w f) (p f) := rfl
      have ho : own P w f = cnt (okw P w f) (nS P) := rfl
      have e : own P w f * val P w n (f + 1) p + own P w f ≤ own P w f * tot P w n (f + 1) := by
        have := Int.mul_le_mul_of_nonneg_left (show val P w n (f + 1) p + 1 ≤ tot P w n (f + 1) by omega) (show 0 ≤ own P w f by omega)
        rw [Int.mul_add, Int.mul_one] at this
        exact this
      have e2 : 0 ≤ own P w f * val P w n (f + 1) p := Int.mul_nonneg (by omega) ih.1
      omega
theorem adv_c {P : jP} (h : WF P) {w : Int → Bool} : ∀ (n : Nat) (f : Int) (p : Int → Int), okP P w p → 0 ≤ f → f + n ≤ nS P → okP P w (adv P w n f p).2 ∧ (∀ g, g < f → (adv P w n f p).2 g = p g) ∧ ((adv P w n f p).1 = true → val P w n f (adv P w n f p).2 = val P w n f p + 1) ∧ ((adv P w n f p).1 = false → val P w n f p = tot P w n f - 1)
  | 0, f, p, hp, _, _ => ⟨hp, fun _ _ => rfl, fun hh => (by cases hh), fun _ => rfl⟩
  | n + 1, f, p, hp, h0, h1 => by
    have hx := hp f h0 (by omega)
    by_cases h2 : p f = -1
    · have ih := adv_c h n (f + 1) p hp (by omega) (by omega)
      have e : adv P w (n + 1) f p = adv P w n (f + 1) p := by
        show (if p f = -1 then _ else _) = _
        rw [if_pos h2]
      rw [e]
      refine ⟨ih.1, fun g hg => ih.2.1 g (by omega), fun hh => ?_, fun hh => ?_⟩
      · unfold val
        rw [if_pos h2, if_pos (by rw [ih.2.1 f (by omega)]; exact h2)]
        exact ih.2.2.1 hh
      · unfold val tot
        rcases hx with ⟨a, b⟩ | ⟨a, b, c, d⟩
        · rw [if_pos h2, if_pos a]; exact ih.2.2.2 hh
        · omega
    · have hown : 0 < own P w f := by
        rcases hx with ⟨a, b⟩ | ⟨a, b, c, d⟩
        · exact absurd b h2
        · exact a
      rcases nx_ok h hx h2 with ⟨g1, g2⟩ | ⟨g1, g2, g3⟩
      · have hs := st_ok h (w := w) (f := f)
        have hsne : nxt P w f (-1) ≠ -1 := by
          rcases hs.1 with ⟨a, b⟩ | ⟨a, b, c, d⟩
          · omega
          · omega
        have ih := adv_c h n (f + 1) (hup p f (nxt P w f (-1))) (okP_up hp hs.1) (by omega) (by omega)
        have e : adv P w (n + 1) f p = adv P w n (f + 1) (hup p f (nxt P w f (-1))) := by
          show (if p f = -1 then _ else if nxt P w f (p f) = -1 then _ else _) = _
          rw [if_neg h2, if_pos g1]
        have eh : hup p f (nxt P w f (-1)) f = nxt P w f (-1) := by unfold hup; rw [if_pos rfl]
        have ev : val P w n (f + 1) (hup p f (nxt P w f (-1))) = val P w n (f + 1) p := val_congr n (f + 1) _ _ (fun g hg => by unfold hup; rw [if_neg (by omega)])
        rw [ev] at ih
        rw [e]
        refine ⟨ih.1, fun g hg => ?_, fun hh => ?_, fun hh => ?_⟩
        · rw [ih.2.1 g (by omega)]; unfold hup; rw [if_neg (by omega)]
        · have e2 : (adv P w n (f + 1) (hup p f (nxt P w f (-1)))).2 f = nxt P w f (-1) := by rw [ih.2.1 f (by omega)]; exact eh
          unfold val dg
          rw [if_neg h2, if_neg (by rw [e2]; exact hsne), e2, hs.2 hsne, ih.2.2.1 hh, g2, Int.mul_add, Int.mul_one]
          omega
        · unfold val tot dg
          rw [if_neg h2, if_neg (by omega), ih.2.2.2 hh, g2, Int.mul_sub, Int.mul_one]
          omega
      · have e : adv P w (n + 1) f p = (true, hup p f (nxt P w f (p f))) := by
          show (if p f = -1 then _ else if nxt P w f (p f) = -1 then _ else _) = _
          rw [if_neg h2, if_neg g1]
        rw [e]
        refine ⟨okP_up hp g2, fun g hg => by show hup p f _ g = _; unfold hup; rw [if_neg (by omega)], fun _ => ?_, fun hh => (by cases hh)⟩
        show val P w (n + 1) f (hup p f (nxt P w f (p f))) = val P w (n + 1) f p + 1
        have eh : hup p f (nxt P w f (p f)) f = nxt P w f (p f) := by unfold hup; rw [if_pos rfl]
        have ev : val P w n (f + 1) (hup p f (nxt P w f (p f))) = val P w n (f + 1) p := val_congr n (f + 1) _ _ (fun g hg => by unfold hup; rw [if_neg (by omega)])
        unfold val dg
        rw [eh, if_neg g1, if_neg h2, ev, g3]
        omega
/-- the ways in a row -/
def p0 (P : jP) (w : Int → Bool) : Int → Int := fun f => nxt P w f (-1)
def ad (P : jP) (w : Int → Bool) (p : Int → Int) : Bool × (Int → Int) := adv P w (nS P).toNat 0 p
def pi (P : jP) (w : Int → Bool) : Nat → Int → Int
  | 0 => p0 P w
  | i + 1 => (ad P w (pi P w i)).2
def tw_ (P : jP) (w : Int → Bool) : Int := tot P w (nS P).toNat 0
theorem pi_c {P : jP} (h : WF P) {w : Int → Bool} : ∀ i : Nat, (i : Int) < tw_ P w → okP P w (pi P w i) ∧ val P w (nS P).toNat 0 (pi P w i) = i ∧ ((ad P w (pi P w i)).1 = true ↔ (i : Int) + 1 < tw_ P w)
  | i, hi => by
    have hn := h.n
    have h1 : okP P w (pi P w i) ∧ val P w (nS P).toNat 0 (pi P w i) = i := by
      match i with
      | 0 =>
        refine ⟨fun f _ _ => (st_ok h).1, ?_⟩
        have key : ∀ (n : Nat) (f : Int), 0 ≤ f → val P w n f (p0 P w) = 0 := by
          intro n
          induction n with
          | zero => intro f _; rfl
          | succ n ih =>
            intro f hf
            unfold val dg
            rw [ih (f + 1) (by omega)]
            split
            · rfl
            · rename_i hh
              rw [show p0 P w f = nxt P w f (-1) from rfl, (st_ok h).2 hh]
              omega
        exact key _ 0 (by omega)
      | i + 1 =>
        have ih := pi_c h (w := w) i (by omega)
        have ha := adv_c h (nS P).toNat 0 (pi P w i) ih.1 (by omega) (by omega)
        have ht := ih.2.2.mpr (by omega)
        refine ⟨ha.1, ?_⟩
        have := ha.2.2.1 ht
        show val P w (nS P).toNat 0 (adv P w (nS P).toNat 0 (pi P w i)).2 = _
        rw [this, ih.2.1]
        omega
    refine ⟨h1.1, h1.2, ?_⟩
    have ha := adv_c h (nS P).toNat 0 (pi P w i) h1.1 (by omega) (by omega)
    have hr := val_r h ha.1 (nS P).toNat 0 (by omega) (by omega)
    constructor
    · intro ht
      have := ha.2.2.1 ht
      have e : tw_ P w = tot P w (nS P).toNat 0 := rfl
      omega
    · intro hlt
      cases ht : (ad P w (pi P w i)).1
      · have := ha.2.2.2 ht
        have e : tw_ P w = tot P w (nS P).toNat 0 := rfl
        omega
      · rfl
/-- what the goal needs by the picks -/
def inN (P : jP) (p : Int → Int) (s : Int) (S : Int → Bool) : Nat → Option (Int → Bool)
  | 0 => some S
  | k + 1 => match inN P p s S k with
    | none => none
    | some T => if p (fs P (nm P s k)) = -1 ∨ s ≤ p (fs P (nm P s k)) then none else some (fun j => T j || j == p (fs P (nm P s k)))
def huN (P : jP) (p : Int → Int) : Nat → Option (Int → Bool)
  | 0 => some (fun j => j == p (fs P (gl P)))
  | n + 1 => match huN P p n with
    | none => none
    | some S => if S (nS P - 1 - n) = true then inN P p (nS P - 1 - n) S (pn P (nS P - 1 - n)).toNat else some S
def hud (P : jP) (p : Int → Int) (s : Int) : Option (Int → Bool) := huN P p (nS P - 1 - s).toNat
def su (P : jP) (p : Int → Int) : Int := if p (fs P (gl P)) = -1 then 0 else match hud P p (-1) with
  | none => 0
  | some S => bs S 40
theorem hud_s {P : jP} {p : Int → Int} {s : Int} (h : s < nS P) : hud P p (s - 1) = match hud P p s with
    | none => none
    | some S => if S s = true then inN P p s S (pn P s).toNat else some S := by
  unfold hud
  rw [show (nS P - 1 - (s - 1)).toNat = (nS P - 1 - s).toNat + 1 by omega]
  show (match huN P p (nS P - 1 - s).toNat with
    | none => none
    | some S => if S (nS P - 1 - (((nS P - 1 - s).toNat : Nat) : Int)) = true then inN P p (nS P - 1 - (((nS P - 1 - s).toNat : Nat) : Int)) S (pn P (nS P - 1 - (((nS P - 1 - s).toNat : Nat) : Int))).toNat else some S) = _
  rw [show nS P - 1 - (((nS P - 1 - s).toNat : Nat) : Int) = s by omega]
theorem hud_none {P : jP} {p : Int → Int} : ∀ (n : Nat) (s : Int), s < nS P → hud P p s = none → hud P p (s - n) = none
  | 0, s, _, hh => by rw [show s - ((0 : Nat) : Int) = s by omega]; exact hh
  | n + 1, s, h1, hh => by
    rw [show s - ((n + 1 : Nat) : Int) = (s - 1) - n by omega]
    refine hud_none n (s - 1) (by omega) ?_
    rw [hud_s h1, hh]
/-- the better of two sets -/
def pcv (x : Int) : Int := cnt (bt x) 40
def kfw (b x : Int) : Int := if x ≠ 0 ∧ (b = 0 ∨ pcv x < pcv b ∨ (pcv x = pcv b ∧ x < b)) then x else b
def bst (P : jP) (w : Int → Bool) : Nat → Int
  | 0 => 0
  | i + 1 => kfw (bst P w i) (su P (pi P w i))
def vBest (P : jP) (w : Int → Bool) : Int := if nS P = 0 ∨ 4096 < tw_ P w then 0 else bst P w (tw_ P w).toNat
def vFewest (P : jP) (w : Int → Bool) (a : Int) : Int := if vBest P w = 0 then -1 else if a = -1 then pcv (vBest P w) else kth (bt (vBest P w)) a
def ok40 (x : Int) : Prop := 0 ≤ x ∧ x < 1099511627776
theorem ok40_bs (S : Int → Bool) : ok40 (bs S 40) := by
  have := bs_lt S (n := 40) (m := 40) (by omega)
  have h2 := bs_nn S 40
  exact ⟨h2, by omega⟩
theorem bs_bt40 {x : Int} (h : ok40 x) : bs (bt x) 40 = x := bs_btn (n := 40) h.1 h.2
theorem su_ok (P : jP) (p : Int → Int) : ok40 (su P p) := by
  unfold su
  split
  · exact ⟨by omega, by omega⟩
  · split
    · exact ⟨by omega, by omega⟩
    · exact ok40_bs _
theorem bst_ok (P : jP) (w : Int → Bool) : ∀ i : Nat, ok40 (bst P w i)
  | 0 => ⟨Int.le_refl 0, by show (0 : Int) < _; omega⟩
  | i + 1 => by
    unfold bst kfw
    split
    · exact su_ok P _
    · exact bst_ok P w i
theorem pcv_r (x : Int) : 0 ≤ pcv x ∧ pcv x ≤ 40 := cnt_le (bt x) (by omega)
/-- how many ways: products -/
def prN (P : jP) (w : Int → Bool) : Nat → Int
  | 0 => 1
  | n + 1 => prN P w n * (if 1 < own P w n then own P w n else 1)
theorem prN_s {P : jP} {w : Int → Bool} {f : Int} (h : 0 ≤ f) : prN P w (f + 1).toNat = prN P w f.toNat * (if 1 < own P w f then own P w f else 1) := by
  rw [show (f + 1).toNat = f.toNat + 1 by omega]
  show prN P w f.toNat * (if 1 < own P w ((f.toNat : Nat) : Int) then own P w ((f.toNat : Nat) : Int) else 1) = _
  rw [show ((f.toNat : Nat) : Int) = f by omega]
theorem prN_pos {P : jP} {w : Int → Bool} : ∀ n : Nat, 1 ≤ prN P w n
  | 0 => Int.le_refl 1
  | n + 1 => by
    have ih := prN_pos (P := P) (w := w) n
    show 1 ≤ prN P w n * (if 1 < own P w n then own P w n else 1)
    have h2 : 1 ≤ (if 1 < own P w n then own P w n else 1) := by split <;> omega
    have := Int.mul_le_mul ih h2 (by omega) (by omega)
    omega
theorem tot_s {P : jP} {w : Int → Bool} {n : Nat} {f : Int} : tot P w (n + 1) f = if own P w f = 0 then tot P w n (f + 1) else own P w f * tot P w n (f + 1) := rfl
theorem prN_tot {P : jP} (h : WF P) {w : Int → Bool} : ∀ (n : Nat) (f : Int), 0 ≤ f → f + n = nS P → prN P w f.toNat * tot P w n f = prN P w (nS P).toNat
  | 0, f, h0, h1 => by
    rw [show f = nS P by omega]
    show _ * 1 = _
    rw [Int.mul_one]
  | n + 1, f, h0, h1 => by
    have ih := prN_tot h (w := w) n (f + 1) (by omega) (by omega)
    rw [prN_s h0, Int.mul_assoc] at ih
    rw [← ih]
    have ho := own_r h (w := w) (f := f)
    congr 1
    rw [tot_s]
    by_cases hz : own P w f = 0
    · rw [if_pos hz, if_neg (by omega), Int.one_mul]
    · rw [if_neg hz]
      by_cases h1 : 1 < own P w f
      · rw [if_pos h1]
      · rw [if_neg h1, show own P w f = 1 by omega]
theorem tw_pr {P : jP} (h : WF P) {w : Int → Bool} : prN P w (nS P).toNat = tw_ P w := by
  have hn := h.n
  have := prN_tot h (w := w) (nS P).toNat 0 (by omega) (by omega)
  rw [show (0 : Int).toNat = 0 from rfl] at this
  rw [← this]
  show 1 * tot P w (nS P).toNat 0 = tot P w (nS P).toNat 0
  omega
theorem cube3 : ∀ c : Nat, c ≤ 40 → c * c * c ≤ 3 ^ c := by decide
theorem own_sum {P : jP} {w : Int → Bool} {n : Int} : ∀ N : Nat, cnt (fun s => decide (fs P s < n)) N + cnt (okw P w n) N ≤ cnt (fun s => decide (fs P s < n + 1)) N
  | 0 => Int.le_refl 0
  | N + 1 => by
    have ih := own_sum (P := P) (w := w) (n := n) N
    rw [show ((N + 1 : Nat) : Int) = (N : Int) + 1 by omega, cnt_s _ (by omega), cnt_s _ (by omega), cnt_s _ (by omega)]
    have hb : b2i (decide (fs P N < n)) + b2i (okw P w n N) ≤ b2i (decide (fs P N < n + 1)) := by
      unfold okw
      by_cases h1 : fs P N < n
      · rw [decide_eq_true h1, decide_eq_true (show fs P N < n + 1 by omega), beq_eq_false_iff_ne.mpr (show fs P N ≠ n by omega), Bool.false_and]
        decide
      · rw [decide_eq_false h1]
        by_cases h2 : fs P N = n
        · rw [decide_eq_true (show fs P N < n + 1 by omega)]
          have := b2i_01 (fs P N == n && !w (ru P N))
          rw [b2i_f, b2i_t]
          omega
        · rw [beq_eq_false_iff_ne.mpr h2, Bool.false_and, decide_eq_false (show ¬ fs P N < n + 1 by omega)]
          decide
    omega
theorem prN_3 {P : jP} (h : WF P) {w : Int → Bool} : ∀ n : Nat, (n : Int) ≤ nS P → (prN P w n).toNat * (prN P w n).toNat * (prN P w n).toNat ≤ 3 ^ (cnt (fun s => decide (fs P s < n)) (nS P)).toNat
  | 0, _ => by
    show 1 * 1 * 1 ≤ _
    have := Nat.pow_le_pow_right (show 0 < 3 by omega) (Nat.zero_le (cnt (fun s => decide (fs P s < ((0 : Nat) : Int))) (nS P)).toNat)
    exact this
  | n + 1, hn => by
    have ih := prN_3 h (w := w) n (by omega)
    have hn0 := h.n
    have hp := prN_pos (P := P) (w := w) n
    have ho := own_r h (w := w) (f := n)
    have hsum := own_sum (P := P) (w := w) (n := n) (nS P).toNat
    rw [show (((nS P).toNat : Nat) : Int) = nS P by omega] at hsum
    have hc1 := cnt_le (fun s => decide (fs P s < (n : Int))) (k := nS P) (by omega)
    have ho2 : own P w n = cnt (okw P w n) (nS P) := rfl
    have e : (prN P w (n + 1)).toNat = (prN P w n).toNat * (if 1 < own P w n then own P w n else 1).toNat := by
      show (prN P w n * (if 1 < own P w n then own P w n else 1)).toNat = _
      exact Int.toNat_mul (by omega) (by split <;> omega)
    rw [e]
    have hm : (if 1 < own P w n then own P w n else 1).toNat * (if 1 < own P w n then own P w n else 1).toNat * (if 1 < own P w n then own P w n else 1).toNat ≤ 3 ^ (own P w n).toNat := by
      by_cases h1 : 1 < own P w n
      · rw [if_pos h1]; exact cube3 _ (by omega)
      · rw [if_neg h1]
        exact Nat.pow_le_pow_right (show 0 < 3 by omega) (Nat.zero_le _)
    generalize (if 1 < own P w n then own P w n else 1).toNat = m at hm ⊢
    generalize (prN P w n).toNat = a at ih ⊢
    have e2 : a * m * (a * m) * (a * m) = (a * a * a) * (m * m * m) := by ac_rfl
    rw [e2]
    refine Nat.le_trans (Nat.mul_le_mul ih hm) ?_
    rw [← Nat.pow_add]
    refine Nat.pow_le_pow_right (by omega) ?_
    rw [show ((n + 1 : Nat) : Int) = (n : Int) + 1 by omega]
    omega
theorem prN_r {P : jP} (h : WF P) {w : Int → Bool} {n : Nat} (hn : (n : Int) ≤ nS P) : 1 ≤ prN P w n ∧ prN P w n < 8388608 := by
  have hp := prN_pos (P := P) (w := w) n
  have h3 := prN_3 h (w := w) n hn
  have hn0 := h.n
  have hc := cnt_le (fun s => decide (fs P s < (n : Int))) (k := nS P) (by omega)
  have h4 : 3 ^ (cnt (fun s => decide (fs P s < (n : Int))) (nS P)).toNat ≤ 3 ^ 40 := Nat.pow_le_pow_right (by omega) (by omega)
  refine ⟨hp, Classical.byContradiction (fun hno => ?_)⟩
  have h5 : 8388608 ≤ (prN P w n).toNat := by omega
  have h6 := Nat.mul_le_mul (Nat.mul_le_mul h5 h5) h5
  have h7 := Nat.le_trans h6 (Nat.le_trans h3 h4)
  exact absurd h7 (by decide)
