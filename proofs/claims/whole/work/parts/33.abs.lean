/-! the abstract proof P: what a text tells; searches, tables -/
abbrev jP : Type := Nat → Int → Int
def nR (P : jP) : Int := P 0 0
def nD (P : jP) : Int := P 0 1
def nG (P : jP) : Int := P 0 2
def nH (P : jP) : Int := P 0 3
def nS (P : jP) : Int := P 0 4
def gl (P : jP) : Int := P 0 5
def nC (P : jP) : Int := P 0 6
def pr (P : jP) (r : Int) : Int := P 1 r
def ru (P : jP) (s : Int) : Int := P 2 s
def nm (P : jP) (s k : Int) : Int := P 3 (3 * s + k)
def sy (P : jP) (k : Int) : Int := P 4 k
def bh (P : jP) (k : Int) : Int := P 5 k
def ar (P : jP) (g : Int) : Int := P 6 g
def tf (P : jP) (w : Int) : Int := P 7 w
def od (P : jP) (d : Int) : Int := P 8 d
def rf (P : jP) (d : Int) : Int := P 9 d
def rt (P : jP) (d : Int) : Int := P 10 d
def nk (P : jP) (k i : Int) : Int := P 11 (24 * k + i)
def pn (P : jP) (s : Int) : Int := pr P (ru P s)
/-- n terms one behind another from x to y -/
def Tc (P : jP) : Nat → Int → Int → Prop
  | 0, x, y => x = y
  | n + 1, x, y => 0 ≤ x ∧ x < nC P ∧ Tc P n (bh P x) y
def WFn (P : jP) : Prop := (0 ≤ nR P ∧ nR P ≤ 12) ∧ (0 ≤ nD P ∧ nD P ≤ 6) ∧ (0 ≤ nG P ∧ nG P ≤ 24) ∧ (0 ≤ nH P ∧ nH P ≤ 12) ∧ (0 ≤ nS P ∧ nS P ≤ 40) ∧ (0 ≤ nC P ∧ nC P ≤ 400)
def WFg (P : jP) : Prop := (0 < nS P → 0 ≤ gl P ∧ gl P < nS P) ∧ (nS P = 0 → gl P = -1)
def WFr (P : jP) : Prop := ∀ r, 0 ≤ r → r < nR P → 0 ≤ pr P r ∧ pr P r ≤ 3
def WFs (P : jP) : Prop := ∀ s, 0 ≤ s → s < nS P → 0 ≤ ru P s ∧ ru P s < nR P
def WFm (P : jP) : Prop := ∀ s k, 0 ≤ s → s < nS P → 0 ≤ k → k < pn P s → 0 ≤ nm P s k ∧ nm P s k < s
def WFc (P : jP) : Prop := ∀ x, 0 ≤ x → x < nC P → x < bh P x ∧ bh P x ≤ nC P ∧ (sy P x < 100 → 0 ≤ sy P x ∧ sy P x < nG P ∧ 0 ≤ ar P (sy P x) ∧ ar P (sy P x) ≤ 3 ∧ Tc P (ar P (sy P x)).toNat (x + 1) (bh P x)) ∧ (100 ≤ sy P x → sy P x < 100 + nH P ∧ bh P x = x + 1)
def okT (P : jP) (w : Int) : Prop := 0 ≤ tf P w ∧ tf P w < nC P ∧ bh P (tf P w) - tf P w ≤ 24
def inW (P : jP) (w : Int) : Prop := (48 ≤ w ∧ w < 48 + nS P) ∨ (∃ r k, 0 ≤ r ∧ r < nR P ∧ 0 ≤ k ∧ (k < pr P r ∨ k = 3) ∧ w = 4 * r + k)
def WFt (P : jP) : Prop := ∀ w, inW P w → okT P w
/-- letters of a name, five bits each; the name as a number to 27 -/
def ltr (c k : Int) : Int := c / (32 ^ (5 - k).toNat : Nat) % 32
def e27s (c v k : Int) : Int := if ltr c k = 0 then v else 27 * v + ltr c k
def e27 (c : Int) : Int := e27s c (e27s c (e27s c (e27s c (e27s c (e27s c 0 0) 1) 2) 3) 4) 5
def okN (c : Int) : Prop := (0 ≤ c ∧ c < 1073741824) ∧ ∃ n : Int, 1 ≤ n ∧ n ≤ 6 ∧ (∀ k, 0 ≤ k → k < n → 1 ≤ ltr c k ∧ ltr c k ≤ 26) ∧ (∀ k, n ≤ k → k < 6 → ltr c k = 0)
def nN (P : jP) (kd : Int) : Int := P 0 kd
def WFk (P : jP) : Prop := ∀ kd i, 0 ≤ kd → kd ≤ 3 → 0 ≤ i → i < nN P kd → okN (nk P kd i)
def WFd (P : jP) : Prop := ∀ d, 0 ≤ d → d < nD P → (0 ≤ od P d ∧ od P d ≤ 100) ∧ 0 ≤ rf P d ∧ rf P d ≤ rt P d ∧ rt P d < nS P
def WF (P : jP) : Prop := WFn P ∧ WFg P ∧ WFr P ∧ WFs P ∧ WFm P ∧ WFc P ∧ WFt P ∧ WFd P ∧ WFk P
theorem WF.n {P : jP} (h : WF P) : (0 ≤ nR P ∧ nR P ≤ 12) ∧ (0 ≤ nD P ∧ nD P ≤ 6) ∧ (0 ≤ nG P ∧ nG P ≤ 24) ∧ (0 ≤ nH P ∧ nH P ≤ 12) ∧ (0 ≤ nS P ∧ nS P ≤ 40) ∧ (0 ≤ nC P ∧ nC P ≤ 400) := h.1
theorem WF.g {P : jP} (h : WF P) : (0 < nS P → 0 ≤ gl P ∧ gl P < nS P) ∧ (nS P = 0 → gl P = -1) := h.2.1
theorem WF.r {P : jP} (h : WF P) : WFr P := h.2.2.1
theorem WF.s {P : jP} (h : WF P) : WFs P := h.2.2.2.1
theorem WF.m {P : jP} (h : WF P) : WFm P := h.2.2.2.2.1
theorem WF.c {P : jP} (h : WF P) : WFc P := h.2.2.2.2.2.1
theorem WF.t {P : jP} (h : WF P) {w : Int} (hw : inW P w) : okT P w := h.2.2.2.2.2.2.1 w hw
theorem inW_s {P : jP} {s : Int} (h0 : 0 ≤ s) (h1 : s < nS P) : inW P (48 + s) := Or.inl ⟨by omega, by omega⟩
theorem inW_p {P : jP} {r k : Int} (h0 : 0 ≤ r) (h1 : r < nR P) (h2 : 0 ≤ k) (h3 : k < pr P r) : inW P (4 * r + k) := Or.inr ⟨r, k, h0, h1, h2, Or.inl h3, rfl⟩
theorem inW_g {P : jP} {r : Int} (h0 : 0 ≤ r) (h1 : r < nR P) : inW P (4 * r + 3) := Or.inr ⟨r, 3, h0, h1, by omega, Or.inr rfl, rfl⟩
theorem inW_lt {P : jP} (h : WF P) {w : Int} (hw : inW P w) : 0 ≤ w ∧ w < 88 := by
  have hn := h.n
  rcases hw with hw | ⟨r, k, h0, h1, h2, h3, rfl⟩
  · omega
  · have := h.r r h0 h1
    omega
theorem WF.d {P : jP} (h : WF P) : WFd P := h.2.2.2.2.2.2.2.1
theorem WF.k {P : jP} (h : WF P) : WFk P := h.2.2.2.2.2.2.2.2
theorem WF.p {P : jP} (h : WF P) {s : Int} (h0 : 0 ≤ s) (h1 : s < nS P) : 0 ≤ pn P s ∧ pn P s ≤ 3 := h.r _ (h.s s h0 h1).1 (h.s s h0 h1).2
theorem Tc_app {P : jP} : ∀ (a b : Nat) (x y z : Int), Tc P a x y → Tc P b y z → Tc P (a + b) x z
  | 0, b, x, y, z, h1, h2 => by
    have h1 : x = y := h1
    subst h1
    rw [Nat.zero_add]
    exact h2
  | a + 1, b, x, y, z, h1, h2 => by
    rw [show a + 1 + b = (a + b) + 1 by omega]
    exact ⟨h1.1, h1.2.1, Tc_app a b _ y z h1.2.2 h2⟩
theorem Tc_le {P : jP} (hc : WFc P) : ∀ (a : Nat) (x y : Int), Tc P a x y → x + a ≤ y
  | 0, x, y, h => by
    have h : x = y := h
    omega
  | a + 1, x, y, h => by
    have h1 := Tc_le hc a _ y h.2.2
    have h2 := (hc x h.1 h.2.1).1
    omega
theorem Tc_top {P : jP} (hc : WFc P) : ∀ (a : Nat) (x y : Int), Tc P a x y → x ≤ nC P → y ≤ nC P
  | 0, x, y, h, hx => by
    have h : x = y := h
    omega
  | a + 1, x, y, h, hx => Tc_top hc a _ y h.2.2 (hc x h.1 h.2.1).2.1
/-- the first k below n with p, else -1 -/
def ffN (p : Int → Bool) : Nat → Int
  | 0 => -1
  | n + 1 => if ffN p n = -1 then (if p n = true then (n : Int) else -1) else ffN p n
def ff (p : Int → Bool) (n : Int) : Int := ffN p n.toNat
theorem ffN_cases (p : Int → Bool) : ∀ n : Nat, (ffN p n = -1 ∧ ∀ j : Int, 0 ≤ j → j < n → p j = false) ∨ (0 ≤ ffN p n ∧ ffN p n < n ∧ p (ffN p n) = true ∧ ∀ j : Int, 0 ≤ j → j < ffN p n → p j = false)
  | 0 => Or.inl ⟨rfl, fun j h1 h2 => by omega⟩
  | n + 1 => by
    show ((if ffN p n = -1 then (if p n = true then (n : Int) else -1) else ffN p n) = -1 ∧ _) ∨ (0 ≤ (if ffN p n = -1 then (if p n = true then (n : Int) else -1) else ffN p n) ∧ (if ffN p n = -1 then (if p n = true then (n : Int) else -1) else ffN p n) < _ ∧ p (if ffN p n = -1 then (if p n = true then (n : Int) else -1) else ffN p n) = true ∧ ∀ j : Int, 0 ≤ j → j < (if ffN p n = -1 then (if p n = true then (n : Int) else -1) else ffN p n) → p j = false)
    rcases ffN_cases p n with ⟨h1, h2⟩ | ⟨h1, h2, h3, h4⟩
    · rw [if_pos h1]
      by_cases hp : p n = true
      · rw [if_pos hp]
        exact Or.inr ⟨by omega, by omega, hp, h2⟩
      · rw [if_neg hp]
        refine Or.inl ⟨rfl, fun j g1 g2 => ?_⟩
        by_cases hj : j = n
        · subst hj
          exact Bool.eq_false_iff.mpr hp
        · exact h2 j g1 (by omega)
    · rw [if_neg (by omega)]
      exact Or.inr ⟨h1, by omega, h3, h4⟩
theorem ff_cases (p : Int → Bool) (n : Int) : (ff p n = -1 ∧ ∀ j : Int, 0 ≤ j → j < n → p j = false) ∨ (0 ≤ ff p n ∧ ff p n < n ∧ p (ff p n) = true ∧ ∀ j : Int, 0 ≤ j → j < ff p n → p j = false) := by
  rcases ffN_cases p n.toNat with ⟨h1, h2⟩ | ⟨h1, h2, h3, h4⟩
  · exact Or.inl ⟨h1, fun j g1 g2 => h2 j g1 (by omega)⟩
  · exact Or.inr ⟨h1, by unfold ff; omega, h3, h4⟩
theorem ff_eq {p : Int → Bool} {n k : Int} (h0 : 0 ≤ k) (h1 : k < n) (hp : p k = true) (hj : ∀ j : Int, 0 ≤ j → j < k → p j = false) : ff p n = k := by
  rcases ff_cases p n with ⟨g1, g2⟩ | ⟨g1, g2, g3, g4⟩
  · rw [g2 k h0 h1] at hp
    cases hp
  · rcases Int.lt_trichotomy (ff p n) k with h | h | h
    · rw [hj _ g1 h] at g3
      cases g3
    · exact h
    · rw [g4 _ h0 h] at hp
      cases hp
theorem ff_none {p : Int → Bool} {n : Int} (hj : ∀ j : Int, 0 ≤ j → j < n → p j = false) : ff p n = -1 := by
  rcases ff_cases p n with ⟨g1, g2⟩ | ⟨g1, g2, g3, g4⟩
  · exact g1
  · rw [hj _ g1 g2] at g3
    cases g3
theorem ff_congr {p q : Int → Bool} {n : Int} (h : ∀ j : Int, 0 ≤ j → j < n → p j = q j) : ff p n = ff q n := by
  rcases ff_cases q n with ⟨g1, g2⟩ | ⟨g1, g2, g3, g4⟩
  · rw [g1]
    exact ff_none (fun j a b => by rw [h j a b]; exact g2 j a b)
  · exact ff_eq g1 g2 (by rw [h _ g1 g2]; exact g3) (fun j a b => by rw [h j a (by omega)]; exact g4 j a b)
/-- a table whose entries are made of the earlier ones -/
def tbN {α : Type} (F : (Int → α) → Int → α) (d : α) : Nat → Int → α
  | 0 => fun _ => d
  | n + 1 => fun k => if k = n then F (tbN F d n) n else tbN F d n k
def tb {α : Type} (F : (Int → α) → Int → α) (d : α) (s : Int) : α := tbN F d (s.toNat + 1) s
theorem tbN_stable {α : Type} (F : (Int → α) → Int → α) (d : α) : ∀ (n m : Nat) (k : Int), 0 ≤ k → k < n → n ≤ m → tbN F d m k = tbN F d n k
  | n, 0, k, _, h1, h2 => by omega
  | n, m + 1, k, h0, h1, h2 => by
    by_cases he : n = m + 1
    · rw [he]
    · show (if k = m then F (tbN F d m) m else tbN F d m k) = _
      rw [if_neg (by omega)]
      exact tbN_stable F d n m k h0 h1 (by omega)
theorem tb_eq {α : Type} {F : (Int → α) → Int → α} {d : α} {s : Int} (h0 : 0 ≤ s) (hF : ∀ g g' : Int → α, (∀ j : Int, 0 ≤ j → j < s → g j = g' j) → F g s = F g' s) : tb F d s = F (tb F d) s := by
  show (if s = ((s.toNat : Nat) : Int) then F (tbN F d s.toNat) ((s.toNat : Nat) : Int) else _) = _
  rw [if_pos (by omega), show ((s.toNat : Nat) : Int) = s by omega]
  refine hF _ _ (fun j h1 h2 => ?_)
  exact tbN_stable F d (j.toNat + 1) s.toNat j h1 (by omega) (by omega)
