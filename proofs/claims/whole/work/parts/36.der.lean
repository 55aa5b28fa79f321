/-! what follows from a proof: first of its term, below, depth, the rest .. -/
theorem anyB_0 {p : Int → Bool} {n : Int} (h : n ≤ 0) : anyB p n = false := by
  rw [Bool.eq_false_iff]
  intro hh
  rw [anyB_iff] at hh
  obtain ⟨k, h1, h2, _⟩ := hh
  omega
theorem anyB_s {p : Int → Bool} {n : Int} (h : 0 ≤ n) : anyB p (n + 1) = (anyB p n || p n) := by
  rw [Bool.eq_iff_iff, Bool.or_eq_true, anyB_iff, anyB_iff]
  constructor
  · rintro ⟨k, h1, h2, h3⟩
    by_cases hk : k = n
    · subst hk; exact Or.inr h3
    · exact Or.inl ⟨k, h1, by omega, h3⟩
  · rintro (⟨k, h1, h2, h3⟩ | h3)
    · exact ⟨k, h1, by omega, h3⟩
    · exact ⟨n, h, by omega, h3⟩
theorem allB_0 {p : Int → Bool} {n : Int} (h : n ≤ 0) : allB p n = true := by
  rw [allB_iff]
  intro k h1 h2
  omega
theorem allB_s {p : Int → Bool} {n : Int} (h : 0 ≤ n) : allB p (n + 1) = (allB p n && p n) := by
  rw [Bool.eq_iff_iff, Bool.and_eq_true, allB_iff, allB_iff]
  constructor
  · intro hh
    exact ⟨fun k h1 h2 => hh k h1 (by omega), hh n h (by omega)⟩
  · rintro ⟨h1, h2⟩ k h3 h4
    by_cases hk : k = n
    · subst hk; exact h2
    · exact h1 k h3 (by omega)
theorem anyB_congr {p q : Int → Bool} {n : Int} (h : ∀ k : Int, 0 ≤ k → k < n → p k = q k) : anyB p n = anyB q n := by
  rw [Bool.eq_iff_iff, anyB_iff, anyB_iff]
  constructor
  · rintro ⟨k, h1, h2, h3⟩
    exact ⟨k, h1, h2, by rw [← h k h1 h2]; exact h3⟩
  · rintro ⟨k, h1, h2, h3⟩
    exact ⟨k, h1, h2, by rw [h k h1 h2]; exact h3⟩
theorem allB_congr {p q : Int → Bool} {n : Int} (h : ∀ k : Int, 0 ≤ k → k < n → p k = q k) : allB p n = allB q n := by
  rw [Bool.eq_iff_iff, allB_iff, allB_iff]
  constructor
  · intro hh k h1 h2
    rw [← h k h1 h2]; exact hh k h1 h2
  · intro hh k h1 h2
    rw [h k h1 h2]; exact hh k h1 h2
theorem bs_0 {p : Int → Bool} {n : Int} (h : ∀ k : Int, 0 ≤ k → k < n → p k = false) : bs p n = 0 := by
  by_cases hn : 0 ≤ n
  · have := bs_more (p := p) (n := 0) (m := n) (by omega) hn h
    rw [this]
    rfl
  · unfold bs
    rw [show n.toNat = 0 by omega]
    rfl
theorem bs_in01 {p : Int → Bool} {k : Int} (h0 : 0 ≤ k) (h1 : k < 40) : iand64 (ishr64 (bs p 40) k) 1 = b2i (p k) := by
  rw [bs_inS h0 (by omega) (by omega), decide_eq_true h1, Bool.true_and]
theorem cnt_add {p : Int → Bool} {m n : Int} (h0 : 0 ≤ m) (h : m ≤ n) : cnt p m ≤ cnt p n ∧ cnt p n - cnt p m ≤ n - m := by
  have key : ∀ d : Nat, cnt p m ≤ cnt p (m + d) ∧ cnt p (m + d) - cnt p m ≤ d := by
    intro d
    induction d with
    | zero => rw [show m + ((0 : Nat) : Int) = m by omega]; omega
    | succ d ih =>
      have := cnt_s p (k := m + d) (by omega)
      rw [show m + ((d + 1 : Nat) : Int) = m + (d : Int) + 1 by omega]
      have h2 := b2i_01 (p (m + d))
      omega
  have := key (n - m).toNat
  rw [show m + (((n - m).toNat : Nat) : Int) = n by omega] at this
  omega
theorem cnt_lt {p : Int → Bool} {m n : Int} (h0 : 0 ≤ m) (h : m < n) (hp : p m = true) : cnt p m < cnt p n := by
  have h1 := cnt_s p h0
  rw [hp, b2i_t] at h1
  have := (cnt_add (p := p) (m := m + 1) (n := n) (by omega) (by omega)).1
  omega
theorem sm_iff {P : jP} {a b : Int} : sm P a b = true ↔ bh P a - a = bh P b - b ∧ ∀ k, 0 ≤ k → k < bh P a - a → sy P (a + k) = sy P (b + k) := by
  unfold sm
  rw [Bool.and_eq_true, decide_eq_true_iff, allB_iff]
  constructor
  · rintro ⟨h1, h2⟩
    exact ⟨h1, fun k a b => beq_iff_eq.mp (h2 k a b)⟩
  · rintro ⟨h1, h2⟩
    exact ⟨h1, fun k a b => beq_iff_eq.mpr (h2 k a b)⟩
theorem sm_symm {P : jP} {a b : Int} (h : sm P a b = true) : sm P b a = true := by
  rw [sm_iff] at *
  exact ⟨h.1.symm, fun k h1 h2 => (h.2 k h1 (by omega)).symm⟩
theorem sm_trans {P : jP} {a b c : Int} (h : sm P a b = true) (h2 : sm P b c = true) : sm P a c = true := by
  rw [sm_iff] at *
  exact ⟨h.1.trans h2.1, fun k g1 g2 => (h.2 k g1 g2).trans (h2.2 k g1 (by omega))⟩
/-- the first step with the same term -/
def fs (P : jP) (s : Int) : Int := ff (fun k => sm P (tf P (48 + k)) (tf P (48 + s))) (s + 1)
theorem fs_c (P : jP) {s : Int} (h : 0 ≤ s) : 0 ≤ fs P s ∧ fs P s ≤ s ∧ sm P (tf P (48 + fs P s)) (tf P (48 + s)) = true ∧ ∀ j : Int, 0 ≤ j → j < fs P s → sm P (tf P (48 + j)) (tf P (48 + s)) = false := by
  rcases ff_cases (fun k => sm P (tf P (48 + k)) (tf P (48 + s))) (s + 1) with ⟨g1, g2⟩ | ⟨g1, g2, g3, g4⟩
  · have := g2 s h (by omega)
    rw [sm_refl] at this
    cases this
  · exact ⟨g1, by unfold fs; omega, g3, g4⟩
theorem fs_r (P : jP) {s : Int} (h : 0 ≤ s) : 0 ≤ fs P s ∧ fs P s ≤ s := ⟨(fs_c P h).1, (fs_c P h).2.1⟩
theorem fs_eq {P : jP} {s k : Int} (h0 : 0 ≤ k) (h1 : k ≤ s) (h2 : sm P (tf P (48 + k)) (tf P (48 + s)) = true) (h3 : ∀ j : Int, 0 ≤ j → j < k → sm P (tf P (48 + j)) (tf P (48 + s)) = false) : fs P s = k := ff_eq h0 (by omega) h2 h3
theorem fs_fs (P : jP) {s : Int} (h : 0 ≤ s) : fs P (fs P s) = fs P s := by
  obtain ⟨h1, h2, h3, h4⟩ := fs_c P h
  refine fs_eq h1 (by omega) (sm_refl P _) (fun j j0 j1 => ?_)
  rw [Bool.eq_false_iff]
  intro hh
  have := sm_trans hh h3
  rw [h4 j j0 j1] at this
  cases this
/-- what a step leans upon, near and far -/
def bl (P : jP) : Int → Int → Bool := tb (fun g s j => anyB (fun k => j == nm P s k || g (nm P s k) j) (pn P s)) (fun _ => false)
theorem bl_eq {P : jP} (h : WF P) {s : Int} (h0 : 0 ≤ s) (h1 : s < nS P) : bl P s = fun j => anyB (fun k => j == nm P s k || bl P (nm P s k) j) (pn P s) := by
  unfold bl
  refine tb_eq h0 (fun g g' hg => ?_)
  funext j
  refine anyB_congr (fun k k0 k1 => ?_)
  have := h.m s k h0 h1 k0 k1
  rw [hg _ this.1 this.2]
theorem bl_lt {P : jP} (h : WF P) : ∀ (n : Nat) (s j : Int), s.toNat ≤ n → 0 ≤ s → s < nS P → bl P s j = true → 0 ≤ j ∧ j < s := by
  intro n
  induction n with
  | zero =>
    intro s j hs h0 h1 hb
    rw [bl_eq h h0 h1] at hb
    obtain ⟨k, k0, k1, k2⟩ := anyB_iff.mp hb
    have := h.m s k h0 h1 k0 k1
    omega
  | succ n ih =>
    intro s j hs h0 h1 hb
    rw [bl_eq h h0 h1] at hb
    obtain ⟨k, k0, k1, k2⟩ := anyB_iff.mp hb
    have hm := h.m s k h0 h1 k0 k1
    rw [Bool.or_eq_true] at k2
    rcases k2 with k2 | k2
    · have := beq_iff_eq.mp k2
      omega
    · have := ih (nm P s k) j (by omega) hm.1 (by omega) k2
      omega
/-- how deep a step stands -/
def dpf (P : jP) (g : Int → Int) (s : Int) : Nat → Int
  | 0 => 1
  | k + 1 => if dpf P g s k < g (nm P s k) + 1 then g (nm P s k) + 1 else dpf P g s k
def dp (P : jP) : Int → Int := tb (fun g s => dpf P g s (pn P s).toNat) 0
theorem dpf_congr {P : jP} {g g' : Int → Int} {s : Int} : ∀ (n : Nat), (∀ k : Int, 0 ≤ k → k < n → g (nm P s k) = g' (nm P s k)) → dpf P g s n = dpf P g' s n
  | 0, _ => rfl
  | n + 1, h => by
    show (if dpf P g s n < g (nm P s n) + 1 then g (nm P s n) + 1 else dpf P g s n) = (if dpf P g' s n < g' (nm P s n) + 1 then g' (nm P s n) + 1 else dpf P g' s n)
    rw [dpf_congr n (fun k a b => h k a (by omega)), h n (by omega) (by omega)]
theorem dp_eq {P : jP} (h : WF P) {s : Int} (h0 : 0 ≤ s) (h1 : s < nS P) : dp P s = dpf P (dp P) s (pn P s).toNat := by
  unfold dp
  refine tb_eq h0 (fun g g' hg => ?_)
  have hp := h.p h0 h1
  refine dpf_congr _ (fun k k0 k1 => ?_)
  have := h.m s k h0 h1 k0 (by omega)
  exact hg _ this.1 this.2
theorem dpf_r {P : jP} {g : Int → Int} {s : Int} (hs : 0 ≤ s) : ∀ (n : Nat), (∀ k : Int, 0 ≤ k → k < n → 1 ≤ g (nm P s k) ∧ g (nm P s k) ≤ s) → 1 ≤ dpf P g s n ∧ dpf P g s n ≤ s + 1
  | 0, _ => by
    show (1 : Int) ≤ 1 ∧ (1 : Int) ≤ s + 1
    omega
  | n + 1, h => by
    have h1 := dpf_r hs n (fun k a b => h k a (by omega))
    have h2 := h n (by omega) (by omega)
    show 1 ≤ (if dpf P g s n < g (nm P s n) + 1 then g (nm P s n) + 1 else dpf P g s n) ∧ (if dpf P g s n < g (nm P s n) + 1 then g (nm P s n) + 1 else dpf P g s n) ≤ s + 1
    split <;> omega
theorem dp_r {P : jP} (h : WF P) : ∀ (n : Nat) (s : Int), s.toNat ≤ n → 0 ≤ s → s < nS P → 1 ≤ dp P s ∧ dp P s ≤ s + 1 := by
  intro n
  induction n with
  | zero =>
    intro s hs h0 h1
    rw [dp_eq h h0 h1]
    have hp := h.p h0 h1
    refine dpf_r h0 _ (fun k a b => ?_)
    have := h.m s k h0 h1 a (by omega)
    omega
  | succ n ih =>
    intro s hs h0 h1
    rw [dp_eq h h0 h1]
    have hp := h.p h0 h1
    refine dpf_r h0 _ (fun k a b => ?_)
    have hm := h.m s k h0 h1 a (by omega)
    have := ih (nm P s k) (by omega) hm.1 (by omega)
    omega
/-- sets of steps -/
def inS (P : jP) (p : Int → Bool) (j : Int) : Bool := decide (j < nS P) && p j
def nd (P : jP) (j : Int) : Bool := j == gl P || bl P (gl P) j
def tw (P : jP) (j : Int) : Bool := decide (fs P j < j)
def cvd (P : jP) (j : Int) : Bool := decide (cb P j ≠ -1)
def nr (P : jP) (s j : Int) : Bool := anyB (fun k => nm P j k == s) (pn P j)
def cg (P : jP) (e n : Int) : Int := cnt (fun s => decide (e < s) && cv P e s) n
/-- the terms proved when a step is left out -/
def pvN (P : jP) (out : Int) : Nat → Int → Bool
  | 0 => fun _ => false
  | n + 1 => fun j => pvN P out n j || ((decide ((n : Int) ≠ out) && allB (fun k => pvN P out n (fs P (nm P n k))) (pn P n)) && j == fs P n)
def pv (P : jP) (out n : Int) : Int → Bool := pvN P out n.toNat
theorem pv_s (P : jP) (out : Int) {n : Int} (h : 0 ≤ n) : pv P out (n + 1) = fun j => pv P out n j || ((decide (n ≠ out) && allB (fun k => pv P out n (fs P (nm P n k))) (pn P n)) && j == fs P n) := by
  unfold pv
  rw [show (n + 1).toNat = n.toNat + 1 by omega]
  funext j
  show (pvN P out n.toNat j || ((decide (((n.toNat : Nat) : Int) ≠ out) && allB (fun k => pvN P out n.toNat (fs P (nm P ((n.toNat : Nat) : Int) k))) (pn P ((n.toNat : Nat) : Int))) && j == fs P ((n.toNat : Nat) : Int))) = _
  rw [show ((n.toNat : Nat) : Int) = n by omega]
def pw (P : jP) (out : Int) : Bool := pv P out (nS P) (fs P (gl P))
def vt (P : jP) (j : Int) : Bool := !pw P j
/-- what is kept for the goal, going down -/
def kpN (P : jP) : Nat → Int → Bool
  | 0 => fun j => j == fs P (gl P)
  | n + 1 => fun j => kpN P n j || (kpN P n (nS P - 1 - n) && anyB (fun k => j == fs P (nm P (nS P - 1 - n) k)) (pn P (nS P - 1 - n)))
def kpd (P : jP) (s : Int) : Int → Bool := kpN P (nS P - 1 - s).toNat
def kp (P : jP) : Int → Bool := kpd P (-1)
theorem kpd_0 (P : jP) : kpd P (nS P - 1) = fun j => j == fs P (gl P) := by
  unfold kpd
  rw [show (nS P - 1 - (nS P - 1)).toNat = 0 by omega]
  rfl
theorem kpd_s (P : jP) {s : Int} (h : s < nS P) : kpd P (s - 1) = fun j => kpd P s j || (kpd P s s && anyB (fun k => j == fs P (nm P s k)) (pn P s)) := by
  unfold kpd
  rw [show (nS P - 1 - (s - 1)).toNat = (nS P - 1 - s).toNat + 1 by omega]
  funext j
  show (kpN P (nS P - 1 - s).toNat j || (kpN P (nS P - 1 - s).toNat (nS P - 1 - (((nS P - 1 - s).toNat : Nat) : Int)) && anyB (fun k => j == fs P (nm P (nS P - 1 - (((nS P - 1 - s).toNat : Nat) : Int)) k)) (pn P (nS P - 1 - (((nS P - 1 - s).toNat : Nat) : Int))))) = _
  rw [show nS P - 1 - (((nS P - 1 - s).toNat : Nat) : Int) = s by omega]
