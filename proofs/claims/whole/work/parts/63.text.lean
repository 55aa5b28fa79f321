/-! the text: what stands where, words and numbers -/
def isL (c : Int) : Bool := decide (97 ≤ c ∧ c ≤ 122)
def isDg (c : Int) : Bool := decide (48 ≤ c ∧ c ≤ 57)
def isBl (c : Int) : Bool := decide (c = 32 ∨ c = 10)
def rnF (p : Int → Bool) : Nat → Int → Int
  | 0, a => a
  | m + 1, a => if p a = true then rnF p m (a + 1) else a
def rnn (p : Int → Bool) (n a : Int) : Int := rnF p (n - a).toNat a
theorem rnn_end {p : Int → Bool} {n a : Int} (h : n ≤ a) : rnn p n a = a := by
  unfold rnn
  rw [show (n - a).toNat = 0 by omega]
  rfl
theorem rnn_no {p : Int → Bool} {n a : Int} (h : p a = false) : rnn p n a = a := by
  unfold rnn
  cases (n - a).toNat with
  | zero => rfl
  | succ m => show (if p a = true then _ else a) = a; rw [h, if_neg (by decide)]
theorem rnn_yes {p : Int → Bool} {n a : Int} (h0 : a < n) (h : p a = true) : rnn p n a = rnn p n (a + 1) := by
  unfold rnn
  rw [show (n - a).toNat = (n - (a + 1)).toNat + 1 by omega]
  show (if p a = true then _ else a) = _
  rw [if_pos h]
theorem rnn_c {p : Int → Bool} {n : Int} : ∀ (m : Nat) (a : Int), n - a = m → (a ≤ rnn p n a ∧ rnn p n a ≤ n) ∧ (∀ k, a ≤ k → k < rnn p n a → p k = true) ∧ (rnn p n a < n → p (rnn p n a) = false) ∧ (∀ k, a ≤ k → k ≤ rnn p n a → rnn p n k = rnn p n a)
  | 0, a, h => by
    have e : rnn p n a = a := rnn_end (by omega)
    refine ⟨by omega, fun k x y => by omega, fun x => by omega, fun k x y => ?_⟩
    rw [show k = a by omega]
  | m + 1, a, h => by
    have ih := rnn_c (p := p) (n := n) m (a + 1) (by omega)
    cases hp : p a with
    | false =>
      have e : rnn p n a = a := rnn_no hp
      refine ⟨by omega, fun k x y => by omega, fun x => by rw [e]; exact hp, fun k x y => ?_⟩
      rw [show k = a by omega]
    | true =>
      have e : rnn p n a = rnn p n (a + 1) := rnn_yes (by omega) hp
      rw [e]
      refine ⟨by omega, fun k x y => ?_, ih.2.2.1, fun k x y => ?_⟩
      · by_cases hk : k = a
        · rw [hk]; exact hp
        · exact ih.2.1 k (by omega) y
      · by_cases hk : k = a
        · rw [hk]; exact e
        · exact ih.2.2.2 k (by omega) y
theorem rnn_r {p : Int → Bool} {n a : Int} (h : a ≤ n) : a ≤ rnn p n a ∧ rnn p n a ≤ n := (rnn_c (n - a).toNat a (by omega)).1
theorem rnn_in {p : Int → Bool} {n a k : Int} (h : a ≤ n) (h0 : a ≤ k) (h1 : k < rnn p n a) : p k = true := (rnn_c (n - a).toNat a (by omega)).2.1 k h0 h1
theorem rnn_stop {p : Int → Bool} {n a : Int} (h : a ≤ n) (h1 : rnn p n a < n) : p (rnn p n a) = false := (rnn_c (n - a).toNat a (by omega)).2.2.1 h1
theorem rnn_mid {p : Int → Bool} {n a k : Int} (h : a ≤ n) (h0 : a ≤ k) (h1 : k ≤ rnn p n a) : rnn p n k = rnn p n a := (rnn_c (n - a).toNat a (by omega)).2.2.2 k h0 h1
def sk (n : Int) (t : Int → Int) (a : Int) : Int := rnn (fun k => isBl (t k)) n a
def wl (n : Int) (t : Int → Int) (h : Int) : Int := rnn (fun k => isL (t k)) n h
def dl (n : Int) (t : Int → Int) (h : Int) : Int := rnn (fun k => isDg (t k)) n h
def wcN (t : Int → Int) (h : Int) : Nat → Int
  | 0 => 0
  | m + 1 => wcN t h m + (t (h + m) - 96) * ((32 ^ (5 - m) : Nat) : Int)
def m6 (x : Int) : Int := if x < 6 then x else 6
def m4 (x : Int) : Int := if x < 4 then x else 4
def wc (n : Int) (t : Int → Int) (h : Int) : Int := wcN t h (m6 (wl n t h - h)).toNat
def dvN (t : Int → Int) (h : Int) : Nat → Int
  | 0 => 0
  | m + 1 => 10 * dvN t h m + t (h + m) - 48
def dv (n : Int) (t : Int → Int) (h : Int) : Int := dvN t h (m4 (dl n t h - h)).toNat
def v27 (x : Int → Int) : Nat → Int
  | 0 => 0
  | m + 1 => 27 * v27 x m + x m
theorem six_ltr {x0 x1 x2 x3 x4 x5 c : Int} (h0 : 0 ≤ x0 ∧ x0 < 32) (h1 : 0 ≤ x1 ∧ x1 < 32) (h2 : 0 ≤ x2 ∧ x2 < 32) (h3 : 0 ≤ x3 ∧ x3 < 32) (h4 : 0 ≤ x4 ∧ x4 < 32) (h5 : 0 ≤ x5 ∧ x5 < 32) (hc : c = x0 * 33554432 + x1 * 1048576 + x2 * 32768 + x3 * 1024 + x4 * 32 + x5) : ltr c 0 = x0 ∧ ltr c 1 = x1 ∧ ltr c 2 = x2 ∧ ltr c 3 = x3 ∧ ltr c 4 = x4 ∧ ltr c 5 = x5 := by
  unfold ltr
  show c / 33554432 % 32 = x0 ∧ c / 1048576 % 32 = x1 ∧ c / 32768 % 32 = x2 ∧ c / 1024 % 32 = x3 ∧ c / 32 % 32 = x4 ∧ c / 1 % 32 = x5
  omega
theorem ltr_six {c : Int} (h : 0 ≤ c ∧ c < 1073741824) : c = ltr c 0 * 33554432 + ltr c 1 * 1048576 + ltr c 2 * 32768 + ltr c 3 * 1024 + ltr c 4 * 32 + ltr c 5 := by
  unfold ltr
  show c = c / 33554432 % 32 * 33554432 + c / 1048576 % 32 * 1048576 + c / 32768 % 32 * 32768 + c / 1024 % 32 * 1024 + c / 32 % 32 * 32 + c / 1 % 32
  omega
theorem all6 {p : Int → Prop} (h0 : p 0) (h1 : p 1) (h2 : p 2) (h3 : p 3) (h4 : p 4) (h5 : p 5) : ∀ k, 0 ≤ k → k < 6 → p k := by
  intro k a b
  have : k = 0 ∨ k = 1 ∨ k = 2 ∨ k = 3 ∨ k = 4 ∨ k = 5 := by omega
  rcases this with rfl | rfl | rfl | rfl | rfl | rfl <;> assumption
theorem wcN_c {t : Int → Int} {h : Int} {m : Nat} (hm : m ≤ 6) (hl : ∀ k : Int, 0 ≤ k → k < m → isL (t (h + k)) = true) : (0 ≤ wcN t h m ∧ wcN t h m < 1073741824) ∧ (∀ k : Int, 0 ≤ k → k < m → ltr (wcN t h m) k = t (h + k) - 96) ∧ (∀ k : Int, m ≤ k → k < 6 → ltr (wcN t h m) k = 0) := by
  have hb : ∀ k : Int, 0 ≤ k → k < m → 1 ≤ t (h + k) - 96 ∧ t (h + k) - 96 ≤ 26 := fun k a b => by
    have := of_decide_eq_true (hl k a b)
    omega
  have e : wcN t h m = (if 0 < m then t (h + 0) - 96 else 0) * 33554432 + (if 1 < m then t (h + 1) - 96 else 0) * 1048576 + (if 2 < m then t (h + 2) - 96 else 0) * 32768 + (if 3 < m then t (h + 3) - 96 else 0) * 1024 + (if 4 < m then t (h + 4) - 96 else 0) * 32 + (if 5 < m then t (h + 5) - 96 else 0) := by
    have hm2 : m = 0 ∨ m = 1 ∨ m = 2 ∨ m = 3 ∨ m = 4 ∨ m = 5 ∨ m = 6 := by omega
    have z : ((0 : Nat) : Int) = 0 := rfl
    have o : ((1 : Nat) : Int) = 1 := rfl
    have w : ((2 : Nat) : Int) = 2 := rfl
    have r : ((3 : Nat) : Int) = 3 := rfl
    have f : ((4 : Nat) : Int) = 4 := rfl
    have v : ((5 : Nat) : Int) = 5 := rfl
    rcases hm2 with rfl | rfl | rfl | rfl | rfl | rfl | rfl <;> simp [wcN]
  have g : ∀ i : Nat, i < 6 → 0 ≤ (if i < m then t (h + i) - 96 else 0) ∧ (if i < m then t (h + i) - 96 else 0) < 32 := by
    intro i hi
    split
    · rename_i hh
      have := hb i (by omega) (by omega)
      omega
    · omega
  have s := six_ltr (g 0 (by omega)) (g 1 (by omega)) (g 2 (by omega)) (g 3 (by omega)) (g 4 (by omega)) (g 5 (by omega)) e
  have g0 := g 0 (by omega)
  have g1 := g 1 (by omega)
  have g2 := g 2 (by omega)
  have g3 := g 3 (by omega)
  have g4 := g 4 (by omega)
  have g5 := g 5 (by omega)
  have hk : ∀ i : Nat, i < 6 → ltr (wcN t h m) i = (if i < m then t (h + i) - 96 else 0) := by
    intro i hi
    have : i = 0 ∨ i = 1 ∨ i = 2 ∨ i = 3 ∨ i = 4 ∨ i = 5 := by omega
    rcases this with rfl | rfl | rfl | rfl | rfl | rfl
    · exact s.1
    · exact s.2.1
    · exact s.2.2.1
    · exact s.2.2.2.1
    · exact s.2.2.2.2.1
    · exact s.2.2.2.2.2
  refine ⟨?_, fun k a b => ?_, fun k a b => ?_⟩
  · generalize (if 0 < m then t (h + 0) - 96 else 0) = x0 at *
    generalize (if 1 < m then t (h + 1) - 96 else 0) = x1 at *
    generalize (if 2 < m then t (h + 2) - 96 else 0) = x2 at *
    generalize (if 3 < m then t (h + 3) - 96 else 0) = x3 at *
    generalize (if 4 < m then t (h + 4) - 96 else 0) = x4 at *
    generalize (if 5 < m then t (h + 5) - 96 else 0) = x5 at *
    have g0 : 0 ≤ x0 ∧ x0 < 32 := g0
    have g1 : 0 ≤ x1 ∧ x1 < 32 := g1
    have g2 : 0 ≤ x2 ∧ x2 < 32 := g2
    have g3 : 0 ≤ x3 ∧ x3 < 32 := g3
    have g4 : 0 ≤ x4 ∧ x4 < 32 := g4
    have g5 : 0 ≤ x5 ∧ x5 < 32 := g5
    omega
  · have := hk k.toNat (by omega)
    rw [show ((k.toNat : Nat) : Int) = k by omega, if_pos (by omega)] at this
    exact this
  · have := hk k.toNat (by omega)
    rw [show ((k.toNat : Nat) : Int) = k by omega, if_neg (by omega)] at this
    exact this
theorem e27_v {c : Int} {m : Nat} (hm : m ≤ 6) (h1 : ∀ k : Int, 0 ≤ k → k < m → 1 ≤ ltr c k) (h2 : ∀ k : Int, m ≤ k → k < 6 → ltr c k = 0) : e27 c = v27 (ltr c) m := by
  have step : ∀ (j : Nat) (v : Int), j < 6 → e27s c v j = if j < m then 27 * v + ltr c j else v := by
    intro j v hj
    unfold e27s
    by_cases hh : j < m
    · have := h1 j (by omega) (by omega)
      rw [if_neg (by omega), if_pos hh]
    · rw [if_pos (h2 j (by omega) (by omega)), if_neg hh]
  unfold e27
  have s0 := step 0 0 (by omega)
  have s1 := fun v => step 1 v (by omega)
  have s2 := fun v => step 2 v (by omega)
  have s3 := fun v => step 3 v (by omega)
  have s4 := fun v => step 4 v (by omega)
  have s5 := fun v => step 5 v (by omega)
  simp only [show ((0 : Nat) : Int) = 0 from rfl, show ((1 : Nat) : Int) = 1 from rfl, show ((2 : Nat) : Int) = 2 from rfl, show ((3 : Nat) : Int) = 3 from rfl, show ((4 : Nat) : Int) = 4 from rfl, show ((5 : Nat) : Int) = 5 from rfl] at s0 s1 s2 s3 s4 s5
  rw [s0, s1, s2, s3, s4, s5]
  have hm2 : m = 0 ∨ m = 1 ∨ m = 2 ∨ m = 3 ∨ m = 4 ∨ m = 5 ∨ m = 6 := by omega
  rcases hm2 with rfl | rfl | rfl | rfl | rfl | rfl | rfl <;> rfl
theorem v27_pos {x : Int → Int} : ∀ m : Nat, (∀ k : Int, 0 ≤ k → k < m → 1 ≤ x k) → 0 ≤ v27 x m ∧ (0 < m → 1 ≤ v27 x m)
  | 0, _ => ⟨Int.le_refl 0, fun h => by omega⟩
  | m + 1, h => by
    have ih := v27_pos m (fun k a b => h k a (by omega))
    have h1 := h m (by omega) (by omega)
    show 0 ≤ 27 * v27 x m + x m ∧ _
    refine ⟨by omega, fun _ => ?_⟩
    show 1 ≤ 27 * v27 x m + x m
    omega
theorem v27_inj {x y : Int → Int} : ∀ n m : Nat, (∀ k : Int, 0 ≤ k → k < n → 1 ≤ x k ∧ x k ≤ 26) → (∀ k : Int, 0 ≤ k → k < m → 1 ≤ y k ∧ y k ≤ 26) → v27 x n = v27 y m → n = m ∧ ∀ k : Int, 0 ≤ k → k < n → x k = y k
  | 0, m, _, hy, h => by
    have h2 := v27_pos m (fun k a b => (hy k a b).1)
    have h3 : v27 x 0 = 0 := rfl
    refine ⟨by omega, fun k a b => by omega⟩
  | n + 1, 0, hx, _, h => by
    have h2 := v27_pos (n + 1) (fun k a b => (hx k a b).1)
    have h3 : v27 y 0 = 0 := rfl
    omega
  | n + 1, m + 1, hx, hy, h => by
    have h : 27 * v27 x n + x n = 27 * v27 y m + y m := h
    have a1 := hx n (by omega) (by omega)
    have a2 := hy m (by omega) (by omega)
    have ih := v27_inj n m (fun k a b => hx k a (by omega)) (fun k a b => hy k a (by omega)) (by omega)
    refine ⟨by omega, fun k a b => ?_⟩
    by_cases hk : k = n
    · have e : (n : Int) = m := by omega
      rw [hk]
      rw [← e] at h a2
      omega
    · exact ih.2 k a (by omega)
theorem e27_inj {c d : Int} (hc : okN c) (hd : okN d) (h : e27 c = e27 d) : c = d := by
  obtain ⟨rc, n, n1, n2, n3, n4⟩ := hc
  obtain ⟨rd, m, m1, m2, m3, m4⟩ := hd
  rw [e27_v (c := c) (m := n.toNat) (by omega) (fun k a b => (n3 k a (by omega)).1) (fun k a b => n4 k (by omega) b), e27_v (c := d) (m := m.toNat) (by omega) (fun k a b => (m3 k a (by omega)).1) (fun k a b => m4 k (by omega) b)] at h
  have hv := v27_inj n.toNat m.toNat (fun k a b => n3 k a (by omega)) (fun k a b => m3 k a (by omega)) h
  have key : ∀ k, 0 ≤ k → k < 6 → ltr c k = ltr d k := by
    intro k a b
    by_cases hk : k < n
    · exact hv.2 k a (by omega)
    · rw [n4 k (by omega) b, m4 k (by omega) b]
  rw [ltr_six rc, ltr_six rd, key 0 (by omega) (by omega), key 1 (by omega) (by omega), key 2 (by omega) (by omega), key 3 (by omega) (by omega), key 4 (by omega) (by omega), key 5 (by omega) (by omega)]
/-- a word at h -/
theorem wl_r {n : Int} {t : Int → Int} {h : Int} (hn : h < n) (hl : isL (t h) = true) : h < wl n t h ∧ wl n t h ≤ n ∧ (∀ k, h ≤ k → k < wl n t h → isL (t k) = true) := by
  have e : wl n t h = rnn (fun k => isL (t k)) n (h + 1) := rnn_yes hn hl
  have r := rnn_r (p := fun k => isL (t k)) (n := n) (a := h + 1) (by omega)
  refine ⟨by omega, by omega, fun k a b => rnn_in (p := fun k => isL (t k)) (n := n) (a := h) (by omega) a b⟩
theorem dl_r {n : Int} {t : Int → Int} {h : Int} (hn : h < n) (hl : isDg (t h) = true) : h < dl n t h ∧ dl n t h ≤ n ∧ (∀ k, h ≤ k → k < dl n t h → isDg (t k) = true) := by
  have e : dl n t h = rnn (fun k => isDg (t k)) n (h + 1) := rnn_yes hn hl
  have r := rnn_r (p := fun k => isDg (t k)) (n := n) (a := h + 1) (by omega)
  refine ⟨by omega, by omega, fun k a b => rnn_in (p := fun k => isDg (t k)) (n := n) (a := h) (by omega) a b⟩
theorem wc_ok {n : Int} {t : Int → Int} {h : Int} (hn : h < n) (hl : isL (t h) = true) (h6 : wl n t h - h ≤ 6) : okN (wc n t h) ∧ e27 (wc n t h) = v27 (fun k => t (h + k) - 96) (wl n t h - h).toNat ∧ (∀ k, 0 ≤ k → k < wl n t h - h → ltr (wc n t h) k = t (h + k) - 96) ∧ (∀ k, wl n t h - h ≤ k → k < 6 → ltr (wc n t h) k = 0) := by
  obtain ⟨r1, r2, r3⟩ := wl_r hn hl
  have em : (m6 (wl n t h - h)).toNat = (wl n t h - h).toNat := by
    unfold m6
    split <;> omega
  have hb : ∀ k : Int, 0 ≤ k → k < ((wl n t h - h).toNat : Nat) → isL (t (h + k)) = true := fun k a b => r3 (h + k) (by omega) (by omega)
  obtain ⟨c1, c2, c3⟩ := wcN_c (t := t) (h := h) (m := (wl n t h - h).toNat) (by omega) hb
  unfold wc
  rw [em]
  have c2' : ∀ k, 0 ≤ k → k < wl n t h - h → ltr (wcN t h (wl n t h - h).toNat) k = t (h + k) - 96 := fun k a b => c2 k a (by omega)
  have c3' : ∀ k, wl n t h - h ≤ k → k < 6 → ltr (wcN t h (wl n t h - h).toNat) k = 0 := fun k a b => c3 k (by omega) b
  have hbb : ∀ k, 0 ≤ k → k < wl n t h - h → 1 ≤ t (h + k) - 96 ∧ t (h + k) - 96 ≤ 26 := fun k a b => by
    have := of_decide_eq_true (hb k a (by omega))
    omega
  refine ⟨⟨c1, wl n t h - h, by omega, h6, fun k a b => ?_, c3'⟩, ?_, c2', c3'⟩
  · rw [c2' k a b]; exact hbb k a b
  · rw [e27_v (m := (wl n t h - h).toNat) (by omega) (fun k a b => by rw [c2 k a b]; exact (hbb k a (by omega)).1) c3]
    have key : ∀ m : Nat, m ≤ (wl n t h - h).toNat → v27 (ltr (wcN t h (wl n t h - h).toNat)) m = v27 (fun k => t (h + k) - 96) m := by
      intro m
      induction m with
      | zero => intro _; rfl
      | succ m ih =>
        intro hm
        show 27 * _ + ltr _ _ = 27 * _ + (t (h + m) - 96)
        rw [ih (by omega), c2 m (by omega) (by omega)]
    exact key _ (Nat.le_refl _)
theorem dvN_r {t : Int → Int} {h : Int} : ∀ m : Nat, m ≤ 4 → (∀ k : Int, 0 ≤ k → k < m → isDg (t (h + k)) = true) → 0 ≤ dvN t h m ∧ dvN t h m < ((10 ^ m : Nat) : Int)
  | 0, _, _ => ⟨Int.le_refl 0, by show (0 : Int) < 1; omega⟩
  | m + 1, hm, hb => by
    have ih := dvN_r m (by omega) (fun k a b => hb k a (by omega))
    have h1 := of_decide_eq_true (hb m (by omega) (by omega))
    have e : ((10 ^ (m + 1) : Nat) : Int) = 10 * ((10 ^ m : Nat) : Int) := by rw [Nat.pow_succ]; omega
    show 0 ≤ 10 * dvN t h m + t (h + m) - 48 ∧ 10 * dvN t h m + t (h + m) - 48 < _
    omega
