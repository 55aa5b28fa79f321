/-! library: frames, loops, counting -/
def Fr (W : Nat → Int → Prop) (μ μ1 : jMu) : Prop := ∀ i k, ¬ W i k → μ1 i k = μ i k
theorem Fr.rf {W : Nat → Int → Prop} {μ : jMu} : Fr W μ μ := fun _ _ _ => rfl
theorem Fr.tr {W : Nat → Int → Prop} {μ μ1 μ2 : jMu} (h : Fr W μ μ1) (h2 : Fr W μ1 μ2) : Fr W μ μ2 := fun i k hw => (h2 i k hw).trans (h i k hw)
theorem Fr.mono {W V : Nat → Int → Prop} {μ μ1 : jMu} (h : Fr W μ μ1) (hv : ∀ i k, W i k → V i k) : Fr V μ μ1 := fun i k hw => h i k (fun q => hw (hv i k q))
theorem Fr.up {W : Nat → Int → Prop} {μ : jMu} {i : Nat} {k x : Int} (h : W i k) : Fr W μ (j_up μ i k x) := by
  intro a b hw
  unfold j_up
  rw [if_neg]
  rintro ⟨rfl, rfl⟩
  exact hw h
theorem Fr.put {W : Nat → Int → Prop} {μ μ1 : jMu} {i : Nat} {k x : Int} (h0 : Fr W μ μ1) (h : W i k) : Fr W μ (j_up μ1 i k x) := h0.tr (Fr.up h)
theorem up_eq {μ : jMu} {i : Nat} {k x : Int} : j_up μ i k x i k = x := by simp [j_up]
theorem up_ne {μ : jMu} {i j : Nat} {k l x : Int} (h : j ≠ i) : j_up μ i k x j l = μ j l := by simp [j_up, h]
theorem up_nk {μ : jMu} {i j : Nat} {k l x : Int} (h : l ≠ k) : j_up μ i k x j l = μ j l := by simp [j_up, h]
theorem up_if {μ : jMu} {i : Nat} {k l x : Int} : j_up μ i k x i l = if l = k then x else μ i l := by simp [j_up]
/-- a loop that counts up to N -/
theorem up_ind (N : Int) (C : Int → Prop) (h : ∀ k, (k < N → C (k + 1)) → C k) (k : Int) : C k := by
  have key : ∀ (n : Nat) (k : Int), (N - k).toNat ≤ n → C k := by
    intro n
    induction n with
    | zero => intro k hk; exact h k (fun hl => by omega)
    | succ n ih => intro k hk; exact h k (fun hl => ih (k + 1) (by omega))
  exact key _ k (Nat.le_refl _)
/-- a loop that counts down to 0 -/
theorem down_ind (C : Int → Prop) (h : ∀ k, (0 ≤ k → C (k - 1)) → C k) (k : Int) : C k := by
  have key : ∀ (n : Nat) (k : Int), (k + 1).toNat ≤ n → C k := by
    intro n
    induction n with
    | zero => intro k hk; exact h k (fun hl => by omega)
    | succ n ih => intro k hk; exact h k (fun hl => ih (k - 1) (by omega))
  exact key _ k (Nat.le_refl _)
def b2i (b : Bool) : Int := if b = true then 1 else 0
theorem b2i_01 (b : Bool) : b2i b = 0 ∨ b2i b = 1 := by cases b <;> simp [b2i]
theorem b2i_t : b2i true = 1 := rfl
theorem b2i_f : b2i false = 0 := rfl
/-- how many k below n have p -/
def cntN (p : Int → Bool) : Nat → Int
  | 0 => 0
  | n + 1 => cntN p n + b2i (p n)
def cnt (p : Int → Bool) (n : Int) : Int := cntN p n.toNat
theorem cnt_0 (p : Int → Bool) : cnt p 0 = 0 := rfl
theorem cnt_s (p : Int → Bool) {k : Int} (h : 0 ≤ k) : cnt p (k + 1) = cnt p k + b2i (p k) := by
  unfold cnt
  rw [show (k + 1).toNat = k.toNat + 1 by omega]
  show cntN p k.toNat + b2i (p ((k.toNat : Nat) : Int)) = _
  rw [Int.toNat_of_nonneg h]
theorem cntN_le (p : Int → Bool) : ∀ n : Nat, 0 ≤ cntN p n ∧ cntN p n ≤ n
  | 0 => ⟨Int.le_refl 0, Int.le_refl 0⟩
  | n + 1 => by
    have := cntN_le p n
    have h2 := b2i_01 (p n)
    show 0 ≤ cntN p n + b2i (p n) ∧ cntN p n + b2i (p n) ≤ _
    omega
theorem cnt_le (p : Int → Bool) {k : Int} (h : 0 ≤ k) : 0 ≤ cnt p k ∧ cnt p k ≤ k := by
  have := cntN_le p k.toNat
  unfold cnt
  omega
theorem cntN_congr {p q : Int → Bool} : ∀ n : Nat, (∀ k : Int, 0 ≤ k → k < n → p k = q k) → cntN p n = cntN q n
  | 0, _ => rfl
  | n + 1, h => by
    show cntN p n + b2i (p n) = cntN q n + b2i (q n)
    rw [cntN_congr n (fun k h1 h2 => h k h1 (by omega)), h n (by omega) (by omega)]
theorem cnt_congr {p q : Int → Bool} {n : Int} (h : ∀ k : Int, 0 ≤ k → k < n → p k = q k) : cnt p n = cnt q n := cntN_congr n.toNat (fun k h1 h2 => h k h1 (by omega))
/-- all k below n have p; some k below n has p -/
def allB (p : Int → Bool) (n : Int) : Bool := decide (∀ k : Nat, k < n.toNat → p k = true)
def anyB (p : Int → Bool) (n : Int) : Bool := decide (∃ k : Nat, k < n.toNat ∧ p k = true)
theorem anyB_iff {p : Int → Bool} {n : Int} : anyB p n = true ↔ ∃ k : Int, 0 ≤ k ∧ k < n ∧ p k = true := by
  unfold anyB
  rw [decide_eq_true_iff]
  constructor
  · rintro ⟨k, h1, h2⟩
    exact ⟨k, by omega, by omega, h2⟩
  · rintro ⟨k, h0, h1, h2⟩
    exact ⟨k.toNat, by omega, by rw [Int.toNat_of_nonneg h0]; exact h2⟩
theorem allB_iff {p : Int → Bool} {n : Int} : allB p n = true ↔ ∀ k : Int, 0 ≤ k → k < n → p k = true := by
  unfold allB
  rw [decide_eq_true_iff]
  constructor
  · intro h k h0 h1
    have := h k.toNat (by omega)
    rw [Int.toNat_of_nonneg h0] at this
    exact this
  · intro h k hk
    exact h k (by omega) (by omega)
