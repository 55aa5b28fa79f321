/-! terms: how they are read; what holds of them then -/
def fnd (P : jP) (kd c : Int) : Int := ff (fun i => nk P kd i == c) (nN P kd)
def rm (kd : Int) : Int := if kd = 2 then 24 else 12
def addN (P : jP) (kd c : Int) : jP := if kd = 2 then j_up (j_up (j_up P 11 (24 * kd + nN P kd) c) 6 (nG P) (-1)) 0 kd (nN P kd + 1) else j_up (j_up P 11 (24 * kd + nN P kd) c) 0 kd (nN P kd + 1)
def knoV (P : jP) (kd c : Int) : Int := if fnd P kd c = -1 then nN P kd else fnd P kd c
def knoP (P : jP) (kd c : Int) : jP := if fnd P kd c = -1 then addN P kd c else P
def addC (P : jP) (w : Int) : jP := j_up (j_up (j_up P 4 (nC P) w) 5 (nC P) (nC P + 1)) 0 6 (nC P + 1)
def endP (P : jP) (a q : Int) : jP := if ar P (sy P a) = -1 then j_up (j_up P 5 a (nC P)) 6 (sy P a) q else j_up P 5 a (nC P)
def endO (P : jP) (a q : Int) : Bool := decide (ar P (sy P a) = -1 ∨ ar P (sy P a) = q)
def kdOf (hole : Bool) : Int := if hole = true then 3 else 2
def hOf (hole : Bool) : Int := if hole = true then 100 else 0
def hAt (n : Int) (t : Int → Int) (h : Int) : Int := if isM n t h 63 = true then sk n t (h + 1) else h
def aCell (n : Int) (t : Int → Int) (start h e : Int) (P : jP) : Except jF (Int × Int × Int × jP) :=
  match aName n t (hAt n t h) e with
  | .error f => .error f
  | .ok (c, h2, e2) => if 24 ≤ nC P - start ∨ 400 ≤ nC P ∨ (fnd P (kdOf (isM n t h 63)) c = -1 ∧ nN P (kdOf (isM n t h 63)) = rm (kdOf (isM n t h 63))) then .error (5, hAt n t h) else .ok (knoV P (kdOf (isM n t h 63)) c + hOf (isM n t h 63), h2, e2, addC (knoP P (kdOf (isM n t h 63)) c) (knoV P (kdOf (isM n t h 63)) c + hOf (isM n t h 63)))
def aClose (n : Int) (t c p : Int → Int) : Nat → (Int → Int) → Int → Int → jP → Except jF (Nat × (Int → Int) × Int × Int × jP)
  | 0, q, h, e, P => .ok (0, q, h, e, P)
  | m + 1, q, h, e, P => if q m < 3 ∧ isM n t h 44 = true then .ok (m + 1, hup q m (q m + 1), sk n t (h + 1), e, P) else
    match aMark n t h e 41 with
    | .error f => .error f
    | .ok (h', e') => if endO P (c m) (q m) = true then aClose n t c p m q h' e' (endP P (c m) (q m)) else .error (3, p m)
def aTerm (n : Int) (t : Int → Int) (start : Int) : Nat → Nat → (Int → Int) → (Int → Int) → (Int → Int) → Int → Int → jP → Except jF (Int × Int × jP)
  | 0, _, _, _, _, _, _, _ => .error (0, 0)
  | f + 1, m, c, p, q, h, e, P => match aCell n t start h e P with
    | .error g => .error g
    | .ok (w, h1, e1, P1) => if w < 100 ∧ isM n t h1 40 = true then (if 6 ≤ m then .error (4, h1) else aTerm n t start f (m + 1) (hup c m (nC P1 - 1)) (hup p m (hAt n t h)) (hup q m 1) (sk n t (h1 + 1)) e1 P1) else if w < 100 ∧ endO P1 (nC P1 - 1) 0 = false then .error (3, hAt n t h) else
      match aClose n t c p m q h1 e1 (if w < 100 then endP P1 (nC P1 - 1) 0 else P1) with
      | .error g => .error g
      | .ok (m', q', h2, e2, P2) => if m' = 0 then .ok (h2, e2, P2) else aTerm n t start f m' c p q' h2 e2 P2
def aT (n : Int) (t : Int → Int) (h e : Int) (P : jP) : Except jF (Int × Int × jP) := aTerm n t (nC P) 25 0 (fun _ => 0) (fun _ => 0) (fun _ => 0) h e P
def Mo (P : jP) : Prop := ∀ z, 0 ≤ z → z < nC P → z < bh P z ∧ bh P z ≤ nC P
theorem Tc_lt {P : jP} (hm : Mo P) : ∀ (k : Nat) (x y : Int), Tc P k x y → x + k ≤ y
  | 0, x, y, h => by have h : x = y := h; omega
  | k + 1, x, y, h => by
    have := Tc_lt hm k _ y h.2.2
    have := hm x h.1 h.2.1
    omega
theorem Tc_fr {P P' : jP} (hm : Mo P) (hn : nC P ≤ nC P') : ∀ (k : Nat) (x y : Int), (∀ z, x ≤ z → z < y → bh P' z = bh P z) → Tc P k x y → Tc P' k x y
  | 0, x, y, _, h => h
  | k + 1, x, y, hb, h => by
    have h1 := Tc_lt hm k _ y h.2.2
    have h2 := hm x h.1 h.2.1
    refine ⟨h.1, by have := h.2.1; omega, ?_⟩
    rw [hb x (by omega) (by omega)]
    exact Tc_fr hm hn k _ y (fun z a b => hb z (by omega) b) h.2.2
def Cmp (P : jP) (x : Int) : Prop := (sy P x < 100 → (0 ≤ sy P x ∧ sy P x < nG P) ∧ (0 ≤ ar P (sy P x) ∧ ar P (sy P x) ≤ 3) ∧ Tc P (ar P (sy P x)).toNat (x + 1) (bh P x)) ∧ (100 ≤ sy P x → sy P x < 100 + nH P ∧ bh P x = x + 1)
theorem Cmp.mono {P P' : jP} {x : Int} (h : Cmp P x) (hm : Mo P) (hC : nC P ≤ nC P') (hG : nG P ≤ nG P') (hH : nH P ≤ nH P') (hs : sy P' x = sy P x) (hb : ∀ z, x ≤ z → z < bh P x → bh P' z = bh P z) (hx : x < bh P x) (ha : 0 ≤ sy P x → sy P x < nG P → 0 ≤ ar P (sy P x) → ar P' (sy P x) = ar P (sy P x)) : Cmp P' x := by
  refine ⟨fun g => ?_, fun g => ?_⟩
  · rw [hs] at g ⊢
    obtain ⟨g1, g2, g3⟩ := h.1 g
    rw [ha g1.1 g1.2 g2.1, hb x (by omega) hx]
    exact ⟨by omega, g2, Tc_fr hm hC _ _ _ (fun z a b => hb z (by omega) b) g3⟩
  · rw [hs] at g ⊢
    have := h.2 g
    rw [hb x (by omega) hx]
    omega
/-- counts, names, parts -/
def WB (P : jP) : Prop := WFn P ∧ WFk P ∧ ∀ g, 0 ≤ g → g < nG P → -1 ≤ ar P g ∧ ar P g ≤ 3
def inK (m : Nat) (c : Int → Int) (x : Int) : Prop := ∃ i : Int, 0 ≤ i ∧ i < m ∧ x = c i
def nx (P : jP) (m : Nat) (c : Int → Int) (i : Int) : Int := if i + 1 < m then c (i + 1) else nC P
def dq (m : Nat) (d i : Int) : Int := if i + 1 < m then 0 else d
def Sk (P : jP) (start : Int) (m : Nat) (c q : Int → Int) (d : Int) : Prop := (0 ≤ start ∧ start ≤ nC P) ∧ Mo P ∧ (∀ x, 0 ≤ x → x < nC P → inK m c x ∨ Cmp P x) ∧ (∀ i : Int, 0 ≤ i → i < m → (start ≤ c i ∧ c i < nC P) ∧ (0 ≤ sy P (c i) ∧ sy P (c i) < nG P) ∧ (1 ≤ q i ∧ q i ≤ 3) ∧ Tc P (q i - 1 + dq m d i).toNat (c i + 1) (nx P m c i)) ∧ (∀ i : Int, 0 ≤ i → i + 1 < m → c i < c (i + 1)) ∧ (∀ x i : Int, 0 ≤ x → x < nC P → 0 ≤ i → i < m → ¬ inK m c x → x < c i → bh P x ≤ c i) ∧ (0 < m → c 0 = start) ∧ (m = 0 → d = 0 → nC P = start) ∧ (m = 0 → d = 1 → start < nC P ∧ bh P start = nC P)
/-- what a term leaves as it was -/
def GT (P P' : jP) : Prop := (∀ i k, i ≠ 0 → i ≠ 4 → i ≠ 5 → i ≠ 6 → i ≠ 11 → P' i k = P i k) ∧ (∀ k, k ≠ 2 → k ≠ 3 → k ≠ 6 → P' 0 k = P 0 k) ∧ (nG P ≤ nG P' ∧ nH P ≤ nH P' ∧ nC P ≤ nC P') ∧ (∀ x, x < nC P → sy P' x = sy P x ∧ bh P' x = bh P x) ∧ (∀ kd i, 0 ≤ kd → kd ≤ 3 → 0 ≤ i → i < nN P kd → nk P' kd i = nk P kd i) ∧ (∀ g, 0 ≤ g → g < nG P → 0 ≤ ar P g → ar P' g = ar P g)
theorem GT.rf {P : jP} : GT P P := ⟨fun _ _ _ _ _ _ _ => rfl, fun _ _ _ _ => rfl, by omega, fun _ _ => ⟨rfl, rfl⟩, fun _ _ _ _ _ _ => rfl, fun _ _ _ _ => rfl⟩
theorem nN_le {P P' : jP} (h : GT P P') {kd : Int} (h0 : 0 ≤ kd) (h1 : kd ≤ 3) : nN P kd ≤ nN P' kd := by
  have h2 := h.2.2.1
  have : kd = 0 ∨ kd = 1 ∨ kd = 2 ∨ kd = 3 := by omega
  rcases this with rfl | rfl | rfl | rfl
  · have := h.2.1 0 (by decide) (by decide) (by decide)
    show P 0 0 ≤ P' 0 0; omega
  · have := h.2.1 1 (by decide) (by decide) (by decide)
    show P 0 1 ≤ P' 0 1; omega
  · exact h2.1
  · exact h2.2.1
theorem GT.tr {P P1 P2 : jP} (h : GT P P1) (h2 : GT P1 P2) : GT P P2 := by
  have hN := @nN_le P P1 h
  obtain ⟨a1, a2, a3, a4, a5, a6⟩ := h
  obtain ⟨b1, b2, b3, b4, b5, b6⟩ := h2
  refine ⟨fun i k x1 x2 x3 x4 x5 => (b1 i k x1 x2 x3 x4 x5).trans (a1 i k x1 x2 x3 x4 x5), fun k x1 x2 x3 => (b2 k x1 x2 x3).trans (a2 k x1 x2 x3), by omega, fun x hx => ?_, fun kd i x1 x2 x3 x4 => ?_, fun g x1 x2 x3 => ?_⟩
  · have h1 := a4 x hx
    have h2 := b4 x (by omega)
    exact ⟨h2.1.trans h1.1, h2.2.trans h1.2⟩
  · exact (b5 kd i x1 x2 x3 (by have := hN x1 x2; omega)).trans (a5 kd i x1 x2 x3 x4)
  · have h1 := a6 g x1 x2 x3
    exact (b6 g x1 (by omega) (by omega)).trans h1
