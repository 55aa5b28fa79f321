/-! the order of telling: sets, the reference's table -/
def bt (x k : Int) : Bool := x.toNat.testBit k.toNat
theorem bt_bs (S : Int → Bool) {n k : Int} (h0 : 0 ≤ k) : bt (bs S n) k = (decide (k < n) && S k) := by
  unfold bt bs
  rw [Int.toNat_natCast, bsN_bit, show ((k.toNat : Nat) : Int) = k by omega]
  congr 1
  exact decide_eq_decide.mpr (by omega)
theorem bs_bt {x : Int} {n : Int} (h0 : 0 ≤ x) (h1 : x < 16384) (hn : 14 ≤ n) : bs (bt x) n = x := by
  unfold bs
  rw [← bsN_ext (x := x.toNat) (p := bt x) (n := n.toNat)]
  · omega
  · intro k
    unfold bt
    rw [Int.toNat_natCast]
    by_cases hk : k < n.toNat
    · rw [decide_eq_true hk, Bool.true_and]
    · rw [decide_eq_false hk, Bool.false_and]
      refine Nat.testBit_lt_two_pow (Nat.lt_of_lt_of_le (m := 2 ^ 14) (by omega) (Nat.pow_le_pow_right (by omega) (by omega)))
theorem bs_40 {S : Int → Bool} (h : ∀ k, S k = true → k < 14) : bs S 40 = bs S 14 := bs_more (by omega) (by omega) (fun k a _ => by
  rw [Bool.eq_false_iff]
  intro hh
  have := h k hh
  omega)
def ins (x k : Int) : Int := bs (fun j => bt x j || j == k) 14
theorem bs_14 (S : Int → Bool) : 0 ≤ bs S 14 ∧ bs S 14 < 16384 := by
  have := bs_lt S (n := 14) (m := 14) (by omega)
  have h2 := bs_nn S 14
  exact ⟨h2, by omega⟩
theorem ins_r (x k : Int) : 0 ≤ ins x k ∧ ins x k < 16384 := bs_14 _
theorem bt_ins {x k j : Int} (h0 : 0 ≤ j) (h1 : j < 14) : bt (ins x k) j = (bt x j || j == k) := by
  unfold ins
  rw [bt_bs _ h0, decide_eq_true h1, Bool.true_and]
theorem bt_hi {x j : Int} (h1 : x < 16384) (hj : 14 ≤ j) : bt x j = false := by
  unfold bt
  exact Nat.testBit_lt_two_pow (Nat.lt_of_lt_of_le (m := 2 ^ 14) (by omega) (Nat.pow_le_pow_right (by omega) (by omega)))
theorem bt_ext {x y : Int} (h0 : 0 ≤ x) (h1 : x < 16384) (h2 : 0 ≤ y) (h3 : y < 16384) (h : ∀ k, 0 ≤ k → k < 14 → bt x k = bt y k) : x = y := by
  rw [← bs_bt h0 h1 (Int.le_refl 14), ← bs_bt h2 h3 (Int.le_refl 14)]
  exact bs_congr h
theorem pw2 (k : Nat) : bs (fun j => j == (k : Int)) ((k : Int) + 1) = ((2 ^ k : Nat) : Int) := by
  have := bs_one (k := (k : Int)) (n := (k : Int) + 1) (by omega) (by omega)
  rw [Int.toNat_natCast] at this
  exact this.symm
theorem ins_lt {x k : Int} (h0 : 0 ≤ x) (h1 : x < 16384) (hk : 0 ≤ k) (hk2 : k < 14) (hb : bt x k = false) : x < ins x k := by
  have e := bsN_add (bt x) (fun j => j == k) (fun j hh => by
    have := beq_iff_eq.mp hh.2
    rw [this, hb] at hh
    exact absurd hh.1 (by decide)) 14
  have e1 : bsN (bt x) 14 = x.toNat := by
    have := bs_bt h0 h1 (Int.le_refl 14)
    unfold bs at this
    rw [show (14 : Int).toNat = 14 from rfl] at this
    omega
  have e2 : 0 < bsN (fun j => j == k) 14 := by
    have := bs_one hk hk2
    unfold bs at this
    rw [show (14 : Int).toNat = 14 from rfl] at this
    have hp : 0 < 2 ^ k.toNat := Nat.two_pow_pos _
    omega
  unfold ins bs
  rw [show (14 : Int).toNat = 14 from rfl, ← e]
  omega
theorem or_ins {x k : Int} (h0 : 0 ≤ x) (h1 : x < 16384) (hk : 0 ≤ k) (hk2 : k < 14) : ior32 x (ishl32 1 k) = ins x k := by
  have e := bs_or32 (p := bt x) (q := fun j => j == k) (n := 14) (by omega)
  rw [bs_bt h0 h1 (Int.le_refl 14), ← bs_bit32 hk hk2 (by omega)] at e
  exact e
theorem in_bt {x k : Int} (h0 : 0 ≤ x) (h1 : x < 16384) (hk : 0 ≤ k) (hk2 : k < 14) : iand32 (ishr32 x k) 1 = b2i (bt x k) := by
  have e := bs_in32 (p := bt x) (k := k) (n := 14) hk (by omega) (by omega)
  rw [bs_bt h0 h1 (Int.le_refl 14), decide_eq_true hk2, Bool.true_and] at e
  exact e
theorem andnot_bt {x : Int} {S : Int → Bool} (h0 : 0 ≤ x) (h1 : x < 16384) : iand32 (bs S 14) (ixor32 x (-1)) = bs (fun k => S k && !bt x k) 14 := by
  have e := bs_andnot32 (p := S) (q := bt x) (n := 14) (by omega)
  rw [bs_bt h0 h1 (Int.le_refl 14)] at e
  exact e
theorem andnot_bt64 {x : Int} {S : Int → Bool} (h0 : 0 ≤ x) (h1 : x < 16384) : iand64 (bs S 40) (ixor64 x (-1)) = bs (fun k => S k && !bt x k) 40 := by
  have e := bs_andnot (p := S) (q := bt x) (n := 40) (by omega)
  rw [bs_bt h0 h1 (show (14 : Int) ≤ 40 by omega)] at e
  exact e
/-- may k be told behind x; held behind it -/
def av (P : jP) (x k : Int) : Bool := !bt x k && allB (fun i => bt x (le P k i)) (rp P k)
def hb (P : jP) (g : Int → Int) (x k : Int) : Int := if av P x k = true then (if hc P (bt (ins x k)) ≤ g (ins x k) then g (ins x k) else hc P (bt (ins x k))) else 100
def mkN (f : Int → Int) : Nat → Int
  | 0 => 100
  | n + 1 => if f n < mkN f n then f n else mkN f n
def mk (f : Int → Int) (n : Int) : Int := mkN f n.toNat
theorem mk_s {f : Int → Int} {n : Int} (h : 0 ≤ n) : mk f (n + 1) = if f n < mk f n then f n else mk f n := by
  unfold mk
  rw [show (n + 1).toNat = n.toNat + 1 by omega]
  show (if f ((n.toNat : Nat) : Int) < mkN f n.toNat then f ((n.toNat : Nat) : Int) else mkN f n.toNat) = _
  rw [show ((n.toNat : Nat) : Int) = n by omega]
theorem mk_le {f : Int → Int} {n : Int} (hn : 0 ≤ n) : mk f n ≤ 100 ∧ ∀ j, 0 ≤ j → j < n → mk f n ≤ f j := by
  have key : ∀ m : Nat, mk f m ≤ 100 ∧ ∀ j, 0 ≤ j → j < (m : Int) → mk f m ≤ f j := by
    intro m
    induction m with
    | zero => exact ⟨Int.le_refl 100, fun j a b => by omega⟩
    | succ m ih =>
      rw [show ((m + 1 : Nat) : Int) = (m : Int) + 1 by omega, mk_s (by omega)]
      refine ⟨?_, fun j a b => ?_⟩
      · split <;> omega
      · by_cases hj : j = m
        · subst hj
          split <;> omega
        · have := ih.2 j a (by omega)
          split <;> omega
  have := key n.toNat
  rw [show ((n.toNat : Nat) : Int) = n by omega] at this
  exact this
theorem mk_at {f : Int → Int} {n : Int} (hn : 0 ≤ n) : mk f n = 100 ∨ ∃ j, 0 ≤ j ∧ j < n ∧ mk f n = f j := by
  have key : ∀ m : Nat, mk f m = 100 ∨ ∃ j, 0 ≤ j ∧ j < (m : Int) ∧ mk f m = f j := by
    intro m
    induction m with
    | zero => exact Or.inl rfl
    | succ m ih =>
      rw [show ((m + 1 : Nat) : Int) = (m : Int) + 1 by omega, mk_s (by omega)]
      split
      · exact Or.inr ⟨m, by omega, by omega, rfl⟩
      · rcases ih with h | ⟨j, a, b, c⟩
        · exact Or.inl h
        · exact Or.inr ⟨j, a, by omega, c⟩
  have := key n.toNat
  rw [show ((n.toNat : Nat) : Int) = n by omega] at this
  exact this
theorem mk_congr {f g : Int → Int} {n : Int} (hn : 0 ≤ n) (h : ∀ j, 0 ≤ j → j < n → f j = g j) : mk f n = mk g n := by
  have key : ∀ m : Nat, (m : Int) ≤ n → mk f m = mk g m := by
    intro m
    induction m with
    | zero => intro _; rfl
    | succ m ih =>
      intro hm
      rw [show ((m + 1 : Nat) : Int) = (m : Int) + 1 by omega, mk_s (by omega), mk_s (by omega), ih (by omega), h m (by omega) (by omega)]
  have := key n.toNat (by omega)
  rw [show ((n.toNat : Nat) : Int) = n by omega] at this
  exact this
/-- all told; the least that is ever held from a set on -/
def fl (P : jP) : Int := bs (fun j => decide (j < rn P)) 14
def hfT (P : jP) : Int → Int := tb (fun g y => if y = 0 then 0 else mk (hb P (fun z => g (fl P - z)) (fl P - y)) (rn P)) 0
def hF (P : jP) (x : Int) : Int := hfT P (fl P - x)
theorem fl_r (P : jP) : 0 ≤ fl P ∧ fl P < 16384 := bs_14 _
theorem bt_fl {P : jP} {j : Int} (h0 : 0 ≤ j) (h14 : rn P ≤ 14) : bt (fl P) j = decide (j < rn P) := by
  unfold fl
  rw [bt_bs _ h0]
  by_cases h : j < rn P
  · rw [decide_eq_true h, decide_eq_true (show j < 14 by omega)]; rfl
  · rw [decide_eq_false h, Bool.and_false]
/-- a set of what is in the rest -/
def inR (P : jP) (x : Int) : Prop := (0 ≤ x ∧ x < 16384) ∧ ∀ j, 0 ≤ j → bt x j = true → j < rn P
theorem inR_le {P : jP} {x : Int} (h14 : rn P ≤ 14) (h : inR P x) : x ≤ fl P := by
  have e := bsN_add (bt x) (fun j => decide (j < rn P) && !bt x j) (fun j hh => by
    rw [Bool.and_eq_true] at hh
    rw [hh.1] at hh
    exact absurd hh.2.2 (by decide)) 14
  have e1 : bsN (bt x) 14 = x.toNat := by
    have := bs_bt h.1.1 h.1.2 (Int.le_refl 14)
    unfold bs at this
    rw [show (14 : Int).toNat = 14 from rfl] at this
    have := h.1.1
    omega
  have e2 : bsN (fun k => bt x k || (decide (k < rn P) && !bt x k)) 14 = (fl P).toNat := by
    unfold fl bs
    rw [Int.toNat_natCast, show (14 : Int).toNat = 14 from rfl]
    refine bsN_ext (fun k => ?_)
    rw [bsN_bit]
    congr 1
    cases hb : bt x k with
    | true =>
      have := h.2 k (by omega) hb
      rw [decide_eq_true this]; rfl
    | false => simp
  have := h.1.1
  have := (fl_r P).1
  omega
theorem inR_ins {P : jP} {x k : Int} (h : inR P x) (hk : k < rn P) : inR P (ins x k) := by
  refine ⟨ins_r x k, fun j j0 j1 => ?_⟩
  unfold ins at j1
  rw [bt_bs _ j0, Bool.and_eq_true, Bool.or_eq_true] at j1
  rcases j1.2 with q | q
  · exact h.2 j j0 q
  · have := beq_iff_eq.mp q
    omega
theorem inR_fl {P : jP} (h14 : rn P ≤ 14) : inR P (fl P) := ⟨fl_r P, fun j j0 j1 => by
  rw [bt_fl j0 h14] at j1
  exact of_decide_eq_true j1⟩
theorem av_b {P : jP} {x k : Int} (h : av P x k = true) : bt x k = false := by
  unfold av at h
  rw [Bool.and_eq_true] at h
  cases hb : bt x k
  · rfl
  · rw [hb] at h; exact absurd h.1 (by decide)
theorem hb_na {P : jP} {g : Int → Int} {x k : Int} (h : ¬ av P x k = true) : hb P g x k = 100 := by
  unfold hb
  rw [if_neg h]
theorem hb_congr {P : jP} {g g' : Int → Int} {x k : Int} (h : av P x k = true → g (ins x k) = g' (ins x k)) : hb P g x k = hb P g' x k := by
  unfold hb
  split
  · rename_i hh
    rw [h hh]
  · rfl
theorem hF_eq {P : jP} (h14 : rn P ≤ 14) (hn : 0 ≤ rn P) {x : Int} (hx : inR P x) : hF P x = if x = fl P then 0 else mk (hb P (hF P) x) (rn P) := by
  have hle := inR_le h14 hx
  unfold hF hfT
  rw [tb_eq (by omega) (fun g g' hg => ?_)]
  · by_cases h : x = fl P
    · rw [if_pos (by omega), if_pos h]
    · rw [if_neg (by omega), if_neg h, show fl P - (fl P - x) = x by omega]
  · by_cases h : fl P - x = 0
    · rw [if_pos h, if_pos h]
    · rw [if_neg h, if_neg h, show fl P - (fl P - x) = x by omega]
      refine mk_congr hn (fun k k0 k1 => hb_congr (fun ha => ?_))
      have hl := ins_lt hx.1.1 hx.1.2 k0 (by omega) (av_b ha)
      have := inR_le h14 (inR_ins hx k1)
      exact hg _ (by omega) (by omega)
theorem hc_r {P : jP} (hn : 0 ≤ rn P) (S : Int → Bool) : 0 ≤ hc P S ∧ hc P S ≤ rn P := cnt_le (hd P S) hn
theorem hF_r {P : jP} (h14 : rn P ≤ 14) (hn : 0 ≤ rn P) : ∀ (m : Nat) (x : Int), fl P - x ≤ m → inR P x → 0 ≤ hF P x ∧ hF P x ≤ 100
  | m, x, hm, hx => by
    rw [hF_eq h14 hn hx]
    by_cases h : x = fl P
    · rw [if_pos h]; omega
    · rw [if_neg h]
      refine ⟨?_, (mk_le hn).1⟩
      rcases mk_at (f := hb P (hF P) x) hn with hh | ⟨j, j0, j1, j2⟩
      · omega
      · rw [j2]
        unfold hb
        split
        · rename_i ha
          have hl := ins_lt hx.1.1 hx.1.2 j0 (by omega) (av_b ha)
          have h2 := inR_le h14 (inR_ins hx j1)
          match m with
          | 0 => have := inR_le h14 hx; omega
          | m + 1 =>
            have ih := hF_r h14 hn m (ins x j) (by omega) (inR_ins hx j1)
            split
            · exact ih.1
            · exact (hc_r hn _).1
        · omega
theorem hc_fl {P : jP} (h14 : rn P ≤ 14) (hn : 0 < rn P) : 1 ≤ hc P (bt (fl P)) := by
  have e : hd P (bt (fl P)) (rn P - 1) = true := by
    unfold hd
    rw [bt_fl (by omega) h14, decide_eq_true (by omega), beq_self_eq_true]
    rfl
  have h1 := cnt_lt (p := hd P (bt (fl P))) (m := rn P - 1) (n := rn P) (by omega) (by omega) e
  have h2 := cnt_le (hd P (bt (fl P))) (k := rn P - 1) (by omega)
  unfold hc
  omega
theorem hF_pos {P : jP} (h14 : rn P ≤ 14) (hn : 0 < rn P) : ∀ (m : Nat) (x : Int), fl P - x ≤ m → inR P x → x ≠ fl P → 1 ≤ hF P x
  | m, x, hm, hx, hne => by
    rw [hF_eq h14 (by omega) hx, if_neg hne]
    rcases mk_at (f := hb P (hF P) x) (show 0 ≤ rn P by omega) with hh | ⟨j, j0, j1, j2⟩
    · omega
    · rw [j2]
      unfold hb
      split
      · rename_i ha
        have hl := ins_lt hx.1.1 hx.1.2 j0 (by omega) (av_b ha)
        have h2 := inR_le h14 (inR_ins hx j1)
        by_cases hi : ins x j = fl P
        · have h3 := hc_fl h14 hn
          rw [hi]
          split <;> omega
        · match m with
          | 0 => have := inR_le h14 hx; omega
          | m + 1 =>
            have ih := hF_pos h14 hn m (ins x j) (by omega) (inR_ins hx j1) hi
            split <;> omega
      · omega
/-- told in the order of the numbers -/
theorem hF_nat {P : jP} (h : WF P) (h14 : rn P ≤ 14) : ∀ (d : Nat) (m : Int), rn P - m = d → 0 ≤ m → hF P (bs (fun j => decide (j < m)) 14) ≤ rn P
  | 0, m, hd, h0 => by
    have hr := rn_r h
    have e : bs (fun j => decide (j < m)) 14 = fl P := by
      unfold fl
      rw [show m = rn P by omega]
    rw [e, hF_eq h14 (by omega) (inR_fl h14), if_pos rfl]
    omega
  | d + 1, m, hd, h0 => by
    have hr := rn_r h
    have hx : inR P (bs (fun j => decide (j < m)) 14) := ⟨bs_14 _, fun j j0 j1 => by
      rw [bt_bs _ j0, Bool.and_eq_true, decide_eq_true_iff, decide_eq_true_iff] at j1
      omega⟩
    have hbit : ∀ j, 0 ≤ j → j < 14 → bt (bs (fun j => decide (j < m)) 14) j = decide (j < m) := fun j a b => by rw [bt_bs _ a, decide_eq_true b, Bool.true_and]
    have hne : bs (fun j => decide (j < m)) 14 ≠ fl P := by
      intro hh
      have h1 := hbit m h0 (by omega)
      rw [hh, bt_fl h0 h14, decide_eq_true (by omega), decide_eq_false (by omega)] at h1
      cases h1
    have hins : ins (bs (fun j => decide (j < m)) 14) m = bs (fun j => decide (j < m + 1)) 14 := by
      unfold ins
      refine bs_congr (fun j a b => ?_)
      rw [hbit j a b, Bool.eq_iff_iff, Bool.or_eq_true, decide_eq_true_iff, decide_eq_true_iff, beq_iff_eq]
      omega
    have hav : av P (bs (fun j => decide (j < m)) 14) m = true := by
      unfold av
      rw [hbit m h0 (by omega), decide_eq_false (by omega), Bool.not_false, Bool.true_and, allB_iff]
      intro i i0 i1
      have := le_r h h0 (show m < rn P by omega) i0 i1
      rw [hbit _ this.1 (by omega), decide_eq_true this.2]
    have ih := hF_nat h h14 d (m + 1) (by omega) (by omega)
    rw [hF_eq h14 (by omega) hx, if_neg hne]
    have hle := (mk_le (f := hb P (hF P) (bs (fun j => decide (j < m)) 14)) hr.1).2 m h0 (by omega)
    have hc2 := hc_r hr.1 (bt (bs (fun j => decide (j < m + 1)) 14))
    have : hb P (hF P) (bs (fun j => decide (j < m)) 14) m ≤ rn P := by
      unfold hb
      rw [if_pos hav, hins]
      split <;> omega
    omega
theorem hF_0 {P : jP} (h : WF P) (h14 : rn P ≤ 14) (hn : 0 < rn P) : 1 ≤ hF P 0 ∧ hF P 0 ≤ rn P := by
  have hz : inR P 0 := ⟨by omega, fun j _ j1 => by unfold bt at j1; simp at j1⟩
  refine ⟨hF_pos h14 hn (fl P).toNat 0 (by have := (fl_r P).1; omega) hz ?_, ?_⟩
  · intro hh
    have := bt_fl (P := P) (j := 0) (by omega) h14
    rw [← hh, decide_eq_true hn] at this
    unfold bt at this
    simp at this
  · have := hF_nat h h14 (rn P).toNat 0 (by omega) (by omega)
    rw [show bs (fun j => decide (j < 0)) 14 = 0 from bs_0 (fun j a _ => decide_eq_false (by omega))] at this
    exact this
/-- the first order in which at most m is held -/
def gsN (P : jP) (m : Int) : Nat → Int
  | 0 => 0
  | n + 1 => ins (gsN P m n) (ff (fun k => decide (hb P (hF P) (gsN P m n) k ≤ m)) (rn P))
def gn (P : jP) (m : Int) (i : Nat) : Int := ff (fun k => decide (hb P (hF P) (gsN P m i) k ≤ m)) (rn P)
theorem inR_0 (P : jP) : inR P 0 := ⟨by omega, fun j _ j1 => by unfold bt at j1; simp at j1⟩
theorem cnt_ins {P : jP} {x k : Int} (h14 : rn P ≤ 14) (h0 : 0 ≤ k) (h1 : k < rn P) (hb : bt x k = false) : cnt (bt (ins x k)) (rn P) = cnt (bt x) (rn P) + 1 := by
  have key : ∀ m : Nat, (m : Int) ≤ rn P → cnt (bt (ins x k)) m = cnt (bt x) m + (if k < (m : Int) then 1 else 0) := by
    intro m
    induction m with
    | zero => intro _; rw [if_neg (by omega)]; rfl
    | succ m ih =>
      intro hm
      rw [show ((m + 1 : Nat) : Int) = (m : Int) + 1 by omega, cnt_s _ (by omega), cnt_s _ (by omega), ih (by omega), bt_ins (by omega) (by omega)]
      by_cases hk : (m : Int) = k
      · rw [hk, beq_self_eq_true, hb, if_neg (by omega), if_pos (by omega)]
        rfl
      · rw [beq_eq_false_iff_ne.mpr hk, Bool.or_false]
        by_cases hk2 : k < (m : Int)
        · rw [if_pos hk2, if_pos (by omega)]; omega
        · rw [if_neg hk2, if_neg (by omega)]; omega
  have := key (rn P).toNat (by omega)
  rw [show (((rn P).toNat : Nat) : Int) = rn P by omega, if_pos h1] at this
  exact this
theorem gs_c {P : jP} (h14 : rn P ≤ 14) (hn : 0 < rn P) {m : Int} (hm : hF P 0 ≤ m) (hm2 : m < 100) : ∀ i : Nat, (i : Int) ≤ rn P → inR P (gsN P m i) ∧ cnt (bt (gsN P m i)) (rn P) = i ∧ hF P (gsN P m i) ≤ m ∧ ((i : Int) < rn P → (0 ≤ gn P m i ∧ gn P m i < rn P) ∧ hb P (hF P) (gsN P m i) (gn P m i) ≤ m ∧ av P (gsN P m i) (gn P m i) = true ∧ ∀ k, 0 ≤ k → k < gn P m i → ¬ hb P (hF P) (gsN P m i) k ≤ m)
  | i, hi => by
    have h1 : inR P (gsN P m i) ∧ cnt (bt (gsN P m i)) (rn P) = i ∧ hF P (gsN P m i) ≤ m := by
      match i with
      | 0 => exact ⟨inR_0 P, cnt_z (fun j _ _ => by show bt 0 j = false; unfold bt; simp), hm⟩
      | i + 1 =>
        obtain ⟨q1, q2, q3, q4⟩ := gs_c h14 hn hm hm2 i (by omega)
        obtain ⟨z1, z2, z3, z4⟩ := q4 (by omega)
        refine ⟨inR_ins q1 z1.2, ?_, ?_⟩
        · show cnt (bt (ins (gsN P m i) (gn P m i))) (rn P) = _
          rw [cnt_ins h14 z1.1 z1.2 (av_b z3), q2]
          omega
        · show hF P (ins (gsN P m i) (gn P m i)) ≤ m
          unfold hb at z2
          rw [if_pos z3] at z2
          split at z2 <;> omega
    refine ⟨h1.1, h1.2.1, h1.2.2, fun hlt => ?_⟩
    have hne : gsN P m i ≠ fl P := by
      intro hh
      have h2 := h1.2.1
      rw [hh] at h2
      have : cnt (bt (fl P)) (rn P) = rn P := by
        have e : cnt (bt (fl P)) (rn P) = cnt (fun _ => true) (rn P) := cnt_congr (fun j a b => by rw [bt_fl a h14, decide_eq_true b])
        rw [e]
        have key : ∀ n : Nat, cntN (fun _ => true) n = n := by
          intro n
          induction n with
          | zero => rfl
          | succ n ih => show cntN (fun _ => true) n + b2i true = _; rw [ih]; rfl
        have := key (rn P).toNat
        unfold cnt
        omega
      omega
    have h3 := h1.2.2
    rw [hF_eq h14 (by omega) h1.1, if_neg hne] at h3
    rcases ff_cases (fun k => decide (hb P (hF P) (gsN P m i) k ≤ m)) (rn P) with ⟨g1, g2⟩ | ⟨g1, g2, g3, g4⟩
    · rcases mk_at (f := hb P (hF P) (gsN P m i)) (show 0 ≤ rn P by omega) with hh | ⟨j, j0, j1, j2⟩
      · omega
      · have := g2 j j0 j1
        rw [decide_eq_true (by omega)] at this
        cases this
    · have g3' := of_decide_eq_true g3
      refine ⟨⟨g1, g2⟩, g3', ?_, fun k a b => of_decide_eq_false (g4 k a b)⟩
      refine Classical.byContradiction (fun hno => ?_)
      have h100 := hb_na (g := hF P) hno
      have g3'' : hb P (hF P) (gsN P m i) (gn P m i) ≤ m := g3'
      omega
def vOrder (P : jP) (a : Int) : Int := if rn P = 0 ∨ 14 < rn P ∨ a < -1 ∨ rn P ≤ a then -1 else if a = -1 then hF P 0 else gn P (hF P 0) a.toNat
