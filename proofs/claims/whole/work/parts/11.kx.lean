/-! lemmas for the VC theorems -/
theorem w32_id {x : Int} (h : -2147483648 ≤ x ∧ x < 2147483648) : w32 x = x := Int.bmod_eq_of_le (by omega) (by omega)
theorem w64_id {x : Int} (h : -9223372036854775808 ≤ x ∧ x < 9223372036854775808) : w64 x = x := Int.bmod_eq_of_le (by omega) (by omega)
theorem w32_ok {x z : Int} (h : -2147483648 ≤ x + z ∧ x + z < 2147483648) : w32 (x + (Int32.ofInt z).toInt) = x + z := by
  rw [Int32.toInt_ofInt]
  unfold w32
  rw [show (Int32.size : Nat) = 4294967296 from rfl, Int.add_bmod_bmod]
  exact w32_id h
theorem w32_okn {x z : Int} (h : -2147483648 ≤ x - z ∧ x - z < 2147483648) : w32 (x + (Int32.ofInt (-z)).toInt) = x - z := w32_ok h
def j_msk : List Bool → List (Option AV) → List (Option AV)
  | [], L => L
  | _, [] => []
  | true :: m, v :: L => v :: j_msk m L
  | false :: m, _ :: L => none :: j_msk m L
theorem j_msk_len : ∀ (m : List Bool) (L : List (Option AV)), (j_msk m L).length = L.length
  | [], L => by simp [j_msk]
  | _ :: _, [] => by simp [j_msk]
  | true :: m, v :: L => by simp [j_msk, j_msk_len m L]
  | false :: m, v :: L => by simp [j_msk, j_msk_len m L]
theorem j_msk_get : ∀ (m : List Bool) (L : List (Option AV)) (i : Nat) (v : AV), (j_msk m L)[i]? = some (some v) → L[i]? = some (some v)
  | [], L, i, v, h => by simpa [j_msk] using h
  | _ :: _, [], i, v, h => by simp [j_msk] at h
  | true :: m, u :: L, 0, v, h => by simpa [j_msk] using h
  | true :: m, u :: L, i + 1, v, h => by
    have h : (j_msk m L)[i]? = some (some v) := by simpa [j_msk] using h
    simpa using j_msk_get m L i v h
  | false :: m, u :: L, 0, v, h => by simp [j_msk] at h
  | false :: m, u :: L, i + 1, v, h => by
    have h : (j_msk m L)[i]? = some (some v) := by simpa [j_msk] using h
    simpa using j_msk_get m L i v h
section KX
variable {n0 : Nat} {E : jE} {y : jMt} {pc : Nat} {L : List (Option AV)} {st : List AV} {μ : jMu} {Q : Option AV → jMu → Prop}
theorem K_forget (m : List Bool) (k : K n0 E y pc (j_msk m L) st μ Q) : K n0 E y pc L st μ Q := by
  intro p l e s m9 args below meth c C H locs ls ws hl hs hr hq hL
  exact k p l e s m9 args below meth c C H locs ls ws ⟨by rw [j_msk_len]; exact hl.1, hl.2.1, fun i v h => hl.2.2 i v (j_msk_get m L i v h)⟩ hs hr hq (by rw [j_msk_len]; exact hL)
theorem K_mmax {idx : Nat} {a b : Int} (hd : decode y.2.1 pc = .ok (.invokestatic idx, 3)) (hk : Cond.methodLink y.1.cls idx Lib.Math.max.name ∈ lw_tbg) (hf : 1 ≤ y.2.2.2.2.1) (hlo : j_cats st + 13 ≤ y.2.2.2.2.2) (k : K n0 E y (pc + 3) L (jvI (if a < b then b else a) :: st) μ Q) : K n0 E y pc L (jvI b :: jvI a :: st) μ Q := by
  intro p l e s m args below meth c C H locs ls ws hl hs hr hq hL
  obtain ⟨w1, ws1, rfl, ⟨zb, hzb, rfl⟩, w2, ws2, rfl, ⟨za, hza, rfl⟩, hs⟩ := hs
  refine va_mmax C.1 C.2.1 (by rw [hl.1, hL, C.2.2.2.1]) C.2.2.2.2.1 (C.2.2.2.2.2.1 _ hk) (C.2.2.2.2.2.1 _ pk_max.1) (C.2.2.2.2.2.1 _ pk_max.2.1) (C.2.2.2.2.2.1 _ pk_max.2.2) hf (by rw [j_cats_eq _ _ hs]; exact hlo) (Nat.le_refl _) (Nat.le_refl _) hd ?_
  refine k p l e s m args below meth c C H _ ls _ hl ⟨_, _, rfl, ⟨_, ?_, rfl⟩, hs⟩ hr hq hL
  have hi := j_lt hza hzb
  by_cases h : a < b
  · rw [if_pos h, if_pos (hi.mpr h)]; exact hzb
  · rw [if_neg h, if_neg (fun q => h (hi.mp q))]; exact hza
theorem K_mmin {idx : Nat} {a b : Int} (hd : decode y.2.1 pc = .ok (.invokestatic idx, 3)) (hk : Cond.methodLink y.1.cls idx Lib.Math.min.name ∈ lw_tbg) (hf : 1 ≤ y.2.2.2.2.1) (hlo : j_cats st + 13 ≤ y.2.2.2.2.2) (k : K n0 E y (pc + 3) L (jvI (if b < a then b else a) :: st) μ Q) : K n0 E y pc L (jvI b :: jvI a :: st) μ Q := by
  intro p l e s m args below meth c C H locs ls ws hl hs hr hq hL
  obtain ⟨w1, ws1, rfl, ⟨zb, hzb, rfl⟩, w2, ws2, rfl, ⟨za, hza, rfl⟩, hs⟩ := hs
  refine va_mmin C.1 C.2.1 (by rw [hl.1, hL, C.2.2.2.1]) C.2.2.2.2.1 (C.2.2.2.2.2.1 _ hk) (C.2.2.2.2.2.1 _ pk_min.1) (C.2.2.2.2.2.1 _ pk_min.2.1) (C.2.2.2.2.2.1 _ pk_min.2.2) hf (by rw [j_cats_eq _ _ hs]; exact hlo) (Nat.le_refl _) (Nat.le_refl _) hd ?_
  refine k p l e s m args below meth c C H _ ls _ hl ⟨_, _, rfl, ⟨_, ?_, rfl⟩, hs⟩ hr hq hL
  have hi := j_lt hzb hza
  by_cases h : b < a
  · rw [if_pos h, if_pos (hi.mpr h)]; exact hzb
  · rw [if_neg h, if_neg (fun q => h (hi.mp q))]; exact hza
theorem K_mabs {idx : Nat} {a : Int} (hd : decode y.2.1 pc = .ok (.invokestatic idx, 3)) (hk : Cond.methodLink y.1.cls idx Lib.Math.abs.name ∈ lw_tbg) (hf : 1 ≤ y.2.2.2.2.1) (hlo : j_cats st + 13 ≤ y.2.2.2.2.2) (ha : -2147483648 < a) (k : K n0 E y (pc + 3) L (jvI (if 0 ≤ a then a else -a) :: st) μ Q) : K n0 E y pc L (jvI a :: st) μ Q := by
  intro p l e s m args below meth c C H locs ls ws hl hs hr hq hL
  obtain ⟨w2, ws2, rfl, ⟨za, hza, rfl⟩, hs⟩ := hs
  refine va_mabs C.1 C.2.1 (by rw [hl.1, hL, C.2.2.2.1]) C.2.2.2.2.1 (C.2.2.2.2.2.1 _ hk) (C.2.2.2.2.2.1 _ pk_abs.1) (C.2.2.2.2.2.1 _ pk_abs.2.1) (C.2.2.2.2.2.1 _ pk_abs.2.2) hf (by rw [j_cats_eq _ _ hs]; exact hlo) (Nat.le_refl _) (Nat.le_refl _) hd ?_
  refine k p l e s m args below meth c C H _ ls _ hl ⟨_, _, rfl, ⟨_, ?_, rfl⟩, hs⟩ hr hq hL
  have hi := j_le (z := 0) rfl hza
  have hb := za.toInt_lt
  rw [hza] at hb
  by_cases h : 0 ≤ a
  · rw [if_pos h, if_pos (hi.mpr h)]; exact hza
  · rw [if_neg h, if_neg (fun q => h (hi.mp q)), Int32.toInt_sub, hza]
    have : (0 : Int32).toInt = 0 := rfl
    rw [this]
    rw [show (0 : Int) - a = -a by omega]
    exact w32_id (by omega)
end KX
def isB (b : Nat) : Prop := b = 7 ∨ b = 26
theorem isB_n {b : Nat} (o : Nat) (h : o ≤ 18) (hb : isB b) : b + o < 121 := by
  rcases hb with rfl | rfl <;> omega
theorem isB_c0 {b : Nat} (hb : isB b) : jCt[b]? = some (.inr 2) := by rcases hb with rfl | rfl <;> rfl
theorem isB_c1 {b : Nat} (hb : isB b) : jCt[b + 1]? = some (.inr 9) := by rcases hb with rfl | rfl <;> rfl
theorem isB_c2 {b : Nat} (hb : isB b) : jCt[b + 2]? = some (.inl (.int, 24)) := by rcases hb with rfl | rfl <;> rfl
theorem isB_c3 {b : Nat} (hb : isB b) : jCt[b + 3]? = some (.inl (.int, 24)) := by rcases hb with rfl | rfl <;> rfl
theorem isB_c4 {b : Nat} (hb : isB b) : jCt[b + 4]? = some (.inl (.int, 12)) := by rcases hb with rfl | rfl <;> rfl
theorem isB_c5 {b : Nat} (hb : isB b) : jCt[b + 5]? = some (.inl (.int, 400)) := by rcases hb with rfl | rfl <;> rfl
theorem isB_c6 {b : Nat} (hb : isB b) : jCt[b + 6]? = some (.inl (.int, 400)) := by rcases hb with rfl | rfl <;> rfl
theorem isB_c7 {b : Nat} (hb : isB b) : jCt[b + 7]? = some (.inl (.int, 12)) := by rcases hb with rfl | rfl <;> rfl
theorem isB_c8 {b : Nat} (hb : isB b) : jCt[b + 8]? = some (.inl (.int, 12)) := by rcases hb with rfl | rfl <;> rfl
theorem isB_c9 {b : Nat} (hb : isB b) : jCt[b + 9]? = some (.inl (.int, 12)) := by rcases hb with rfl | rfl <;> rfl
theorem isB_c10 {b : Nat} (hb : isB b) : jCt[b + 10]? = some (.inl (.int, 36)) := by rcases hb with rfl | rfl <;> rfl
theorem isB_c11 {b : Nat} (hb : isB b) : jCt[b + 11]? = some (.inl (.int, 12)) := by rcases hb with rfl | rfl <;> rfl
theorem isB_c12 {b : Nat} (hb : isB b) : jCt[b + 12]? = some (.inl (.int, 40)) := by rcases hb with rfl | rfl <;> rfl
theorem isB_c13 {b : Nat} (hb : isB b) : jCt[b + 13]? = some (.inl (.int, 40)) := by rcases hb with rfl | rfl <;> rfl
theorem isB_c14 {b : Nat} (hb : isB b) : jCt[b + 14]? = some (.inl (.int, 120)) := by rcases hb with rfl | rfl <;> rfl
theorem isB_c15 {b : Nat} (hb : isB b) : jCt[b + 15]? = some (.inl (.int, 6)) := by rcases hb with rfl | rfl <;> rfl
theorem isB_c16 {b : Nat} (hb : isB b) : jCt[b + 16]? = some (.inl (.int, 6)) := by rcases hb with rfl | rfl <;> rfl
theorem isB_c17 {b : Nat} (hb : isB b) : jCt[b + 17]? = some (.inl (.int, 6)) := by rcases hb with rfl | rfl <;> rfl
theorem isB_c18 {b : Nat} (hb : isB b) : jCt[b + 18]? = some (.inl (.int, 6)) := by rcases hb with rfl | rfl <;> rfl
theorem isB_f0_0 {b : Nat} {μ : jMu} (hb : isB b) : j_av (jty 2 0) (fx μ b 0) = jvR ((b + 1 : Nat) : Int) := by rcases hb with rfl | rfl <;> rfl
theorem isB_f0_1 {b : Nat} {μ : jMu} (hb : isB b) : j_av (jty 2 1) (fx μ b 1) = jvR ((b + 8 : Nat) : Int) := by rcases hb with rfl | rfl <;> rfl
theorem isB_f0_2 {b : Nat} {μ : jMu} (hb : isB b) : j_av (jty 2 2) (fx μ b 2) = jvR ((b + 9 : Nat) : Int) := by rcases hb with rfl | rfl <;> rfl
theorem isB_f0_3 {b : Nat} {μ : jMu} (hb : isB b) : j_av (jty 2 3) (fx μ b 3) = jvR ((b + 10 : Nat) : Int) := by rcases hb with rfl | rfl <;> rfl
theorem isB_f0_4 {b : Nat} {μ : jMu} (hb : isB b) : j_av (jty 2 4) (fx μ b 4) = jvR ((b + 11 : Nat) : Int) := by rcases hb with rfl | rfl <;> rfl
theorem isB_f0_5 {b : Nat} {μ : jMu} (hb : isB b) : j_av (jty 2 5) (fx μ b 5) = jvR ((b + 12 : Nat) : Int) := by rcases hb with rfl | rfl <;> rfl
theorem isB_f0_6 {b : Nat} {μ : jMu} (hb : isB b) : j_av (jty 2 6) (fx μ b 6) = jvR ((b + 13 : Nat) : Int) := by rcases hb with rfl | rfl <;> rfl
theorem isB_f0_7 {b : Nat} {μ : jMu} (hb : isB b) : j_av (jty 2 7) (fx μ b 7) = jvR ((b + 14 : Nat) : Int) := by rcases hb with rfl | rfl <;> rfl
theorem isB_f0_8 {b : Nat} {μ : jMu} (hb : isB b) : j_av (jty 2 8) (fx μ b 8) = jvR ((b + 15 : Nat) : Int) := by rcases hb with rfl | rfl <;> rfl
theorem isB_f0_9 {b : Nat} {μ : jMu} (hb : isB b) : j_av (jty 2 9) (fx μ b 9) = jvR ((b + 16 : Nat) : Int) := by rcases hb with rfl | rfl <;> rfl
theorem isB_f0_10 {b : Nat} {μ : jMu} (hb : isB b) : j_av (jty 2 10) (fx μ b 10) = jvR ((b + 17 : Nat) : Int) := by rcases hb with rfl | rfl <;> rfl
theorem isB_f0_11 {b : Nat} {μ : jMu} (hb : isB b) : j_av (jty 2 11) (fx μ b 11) = jvR ((b + 18 : Nat) : Int) := by rcases hb with rfl | rfl <;> rfl
theorem isB_x0_12 {b : Nat} (hb : isB b) : jfx b 12 = none := by rcases hb with rfl | rfl <;> rfl
theorem isB_f0_12 {b : Nat} {μ : jMu} (hb : isB b) : j_av (jty 2 12) (fx μ b 12) = jvI (μ b 12) := by rw [fx_none (isB_x0_12 hb)]; rfl
theorem isB_x0_13 {b : Nat} (hb : isB b) : jfx b 13 = none := by rcases hb with rfl | rfl <;> rfl
theorem isB_f0_13 {b : Nat} {μ : jMu} (hb : isB b) : j_av (jty 2 13) (fx μ b 13) = jvI (μ b 13) := by rw [fx_none (isB_x0_13 hb)]; rfl
theorem isB_x0_14 {b : Nat} (hb : isB b) : jfx b 14 = none := by rcases hb with rfl | rfl <;> rfl
theorem isB_f0_14 {b : Nat} {μ : jMu} (hb : isB b) : j_av (jty 2 14) (fx μ b 14) = jvI (μ b 14) := by rw [fx_none (isB_x0_14 hb)]; rfl
theorem isB_x0_15 {b : Nat} (hb : isB b) : jfx b 15 = none := by rcases hb with rfl | rfl <;> rfl
theorem isB_f0_15 {b : Nat} {μ : jMu} (hb : isB b) : j_av (jty 2 15) (fx μ b 15) = jvI (μ b 15) := by rw [fx_none (isB_x0_15 hb)]; rfl
theorem isB_f1_0 {b : Nat} {μ : jMu} (hb : isB b) : j_av (jty 9 0) (fx μ (b + 1) 0) = jvR ((b + 2 : Nat) : Int) := by rcases hb with rfl | rfl <;> rfl
theorem isB_f1_1 {b : Nat} {μ : jMu} (hb : isB b) : j_av (jty 9 1) (fx μ (b + 1) 1) = jvR ((b + 3 : Nat) : Int) := by rcases hb with rfl | rfl <;> rfl
theorem isB_f1_2 {b : Nat} {μ : jMu} (hb : isB b) : j_av (jty 9 2) (fx μ (b + 1) 2) = jvR ((b + 4 : Nat) : Int) := by rcases hb with rfl | rfl <;> rfl
theorem isB_f1_3 {b : Nat} {μ : jMu} (hb : isB b) : j_av (jty 9 3) (fx μ (b + 1) 3) = jvR ((b + 5 : Nat) : Int) := by rcases hb with rfl | rfl <;> rfl
theorem isB_f1_4 {b : Nat} {μ : jMu} (hb : isB b) : j_av (jty 9 4) (fx μ (b + 1) 4) = jvR ((b + 6 : Nat) : Int) := by rcases hb with rfl | rfl <;> rfl
theorem isB_f1_5 {b : Nat} {μ : jMu} (hb : isB b) : j_av (jty 9 5) (fx μ (b + 1) 5) = jvR ((b + 7 : Nat) : Int) := by rcases hb with rfl | rfl <;> rfl
theorem isB_x1_6 {b : Nat} (hb : isB b) : jfx (b + 1) 6 = none := by rcases hb with rfl | rfl <;> rfl
theorem isB_f1_6 {b : Nat} {μ : jMu} (hb : isB b) : j_av (jty 9 6) (fx μ (b + 1) 6) = jvI (μ (b + 1) 6) := by rw [fx_none (isB_x1_6 hb)]; rfl
theorem isB_x1_7 {b : Nat} (hb : isB b) : jfx (b + 1) 7 = none := by rcases hb with rfl | rfl <;> rfl
theorem isB_f1_7 {b : Nat} {μ : jMu} (hb : isB b) : j_av (jty 9 7) (fx μ (b + 1) 7) = jvI (μ (b + 1) 7) := by rw [fx_none (isB_x1_7 hb)]; rfl
theorem isB_x1_8 {b : Nat} (hb : isB b) : jfx (b + 1) 8 = none := by rcases hb with rfl | rfl <;> rfl
theorem isB_f1_8 {b : Nat} {μ : jMu} (hb : isB b) : j_av (jty 9 8) (fx μ (b + 1) 8) = jvI (μ (b + 1) 8) := by rw [fx_none (isB_x1_8 hb)]; rfl
