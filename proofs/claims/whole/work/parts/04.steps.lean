/-! one lemma an instruction -/
def j_b32 (f : Int32 → Int32 → Int32) (a b : Int) : Int := (f (Int32.ofInt a) (Int32.ofInt b)).toInt
def j_b64 (f : Int64 → Int64 → Int64) (a b : Int) : Int := (f (Int64.ofInt a) (Int64.ofInt b)).toInt
def j_s64 (f : Int64 → Int32 → Int64) (a b : Int) : Int := (f (Int64.ofInt a) (Int32.ofInt b)).toInt
def iand32 : Int → Int → Int := j_b32 (fun x y => x &&& y)
def ior32 : Int → Int → Int := j_b32 (fun x y => x ||| y)
def ixor32 : Int → Int → Int := j_b32 (fun x y => x ^^^ y)
def ishl32 : Int → Int → Int := j_b32 (fun x y => x <<< (y &&& 31))
def ishr32 : Int → Int → Int := j_b32 (fun x y => x >>> (y &&& 31))
def iushr32 : Int → Int → Int := j_b32 (fun x y => (x.toUInt32 >>> (y.toUInt32 &&& Int32.toUInt32 31)).toInt32)
def iand64 : Int → Int → Int := j_b64 (fun x y => x &&& y)
def ior64 : Int → Int → Int := j_b64 (fun x y => x ||| y)
def ixor64 : Int → Int → Int := j_b64 (fun x y => x ^^^ y)
def ishl64 : Int → Int → Int := j_s64 (fun x y => x <<< (y.toInt64 &&& 63))
def ishr64 : Int → Int → Int := j_s64 (fun x y => x >>> (y.toInt64 &&& 63))
def iushr64 : Int → Int → Int := j_s64 (fun x y => (x.toUInt64 >>> (y.toInt64.toUInt64 &&& Int64.toUInt64 63)).toInt64)
def i2b32 (a : Int) : Int := ((Int32.ofInt a).toInt8.toInt32).toInt
theorem j_o32 {z : Int32} {x : Int} (h : z.toInt = x) : Int32.ofInt x = z := by rw [← h]; exact Int32.ofInt_toInt z
theorem j_o64 {z : Int64} {x : Int} (h : z.toInt = x) : Int64.ofInt x = z := by rw [← h]; exact Int64.ofInt_toInt z
theorem j_nat {z : Int32} {x : Int} (h : z.toInt = x) : z.toNatClampNeg = x.toNat := by rw [← h]; rfl
theorem j_lt {z u : Int32} {x y : Int} (h : z.toInt = x) (h2 : u.toInt = y) : z < u ↔ x < y := by rw [← h, ← h2]; exact Int32.lt_iff_toInt_lt
theorem j_le {z u : Int32} {x y : Int} (h : z.toInt = x) (h2 : u.toInt = y) : z ≤ u ↔ x ≤ y := by rw [← h, ← h2]; exact Int32.le_iff_toInt_le
theorem j_eq {z u : Int32} {x y : Int} (h : z.toInt = x) (h2 : u.toInt = y) : z = u ↔ x = y := by rw [← h, ← h2]; exact Int32.toInt_inj.symm
theorem j_lt64 {z u : Int64} {x y : Int} (h : z.toInt = x) (h2 : u.toInt = y) : z < u ↔ x < y := by rw [← h, ← h2]; exact Int64.lt_iff_toInt_lt
theorem j_eq64 {z u : Int64} {x y : Int} (h : z.toInt = x) (h2 : u.toInt = y) : z = u ↔ x = y := by rw [← h, ← h2]; exact Int64.toInt_inj.symm
theorem j_rem32 {z u : Int32} {x y : Int} (h : z.toInt = x) (h2 : u.toInt = y) : (z - z / u * u).toInt = x.tmod y := by
  rw [Int32.toInt_sub, Int32.toInt_mul, Int32.toInt_div, h, h2]
  have e : (x - (((x.tdiv y).bmod (2 ^ 32)) * y).bmod (2 ^ 32)).bmod (2 ^ 32) = (x - (x.tdiv y) * y).bmod (2 ^ 32) := by simp [Int.bmod_mul_bmod, Int.sub_bmod_bmod]
  have e2 : x - (x.tdiv y) * y = x.tmod y := by rw [Int.tmod_def, Int.mul_comm]
  rw [e, e2]
  have hx1 := z.le_toInt
  have hx2 := z.toInt_lt
  rw [h] at hx1 hx2
  refine Int.bmod_eq_of_le ?_ ?_
  · rcases Int.le_total 0 x with hx | hx
    · have := Int.tmod_nonneg y hx
      omega
    · have h3 : -((-x).tmod y) = x.tmod y := by rw [Int.neg_tmod, Int.neg_neg]
      have h4 : (-x).tmod y ≤ -x := by
        have := Int.tmod_nonneg y (show 0 ≤ -x by omega)
        have h5 : ((-x).tmod y).natAbs ≤ (-x).natAbs := by rw [Int.natAbs_tmod]; exact Nat.mod_le _ _
        omega
      omega
  · rcases Int.le_total 0 x with hx | hx
    · have := Int.tmod_nonneg y hx
      have h5 : (x.tmod y).natAbs ≤ x.natAbs := by rw [Int.natAbs_tmod]; exact Nat.mod_le _ _
      omega
    · have h3 : -((-x).tmod y) = x.tmod y := by rw [Int.neg_tmod, Int.neg_neg]
      have := Int.tmod_nonneg y (show 0 ≤ -x by omega)
      omega
theorem j_rem64 {z u : Int64} {x y : Int} (h : z.toInt = x) (h2 : u.toInt = y) : (z - z / u * u).toInt = x.tmod y := by
  rw [Int64.toInt_sub, Int64.toInt_mul, Int64.toInt_div, h, h2]
  have e : (x - (((x.tdiv y).bmod (2 ^ 64)) * y).bmod (2 ^ 64)).bmod (2 ^ 64) = (x - (x.tdiv y) * y).bmod (2 ^ 64) := by simp [Int.bmod_mul_bmod, Int.sub_bmod_bmod]
  have e2 : x - (x.tdiv y) * y = x.tmod y := by rw [Int.tmod_def, Int.mul_comm]
  rw [e, e2]
  have hx1 := z.le_toInt
  have hx2 := z.toInt_lt
  rw [h] at hx1 hx2
  refine Int.bmod_eq_of_le ?_ ?_
  · rcases Int.le_total 0 x with hx | hx
    · have := Int.tmod_nonneg y hx
      omega
    · have h3 : -((-x).tmod y) = x.tmod y := by rw [Int.neg_tmod, Int.neg_neg]
      have h5 : ((-x).tmod y).natAbs ≤ (-x).natAbs := by rw [Int.natAbs_tmod]; exact Nat.mod_le _ _
      have := Int.tmod_nonneg y (show 0 ≤ -x by omega)
      omega
  · rcases Int.le_total 0 x with hx | hx
    · have := Int.tmod_nonneg y hx
      have h5 : (x.tmod y).natAbs ≤ x.natAbs := by rw [Int.natAbs_tmod]; exact Nat.mod_le _ _
      omega
    · have h3 : -((-x).tmod y) = x.tmod y := by rw [Int.neg_tmod, Int.neg_neg]
      have := Int.tmod_nonneg y (show 0 ≤ -x by omega)
      omega

section JJ
variable {E : jE} {y : jMt} {n0 n1 n pc : Nat} {L : List (Option AV)} {st : List AV} {μ : jMu} {Q : Option AV → jMu → Prop}
theorem J_iconst {z : Int} (x : Int) (hd : decode y.2.1 pc = .ok (.iconst z, 1)) (hx : (Int32.ofInt z).toInt = x) (k : J E y n0 n1 n (pc + 1) (L) (jvI x :: st) (μ) Q) : J E y n0 n1 n (pc) (L) (st) (μ) Q := by
  intro p l e s m args below meth c C H locs ls ws hl hs hr hq hL
  exact lv_iconst C.1 C.2.1 hd rfl (k p l e s m args below meth c C H _ ls _ hl (⟨_, _, rfl, ⟨_, hx, rfl⟩, hs⟩) hr hq hL)
theorem J_bipush {z : Int} (x : Int) (hd : decode y.2.1 pc = .ok (.bipush z, 2)) (hx : ((Int8.ofInt z).toInt32).toInt = x) (k : J E y n0 n1 n (pc + 2) (L) (jvI x :: st) (μ) Q) : J E y n0 n1 n (pc) (L) (st) (μ) Q := by
  intro p l e s m args below meth c C H locs ls ws hl hs hr hq hL
  exact lv_bipush C.1 C.2.1 hd rfl (k p l e s m args below meth c C H _ ls _ hl (⟨_, _, rfl, ⟨_, hx, rfl⟩, hs⟩) hr hq hL)
theorem J_sipush {z : Int} (x : Int) (hd : decode y.2.1 pc = .ok (.sipush z, 3)) (hx : ((Int16.ofInt z).toInt32).toInt = x) (k : J E y n0 n1 n (pc + 3) (L) (jvI x :: st) (μ) Q) : J E y n0 n1 n (pc) (L) (st) (μ) Q := by
  intro p l e s m args below meth c C H locs ls ws hl hs hr hq hL
  exact lv_sipush C.1 C.2.1 hd rfl (k p l e s m args below meth c C H _ ls _ hl (⟨_, _, rfl, ⟨_, hx, rfl⟩, hs⟩) hr hq hL)
theorem J_lconst {z : Fin 2} (x : Int) (hd : decode y.2.1 pc = .ok (.lconst z, 1)) (hx : (Int64.ofNat z).toInt = x) (k : J E y n0 n1 n (pc + 1) (L) (jvL x :: st) (μ) Q) : J E y n0 n1 n (pc) (L) (st) (μ) Q := by
  intro p l e s m args below meth c C H locs ls ws hl hs hr hq hL
  exact lv_lconst C.1 C.2.1 hd rfl (k p l e s m args below meth c C H _ ls _ hl (⟨_, _, rfl, ⟨_, hx, rfl⟩, hs⟩) hr hq hL)
theorem J_ldc {idx : Nat} {z : Int32} (x : Int) (hd : decode y.2.1 pc = .ok (.ldc idx, 2)) (hc : Cond.constant y.1.cls idx z ∈ lw_tbg) (hx : z.toInt = x) (k : J E y n0 n1 n (pc + 2) (L) (jvI x :: st) (μ) Q) : J E y n0 n1 n (pc) (L) (st) (μ) Q := by
  intro p l e s m args below meth c C H locs ls ws hl hs hr hq hL
  exact lv_ldc C.1 C.2.1 C.2.2.2.2.1 (C.2.2.2.2.2.1 _ hc) hd (k p l e s m args below meth c C H _ ls _ hl (⟨_, _, rfl, ⟨_, hx, rfl⟩, hs⟩) hr hq hL)
theorem J_ldc_w {idx : Nat} {z : Int32} (x : Int) (hd : decode y.2.1 pc = .ok (.ldc_w idx, 3)) (hc : Cond.constant y.1.cls idx z ∈ lw_tbg) (hx : z.toInt = x) (k : J E y n0 n1 n (pc + 3) (L) (jvI x :: st) (μ) Q) : J E y n0 n1 n (pc) (L) (st) (μ) Q := by
  intro p l e s m args below meth c C H locs ls ws hl hs hr hq hL
  exact lv_ldcw C.1 C.2.1 C.2.2.2.2.1 (C.2.2.2.2.2.1 _ hc) hd (k p l e s m args below meth c C H _ ls _ hl (⟨_, _, rfl, ⟨_, hx, rfl⟩, hs⟩) hr hq hL)
theorem J_ldc2 {idx : Nat} {z : Int64} (x : Int) (hd : decode y.2.1 pc = .ok (.ldc2_w idx, 3)) (hc : Cond.constantLong y.1.cls idx z ∈ lw_tbg) (hx : z.toInt = x) (k : J E y n0 n1 n (pc + 3) (L) (jvL x :: st) (μ) Q) : J E y n0 n1 n (pc) (L) (st) (μ) Q := by
  intro p l e s m args below meth c C H locs ls ws hl hs hr hq hL
  exact lv_ldc2 C.1 C.2.1 C.2.2.2.2.1 (C.2.2.2.2.2.1 _ hc) hd (k p l e s m args below meth c C H _ ls _ hl (⟨_, _, rfl, ⟨_, hx, rfl⟩, hs⟩) hr hq hL)
theorem J_iload_n {k : Fin 4} (i : Nat) (x : Int) (hd : decode y.2.1 pc = .ok (.iload_n k, 1)) (hi : (k : Nat) = i) (hv : L[i]? = some (some (jvI x))) (k : J E y n0 n1 n (pc + 1) (L) (jvI x :: st) (μ) Q) : J E y n0 n1 n (pc) (L) (st) (μ) Q := by
  intro p l e s m args below meth c C H locs ls ws hl hs hr hq hL
  obtain ⟨w, ⟨z, hz, rfl⟩, hw⟩ := j_lget hl hv
  exact lv_iload_n C.1 C.2.1 hd hi hw (k p l e s m args below meth c C H _ ls _ hl (⟨_, _, rfl, ⟨z, hz, rfl⟩, hs⟩) hr hq hL)
theorem J_iload (i : Nat) (x : Int) (hd : decode y.2.1 pc = .ok (.iload i, 2)) (hv : L[i]? = some (some (jvI x))) (k : J E y n0 n1 n (pc + 2) (L) (jvI x :: st) (μ) Q) : J E y n0 n1 n (pc) (L) (st) (μ) Q := by
  intro p l e s m args below meth c C H locs ls ws hl hs hr hq hL
  obtain ⟨w, ⟨z, hz, rfl⟩, hw⟩ := j_lget hl hv
  exact lv_iload C.1 C.2.1 hd hw (k p l e s m args below meth c C H _ ls _ hl (⟨_, _, rfl, ⟨z, hz, rfl⟩, hs⟩) hr hq hL)
theorem J_lload_n {k : Fin 4} (i : Nat) (x : Int) (hd : decode y.2.1 pc = .ok (.lload_n k, 1)) (hi : (k : Nat) = i) (hv : L[i]? = some (some (jvL x))) (k : J E y n0 n1 n (pc + 1) (L) (jvL x :: st) (μ) Q) : J E y n0 n1 n (pc) (L) (st) (μ) Q := by
  intro p l e s m args below meth c C H locs ls ws hl hs hr hq hL
  obtain ⟨w, ⟨z, hz, rfl⟩, hw⟩ := j_lget hl hv
  exact lv_lload_n C.1 C.2.1 hd hi hw (k p l e s m args below meth c C H _ ls _ hl (⟨_, _, rfl, ⟨z, hz, rfl⟩, hs⟩) hr hq hL)
theorem J_lload (i : Nat) (x : Int) (hd : decode y.2.1 pc = .ok (.lload i, 2)) (hv : L[i]? = some (some (jvL x))) (k : J E y n0 n1 n (pc + 2) (L) (jvL x :: st) (μ) Q) : J E y n0 n1 n (pc) (L) (st) (μ) Q := by
  intro p l e s m args below meth c C H locs ls ws hl hs hr hq hL
  obtain ⟨w, ⟨z, hz, rfl⟩, hw⟩ := j_lget hl hv
  exact lv_lload C.1 C.2.1 hd hw (k p l e s m args below meth c C H _ ls _ hl (⟨_, _, rfl, ⟨z, hz, rfl⟩, hs⟩) hr hq hL)
theorem j_rv_or (E : jE) (a : Int) : (∃ x, j_rv E a = .ref x) ∨ j_rv E a = .null := by
  unfold j_rv
  split
  · exact Or.inl ⟨_, rfl⟩
  · split
    · exact Or.inr rfl
    · exact Or.inl ⟨_, rfl⟩
theorem J_aload_n {k : Fin 4} (i : Nat) (a : Int) (hd : decode y.2.1 pc = .ok (.aload_n k, 1)) (hi : (k : Nat) = i) (hv : L[i]? = some (some (jvR a))) (k : J E y n0 n1 n (pc + 1) (L) (jvR a :: st) (μ) Q) : J E y n0 n1 n (pc) (L) (st) (μ) Q := by
  intro p l e s m args below meth c C H locs ls ws hl hs hr hq hL
  obtain ⟨w, hw0, hw⟩ := j_lget hl hv
  have hw0 : w = j_rv E a := hw0
  have k := k p l e s m args below meth c C H _ ls _ hl ((show j_st E (jvR a :: st) (j_rv E a :: ws) from ⟨_, _, rfl, rfl, hs⟩)) hr hq hL
  subst hw0
  rcases j_rv_or E a with ⟨x, hx⟩ | hx
  · rw [hx] at hw k
    exact lv_aload_n C.1 C.2.1 hd hi hw k
  · rw [hx] at hw k
    exact lv_aload_nN C.1 C.2.1 hd hi hw k
theorem J_aload (i : Nat) (a : Int) (hd : decode y.2.1 pc = .ok (.aload i, 2)) (hv : L[i]? = some (some (jvR a))) (k : J E y n0 n1 n (pc + 2) (L) (jvR a :: st) (μ) Q) : J E y n0 n1 n (pc) (L) (st) (μ) Q := by
  intro p l e s m args below meth c C H locs ls ws hl hs hr hq hL
  obtain ⟨w, hw0, hw⟩ := j_lget hl hv
  have hw0 : w = j_rv E a := hw0
  have k := k p l e s m args below meth c C H _ ls _ hl ((show j_st E (jvR a :: st) (j_rv E a :: ws) from ⟨_, _, rfl, rfl, hs⟩)) hr hq hL
  subst hw0
  rcases j_rv_or E a with ⟨x, hx⟩ | hx
  · rw [hx] at hw k
    exact lv_aload C.1 C.2.1 hd hw k
  · rw [hx] at hw k
    exact lv_aloadN C.1 C.2.1 hd hw k
theorem J_istore_n {k : Fin 4} (i : Nat) {x : Int} {L2 : List (Option AV)} (hd : decode y.2.1 pc = .ok (.istore_n k, 1)) (hi : (k : Nat) = i) (hn : i < L.length) (h2 : j_sto1 L i (jvI x) = L2) (k : J E y n0 n1 n (pc + 1) (L2) (st) (μ) Q) : J E y n0 n1 n (pc) (L) (jvI x :: st) (μ) Q := by
  intro p l e s m args below meth c C H locs ls ws hl hs hr hq hL
  subst hi
  obtain ⟨w, ws, rfl, ⟨z, hz, rfl⟩, hs⟩ := hs
  obtain ⟨ls2, e2, hl2⟩ := j_store1 hl hn (v := jvI x) (w := .int z) ⟨z, hz, rfl⟩ rfl
  intro T hT X
  obtain ⟨t, a, b⟩ := k p l e s m args below meth c C H _ ls2 _ (h2 ▸ hl2) (hs) hr hq (by rw [← h2, j_sto1_len]; exact hL) T hT X
  refine ⟨t, ?_, b⟩
  jvm_step X.here [X.here.top, ↓top_set X.here.top, C.1, C.2.1, hd, e2]
  exact a
theorem J_istore (i : Nat) {x : Int} {L2 : List (Option AV)} (hd : decode y.2.1 pc = .ok (.istore i, 2)) (hn : i < L.length) (h2 : j_sto1 L i (jvI x) = L2) (k : J E y n0 n1 n (pc + 2) (L2) (st) (μ) Q) : J E y n0 n1 n (pc) (L) (jvI x :: st) (μ) Q := by
  intro p l e s m args below meth c C H locs ls ws hl hs hr hq hL
  obtain ⟨w, ws, rfl, ⟨z, hz, rfl⟩, hs⟩ := hs
  obtain ⟨ls2, e2, hl2⟩ := j_store1 hl hn (v := jvI x) (w := .int z) ⟨z, hz, rfl⟩ rfl
  intro T hT X
  obtain ⟨t, a, b⟩ := k p l e s m args below meth c C H _ ls2 _ (h2 ▸ hl2) (hs) hr hq (by rw [← h2, j_sto1_len]; exact hL) T hT X
  refine ⟨t, ?_, b⟩
  jvm_step X.here [X.here.top, ↓top_set X.here.top, C.1, C.2.1, hd, e2]
  exact a
theorem J_lstore_n {k : Fin 4} (i : Nat) {x : Int} {L2 : List (Option AV)} (hd : decode y.2.1 pc = .ok (.lstore_n k, 1)) (hi : (k : Nat) = i) (hn : i + 1 < L.length) (h2 : j_sto2 L i (jvL x) = L2) (k : J E y n0 n1 n (pc + 1) (L2) (st) (μ) Q) : J E y n0 n1 n (pc) (L) (jvL x :: st) (μ) Q := by
  intro p l e s m args below meth c C H locs ls ws hl hs hr hq hL
  subst hi
  obtain ⟨w, ws, rfl, ⟨z, hz, rfl⟩, hs⟩ := hs
  obtain ⟨ls2, e2, hl2⟩ := j_store2 hl hn (v := jvL x) (w := .long z) ⟨z, hz, rfl⟩ rfl
  intro T hT X
  obtain ⟨t, a, b⟩ := k p l e s m args below meth c C H _ ls2 _ (h2 ▸ hl2) (hs) hr hq (by rw [← h2, j_sto2_len]; exact hL) T hT X
  refine ⟨t, ?_, b⟩
  jvm_step X.here [X.here.top, ↓top_set X.here.top, C.1, C.2.1, hd, e2]
  exact a
theorem J_lstore (i : Nat) {x : Int} {L2 : List (Option AV)} (hd : decode y.2.1 pc = .ok (.lstore i, 2)) (hn : i + 1 < L.length) (h2 : j_sto2 L i (jvL x) = L2) (k : J E y n0 n1 n (pc + 2) (L2) (st) (μ) Q) : J E y n0 n1 n (pc) (L) (jvL x :: st) (μ) Q := by
  intro p l e s m args below meth c C H locs ls ws hl hs hr hq hL
  obtain ⟨w, ws, rfl, ⟨z, hz, rfl⟩, hs⟩ := hs
  obtain ⟨ls2, e2, hl2⟩ := j_store2 hl hn (v := jvL x) (w := .long z) ⟨z, hz, rfl⟩ rfl
  intro T hT X
  obtain ⟨t, a, b⟩ := k p l e s m args below meth c C H _ ls2 _ (h2 ▸ hl2) (hs) hr hq (by rw [← h2, j_sto2_len]; exact hL) T hT X
  refine ⟨t, ?_, b⟩
  jvm_step X.here [X.here.top, ↓top_set X.here.top, C.1, C.2.1, hd, e2]
  exact a
theorem J_astore_n {k : Fin 4} (i : Nat) {a : Int} {L2 : List (Option AV)} (hd : decode y.2.1 pc = .ok (.astore_n k, 1)) (hi : (k : Nat) = i) (hn : i < L.length) (h2 : j_sto1 L i (jvR a) = L2) (k : J E y n0 n1 n (pc + 1) (L2) (st) (μ) Q) : J E y n0 n1 n (pc) (L) (jvR a :: st) (μ) Q := by
  intro p l e s m args below meth c C H locs ls ws hl hs hr hq hL
  subst hi
  obtain ⟨w, ws, rfl, hw, hs⟩ := hs
  have hw : w = j_rv E a := hw
  subst hw
  obtain ⟨ls2, e2, hl2⟩ := j_store1 hl hn (v := jvR a) (w := j_rv E a) rfl (j_cat1 (v := jvR a) rfl (fun y => by simp))
  intro T hT X
  obtain ⟨t, b1, b⟩ := k p l e s m args below meth c C H _ ls2 _ (h2 ▸ hl2) (hs) hr hq (by rw [← h2, j_sto1_len]; exact hL) T hT X
  refine ⟨t, ?_, b⟩
  rcases j_rv_or E a with ⟨x, hx⟩ | hx
  · rw [hx] at e2 ⊢
    jvm_step X.here [X.here.top, ↓top_set X.here.top, C.1, C.2.1, hd, e2, Value.isRef]
    exact b1
  · rw [hx] at e2 ⊢
    jvm_step X.here [X.here.top, ↓top_set X.here.top, C.1, C.2.1, hd, e2, Value.isRef]
    exact b1
theorem J_astore (i : Nat) {a : Int} {L2 : List (Option AV)} (hd : decode y.2.1 pc = .ok (.astore i, 2)) (hn : i < L.length) (h2 : j_sto1 L i (jvR a) = L2) (k : J E y n0 n1 n (pc + 2) (L2) (st) (μ) Q) : J E y n0 n1 n (pc) (L) (jvR a :: st) (μ) Q := by
  intro p l e s m args below meth c C H locs ls ws hl hs hr hq hL
  obtain ⟨w, ws, rfl, hw, hs⟩ := hs
  have hw : w = j_rv E a := hw
  subst hw
  obtain ⟨ls2, e2, hl2⟩ := j_store1 hl hn (v := jvR a) (w := j_rv E a) rfl (j_cat1 (v := jvR a) rfl (fun y => by simp))
  intro T hT X
  obtain ⟨t, b1, b⟩ := k p l e s m args below meth c C H _ ls2 _ (h2 ▸ hl2) (hs) hr hq (by rw [← h2, j_sto1_len]; exact hL) T hT X
  refine ⟨t, ?_, b⟩
  rcases j_rv_or E a with ⟨x, hx⟩ | hx
  · rw [hx] at e2 ⊢
    jvm_step X.here [X.here.top, ↓top_set X.here.top, C.1, C.2.1, hd, e2, Value.isRef]
    exact b1
  · rw [hx] at e2 ⊢
    jvm_step X.here [X.here.top, ↓top_set X.here.top, C.1, C.2.1, hd, e2, Value.isRef]
    exact b1
theorem J_iinc (i : Nat) {z : Int} {x x2 : Int} {L2 : List (Option AV)} (hd : decode y.2.1 pc = .ok (.iinc i z, 3)) (hn : i < L.length) (hv : L[i]? = some (some (jvI x))) (hx : w32 (x + (Int32.ofInt z).toInt) = x2) (h2 : j_sto1 L i (jvI x2) = L2) (k : J E y n0 n1 n (pc + 3) (L2) (st) (μ) Q) : J E y n0 n1 n (pc) (L) (st) (μ) Q := by
  intro p l e s m args below meth c C H locs ls ws hl hs hr hq hL
  obtain ⟨w, ⟨u, hu, rfl⟩, hw⟩ := j_lget hl hv
  obtain ⟨ls2, e2, hl2⟩ := j_store1 hl hn (v := jvI x2) (w := .int (u + Int32.ofInt z)) ⟨_, by rw [Int32.toInt_add, hu]; exact hx, rfl⟩ rfl
  intro T hT X
  obtain ⟨t, a, b⟩ := k p l e s m args below meth c C H _ ls2 _ (h2 ▸ hl2) (hs) hr hq (by rw [← h2, j_sto1_len]; exact hL) T hT X
  refine ⟨t, ?_, b⟩
  jvm_step X.here [X.here.top, ↓top_set X.here.top, C.1, C.2.1, hd, hw, e2]
  exact a
theorem J_iadd {a b : Int} {r : Int} (hd : decode y.2.1 pc = .ok (.iadd, 1)) (hx : w32 (a + b) = r) (k : J E y n0 n1 n (pc + 1) (L) (jvI r :: st) (μ) Q) : J E y n0 n1 n (pc) (L) (jvI b :: jvI a :: st) (μ) Q := by
  intro p l e s m args below meth c C H locs ls ws hl hs hr hq hL
  obtain ⟨w1, ws1, rfl, ⟨zb, hzb, rfl⟩, w2, ws2, rfl, ⟨za, hza, rfl⟩, hs⟩ := hs
  exact lv_iadd C.1 C.2.1 hd (k p l e s m args below meth c C H _ ls _ hl (⟨_, _, rfl, ⟨_, by rw [Int32.toInt_add, hza, hzb]; exact hx, rfl⟩, hs⟩) hr hq hL)
theorem J_isub {a b : Int} {r : Int} (hd : decode y.2.1 pc = .ok (.isub, 1)) (hx : w32 (a - b) = r) (k : J E y n0 n1 n (pc + 1) (L) (jvI r :: st) (μ) Q) : J E y n0 n1 n (pc) (L) (jvI b :: jvI a :: st) (μ) Q := by
  intro p l e s m args below meth c C H locs ls ws hl hs hr hq hL
  obtain ⟨w1, ws1, rfl, ⟨zb, hzb, rfl⟩, w2, ws2, rfl, ⟨za, hza, rfl⟩, hs⟩ := hs
  exact lv_isub C.1 C.2.1 hd (k p l e s m args below meth c C H _ ls _ hl (⟨_, _, rfl, ⟨_, by rw [Int32.toInt_sub, hza, hzb]; exact hx, rfl⟩, hs⟩) hr hq hL)
theorem J_imul {a b : Int} {r : Int} (hd : decode y.2.1 pc = .ok (.imul, 1)) (hx : w32 (a * b) = r) (k : J E y n0 n1 n (pc + 1) (L) (jvI r :: st) (μ) Q) : J E y n0 n1 n (pc) (L) (jvI b :: jvI a :: st) (μ) Q := by
  intro p l e s m args below meth c C H locs ls ws hl hs hr hq hL
  obtain ⟨w1, ws1, rfl, ⟨zb, hzb, rfl⟩, w2, ws2, rfl, ⟨za, hza, rfl⟩, hs⟩ := hs
  exact lv_imul C.1 C.2.1 hd (k p l e s m args below meth c C H _ ls _ hl (⟨_, _, rfl, ⟨_, by rw [Int32.toInt_mul, hza, hzb]; exact hx, rfl⟩, hs⟩) hr hq hL)
theorem J_idiv {a b : Int} {r : Int} (hd : decode y.2.1 pc = .ok (.idiv, 1)) (hne : b ≠ 0) (hx : w32 (a.tdiv b) = r) (k : J E y n0 n1 n (pc + 1) (L) (jvI r :: st) (μ) Q) : J E y n0 n1 n (pc) (L) (jvI b :: jvI a :: st) (μ) Q := by
  intro p l e s m args below meth c C H locs ls ws hl hs hr hq hL
  obtain ⟨w1, ws1, rfl, ⟨zb, hzb, rfl⟩, w2, ws2, rfl, ⟨za, hza, rfl⟩, hs⟩ := hs
  exact lv_idiv C.1 C.2.1 hd (fun q => hne (by rw [← hzb, q]; rfl)) (k p l e s m args below meth c C H _ ls _ hl (⟨_, _, rfl, ⟨_, by rw [Int32.toInt_div, hza, hzb]; exact hx, rfl⟩, hs⟩) hr hq hL)
theorem J_irem {a b : Int} {r : Int} (hd : decode y.2.1 pc = .ok (.irem, 1)) (hne : b ≠ 0) (hx : a.tmod b = r) (k : J E y n0 n1 n (pc + 1) (L) (jvI r :: st) (μ) Q) : J E y n0 n1 n (pc) (L) (jvI b :: jvI a :: st) (μ) Q := by
  intro p l e s m args below meth c C H locs ls ws hl hs hr hq hL
  obtain ⟨w1, ws1, rfl, ⟨zb, hzb, rfl⟩, w2, ws2, rfl, ⟨za, hza, rfl⟩, hs⟩ := hs
  exact lv_irem C.1 C.2.1 hd (fun q => hne (by rw [← hzb, q]; rfl)) (k p l e s m args below meth c C H _ ls _ hl (⟨_, _, rfl, ⟨_, by rw [j_rem32 hza hzb]; exact hx, rfl⟩, hs⟩) hr hq hL)
theorem J_iand {a b : Int} {r : Int} (hd : decode y.2.1 pc = .ok (.iand, 1)) (hx : iand32 a b = r) (k : J E y n0 n1 n (pc + 1) (L) (jvI r :: st) (μ) Q) : J E y n0 n1 n (pc) (L) (jvI b :: jvI a :: st) (μ) Q := by
  intro p l e s m args below meth c C H locs ls ws hl hs hr hq hL
  obtain ⟨w1, ws1, rfl, ⟨zb, hzb, rfl⟩, w2, ws2, rfl, ⟨za, hza, rfl⟩, hs⟩ := hs
  exact lv_iand C.1 C.2.1 hd (k p l e s m args below meth c C H _ ls _ hl (⟨_, _, rfl, ⟨_, by rw [← hx]; unfold iand32 j_b32; rw [j_o32 hza, j_o32 hzb], rfl⟩, hs⟩) hr hq hL)
theorem J_ior {a b : Int} {r : Int} (hd : decode y.2.1 pc = .ok (.ior, 1)) (hx : ior32 a b = r) (k : J E y n0 n1 n (pc + 1) (L) (jvI r :: st) (μ) Q) : J E y n0 n1 n (pc) (L) (jvI b :: jvI a :: st) (μ) Q := by
  intro p l e s m args below meth c C H locs ls ws hl hs hr hq hL
  obtain ⟨w1, ws1, rfl, ⟨zb, hzb, rfl⟩, w2, ws2, rfl, ⟨za, hza, rfl⟩, hs⟩ := hs
  exact lv_ior C.1 C.2.1 hd (k p l e s m args below meth c C H _ ls _ hl (⟨_, _, rfl, ⟨_, by rw [← hx]; unfold ior32 j_b32; rw [j_o32 hza, j_o32 hzb], rfl⟩, hs⟩) hr hq hL)
theorem J_ixor {a b : Int} {r : Int} (hd : decode y.2.1 pc = .ok (.ixor, 1)) (hx : ixor32 a b = r) (k : J E y n0 n1 n (pc + 1) (L) (jvI r :: st) (μ) Q) : J E y n0 n1 n (pc) (L) (jvI b :: jvI a :: st) (μ) Q := by
  intro p l e s m args below meth c C H locs ls ws hl hs hr hq hL
  obtain ⟨w1, ws1, rfl, ⟨zb, hzb, rfl⟩, w2, ws2, rfl, ⟨za, hza, rfl⟩, hs⟩ := hs
  exact lv_ixor C.1 C.2.1 hd (k p l e s m args below meth c C H _ ls _ hl (⟨_, _, rfl, ⟨_, by rw [← hx]; unfold ixor32 j_b32; rw [j_o32 hza, j_o32 hzb], rfl⟩, hs⟩) hr hq hL)
theorem J_ladd {a b : Int} {r : Int} (hd : decode y.2.1 pc = .ok (.ladd, 1)) (hx : w64 (a + b) = r) (k : J E y n0 n1 n (pc + 1) (L) (jvL r :: st) (μ) Q) : J E y n0 n1 n (pc) (L) (jvL b :: jvL a :: st) (μ) Q := by
  intro p l e s m args below meth c C H locs ls ws hl hs hr hq hL
  obtain ⟨w1, ws1, rfl, ⟨zb, hzb, rfl⟩, w2, ws2, rfl, ⟨za, hza, rfl⟩, hs⟩ := hs
  exact lv_ladd C.1 C.2.1 hd (k p l e s m args below meth c C H _ ls _ hl (⟨_, _, rfl, ⟨_, by rw [Int64.toInt_add, hza, hzb]; exact hx, rfl⟩, hs⟩) hr hq hL)
theorem J_lsub {a b : Int} {r : Int} (hd : decode y.2.1 pc = .ok (.lsub, 1)) (hx : w64 (a - b) = r) (k : J E y n0 n1 n (pc + 1) (L) (jvL r :: st) (μ) Q) : J E y n0 n1 n (pc) (L) (jvL b :: jvL a :: st) (μ) Q := by
  intro p l e s m args below meth c C H locs ls ws hl hs hr hq hL
  obtain ⟨w1, ws1, rfl, ⟨zb, hzb, rfl⟩, w2, ws2, rfl, ⟨za, hza, rfl⟩, hs⟩ := hs
  exact lv_lsub C.1 C.2.1 hd (k p l e s m args below meth c C H _ ls _ hl (⟨_, _, rfl, ⟨_, by rw [Int64.toInt_sub, hza, hzb]; exact hx, rfl⟩, hs⟩) hr hq hL)
theorem J_lmul {a b : Int} {r : Int} (hd : decode y.2.1 pc = .ok (.lmul, 1)) (hx : w64 (a * b) = r) (k : J E y n0 n1 n (pc + 1) (L) (jvL r :: st) (μ) Q) : J E y n0 n1 n (pc) (L) (jvL b :: jvL a :: st) (μ) Q := by
  intro p l e s m args below meth c C H locs ls ws hl hs hr hq hL
  obtain ⟨w1, ws1, rfl, ⟨zb, hzb, rfl⟩, w2, ws2, rfl, ⟨za, hza, rfl⟩, hs⟩ := hs
  exact lv_lmul C.1 C.2.1 hd (k p l e s m args below meth c C H _ ls _ hl (⟨_, _, rfl, ⟨_, by rw [Int64.toInt_mul, hza, hzb]; exact hx, rfl⟩, hs⟩) hr hq hL)
theorem J_ldiv {a b : Int} {r : Int} (hd : decode y.2.1 pc = .ok (.ldiv, 1)) (hne : b ≠ 0) (hx : w64 (a.tdiv b) = r) (k : J E y n0 n1 n (pc + 1) (L) (jvL r :: st) (μ) Q) : J E y n0 n1 n (pc) (L) (jvL b :: jvL a :: st) (μ) Q := by
  intro p l e s m args below meth c C H locs ls ws hl hs hr hq hL
  obtain ⟨w1, ws1, rfl, ⟨zb, hzb, rfl⟩, w2, ws2, rfl, ⟨za, hza, rfl⟩, hs⟩ := hs
  exact lv_ldiv C.1 C.2.1 hd (fun q => hne (by rw [← hzb, q]; rfl)) (k p l e s m args below meth c C H _ ls _ hl (⟨_, _, rfl, ⟨_, by rw [Int64.toInt_div, hza, hzb]; exact hx, rfl⟩, hs⟩) hr hq hL)
theorem J_lrem {a b : Int} {r : Int} (hd : decode y.2.1 pc = .ok (.lrem, 1)) (hne : b ≠ 0) (hx : a.tmod b = r) (k : J E y n0 n1 n (pc + 1) (L) (jvL r :: st) (μ) Q) : J E y n0 n1 n (pc) (L) (jvL b :: jvL a :: st) (μ) Q := by
  intro p l e s m args below meth c C H locs ls ws hl hs hr hq hL
  obtain ⟨w1, ws1, rfl, ⟨zb, hzb, rfl⟩, w2, ws2, rfl, ⟨za, hza, rfl⟩, hs⟩ := hs
  exact lv_lrem C.1 C.2.1 hd (fun q => hne (by rw [← hzb, q]; rfl)) (k p l e s m args below meth c C H _ ls _ hl (⟨_, _, rfl, ⟨_, by rw [j_rem64 hza hzb]; exact hx, rfl⟩, hs⟩) hr hq hL)
theorem J_land {a b : Int} {r : Int} (hd : decode y.2.1 pc = .ok (.land, 1)) (hx : iand64 a b = r) (k : J E y n0 n1 n (pc + 1) (L) (jvL r :: st) (μ) Q) : J E y n0 n1 n (pc) (L) (jvL b :: jvL a :: st) (μ) Q := by
  intro p l e s m args below meth c C H locs ls ws hl hs hr hq hL
  obtain ⟨w1, ws1, rfl, ⟨zb, hzb, rfl⟩, w2, ws2, rfl, ⟨za, hza, rfl⟩, hs⟩ := hs
  exact lv_land C.1 C.2.1 hd (k p l e s m args below meth c C H _ ls _ hl (⟨_, _, rfl, ⟨_, by rw [← hx]; unfold iand64 j_b64; rw [j_o64 hza, j_o64 hzb], rfl⟩, hs⟩) hr hq hL)
theorem J_lor {a b : Int} {r : Int} (hd : decode y.2.1 pc = .ok (.lor, 1)) (hx : ior64 a b = r) (k : J E y n0 n1 n (pc + 1) (L) (jvL r :: st) (μ) Q) : J E y n0 n1 n (pc) (L) (jvL b :: jvL a :: st) (μ) Q := by
  intro p l e s m args below meth c C H locs ls ws hl hs hr hq hL
  obtain ⟨w1, ws1, rfl, ⟨zb, hzb, rfl⟩, w2, ws2, rfl, ⟨za, hza, rfl⟩, hs⟩ := hs
  exact lv_lor C.1 C.2.1 hd (k p l e s m args below meth c C H _ ls _ hl (⟨_, _, rfl, ⟨_, by rw [← hx]; unfold ior64 j_b64; rw [j_o64 hza, j_o64 hzb], rfl⟩, hs⟩) hr hq hL)
theorem J_lxor {a b : Int} {r : Int} (hd : decode y.2.1 pc = .ok (.lxor, 1)) (hx : ixor64 a b = r) (k : J E y n0 n1 n (pc + 1) (L) (jvL r :: st) (μ) Q) : J E y n0 n1 n (pc) (L) (jvL b :: jvL a :: st) (μ) Q := by
  intro p l e s m args below meth c C H locs ls ws hl hs hr hq hL
  obtain ⟨w1, ws1, rfl, ⟨zb, hzb, rfl⟩, w2, ws2, rfl, ⟨za, hza, rfl⟩, hs⟩ := hs
  exact lv_lxor C.1 C.2.1 hd (k p l e s m args below meth c C H _ ls _ hl (⟨_, _, rfl, ⟨_, by rw [← hx]; unfold ixor64 j_b64; rw [j_o64 hza, j_o64 hzb], rfl⟩, hs⟩) hr hq hL)
theorem J_ishl {a b : Int} {r : Int} (hd : decode y.2.1 pc = .ok (.ishl, 1)) (hx : ishl32 a b = r) (k : J E y n0 n1 n (pc + 1) (L) (jvI r :: st) (μ) Q) : J E y n0 n1 n (pc) (L) (jvI b :: jvI a :: st) (μ) Q := by
  intro p l e s m args below meth c C H locs ls ws hl hs hr hq hL
  obtain ⟨w1, ws1, rfl, ⟨zb, hzb, rfl⟩, w2, ws2, rfl, ⟨za, hza, rfl⟩, hs⟩ := hs
  exact lv_ishl C.1 C.2.1 hd (k p l e s m args below meth c C H _ ls _ hl (⟨_, _, rfl, ⟨_, by rw [← hx]; unfold ishl32 j_b32; rw [j_o32 hza, j_o32 hzb], rfl⟩, hs⟩) hr hq hL)
theorem J_ishr {a b : Int} {r : Int} (hd : decode y.2.1 pc = .ok (.ishr, 1)) (hx : ishr32 a b = r) (k : J E y n0 n1 n (pc + 1) (L) (jvI r :: st) (μ) Q) : J E y n0 n1 n (pc) (L) (jvI b :: jvI a :: st) (μ) Q := by
  intro p l e s m args below meth c C H locs ls ws hl hs hr hq hL
  obtain ⟨w1, ws1, rfl, ⟨zb, hzb, rfl⟩, w2, ws2, rfl, ⟨za, hza, rfl⟩, hs⟩ := hs
  exact lv_ishr C.1 C.2.1 hd (k p l e s m args below meth c C H _ ls _ hl (⟨_, _, rfl, ⟨_, by rw [← hx]; unfold ishr32 j_b32; rw [j_o32 hza, j_o32 hzb], rfl⟩, hs⟩) hr hq hL)
theorem J_iushr {a b : Int} {r : Int} (hd : decode y.2.1 pc = .ok (.iushr, 1)) (hx : iushr32 a b = r) (k : J E y n0 n1 n (pc + 1) (L) (jvI r :: st) (μ) Q) : J E y n0 n1 n (pc) (L) (jvI b :: jvI a :: st) (μ) Q := by
  intro p l e s m args below meth c C H locs ls ws hl hs hr hq hL
  obtain ⟨w1, ws1, rfl, ⟨zb, hzb, rfl⟩, w2, ws2, rfl, ⟨za, hza, rfl⟩, hs⟩ := hs
  exact lv_iushr C.1 C.2.1 hd rfl (k p l e s m args below meth c C H _ ls _ hl (⟨_, _, rfl, ⟨_, by rw [← hx]; unfold iushr32 j_b32; rw [j_o32 hza, j_o32 hzb], rfl⟩, hs⟩) hr hq hL)
theorem J_lshl {a b : Int} {r : Int} (hd : decode y.2.1 pc = .ok (.lshl, 1)) (hx : ishl64 a b = r) (k : J E y n0 n1 n (pc + 1) (L) (jvL r :: st) (μ) Q) : J E y n0 n1 n (pc) (L) (jvI b :: jvL a :: st) (μ) Q := by
  intro p l e s m args below meth c C H locs ls ws hl hs hr hq hL
  obtain ⟨w1, ws1, rfl, ⟨zb, hzb, rfl⟩, w2, ws2, rfl, ⟨za, hza, rfl⟩, hs⟩ := hs
  exact lv_lshl C.1 C.2.1 hd rfl (k p l e s m args below meth c C H _ ls _ hl (⟨_, _, rfl, ⟨_, by rw [← hx]; unfold ishl64 j_s64; rw [j_o64 hza, j_o32 hzb], rfl⟩, hs⟩) hr hq hL)
theorem J_lshr {a b : Int} {r : Int} (hd : decode y.2.1 pc = .ok (.lshr, 1)) (hx : ishr64 a b = r) (k : J E y n0 n1 n (pc + 1) (L) (jvL r :: st) (μ) Q) : J E y n0 n1 n (pc) (L) (jvI b :: jvL a :: st) (μ) Q := by
  intro p l e s m args below meth c C H locs ls ws hl hs hr hq hL
  obtain ⟨w1, ws1, rfl, ⟨zb, hzb, rfl⟩, w2, ws2, rfl, ⟨za, hza, rfl⟩, hs⟩ := hs
  exact lv_lshr C.1 C.2.1 hd rfl (k p l e s m args below meth c C H _ ls _ hl (⟨_, _, rfl, ⟨_, by rw [← hx]; unfold ishr64 j_s64; rw [j_o64 hza, j_o32 hzb], rfl⟩, hs⟩) hr hq hL)
theorem J_lushr {a b : Int} {r : Int} (hd : decode y.2.1 pc = .ok (.lushr, 1)) (hx : iushr64 a b = r) (k : J E y n0 n1 n (pc + 1) (L) (jvL r :: st) (μ) Q) : J E y n0 n1 n (pc) (L) (jvI b :: jvL a :: st) (μ) Q := by
  intro p l e s m args below meth c C H locs ls ws hl hs hr hq hL
  obtain ⟨w1, ws1, rfl, ⟨zb, hzb, rfl⟩, w2, ws2, rfl, ⟨za, hza, rfl⟩, hs⟩ := hs
  exact lv_lushr C.1 C.2.1 hd rfl (k p l e s m args below meth c C H _ ls _ hl (⟨_, _, rfl, ⟨_, by rw [← hx]; unfold iushr64 j_s64; rw [j_o64 hza, j_o32 hzb], rfl⟩, hs⟩) hr hq hL)
theorem J_ineg {a : Int} {r : Int} (hd : decode y.2.1 pc = .ok (.ineg, 1)) (hx : w32 (-a) = r) (k : J E y n0 n1 n (pc + 1) (L) (jvI r :: st) (μ) Q) : J E y n0 n1 n (pc) (L) (jvI a :: st) (μ) Q := by
  intro p l e s m args below meth c C H locs ls ws hl hs hr hq hL
  obtain ⟨w1, ws1, rfl, ⟨za, hza, rfl⟩, hs⟩ := hs
  exact lv_ineg C.1 C.2.1 hd (k p l e s m args below meth c C H _ ls _ hl (⟨_, _, rfl, ⟨_, by rw [Int32.toInt_neg, hza]; exact hx, rfl⟩, hs⟩) hr hq hL)
theorem J_i2l {a : Int} {r : Int} (hd : decode y.2.1 pc = .ok (.i2l, 1)) (hx : a = r) (k : J E y n0 n1 n (pc + 1) (L) (jvL r :: st) (μ) Q) : J E y n0 n1 n (pc) (L) (jvI a :: st) (μ) Q := by
  intro p l e s m args below meth c C H locs ls ws hl hs hr hq hL
  obtain ⟨w1, ws1, rfl, ⟨za, hza, rfl⟩, hs⟩ := hs
  exact lv_i2l C.1 C.2.1 hd rfl (k p l e s m args below meth c C H _ ls _ hl (⟨_, _, rfl, ⟨_, by rw [Int32.toInt_toInt64, hza]; exact hx, rfl⟩, hs⟩) hr hq hL)
theorem J_l2i {a : Int} {r : Int} (hd : decode y.2.1 pc = .ok (.l2i, 1)) (hx : w32 a = r) (k : J E y n0 n1 n (pc + 1) (L) (jvI r :: st) (μ) Q) : J E y n0 n1 n (pc) (L) (jvL a :: st) (μ) Q := by
  intro p l e s m args below meth c C H locs ls ws hl hs hr hq hL
  obtain ⟨w1, ws1, rfl, ⟨za, hza, rfl⟩, hs⟩ := hs
  exact lv_l2i C.1 C.2.1 hd rfl (k p l e s m args below meth c C H _ ls _ hl (⟨_, _, rfl, ⟨_, by rw [Int64.toInt_toInt32, hza]; exact hx, rfl⟩, hs⟩) hr hq hL)
theorem J_i2b {a : Int} {r : Int} (hd : decode y.2.1 pc = .ok (.i2b, 1)) (hx : i2b32 a = r) (k : J E y n0 n1 n (pc + 1) (L) (jvI r :: st) (μ) Q) : J E y n0 n1 n (pc) (L) (jvI a :: st) (μ) Q := by
  intro p l e s m args below meth c C H locs ls ws hl hs hr hq hL
  obtain ⟨w1, ws1, rfl, ⟨za, hza, rfl⟩, hs⟩ := hs
  exact lv_i2b C.1 C.2.1 hd rfl (k p l e s m args below meth c C H _ ls _ hl (⟨_, _, rfl, ⟨_, by rw [← hx]; unfold i2b32; rw [j_o32 hza], rfl⟩, hs⟩) hr hq hL)
theorem J_dup {v : AV} (hd : decode y.2.1 pc = .ok (.dup, 1)) (hc : ∀ x, v ≠ jvL x) (k : J E y n0 n1 n (pc + 1) (L) (v :: v :: st) (μ) Q) : J E y n0 n1 n (pc) (L) (v :: st) (μ) Q := by
  intro p l e s m args below meth c C H locs ls ws hl hs hr hq hL
  obtain ⟨w1, ws1, rfl, hw, hs⟩ := hs
  exact lv_dup C.1 C.2.1 hd (j_cat1 hw hc) (k p l e s m args below meth c C H _ ls _ hl (⟨_, _, rfl, hw, _, _, rfl, hw, hs⟩) hr hq hL)
theorem J_pop {v : AV} (hd : decode y.2.1 pc = .ok (.pop, 1)) (hc : ∀ x, v ≠ jvL x) (k : J E y n0 n1 n (pc + 1) (L) (st) (μ) Q) : J E y n0 n1 n (pc) (L) (v :: st) (μ) Q := by
  intro p l e s m args below meth c C H locs ls ws hl hs hr hq hL
  obtain ⟨w1, ws1, rfl, hw, hs⟩ := hs
  exact lv_pop C.1 C.2.1 hd (j_cat1 hw hc) (k p l e s m args below meth c C H _ ls _ hl (hs) hr hq hL)
theorem J_dup2 {v u : AV} (hd : decode y.2.1 pc = .ok (.dup2, 1)) (hc : ∀ x, v ≠ jvL x) (hc2 : ∀ x, u ≠ jvL x) (k : J E y n0 n1 n (pc + 1) (L) (v :: u :: v :: u :: st) (μ) Q) : J E y n0 n1 n (pc) (L) (v :: u :: st) (μ) Q := by
  intro p l e s m args below meth c C H locs ls ws hl hs hr hq hL
  obtain ⟨w1, ws1, rfl, hw, w2, ws2, rfl, hw2, hs⟩ := hs
  exact lv_dup2_11 C.1 C.2.1 hd (j_cat1 hw hc) (j_cat1 hw2 hc2) (k p l e s m args below meth c C H _ ls _ hl (⟨_, _, rfl, hw, _, _, rfl, hw2, _, _, rfl, hw, _, _, rfl, hw2, hs⟩) hr hq hL)
theorem J_dup2L {x : Int} (hd : decode y.2.1 pc = .ok (.dup2, 1)) (k : J E y n0 n1 n (pc + 1) (L) (jvL x :: jvL x :: st) (μ) Q) : J E y n0 n1 n (pc) (L) (jvL x :: st) (μ) Q := by
  intro p l e s m args below meth c C H locs ls ws hl hs hr hq hL
  obtain ⟨w1, ws1, rfl, hw, hs⟩ := hs
  exact lv_dup2_2 C.1 C.2.1 hd (j_cat2 hw) (k p l e s m args below meth c C H _ ls _ hl (⟨_, _, rfl, hw, _, _, rfl, hw, hs⟩) hr hq hL)
theorem J_if_eq {a : Int} {off : Int} (tgt : Nat) (hd : decode y.2.1 pc = .ok (.ifCond .eq off, 3)) (ht : (pc : Int) + off = (tgt : Int)) (kt : a = 0 → J E y n0 n1 n (tgt) (L) (st) (μ) Q) (kf : ¬ (a = 0) → J E y n0 n1 n (pc + 3) (L) (st) (μ) Q) : J E y n0 n1 n (pc) (L) (jvI a :: st) (μ) Q := by
  intro p l e s m args below meth c C H locs ls ws hl hs hr hq hL
  obtain ⟨w1, ws1, rfl, ⟨za, hza, rfl⟩, hs⟩ := hs
  have hi := j_eq hza (u := 0) rfl
  exact lv_if_eq C.1 C.2.1 hd ht (fun q => kt (hi.mp q) p l e s m args below meth c C H _ ls _ hl (hs) hr hq hL) (fun q => kf (fun r => q (hi.mpr r)) p l e s m args below meth c C H _ ls _ hl (hs) hr hq hL)
theorem J_icmp_eq {a b : Int} {off : Int} (tgt : Nat) (hd : decode y.2.1 pc = .ok (.if_icmp .eq off, 3)) (ht : (pc : Int) + off = (tgt : Int)) (kt : a = b → J E y n0 n1 n (tgt) (L) (st) (μ) Q) (kf : ¬ (a = b) → J E y n0 n1 n (pc + 3) (L) (st) (μ) Q) : J E y n0 n1 n (pc) (L) (jvI b :: jvI a :: st) (μ) Q := by
  intro p l e s m args below meth c C H locs ls ws hl hs hr hq hL
  obtain ⟨w1, ws1, rfl, ⟨zb, hzb, rfl⟩, w2, ws2, rfl, ⟨za, hza, rfl⟩, hs⟩ := hs
  have hi := j_eq hza hzb
  exact lv_icmp_eq C.1 C.2.1 hd ht (fun q => kt (hi.mp q) p l e s m args below meth c C H _ ls _ hl (hs) hr hq hL) (fun q => kf (fun r => q (hi.mpr r)) p l e s m args below meth c C H _ ls _ hl (hs) hr hq hL)
theorem J_if_ne {a : Int} {off : Int} (tgt : Nat) (hd : decode y.2.1 pc = .ok (.ifCond .ne off, 3)) (ht : (pc : Int) + off = (tgt : Int)) (kt : ¬ a = 0 → J E y n0 n1 n (tgt) (L) (st) (μ) Q) (kf : a = 0 → J E y n0 n1 n (pc + 3) (L) (st) (μ) Q) : J E y n0 n1 n (pc) (L) (jvI a :: st) (μ) Q := by
  intro p l e s m args below meth c C H locs ls ws hl hs hr hq hL
  obtain ⟨w1, ws1, rfl, ⟨za, hza, rfl⟩, hs⟩ := hs
  have hi := j_eq hza (u := 0) rfl
  exact lv_if_ne C.1 C.2.1 hd ht (fun q => kt (fun r => q (hi.mpr r)) p l e s m args below meth c C H _ ls _ hl (hs) hr hq hL) (fun q => kf (hi.mp q) p l e s m args below meth c C H _ ls _ hl (hs) hr hq hL)
theorem J_icmp_ne {a b : Int} {off : Int} (tgt : Nat) (hd : decode y.2.1 pc = .ok (.if_icmp .ne off, 3)) (ht : (pc : Int) + off = (tgt : Int)) (kt : ¬ a = b → J E y n0 n1 n (tgt) (L) (st) (μ) Q) (kf : a = b → J E y n0 n1 n (pc + 3) (L) (st) (μ) Q) : J E y n0 n1 n (pc) (L) (jvI b :: jvI a :: st) (μ) Q := by
  intro p l e s m args below meth c C H locs ls ws hl hs hr hq hL
  obtain ⟨w1, ws1, rfl, ⟨zb, hzb, rfl⟩, w2, ws2, rfl, ⟨za, hza, rfl⟩, hs⟩ := hs
  have hi := j_eq hza hzb
  exact lv_icmp_ne C.1 C.2.1 hd ht (fun q => kt (fun r => q (hi.mpr r)) p l e s m args below meth c C H _ ls _ hl (hs) hr hq hL) (fun q => kf (hi.mp q) p l e s m args below meth c C H _ ls _ hl (hs) hr hq hL)
theorem J_if_lt {a : Int} {off : Int} (tgt : Nat) (hd : decode y.2.1 pc = .ok (.ifCond .lt off, 3)) (ht : (pc : Int) + off = (tgt : Int)) (kt : a < 0 → J E y n0 n1 n (tgt) (L) (st) (μ) Q) (kf : ¬ (a < 0) → J E y n0 n1 n (pc + 3) (L) (st) (μ) Q) : J E y n0 n1 n (pc) (L) (jvI a :: st) (μ) Q := by
  intro p l e s m args below meth c C H locs ls ws hl hs hr hq hL
  obtain ⟨w1, ws1, rfl, ⟨za, hza, rfl⟩, hs⟩ := hs
  have hi := j_lt hza (u := 0) rfl
  exact lv_if_lt C.1 C.2.1 hd ht (fun q => kt (hi.mp q) p l e s m args below meth c C H _ ls _ hl (hs) hr hq hL) (fun q => kf (fun r => q (hi.mpr r)) p l e s m args below meth c C H _ ls _ hl (hs) hr hq hL)
theorem J_icmp_lt {a b : Int} {off : Int} (tgt : Nat) (hd : decode y.2.1 pc = .ok (.if_icmp .lt off, 3)) (ht : (pc : Int) + off = (tgt : Int)) (kt : a < b → J E y n0 n1 n (tgt) (L) (st) (μ) Q) (kf : ¬ (a < b) → J E y n0 n1 n (pc + 3) (L) (st) (μ) Q) : J E y n0 n1 n (pc) (L) (jvI b :: jvI a :: st) (μ) Q := by
  intro p l e s m args below meth c C H locs ls ws hl hs hr hq hL
  obtain ⟨w1, ws1, rfl, ⟨zb, hzb, rfl⟩, w2, ws2, rfl, ⟨za, hza, rfl⟩, hs⟩ := hs
  have hi := j_lt hza hzb
  exact lv_icmp_lt C.1 C.2.1 hd ht (fun q => kt (hi.mp q) p l e s m args below meth c C H _ ls _ hl (hs) hr hq hL) (fun q => kf (fun r => q (hi.mpr r)) p l e s m args below meth c C H _ ls _ hl (hs) hr hq hL)
theorem J_if_ge {a : Int} {off : Int} (tgt : Nat) (hd : decode y.2.1 pc = .ok (.ifCond .ge off, 3)) (ht : (pc : Int) + off = (tgt : Int)) (kt : 0 ≤ a → J E y n0 n1 n (tgt) (L) (st) (μ) Q) (kf : ¬ (0 ≤ a) → J E y n0 n1 n (pc + 3) (L) (st) (μ) Q) : J E y n0 n1 n (pc) (L) (jvI a :: st) (μ) Q := by
  intro p l e s m args below meth c C H locs ls ws hl hs hr hq hL
  obtain ⟨w1, ws1, rfl, ⟨za, hza, rfl⟩, hs⟩ := hs
  have hi := j_le (z := 0) rfl hza
  exact lv_if_ge C.1 C.2.1 hd ht (fun q => kt (hi.mp q) p l e s m args below meth c C H _ ls _ hl (hs) hr hq hL) (fun q => kf (fun r => q (hi.mpr r)) p l e s m args below meth c C H _ ls _ hl (hs) hr hq hL)
theorem J_icmp_ge {a b : Int} {off : Int} (tgt : Nat) (hd : decode y.2.1 pc = .ok (.if_icmp .ge off, 3)) (ht : (pc : Int) + off = (tgt : Int)) (kt : b ≤ a → J E y n0 n1 n (tgt) (L) (st) (μ) Q) (kf : ¬ (b ≤ a) → J E y n0 n1 n (pc + 3) (L) (st) (μ) Q) : J E y n0 n1 n (pc) (L) (jvI b :: jvI a :: st) (μ) Q := by
  intro p l e s m args below meth c C H locs ls ws hl hs hr hq hL
  obtain ⟨w1, ws1, rfl, ⟨zb, hzb, rfl⟩, w2, ws2, rfl, ⟨za, hza, rfl⟩, hs⟩ := hs
  have hi := j_le hzb hza
  exact lv_icmp_ge C.1 C.2.1 hd ht (fun q => kt (hi.mp q) p l e s m args below meth c C H _ ls _ hl (hs) hr hq hL) (fun q => kf (fun r => q (hi.mpr r)) p l e s m args below meth c C H _ ls _ hl (hs) hr hq hL)
theorem J_if_gt {a : Int} {off : Int} (tgt : Nat) (hd : decode y.2.1 pc = .ok (.ifCond .gt off, 3)) (ht : (pc : Int) + off = (tgt : Int)) (kt : 0 < a → J E y n0 n1 n (tgt) (L) (st) (μ) Q) (kf : ¬ (0 < a) → J E y n0 n1 n (pc + 3) (L) (st) (μ) Q) : J E y n0 n1 n (pc) (L) (jvI a :: st) (μ) Q := by
  intro p l e s m args below meth c C H locs ls ws hl hs hr hq hL
  obtain ⟨w1, ws1, rfl, ⟨za, hza, rfl⟩, hs⟩ := hs
  have hi := j_lt (z := 0) rfl hza
  exact lv_if_gt C.1 C.2.1 hd ht (fun q => kt (hi.mp q) p l e s m args below meth c C H _ ls _ hl (hs) hr hq hL) (fun q => kf (fun r => q (hi.mpr r)) p l e s m args below meth c C H _ ls _ hl (hs) hr hq hL)
theorem J_icmp_gt {a b : Int} {off : Int} (tgt : Nat) (hd : decode y.2.1 pc = .ok (.if_icmp .gt off, 3)) (ht : (pc : Int) + off = (tgt : Int)) (kt : b < a → J E y n0 n1 n (tgt) (L) (st) (μ) Q) (kf : ¬ (b < a) → J E y n0 n1 n (pc + 3) (L) (st) (μ) Q) : J E y n0 n1 n (pc) (L) (jvI b :: jvI a :: st) (μ) Q := by
  intro p l e s m args below meth c C H locs ls ws hl hs hr hq hL
  obtain ⟨w1, ws1, rfl, ⟨zb, hzb, rfl⟩, w2, ws2, rfl, ⟨za, hza, rfl⟩, hs⟩ := hs
  have hi := j_lt hzb hza
  exact lv_icmp_gt C.1 C.2.1 hd ht (fun q => kt (hi.mp q) p l e s m args below meth c C H _ ls _ hl (hs) hr hq hL) (fun q => kf (fun r => q (hi.mpr r)) p l e s m args below meth c C H _ ls _ hl (hs) hr hq hL)
theorem J_if_le {a : Int} {off : Int} (tgt : Nat) (hd : decode y.2.1 pc = .ok (.ifCond .le off, 3)) (ht : (pc : Int) + off = (tgt : Int)) (kt : a ≤ 0 → J E y n0 n1 n (tgt) (L) (st) (μ) Q) (kf : ¬ (a ≤ 0) → J E y n0 n1 n (pc + 3) (L) (st) (μ) Q) : J E y n0 n1 n (pc) (L) (jvI a :: st) (μ) Q := by
  intro p l e s m args below meth c C H locs ls ws hl hs hr hq hL
  obtain ⟨w1, ws1, rfl, ⟨za, hza, rfl⟩, hs⟩ := hs
  have hi := j_le hza (u := 0) rfl
  exact lv_if_le C.1 C.2.1 hd ht (fun q => kt (hi.mp q) p l e s m args below meth c C H _ ls _ hl (hs) hr hq hL) (fun q => kf (fun r => q (hi.mpr r)) p l e s m args below meth c C H _ ls _ hl (hs) hr hq hL)
theorem J_icmp_le {a b : Int} {off : Int} (tgt : Nat) (hd : decode y.2.1 pc = .ok (.if_icmp .le off, 3)) (ht : (pc : Int) + off = (tgt : Int)) (kt : a ≤ b → J E y n0 n1 n (tgt) (L) (st) (μ) Q) (kf : ¬ (a ≤ b) → J E y n0 n1 n (pc + 3) (L) (st) (μ) Q) : J E y n0 n1 n (pc) (L) (jvI b :: jvI a :: st) (μ) Q := by
  intro p l e s m args below meth c C H locs ls ws hl hs hr hq hL
  obtain ⟨w1, ws1, rfl, ⟨zb, hzb, rfl⟩, w2, ws2, rfl, ⟨za, hza, rfl⟩, hs⟩ := hs
  have hi := j_le hza hzb
  exact lv_icmp_le C.1 C.2.1 hd ht (fun q => kt (hi.mp q) p l e s m args below meth c C H _ ls _ hl (hs) hr hq hL) (fun q => kf (fun r => q (hi.mpr r)) p l e s m args below meth c C H _ ls _ hl (hs) hr hq hL)
theorem J_goto {off : Int} (tgt : Nat) (hd : decode y.2.1 pc = .ok (.goto off, 3)) (ht : (pc : Int) + off = (tgt : Int)) (k : J E y n0 n1 n (tgt) (L) (st) (μ) Q) : J E y n0 n1 n (pc) (L) (st) (μ) Q := by
  intro p l e s m args below meth c C H locs ls ws hl hs hr hq hL
  exact lv_goto C.1 C.2.1 hd ht (k p l e s m args below meth c C H _ ls _ hl (hs) hr hq hL)
theorem j_cmp {za zb : Int64} {a b : Int} (hza : za.toInt = a) (hzb : zb.toInt = b) : (lg_cmp za zb).toInt = if b < a then 1 else if a = b then 0 else -1 := by
  unfold lg_cmp
  simp only [gt_iff_lt, j_lt64 hzb hza, j_eq64 hza hzb]
  split
  · rfl
  · split <;> rfl
theorem J_lcmp {a b : Int} {r : Int} (hd : decode y.2.1 pc = .ok (.lcmp, 1)) (hx : (if b < a then 1 else if a = b then 0 else -1) = r) (k : J E y n0 n1 n (pc + 1) (L) (jvI r :: st) (μ) Q) : J E y n0 n1 n (pc) (L) (jvL b :: jvL a :: st) (μ) Q := by
  intro p l e s m args below meth c C H locs ls ws hl hs hr hq hL
  obtain ⟨w1, ws1, rfl, ⟨zb, hzb, rfl⟩, w2, ws2, rfl, ⟨za, hza, rfl⟩, hs⟩ := hs
  exact W.lcmp C.1 C.2.1 hd (k p l e s m args below meth c C H _ ls _ hl (⟨_, _, rfl, ⟨_, by rw [j_cmp hza hzb]; exact hx, rfl⟩, hs⟩) hr hq hL)
theorem J_lcmp_eq {a b : Int} {off : Int} (tgt : Nat) (hd : decode y.2.1 pc = .ok (.lcmp, 1)) (hd2 : decode y.2.1 (pc + 1) = .ok (.ifCond .eq off, 3)) (ht : ((pc + 1 : Nat) : Int) + off = (tgt : Int)) (kt : a = b → J E y n0 n1 n (tgt) (L) (st) (μ) Q) (kf : ¬ (a = b) → J E y n0 n1 n (pc + 4) (L) (st) (μ) Q) : J E y n0 n1 n (pc) (L) (jvL b :: jvL a :: st) (μ) Q := by
  refine J_lcmp hd rfl (J_if_eq tgt hd2 ht (fun h => kt ?_) (fun h => kf ?_))
  · split at h
    · omega
    · split at h <;> omega
  · split at h
    · omega
    · split at h <;> omega
theorem J_lcmp_ne {a b : Int} {off : Int} (tgt : Nat) (hd : decode y.2.1 pc = .ok (.lcmp, 1)) (hd2 : decode y.2.1 (pc + 1) = .ok (.ifCond .ne off, 3)) (ht : ((pc + 1 : Nat) : Int) + off = (tgt : Int)) (kt : ¬ a = b → J E y n0 n1 n (tgt) (L) (st) (μ) Q) (kf : a = b → J E y n0 n1 n (pc + 4) (L) (st) (μ) Q) : J E y n0 n1 n (pc) (L) (jvL b :: jvL a :: st) (μ) Q := by
  refine J_lcmp hd rfl (J_if_ne tgt hd2 ht (fun h => kt ?_) (fun h => kf ?_))
  · split at h
    · omega
    · split at h <;> omega
  · split at h
    · omega
    · split at h <;> omega
theorem J_lcmp_lt {a b : Int} {off : Int} (tgt : Nat) (hd : decode y.2.1 pc = .ok (.lcmp, 1)) (hd2 : decode y.2.1 (pc + 1) = .ok (.ifCond .lt off, 3)) (ht : ((pc + 1 : Nat) : Int) + off = (tgt : Int)) (kt : a < b → J E y n0 n1 n (tgt) (L) (st) (μ) Q) (kf : ¬ (a < b) → J E y n0 n1 n (pc + 4) (L) (st) (μ) Q) : J E y n0 n1 n (pc) (L) (jvL b :: jvL a :: st) (μ) Q := by
  refine J_lcmp hd rfl (J_if_lt tgt hd2 ht (fun h => kt ?_) (fun h => kf ?_))
  · split at h
    · omega
    · split at h <;> omega
  · split at h
    · omega
    · split at h <;> omega
theorem J_lcmp_ge {a b : Int} {off : Int} (tgt : Nat) (hd : decode y.2.1 pc = .ok (.lcmp, 1)) (hd2 : decode y.2.1 (pc + 1) = .ok (.ifCond .ge off, 3)) (ht : ((pc + 1 : Nat) : Int) + off = (tgt : Int)) (kt : b ≤ a → J E y n0 n1 n (tgt) (L) (st) (μ) Q) (kf : ¬ (b ≤ a) → J E y n0 n1 n (pc + 4) (L) (st) (μ) Q) : J E y n0 n1 n (pc) (L) (jvL b :: jvL a :: st) (μ) Q := by
  refine J_lcmp hd rfl (J_if_ge tgt hd2 ht (fun h => kt ?_) (fun h => kf ?_))
  · split at h
    · omega
    · split at h <;> omega
  · split at h
    · omega
    · split at h <;> omega
theorem J_lcmp_gt {a b : Int} {off : Int} (tgt : Nat) (hd : decode y.2.1 pc = .ok (.lcmp, 1)) (hd2 : decode y.2.1 (pc + 1) = .ok (.ifCond .gt off, 3)) (ht : ((pc + 1 : Nat) : Int) + off = (tgt : Int)) (kt : b < a → J E y n0 n1 n (tgt) (L) (st) (μ) Q) (kf : ¬ (b < a) → J E y n0 n1 n (pc + 4) (L) (st) (μ) Q) : J E y n0 n1 n (pc) (L) (jvL b :: jvL a :: st) (μ) Q := by
  refine J_lcmp hd rfl (J_if_gt tgt hd2 ht (fun h => kt ?_) (fun h => kf ?_))
  · split at h
    · omega
    · split at h <;> omega
  · split at h
    · omega
    · split at h <;> omega
theorem J_lcmp_le {a b : Int} {off : Int} (tgt : Nat) (hd : decode y.2.1 pc = .ok (.lcmp, 1)) (hd2 : decode y.2.1 (pc + 1) = .ok (.ifCond .le off, 3)) (ht : ((pc + 1 : Nat) : Int) + off = (tgt : Int)) (kt : a ≤ b → J E y n0 n1 n (tgt) (L) (st) (μ) Q) (kf : ¬ (a ≤ b) → J E y n0 n1 n (pc + 4) (L) (st) (μ) Q) : J E y n0 n1 n (pc) (L) (jvL b :: jvL a :: st) (μ) Q := by
  refine J_lcmp hd rfl (J_if_le tgt hd2 ht (fun h => kt ?_) (fun h => kf ?_))
  · split at h
    · omega
    · split at h <;> omega
  · split at h
    · omega
    · split at h <;> omega
theorem J_table {a : Int} {dflt lo hi : Int} {offs : Array Int} {len : Nat} (hd : decode y.2.1 pc = .ok (.tableswitch dflt lo hi offs, len)) (kin : ∀ (i : Nat), i < offs.size → a = lo + i → ∃ (off : Int) (tgt : Nat), offs[i]? = some off ∧ (pc : Int) + off = (tgt : Int) ∧ J E y n0 n1 n (tgt) (L) (st) (μ) Q) (hsz : lo + (offs.size : Int) = hi + 1) (tgt : Nat) (ht : (pc : Int) + dflt = (tgt : Int)) (kout : a < lo ∨ hi < a → J E y n0 n1 n (tgt) (L) (st) (μ) Q) : J E y n0 n1 n (pc) (L) (jvI a :: st) (μ) Q := by
  intro p l e s m args below meth c C H locs ls ws hl hs hr hq hL
  obtain ⟨w1, ws1, rfl, ⟨za, hza, rfl⟩, hs⟩ := hs
  by_cases h : a < lo ∨ hi < a
  · exact lv_tableOut C.1 C.2.1 hd (by rw [hza]; exact h) ht (kout h p l e s m args below meth c C H _ ls _ hl (hs) hr hq hL)
  · obtain ⟨off, tgt2, h1, h2, h3⟩ := kin (a - lo).toNat (by omega) (by omega)
    exact lv_tableIn C.1 C.2.1 hd (by rw [hza]; omega) (by rw [hza]; omega) (by rw [hza]; exact h1) h2 (h3 p l e s m args below meth c C H _ ls _ hl (hs) hr hq hL)
theorem J_lookup {a : Int} {dflt : Int} {ps : Array (Int × Int)} {len : Nat} (hd : decode y.2.1 pc = .ok (.lookupswitch dflt ps, len)) (hp : (ps.toList.zip (ps.toList.drop 1)).all (fun (a, next) => a.1 < next.1) = true) (k : ∃ (tgt : Nat), (pc : Int) + Op.lookupswitch.offset ps.toList dflt a = (tgt : Int) ∧ J E y n0 n1 n (tgt) (L) (st) (μ) Q) : J E y n0 n1 n (pc) (L) (jvI a :: st) (μ) Q := by
  intro p l e s m args below meth c C H locs ls ws hl hs hr hq hL
  obtain ⟨w1, ws1, rfl, ⟨za, hza, rfl⟩, hs⟩ := hs
  obtain ⟨tgt, h1, k⟩ := k
  exact lv_lookup C.1 C.2.1 hd hp rfl (by rw [hza]; exact h1) (k p l e s m args below meth c C H _ ls _ hl (hs) hr hq hL)
end JJ
