/-! the judgement J over the kit's W: a method at a place, its locals, its stack, the memory as numbers -/
abbrev AV : Type := Int ⊕ (Int ⊕ Int)
abbrev jvI (x : Int) : AV := .inl x
abbrev jvL (x : Int) : AV := .inr (.inl x)
abbrev jvR (a : Int) : AV := .inr (.inr a)
abbrev jMu : Type := Nat → Int → Int
/-- base of the cells, the script's cell, its length, its ints, the classes' numbers, the fields' slots -/
abbrev jE : Type := Nat × Nat × Nat × (Nat → Int32) × (Nat → ClassId) × (Nat → Nat → Nat)
/-- a method: its name, bytes, locals, what it returns, frames and words of its room -/
abbrev jMt : Type := MethodName × ByteArray × Nat × Option FieldType × Nat × Nat
def j_rv (E : jE) (a : Int) : Value := if 0 ≤ a then .ref (E.1 + a.toNat) else if a = -1 then .null else .ref E.2.1
def j_v (E : jE) (v : AV) (w : Value) : Prop := match v with
  | .inl x => ∃ z : Int32, z.toInt = x ∧ w = .int z
  | .inr (.inl x) => ∃ z : Int64, z.toInt = x ∧ w = .long z
  | .inr (.inr a) => w = j_rv E a
def j_ov (E : jE) (v : Option AV) (w : Option Value) : Prop := match v, w with
  | none, none => True
  | some v, some w => j_v E v w
  | _, _ => False
def j_st (E : jE) : List AV → List Value → Prop
  | [], ws => ws = []
  | v :: vs, ws => ∃ w ws', ws = w :: ws' ∧ j_v E v w ∧ j_st E vs ws'
def j_ls (E : jE) (ls : Array Slot) (L : List (Option AV)) : Prop := ls.size = L.length ∧ lv_wf ls ∧ ∀ (i : Nat) (v : AV), L[i]? = some (some v) → ∃ w, j_v E v w ∧ ls[i]? = some (.val w)
/-- a number as a field or an element of that type holds it -/
def j_av (ty : FieldType) (x : Int) : AV := match ty with
  | .long => jvL x
  | .object _ => jvR x
  | .array _ => jvR x
  | _ => jvI x
def j_cell (E : jE) (s : State) (c : (FieldType × Nat) ⊕ Nat) (f : Int → Int) (cell : Cell) : Prop := match c with
  | .inl (ty, len) => s.isArrayOf cell ty ∧ cell.slots.size = len ∧ ∀ j, j < len → ∃ w, j_v E (j_av ty (f (j : Int))) w ∧ cell.slots[j]? = some w
  | .inr ci => cell.cls = E.2.2.2.2.1 ci ∧ ∀ k, k < jN ci → ∃ w, j_v E (j_av (jty ci k) (f (k : Int))) w ∧ cell.slots[E.2.2.2.2.2 ci k]? = some w
/-- the heap holds the memory: n cells from the base on, as the layout has them; and the script -/
def j_rep (E : jE) (n : Nat) (μ : jMu) (s : State) (H : Heap) : Prop := H.size = E.1 + n ∧ E.2.1 < E.1 ∧ va_X E.2.1 E.2.2.1 E.2.2.2.1 s H ∧
  ∀ i, i < n → ∃ c cell, jCt[i]? = some c ∧ H[E.1 + i]? = some cell ∧ cell.vm = .none ∧ j_cell E s c (μ i) cell
def j_nst (s : State) : Prop := ∀ (own : String) (idx : Nat) (z : MethodName) (host : String), Cond.methodLinkNest own idx z host ∈ lw_tbl → va_Nw (.methodLinkNest own idx z host) s
def j_kn (E : jE) (s : State) : Prop := (∀ (ci : Nat) (q : vw_C), jCl[ci]? = some q → u_Kn s q.1 q.2.1 q.2.2 (E.2.2.2.2.1 ci) (E.2.2.2.2.2 ci)) ∧ j_nst s
def j_cx (E : jE) (y : jMt) (p : Program) (s : State) (m : MethodId) (args : Array Value) (meth : Method) (c : Code) : Prop :=
  p.tables.exec = Jvm.exec ∧ c.code = y.2.1 ∧ meth.sig.returnType = y.2.2.2.1 ∧ c.maxLocals = y.2.2.1 ∧ s.vm.findClass y.1.cls = some m.cls ∧ (∀ w ∈ lw_tbg, w.before args s = true) ∧ j_kn E s ∧ meth.locks = false ∧ (y.1.name = "<init>" → meth.name = y.1.name)
def j_rm (y : jMt) (n0 n1 : Nat) : Room := { frames := y.2.2.2.2.1, cells := n1 - n0, slots := jSum n1 - jSum n0, locals := y.2.2.2.2.2 }
def j_q (E : jE) (n1 : Nat) (Q : Option AV → jMu → Prop) : Array Value → State → Outcome → State → Prop := fun _ _ o t => ∃ (v : Option AV) (μ : jMu) (w : Option Value), o = .returned w ∧ j_ov E v w ∧ Q v μ ∧ j_rep E n1 μ t t.heap
def J (E : jE) (y : jMt) (n0 n1 n : Nat) (pc : Nat) (L : List (Option AV)) (st : List AV) (μ : jMu) (Q : Option AV → jMu → Prop) : Prop :=
  ∀ (p : Program) (l : Launch) (e : Env) (s : State) (m : MethodId) (args : Array Value) (below : List Frame) (meth : Method) (c : Code), j_cx E y p s m args meth c →
  ∀ (H : Heap) (locs : List Loc) (ls : Array Slot) (ws : List Value), j_ls E ls L → j_st E st ws → j_rep E n μ s H → (∀ q ∈ locs, E.1 ≤ q.base) → L.length = y.2.2.1 →
    W p l e (j_rm y n0 n1) s m args below meth c H locs (n - n0) (jSum n - jSum n0) (MQ below (j_q E n1 Q) args s (n1 - n0) (jSum n1 - jSum n0) (fun q => E.1 ≤ q)) (F0 m pc ls ws)
def w32 (x : Int) : Int := x.bmod 4294967296
def w64 (x : Int) : Int := x.bmod 18446744073709551616
theorem j_rep.moved {E : jE} {n : Nat} {μ : jMu} {u U : State} {H : Heap} (hvm : u.vm.Alike U.vm) (h : j_rep E n μ u H) : j_rep E n μ U H := by
  obtain ⟨h1, h2, h3, h4⟩ := h
  refine ⟨h1, h2, h3.moved hvm, fun i hi => ?_⟩
  obtain ⟨c, cell, a1, a2, a3, a4⟩ := h4 i hi
  refine ⟨c, cell, a1, a2, a3, ?_⟩
  cases c with
  | inl x => exact ⟨State.isArrayOf_alike hvm a4.1, a4.2⟩
  | inr x => exact a4
theorem j_kn.moved {E : jE} {u U : State} (hW : u.WarmedH U.vm) (h : j_kn E u) : j_kn E U := ⟨fun ci q hq => u_Kn_moved hW.alike (h.1 ci q hq), fun own idx z host hm => (h.2 own idx z host hm).warmM hW⟩
theorem j_kn.same {E : jE} {u U : State} (hvm : u.vm = U.vm) (h : j_kn E u) : j_kn E U := ⟨fun ci q hq => u_Kn_moved (by rw [hvm]; exact Vm.Alike.refl _) (h.1 ci q hq), fun own idx z host hm => (h.2 own idx z host hm).same rfl hvm⟩
theorem j_cat1 {E : jE} {v : AV} {w : Value} (h : j_v E v w) (hv : ∀ x, v ≠ jvL x) : w.category = 1 := by
  match v, h with
  | .inl x, ⟨z, _, e⟩ => subst e; rfl
  | .inr (.inl x), _ => exact absurd rfl (hv x)
  | .inr (.inr a), e =>
    have e : w = j_rv E a := e
    rw [e]
    unfold j_rv
    split
    · rfl
    · split <;> rfl
theorem j_cat2 {E : jE} {x : Int} {w : Value} (h : j_v E (jvL x) w) : w.category = 2 := by
  obtain ⟨z, _, rfl⟩ := h
  rfl
theorem j_ref {E : jE} {a : Int} {w : Value} (h : j_v E (jvR a) w) (i : Nat) (ha : a = (i : Int)) : w = .ref (E.1 + i) := by
  have h : w = j_rv E a := h
  rw [h, ha]
  unfold j_rv
  rw [if_pos (by omega)]
  simp
/-- a value in the locals -/
theorem j_lget {E : jE} {ls : Array Slot} {L : List (Option AV)} (h : j_ls E ls L) {i : Nat} {v : AV} (hi : L[i]? = some (some v)) : ∃ w, j_v E v w ∧ ls[i]? = some (.val w) := h.2.2 i v hi
/-- is the entry a value of two slots? -/
def j_two (o : Option (Option AV)) : Bool := match o with
  | some (some (.inr (.inl _))) => true
  | _ => false
def j_kill (L : List (Option AV)) (i : Nat) : List (Option AV) := match i with
  | 0 => L
  | k + 1 => if j_two L[k]? = true then L.set k none else L
def j_sto1 (L : List (Option AV)) (i : Nat) (v : AV) : List (Option AV) := (j_kill L i).set i (some v)
def j_sto2 (L : List (Option AV)) (i : Nat) (v : AV) : List (Option AV) := ((j_kill L i).set i (some v)).set (i + 1) none
theorem j_kill_len (L : List (Option AV)) (i : Nat) : (j_kill L i).length = L.length := by
  unfold j_kill
  split
  · rfl
  · split <;> simp
theorem j_sto1_len (L : List (Option AV)) (i : Nat) (v : AV) : (j_sto1 L i v).length = L.length := by simp [j_sto1, j_kill_len]
theorem j_sto2_len (L : List (Option AV)) (i : Nat) (v : AV) : (j_sto2 L i v).length = L.length := by simp [j_sto2, j_kill_len]
theorem j_kill_get {L : List (Option AV)} {i j : Nat} {v : AV} (h : (j_kill L i)[j]? = some (some v)) : L[j]? = some (some v) ∧ ¬ (j + 1 = i ∧ ∃ x, v = jvL x) := by
  unfold j_kill at h
  split at h
  · exact ⟨h, fun q => by omega⟩
  · rename_i k
    split at h
    · rename_i hk
      by_cases hjk : k = j
      · subst hjk
        rw [List.getElem?_set] at h
        simp at h
      · rw [List.getElem?_set_ne hjk] at h
        exact ⟨h, fun q => by omega⟩
    · rename_i hk
      refine ⟨h, fun q => ?_⟩
      obtain ⟨q1, x, q2⟩ := q
      have : j = k := by omega
      subst this
      subst q2
      rw [h] at hk
      exact hk rfl
theorem j_cat_eq {E : jE} {v : AV} {w : Value} (h : j_v E v w) (hc : w.category = 2) : ∃ x, v = jvL x := by
  match v, h with
  | .inl x, h => rw [j_cat1 (v := .inl x) h (fun y => by simp)] at hc; cases hc
  | .inr (.inl x), _ => exact ⟨x, rfl⟩
  | .inr (.inr a), h => rw [j_cat1 (v := .inr (.inr a)) h (fun y => by simp)] at hc; cases hc
theorem j_store1 {E : jE} {ls : Array Slot} {L : List (Option AV)} {i : Nat} {v : AV} {w : Value} (h : j_ls E ls L) (hi : i < L.length) (hv : j_v E v w) (hc : w.category = 1) : ∃ ls', storeLocals ls i w = some ls' ∧ j_ls E ls' (j_sto1 L i v) := by
  obtain ⟨h1, h2, h3⟩ := h
  obtain ⟨ls', e', g1, g2, g3⟩ := lv_store1 (l := []) (v := w) ⟨h1, h2, fun q hq => by cases hq⟩ hi hc
  refine ⟨ls', e', by rw [g1, j_sto1_len], g2, fun j u hj => ?_⟩
  unfold j_sto1 at hj
  by_cases hji : i = j
  · subst hji
    rw [List.getElem?_set] at hj
    simp only [if_true, j_kill_len, hi] at hj
    cases hj
    exact ⟨w, hv, g3 (i, w) List.mem_cons_self⟩
  · rw [List.getElem?_set_ne hji] at hj
    obtain ⟨k1, k2⟩ := j_kill_get hj
    obtain ⟨w', hw', hl'⟩ := h3 j u k1
    obtain ⟨ls2, e2, -, -, g4⟩ := lv_store1 (l := [(j, w')]) (v := w) ⟨h1, h2, fun q hq => by rw [List.mem_singleton] at hq; subst hq; exact hl'⟩ hi hc
    rw [e'] at e2
    cases e2
    refine ⟨w', hw', g4 (j, w') (List.mem_cons_of_mem _ (List.mem_filter.mpr ⟨List.mem_singleton.mpr rfl, ?_⟩))⟩
    by_cases hjj : j + 1 = i
    · have hcc : ¬ w'.category = 2 := fun q => k2 ⟨hjj, j_cat_eq hw' q⟩
      simp [hcc, Ne.symm hji]
    · simp [hjj, Ne.symm hji]
theorem j_store2 {E : jE} {ls : Array Slot} {L : List (Option AV)} {i : Nat} {v : AV} {w : Value} (h : j_ls E ls L) (hi : i + 1 < L.length) (hv : j_v E v w) (hc : w.category = 2) : ∃ ls', storeLocals ls i w = some ls' ∧ j_ls E ls' (j_sto2 L i v) := by
  obtain ⟨h1, h2, h3⟩ := h
  obtain ⟨ls', e', g1, g2, g3⟩ := lv_store2 (l := []) (v := w) ⟨h1, h2, fun q hq => by cases hq⟩ hi hc
  refine ⟨ls', e', by rw [g1, j_sto2_len], g2, fun j u hj => ?_⟩
  unfold j_sto2 at hj
  by_cases hj1 : i + 1 = j
  · subst hj1
    rw [List.getElem?_set] at hj
    simp at hj
  · rw [List.getElem?_set_ne hj1] at hj
    by_cases hji : i = j
    · subst hji
      rw [List.getElem?_set] at hj
      simp only [if_true, j_kill_len, show i < L.length by omega] at hj
      cases hj
      exact ⟨w, hv, g3 (i, w) List.mem_cons_self⟩
    · rw [List.getElem?_set_ne hji] at hj
      obtain ⟨k1, k2⟩ := j_kill_get hj
      obtain ⟨w', hw', hl'⟩ := h3 j u k1
      obtain ⟨ls2, e2, -, -, g4⟩ := lv_store2 (l := [(j, w')]) (v := w) ⟨h1, h2, fun q hq => by rw [List.mem_singleton] at hq; subst hq; exact hl'⟩ hi hc
      rw [e'] at e2
      cases e2
      refine ⟨w', hw', g4 (j, w') (List.mem_cons_of_mem _ (List.mem_filter.mpr ⟨List.mem_singleton.mpr rfl, ?_⟩))⟩
      by_cases hjj : j + 1 = i
      · have hcc : ¬ w'.category = 2 := fun q => k2 ⟨hjj, j_cat_eq hw' q⟩
        simp [hcc, Ne.symm hji, Ne.symm hj1]
      · simp [hjj, Ne.symm hji, Ne.symm hj1]
/-- the locals at a method's entry -/
def j_en : List AV → List (Option AV)
  | [] => []
  | .inr (.inl x) :: vs => some (jvL x) :: none :: j_en vs
  | v :: vs => some v :: j_en vs
theorem j_en_args {E : jE} : ∀ (vs : List AV) (ws : List Value) (o i : Nat) (v : AV), j_st E vs ws → (j_en vs)[i]? = some (some v) → ∃ w, j_v E v w ∧ (o + i, w) ∈ lv_args o ws
  | [], ws, o, i, v, _, h => by simp [j_en] at h
  | .inr (.inl x) :: vs, ws, o, i, v, hs, h => by
    obtain ⟨w, ws', rfl, hw, hs'⟩ := hs
    have hc := j_cat2 hw
    unfold lv_args
    rw [if_pos hc]
    match i, h with
    | 0, h =>
      simp [j_en] at h
      subst h
      exact ⟨w, hw, by simp⟩
    | 1, h => simp [j_en] at h
    | i + 2, h =>
      simp [j_en] at h
      obtain ⟨w2, h2, h3⟩ := j_en_args vs ws' (o + 2) i v hs' h
      exact ⟨w2, h2, List.mem_cons_of_mem _ (by rw [show o + (i + 2) = o + 2 + i by omega]; exact h3)⟩
  | .inl x :: vs, ws, o, i, v, hs, h => by
    obtain ⟨w, ws', rfl, hw, hs'⟩ := hs
    have hc := j_cat1 hw (fun y => by simp)
    unfold lv_args
    rw [if_neg (by omega)]
    match i, h with
    | 0, h =>
      simp [j_en] at h
      subst h
      exact ⟨w, hw, by simp⟩
    | i + 1, h =>
      simp [j_en] at h
      obtain ⟨w2, h2, h3⟩ := j_en_args vs ws' (o + 1) i v hs' h
      exact ⟨w2, h2, List.mem_cons_of_mem _ (by rw [show o + (i + 1) = o + 1 + i by omega]; exact h3)⟩
  | .inr (.inr x) :: vs, ws, o, i, v, hs, h => by
    obtain ⟨w, ws', rfl, hw, hs'⟩ := hs
    have hc := j_cat1 hw (fun y => by simp)
    unfold lv_args
    rw [if_neg (by omega)]
    match i, h with
    | 0, h =>
      simp [j_en] at h
      subst h
      exact ⟨w, hw, by simp⟩
    | i + 1, h =>
      simp [j_en] at h
      obtain ⟨w2, h2, h3⟩ := j_en_args vs ws' (o + 1) i v hs' h
      exact ⟨w2, h2, List.mem_cons_of_mem _ (by rw [show o + (i + 1) = o + 1 + i by omega]; exact h3)⟩
theorem j_sl_cons (w : Value) (ws : List Value) : (lg_sl (w :: ws)).length = (if w.category = 2 then 2 else 1) + (lg_sl ws).length := by
  have e : lg_sl (w :: ws) = (if w.category = 2 then [Slot.val w, Slot.second] else [Slot.val w]) ++ lg_sl ws := by simp [lg_sl]
  rw [e, List.length_append]
  split <;> rfl
theorem j_en_len {E : jE} : ∀ (vs : List AV) (ws : List Value), j_st E vs ws → (lg_sl ws).length = (j_en vs).length
  | [], ws, h => by
    have h : ws = [] := h
    subst h
    rfl
  | .inr (.inl x) :: vs, ws, h => by
    obtain ⟨w, ws', rfl, hw, hs'⟩ := h
    rw [j_sl_cons, if_pos (j_cat2 hw), j_en_len vs ws' hs']
    simp [j_en]
    omega
  | .inl x :: vs, ws, h => by
    obtain ⟨w, ws', rfl, hw, hs'⟩ := h
    have hc := j_cat1 hw (fun y => by simp)
    rw [j_sl_cons, if_neg (by omega), j_en_len vs ws' hs']
    simp [j_en]
    omega
  | .inr (.inr x) :: vs, ws, h => by
    obtain ⟨w, ws', rfl, hw, hs'⟩ := h
    have hc := j_cat1 hw (fun y => by simp)
    rw [j_sl_cons, if_neg (by omega), j_en_len vs ws' hs']
    simp [j_en]
    omega
def j_ent (k : Nat) (vs : List AV) : List (Option AV) := j_en vs ++ List.replicate (k - (j_en vs).length) none
theorem j_entry {E : jE} {vs : List AV} {ws : List Value} {k : Nat} (h : j_st E vs ws) (hk : (j_en vs).length ≤ k) : j_ls E (lg_sl ws ++ List.replicate (k - (lg_sl ws).length) Slot.unset).toArray (j_ent k vs) ∧ (j_ent k vs).length = k := by
  have hl := j_en_len vs ws h
  have h0 := lv_entry ws (n := k) (by rw [hl]; exact hk)
  refine ⟨⟨?_, h0.2.1, fun i v hi => ?_⟩, ?_⟩
  · rw [h0.1]
    simp [j_ent]
    omega
  · unfold j_ent at hi
    by_cases hlt : i < (j_en vs).length
    · rw [List.getElem?_append_left hlt] at hi
      obtain ⟨w, h1, h2⟩ := j_en_args vs ws 0 i v h hi
      exact ⟨w, h1, h0.2.2 (i, w) (by simpa using h2)⟩
    · rw [List.getElem?_append_right (by omega), List.getElem?_replicate] at hi
      split at hi <;> cases hi
  · simp [j_ent]
    omega
