/-! heap, returns, calls -/
def j_up (μ : jMu) (i : Nat) (k : Int) (x : Int) : jMu := fun a b => if a = i ∧ b = k then x else μ a b
theorem j_up_ne {μ : jMu} {i : Nat} {k : Int} {x : Int} {a : Nat} (h : a ≠ i) : j_up μ i k x a = μ a := by
  funext b
  simp [j_up, h]
theorem j_up_at (μ : jMu) (i : Nat) (k : Int) (x : Int) (b : Int) : j_up μ i k x i b = if b = k then x else μ i b := by
  simp [j_up]
theorem j_rep.set {E : jE} {n : Nat} {μ : jMu} {s : State} {H H1 : Heap} {i : Nat} {k : Int} {x : Int} {c : (FieldType × Nat) ⊕ Nat} {cell : Cell} (h : j_rep E n μ s H) (hc : jCt[i]? = some c) (e1 : H1[E.1 + i]? = some cell) (e2 : H1.size = H.size) (e3 : ∀ q, q ≠ E.1 + i → H1[q]? = H[q]?) (hv : cell.vm = .none)
    (hcell : j_cell E s c (fun b => if b = k then x else μ i b) cell) : j_rep E n (j_up μ i k x) s H1 := by
  obtain ⟨h1, h2, h3, h4⟩ := h
  refine ⟨e2.trans h1, h2, h3.kept (e3 _ (by omega)), fun a ha => ?_⟩
  by_cases hai : a = i
  · subst hai
    refine ⟨c, cell, hc, e1, hv, ?_⟩
    rw [show j_up μ a k x a = fun b => if b = k then x else μ a b from funext (j_up_at μ a k x)]
    exact hcell
  · obtain ⟨c', cell', a1, a2, a3, a4⟩ := h4 a ha
    rw [j_up_ne hai]
    exact ⟨c', cell', a1, by rw [e3 _ (by omega)]; exact a2, a3, a4⟩
theorem j_arrset {E : jE} {s : State} {ty : FieldType} {len k : Nat} {f : Int → Int} {x : Int} {cell : Cell} {w : Value} (h : j_cell E s (.inl (ty, len)) f cell) (hk : k < len) (hw : j_v E (j_av ty x) w) : j_cell E s (.inl (ty, len)) (fun b => if b = (k : Int) then x else f b) (cell.setSlot k w) := by
  obtain ⟨h1, h2, h3⟩ := h
  refine ⟨h1, by rw [k2_slotsz]; exact h2, fun j hj => ?_⟩
  by_cases hjk : j = k
  · subst hjk
    exact ⟨w, by rw [show (fun b => if b = (j : Int) then x else f b) (j : Int) = x from if_pos rfl]; exact hw, Cell.slots_setSlot_self _ (by omega)⟩
  · obtain ⟨w', a1, a2⟩ := h3 j hj
    exact ⟨w', by rw [show (fun b => if b = (k : Int) then x else f b) (j : Int) = f j from if_neg (by omega)]; exact a1, by rw [slot_ne _ _ (Ne.symm hjk)]; exact a2⟩
theorem j_get {E : jE} {n : Nat} {μ : jMu} {s : State} {H : Heap} {i : Nat} {c : (FieldType × Nat) ⊕ Nat} (h : j_rep E n μ s H) (hi : i < n) (hc : jCt[i]? = some c) : ∃ cell, H[E.1 + i]? = some cell ∧ cell.vm = .none ∧ j_cell E s c (μ i) cell := by
  obtain ⟨c', cell, a1, a2, a3, a4⟩ := h.2.2.2 i hi
  rw [hc] at a1
  cases a1
  exact ⟨cell, a2, a3, a4⟩
/-- a row of the pool: the field k of class ci -/
def j_fl (own : String) (idx ci k : Nat) : Prop := ∃ q : vw_C, jCl[ci]? = some q ∧ k < q.2.2 ∧ Cond.fieldLink own idx (q.2.1 k).1 (q.2.1 k).2.1 (q.2.1 k).2.2.1 ∈ lw_tbg
theorem j_N {ci : Nat} {q : vw_C} (h : jCl[ci]? = some q) : jN ci = q.2.2 := by unfold jN; rw [h]
def j_fok (ty : FieldType) (x : Int) : Prop := match ty with
  | .boolean => x = 0 ∨ x = 1
  | .int => True
  | .long => True
  | .object _ => True
  | .array _ => True
  | _ => False
theorem j_bool {z : Int32} {x : Int} (h : z.toInt = x) (hx : x = 0 ∨ x = 1) : z = 0 ∨ z = 1 := by
  rcases hx with hx | hx
  · exact Or.inl ((j_eq h (u := 0) rfl).mpr hx)
  · exact Or.inr ((j_eq h (u := 1) rfl).mpr hx)
theorem j_fit {E : jE} {ty : FieldType} {x : Int} {w : Value} (h : j_v E (j_av ty x) w) (hx : j_fok ty x) : narrow ty w = w ∧ fits ty w = true := by
  cases ty with
  | boolean =>
    obtain ⟨z, hz, rfl⟩ := h
    rcases j_bool hz hx with rfl | rfl <;> exact ⟨rfl, rfl⟩
  | int =>
    obtain ⟨z, hz, rfl⟩ := h
    exact ⟨rfl, rfl⟩
  | long =>
    obtain ⟨z, hz, rfl⟩ := h
    exact ⟨rfl, rfl⟩
  | object a =>
    have h : w = j_rv E x := h
    rw [h]
    rcases j_rv_or E x with ⟨u, hu⟩ | hu <;> rw [hu] <;> exact ⟨rfl, rfl⟩
  | array a =>
    have h : w = j_rv E x := h
    rw [h]
    rcases j_rv_or E x with ⟨u, hu⟩ | hu <;> rw [hu] <;> exact ⟨rfl, rfl⟩
  | byte => exact hx.elim
  | char => exact hx.elim
  | short => exact hx.elim
  | float => exact hx.elim
  | double => exact hx.elim
section JH
variable {E : jE} {y : jMt} {n0 n1 n pc : Nat} {L : List (Option AV)} {st : List AV} {μ : jMu} {Q : Option AV → jMu → Prop}
theorem J_getf {idx : Nat} (ci kf i : Nat) {kz : Int} {a : Int} (v : AV) (hd : decode y.2.1 pc = .ok (.getfield idx, 3)) (hf : j_fl y.1.cls idx ci kf) (ha : a = (i : Int)) (hc : jCt[i]? = some (.inr ci)) (hn : i < n) (hkz : (kf : Int) = kz) (hv : j_av (jty ci kf) (μ i kz) = v) (k : J E y n0 n1 n (pc + 3) (L) (v :: st) (μ) Q) : J E y n0 n1 n (pc) (L) (jvR a :: st) (μ) Q := by
  intro p l e s m args below meth c C H locs ls ws hl hs hr hq hL
  obtain ⟨w, ws, rfl, hw, hs⟩ := hs
  rw [j_ref hw i ha]
  obtain ⟨q, hq0, hk, hlink⟩ := hf
  obtain ⟨cell, q1, q3, q2, q4⟩ := j_get hr hn hc
  obtain ⟨hty, hnm, hin⟩ := jty_ok ci q hq0
  obtain ⟨hS, hfc, kC, hkC, hkind⟩ := C.2.2.2.2.2.2.1.1 ci q hq0
  obtain ⟨cf, kfl, fi, f, hi, hsl⟩ := hS _ hk
  obtain ⟨wv, hwv, hslot⟩ := q4 _ (by rw [j_N hq0]; exact hk)
  rw [hkz, hv] at hwv
  refine W.getf C.1 C.2.1 C.2.2.2.2.1 (C.2.2.2.2.2.1 _ hlink) hi (u_facts hfc hkC (u_lays C.2.2.2.2.2.1 hin hk) hi).1 q1 (by rw [q3]; exact fun h => by cases h) (v := wv) (by rw [hsl]; exact hslot) rfl rfl hd ?_
  exact k p l e s m args below meth c C H _ ls _ hl (⟨_, _, rfl, hwv, hs⟩) hr hq hL
theorem j_objset {E : jE} {s : State} {args : Array Value} {ci k : Nat} {q : vw_C} {f : Int → Int} {x : Int} {cell : Cell} {w : Value} (hts : ∀ w ∈ lw_tbg, w.before args s = true) (hK : j_kn E s) (hq : jCl[ci]? = some q) (h : j_cell E s (.inr ci) f cell) (hk : k < q.2.2) (hw : j_v E (j_av (jty ci k) x) w) : j_cell E s (.inr ci) (fun b => if b = (k : Int) then x else f b) (cell.setSlot (E.2.2.2.2.2 ci k) w) := by
  obtain ⟨h1, h3⟩ := h
  obtain ⟨hty, hnm, hin⟩ := jty_ok ci q hq
  obtain ⟨hS, hfc, kC, hkC, hkind⟩ := hK.1 ci q hq
  rw [j_N hq] at h3
  have hap : ∀ x y, x < q.2.2 → y < q.2.2 → x ≠ y → E.2.2.2.2.2 ci x ≠ E.2.2.2.2.2 ci y := by
    intro x y hx hy hne
    obtain ⟨_, _, _, fa, hia, ea⟩ := hS x hx
    obtain ⟨_, _, _, fb, hib, eb⟩ := hS y hy
    rw [← ea, ← eb]
    refine u_apart (u_lays hts hin hx) (u_lays hts hin hy) hia hib ?_
    rw [(State.fieldFound?_type hia (hty x hx)).1, (State.fieldFound?_type hib (hty y hy)).1]
    exact hnm x hx y hy hne
  refine ⟨h1, fun j hj => ?_⟩
  rw [j_N hq] at hj
  by_cases hjk : j = k
  · subst hjk
    obtain ⟨w', -, a2⟩ := h3 j hj
    exact ⟨w, by rw [show (fun b => if b = (j : Int) then x else f b) (j : Int) = x from if_pos rfl]; exact hw, Cell.slots_setSlot_self _ (k2_hasslot a2)⟩
  · obtain ⟨w', a1, a2⟩ := h3 j hj
    exact ⟨w', by rw [show (fun b => if b = (k : Int) then x else f b) (j : Int) = f j from if_neg (by omega)]; exact a1, by rw [slot_ne _ _ (hap k j hk hj (Ne.symm hjk))]; exact a2⟩
theorem j_lays {s : State} {args : Array Value} {q : vw_C} {k : Nat} (hts : ∀ w ∈ lw_tbg, w.before args s = true) (hin : ∀ w ∈ u_ws q.1 q.2.1 q.2.2, w ∈ lw_tbg) (hk : k < q.2.2) (hf : (q.2.1 k).2.2.2 = false) : (Cond.lays q.1 (q.2.1 k).1 (q.2.1 k).2.1 (q.2.1 k).2.2.1).before args s = true := by
  have h := hts _ (hin _ (u_in_lay hk))
  unfold u_lay at h
  rw [if_neg (by rw [hf]; decide)] at h
  exact h
theorem j_laysF {s : State} {args : Array Value} {q : vw_C} {k : Nat} (hts : ∀ w ∈ lw_tbg, w.before args s = true) (hin : ∀ w ∈ u_ws q.1 q.2.1 q.2.2, w ∈ lw_tbg) (hk : k < q.2.2) (hf : (q.2.1 k).2.2.2 = true) : (Cond.laysFinal q.1 (q.2.1 k).1 (q.2.1 k).2.1 (q.2.1 k).2.2.1).before args s = true := by
  have h := hts _ (hin _ (u_in_lay hk))
  unfold u_lay at h
  rw [if_pos hf] at h
  exact h
/-- whether a field is final, by its class and place -/
def j_fin (ci k : Nat) : Bool := match jCl[ci]? with
  | some q => (q.2.1 k).2.2.2
  | none => true
theorem J_putf {idx : Nat} (ci kf i : Nat) {kz : Int} {a x : Int} {v : AV} (hd : decode y.2.1 pc = .ok (.putfield idx, 3)) (hf : j_fl y.1.cls idx ci kf) (ha : a = (i : Int)) (hc : jCt[i]? = some (.inr ci)) (hn : i < n) (hfin : j_fin ci kf = false) (hkz : (kf : Int) = kz) (hv : j_av (jty ci kf) x = v) (hok : j_fok (jty ci kf) x) (k : J E y n0 n1 n (pc + 3) (L) (st) (j_up μ i kz x) Q) : J E y n0 n1 n (pc) (L) (v :: jvR a :: st) (μ) Q := by
  intro p l e s m args below meth c C H locs ls ws hl hs hr hq hL
  obtain ⟨w, ws, rfl, hw, w2, ws2, rfl, hw2, hs⟩ := hs
  rw [j_ref hw2 i ha]
  obtain ⟨q, hq0, hk, hlink⟩ := hf
  obtain ⟨cell, q1, q3, q5⟩ := j_get hr hn hc
  have q2 := q5.1
  have q4 := q5.2
  obtain ⟨hty, hnm, hin⟩ := jty_ok ci q hq0
  obtain ⟨hS, hfc, kC, hkC, hkind⟩ := C.2.2.2.2.2.2.1.1 ci q hq0
  obtain ⟨cf, kfl, fi, f, hi, hsl⟩ := hS _ hk
  obtain ⟨wv, hwv, hslot⟩ := q4 _ (by rw [j_N hq0]; exact hk)
  have hfin2 : (q.2.1 kf).2.2.2 = false := by unfold j_fin at hfin; rw [hq0] at hfin; exact hfin
  have hlay := j_lays C.2.2.2.2.2.1 hin hk hfin2
  rw [← hv] at hw
  obtain ⟨hnr, hft⟩ := j_fit hw hok
  have h6 := u_store hfc hkC hkind hlay hi (hty _ hk) hnr hft
  refine W.putK C.1 C.2.1 (f := f) ⟨C.2.2.2.2.1, C.2.2.2.2.2.1 _ hlink, ⟨_, _, _, hi⟩, (u_facts hfc hkC (u_lays C.2.2.2.2.2.1 hin hk) hi).1⟩ (by rw [q2]; exact h6) q1 q3 (by rw [hsl]; exact k2_hasslot hslot) rfl rfl hd fun H1 e1 e2 e3 => ?_
  rw [hsl] at e1 ⊢
  have hr2 := hr.set (k := kz) hc e1 e2 e3 q3 (by rw [← hkz]; exact j_objset C.2.2.2.2.2.1 C.2.2.2.2.2.2.1 hq0 q5 hk hw)
  exact k p l e s m args below meth c C H1 _ ls _ hl (hs) hr2 (fun z hz => by rcases List.mem_append.mp hz with h | h; exact hq z h; rw [List.mem_singleton] at h; subst h; exact Nat.le_add_right _ _) hL
theorem J_putF {idx : Nat} (ci kf i : Nat) {kz : Int} {a x : Int} {v : AV} (hd : decode y.2.1 pc = .ok (.putfield idx, 3)) (hf : j_fl y.1.cls idx ci kf) (ha : a = (i : Int)) (hc : jCt[i]? = some (.inr ci)) (hn : i < n) (hfin : j_fin ci kf = true) (hown : ∀ q, jCl[ci]? = some q → (q.2.1 kf).1 = y.1.cls) (hin2 : y.1.name = "<init>") (hkz : (kf : Int) = kz) (hv : j_av (jty ci kf) x = v) (hok : j_fok (jty ci kf) x) (k : J E y n0 n1 n (pc + 3) (L) (st) (j_up μ i kz x) Q) : J E y n0 n1 n (pc) (L) (v :: jvR a :: st) (μ) Q := by
  intro p l e s m args below meth c C H locs ls ws hl hs hr hq hL
  obtain ⟨w, ws, rfl, hw, w2, ws2, rfl, hw2, hs⟩ := hs
  rw [j_ref hw2 i ha]
  obtain ⟨q, hq0, hk, hlink⟩ := hf
  obtain ⟨cell, q1, q3, q5⟩ := j_get hr hn hc
  have q2 := q5.1
  have q4 := q5.2
  obtain ⟨hty, hnm, hin⟩ := jty_ok ci q hq0
  obtain ⟨hS, hfc, kC, hkC, hkind⟩ := C.2.2.2.2.2.2.1.1 ci q hq0
  obtain ⟨cf, kfl, fi, f, hi, hsl⟩ := hS _ hk
  obtain ⟨wv, hwv, hslot⟩ := q4 _ (by rw [j_N hq0]; exact hk)
  have hfin2 : (q.2.1 kf).2.2.2 = true := by unfold j_fin at hfin; rw [hq0] at hfin; exact hfin
  have hlay := j_laysF C.2.2.2.2.2.1 hin hk hfin2
  rw [← hv] at hw
  obtain ⟨hnr, hft⟩ := j_fit hw hok
  have hcf : m.cls = cf := by
    obtain ⟨_, _, c', _, _, _, -, -, hf', -, -, -, hown2, -⟩ := Cond.laysFinal_spec hlay
    have e1 : c' = cf := by have := hi.symm.trans hf'; simp at this; exact this.1.symm
    rw [hown q hq0] at hown2
    rw [← e1]; exact Option.some.inj (C.2.2.2.2.1.symm.trans hown2)
  have h6 := u_fits hfc hkC hkind (Or.inr hlay) hi (hty _ hk) hnr hft
  refine W.putFinK C.1 C.2.1 C.2.2.2.2.1 (C.2.2.2.2.2.1 _ hlink) hi (u_facts hfc hkC (u_lays C.2.2.2.2.2.1 hin hk) hi).1 hcf ((C.2.2.2.2.2.2.2.2 hin2).trans hin2) (by rw [q2]; exact h6) q1 q3 (by rw [hsl]; exact k2_hasslot hslot) rfl rfl hd fun H1 e1 e2 e3 => ?_
  rw [hsl] at e1 ⊢
  have hr2 := hr.set (k := kz) hc e1 e2 e3 q3 (by rw [← hkz]; exact j_objset C.2.2.2.2.2.1 C.2.2.2.2.2.2.1 hq0 q5 hk hw)
  exact k p l e s m args below meth c C H1 _ ls _ hl (hs) hr2 (fun z hz => by rcases List.mem_append.mp hz with h | h; exact hq z h; rw [List.mem_singleton] at h; subst h; exact Nat.le_add_right _ _) hL
theorem J_iald (i len : Nat) {a j : Int} (hd : decode y.2.1 pc = .ok (.iaload, 1)) (ha : a = (i : Int)) (hc : jCt[i]? = some (.inl (.int, len))) (hn : i < n) (hj : 0 ≤ j ∧ j < (len : Int)) (k : J E y n0 n1 n (pc + 1) (L) (jvI (μ i j) :: st) (μ) Q) : J E y n0 n1 n (pc) (L) (jvI j :: jvR a :: st) (μ) Q := by
  intro p l e s m args below meth c C H locs ls ws hl hs hr hq hL
  obtain ⟨w, ws, rfl, ⟨z, hz, rfl⟩, w2, ws2, rfl, hw2, hs⟩ := hs
  rw [j_ref hw2 i ha]
  obtain ⟨cell, q1, q3, q4, q5, q6⟩ := j_get hr hn hc
  obtain ⟨wv, hwv, hslot⟩ := q6 j.toNat (by omega)
  rw [Int.toNat_of_nonneg hj.1] at hwv
  refine W.iald C.1 C.2.1 q1 q4 (by rw [q3]; exact fun h => by cases h) (by rw [j_nat hz, j_lt hz (u := 0) rfl, q5]; have h0 : (0 : Int32).toInt = 0 := rfl; omega) (v := wv) (by rw [j_nat hz]; exact hslot) rfl rfl hd ?_
  exact k p l e s m args below meth c C H _ ls _ hl (⟨_, _, rfl, hwv, hs⟩) hr hq hL
theorem J_lald (i len : Nat) {a j : Int} (hd : decode y.2.1 pc = .ok (.laload, 1)) (ha : a = (i : Int)) (hc : jCt[i]? = some (.inl (.long, len))) (hn : i < n) (hj : 0 ≤ j ∧ j < (len : Int)) (k : J E y n0 n1 n (pc + 1) (L) (jvL (μ i j) :: st) (μ) Q) : J E y n0 n1 n (pc) (L) (jvI j :: jvR a :: st) (μ) Q := by
  intro p l e s m args below meth c C H locs ls ws hl hs hr hq hL
  obtain ⟨w, ws, rfl, ⟨z, hz, rfl⟩, w2, ws2, rfl, hw2, hs⟩ := hs
  rw [j_ref hw2 i ha]
  obtain ⟨cell, q1, q3, q4, q5, q6⟩ := j_get hr hn hc
  obtain ⟨wv, hwv, hslot⟩ := q6 j.toNat (by omega)
  rw [Int.toNat_of_nonneg hj.1] at hwv
  refine W.lald C.1 C.2.1 q1 q4 (by rw [q3]; exact fun h => by cases h) (by rw [j_nat hz, j_lt hz (u := 0) rfl, q5]; have h0 : (0 : Int32).toInt = 0 := rfl; omega) (v := wv) (by rw [j_nat hz]; exact hslot) rfl rfl hd ?_
  exact k p l e s m args below meth c C H _ ls _ hl (⟨_, _, rfl, hwv, hs⟩) hr hq hL
theorem J_bald (i len : Nat) {a j : Int} (hd : decode y.2.1 pc = .ok (.baload, 1)) (ha : a = (i : Int)) (hc : jCt[i]? = some (.inl (.byte, len))) (hn : i < n) (hj : 0 ≤ j ∧ j < (len : Int)) (k : J E y n0 n1 n (pc + 1) (L) (jvI (μ i j) :: st) (μ) Q) : J E y n0 n1 n (pc) (L) (jvI j :: jvR a :: st) (μ) Q := by
  intro p l e s m args below meth c C H locs ls ws hl hs hr hq hL
  obtain ⟨w, ws, rfl, ⟨z, hz, rfl⟩, w2, ws2, rfl, hw2, hs⟩ := hs
  rw [j_ref hw2 i ha]
  obtain ⟨cell, q1, q3, q4, q5, q6⟩ := j_get hr hn hc
  obtain ⟨wv, hwv, hslot⟩ := q6 j.toNat (by omega)
  rw [Int.toNat_of_nonneg hj.1] at hwv
  refine W.bald C.1 C.2.1 q1 q4 (by rw [q3]; exact fun h => by cases h) (by rw [j_nat hz, j_lt hz (u := 0) rfl, q5]; have h0 : (0 : Int32).toInt = 0 := rfl; omega) (v := wv) (by rw [j_nat hz]; exact hslot) rfl rfl hd ?_
  exact k p l e s m args below meth c C H _ ls _ hl (⟨_, _, rfl, hwv, hs⟩) hr hq hL
theorem J_zald (i len : Nat) {a j : Int} (hd : decode y.2.1 pc = .ok (.baload, 1)) (ha : a = (i : Int)) (hc : jCt[i]? = some (.inl (.boolean, len))) (hn : i < n) (hj : 0 ≤ j ∧ j < (len : Int)) (k : J E y n0 n1 n (pc + 1) (L) (jvI (μ i j) :: st) (μ) Q) : J E y n0 n1 n (pc) (L) (jvI j :: jvR a :: st) (μ) Q := by
  intro p l e s m args below meth c C H locs ls ws hl hs hr hq hL
  obtain ⟨w, ws, rfl, ⟨z, hz, rfl⟩, w2, ws2, rfl, hw2, hs⟩ := hs
  rw [j_ref hw2 i ha]
  obtain ⟨cell, q1, q3, q4, q5, q6⟩ := j_get hr hn hc
  obtain ⟨wv, hwv, hslot⟩ := q6 j.toNat (by omega)
  rw [Int.toNat_of_nonneg hj.1] at hwv
  refine W.zald C.1 C.2.1 q1 q4 (by rw [q3]; exact fun h => by cases h) (by rw [j_nat hz, j_lt hz (u := 0) rfl, q5]; have h0 : (0 : Int32).toInt = 0 := rfl; omega) (v := wv) (by rw [j_nat hz]; exact hslot) rfl rfl hd ?_
  exact k p l e s m args below meth c C H _ ls _ hl (⟨_, _, rfl, hwv, hs⟩) hr hq hL
theorem J_cald (i len : Nat) {a j : Int} (hd : decode y.2.1 pc = .ok (.caload, 1)) (ha : a = (i : Int)) (hc : jCt[i]? = some (.inl (.char, len))) (hn : i < n) (hj : 0 ≤ j ∧ j < (len : Int)) (k : J E y n0 n1 n (pc + 1) (L) (jvI (μ i j) :: st) (μ) Q) : J E y n0 n1 n (pc) (L) (jvI j :: jvR a :: st) (μ) Q := by
  intro p l e s m args below meth c C H locs ls ws hl hs hr hq hL
  obtain ⟨w, ws, rfl, ⟨z, hz, rfl⟩, w2, ws2, rfl, hw2, hs⟩ := hs
  rw [j_ref hw2 i ha]
  obtain ⟨cell, q1, q3, q4, q5, q6⟩ := j_get hr hn hc
  obtain ⟨wv, hwv, hslot⟩ := q6 j.toNat (by omega)
  rw [Int.toNat_of_nonneg hj.1] at hwv
  refine W.cald C.1 C.2.1 q1 q4 (by rw [q3]; exact fun h => by cases h) (by rw [j_nat hz, j_lt hz (u := 0) rfl, q5]; have h0 : (0 : Int32).toInt = 0 := rfl; omega) (v := wv) (by rw [j_nat hz]; exact hslot) rfl rfl hd ?_
  exact k p l e s m args below meth c C H _ ls _ hl (⟨_, _, rfl, hwv, hs⟩) hr hq hL
theorem J_iast (i len : Nat) {a j x : Int} (hd : decode y.2.1 pc = .ok (.iastore, 1)) (ha : a = (i : Int)) (hc : jCt[i]? = some (.inl (.int, len))) (hn : i < n) (hj : 0 ≤ j ∧ j < (len : Int)) (k : J E y n0 n1 n (pc + 1) (L) (st) (j_up μ i j (x)) Q) : J E y n0 n1 n (pc) (L) (jvI x :: jvI j :: jvR a :: st) (μ) Q := by
  intro p l e s m args below meth c C H locs ls ws hl hs hr hq hL
  obtain ⟨w0, ws0, rfl, ⟨zx, hzx, rfl⟩, w, ws, rfl, ⟨z, hz, rfl⟩, w2, ws2, rfl, hw2, hs⟩ := hs
  rw [j_ref hw2 i ha]
  obtain ⟨cell, q1, q3, q4⟩ := j_get hr hn hc
  refine W.iast C.1 C.2.1 q1 q4.1 (by rw [q3]; exact fun h => by cases h) (by rw [j_nat hz, j_lt hz (u := 0) rfl, q4.2.1]; have h0 : (0 : Int32).toInt = 0 := rfl; omega) rfl rfl hd fun H1 e1 e2 e3 => ?_
  rw [j_nat hz] at e1 ⊢
  have hr2 := hr.set (k := ((j.toNat : Nat) : Int)) hc e1 e2 e3 q3 (j_arrset q4 (by omega) (x := x) ⟨zx, hzx, rfl⟩)
  rw [Int.toNat_of_nonneg hj.1] at hr2
  exact k p l e s m args below meth c C H1 _ ls _ hl (hs) hr2 (fun z hz => by rcases List.mem_append.mp hz with h | h; exact hq z h; rw [List.mem_singleton] at h; subst h; exact Nat.le_add_right _ _) hL
theorem J_last (i len : Nat) {a j x : Int} (hd : decode y.2.1 pc = .ok (.lastore, 1)) (ha : a = (i : Int)) (hc : jCt[i]? = some (.inl (.long, len))) (hn : i < n) (hj : 0 ≤ j ∧ j < (len : Int)) (k : J E y n0 n1 n (pc + 1) (L) (st) (j_up μ i j (x)) Q) : J E y n0 n1 n (pc) (L) (jvL x :: jvI j :: jvR a :: st) (μ) Q := by
  intro p l e s m args below meth c C H locs ls ws hl hs hr hq hL
  obtain ⟨w0, ws0, rfl, ⟨zx, hzx, rfl⟩, w, ws, rfl, ⟨z, hz, rfl⟩, w2, ws2, rfl, hw2, hs⟩ := hs
  rw [j_ref hw2 i ha]
  obtain ⟨cell, q1, q3, q4⟩ := j_get hr hn hc
  refine W.last C.1 C.2.1 q1 q4.1 (by rw [q3]; exact fun h => by cases h) (by rw [j_nat hz, j_lt hz (u := 0) rfl, q4.2.1]; have h0 : (0 : Int32).toInt = 0 := rfl; omega) rfl rfl hd fun H1 e1 e2 e3 => ?_
  rw [j_nat hz] at e1 ⊢
  have hr2 := hr.set (k := ((j.toNat : Nat) : Int)) hc e1 e2 e3 q3 (j_arrset q4 (by omega) (x := x) ⟨zx, hzx, rfl⟩)
  rw [Int.toNat_of_nonneg hj.1] at hr2
  exact k p l e s m args below meth c C H1 _ ls _ hl (hs) hr2 (fun z hz => by rcases List.mem_append.mp hz with h | h; exact hq z h; rw [List.mem_singleton] at h; subst h; exact Nat.le_add_right _ _) hL
theorem J_bast (i len : Nat) {a j x : Int} (hd : decode y.2.1 pc = .ok (.bastore, 1)) (ha : a = (i : Int)) (hc : jCt[i]? = some (.inl (.byte, len))) (hn : i < n) (hj : 0 ≤ j ∧ j < (len : Int)) (k : J E y n0 n1 n (pc + 1) (L) (st) (j_up μ i j (i2b32 x)) Q) : J E y n0 n1 n (pc) (L) (jvI x :: jvI j :: jvR a :: st) (μ) Q := by
  intro p l e s m args below meth c C H locs ls ws hl hs hr hq hL
  obtain ⟨w0, ws0, rfl, ⟨zx, hzx, rfl⟩, w, ws, rfl, ⟨z, hz, rfl⟩, w2, ws2, rfl, hw2, hs⟩ := hs
  rw [j_ref hw2 i ha]
  obtain ⟨cell, q1, q3, q4⟩ := j_get hr hn hc
  refine W.bast C.1 C.2.1 q1 q4.1 (by rw [q3]; exact fun h => by cases h) (by rw [j_nat hz, j_lt hz (u := 0) rfl, q4.2.1]; have h0 : (0 : Int32).toInt = 0 := rfl; omega) rfl rfl hd fun H1 e1 e2 e3 => ?_
  rw [j_nat hz] at e1 ⊢
  have hr2 := hr.set (k := ((j.toNat : Nat) : Int)) hc e1 e2 e3 q3 (j_arrset q4 (by omega) (x := i2b32 x) ⟨_, by unfold i2b32; rw [j_o32 hzx], rfl⟩)
  rw [Int.toNat_of_nonneg hj.1] at hr2
  exact k p l e s m args below meth c C H1 _ ls _ hl (hs) hr2 (fun z hz => by rcases List.mem_append.mp hz with h | h; exact hq z h; rw [List.mem_singleton] at h; subst h; exact Nat.le_add_right _ _) hL
theorem J_zast (i len : Nat) {a j x : Int} (hd : decode y.2.1 pc = .ok (.bastore, 1)) (ha : a = (i : Int)) (hc : jCt[i]? = some (.inl (.boolean, len))) (hn : i < n) (hj : 0 ≤ j ∧ j < (len : Int)) (hx : x = 0 ∨ x = 1) (k : J E y n0 n1 n (pc + 1) (L) (st) (j_up μ i j (x)) Q) : J E y n0 n1 n (pc) (L) (jvI x :: jvI j :: jvR a :: st) (μ) Q := by
  intro p l e s m args below meth c C H locs ls ws hl hs hr hq hL
  obtain ⟨w0, ws0, rfl, ⟨zx, hzx, rfl⟩, w, ws, rfl, ⟨z, hz, rfl⟩, w2, ws2, rfl, hw2, hs⟩ := hs
  rw [j_ref hw2 i ha]
  obtain ⟨cell, q1, q3, q4⟩ := j_get hr hn hc
  refine W.zast C.1 C.2.1 q1 q4.1 (by rw [q3]; exact fun h => by cases h) (by rw [j_nat hz, j_lt hz (u := 0) rfl, q4.2.1]; have h0 : (0 : Int32).toInt = 0 := rfl; omega) rfl rfl hd fun H1 e1 e2 e3 => ?_
  rw [j_nat hz] at e1 ⊢
  have hr2 := hr.set (k := ((j.toNat : Nat) : Int)) hc e1 e2 e3 q3 (j_arrset q4 (by omega) (x := x) ⟨zx &&& 1, by rcases j_bool hzx hx with rfl | rfl <;> exact hzx, rfl⟩)
  rw [Int.toNat_of_nonneg hj.1] at hr2
  exact k p l e s m args below meth c C H1 _ ls _ hl (hs) hr2 (fun z hz => by rcases List.mem_append.mp hz with h | h; exact hq z h; rw [List.mem_singleton] at h; subst h; exact Nat.le_add_right _ _) hL
theorem J_cast (i len : Nat) {a j x : Int} (hd : decode y.2.1 pc = .ok (.castore, 1)) (ha : a = (i : Int)) (hc : jCt[i]? = some (.inl (.char, len))) (hn : i < n) (hj : 0 ≤ j ∧ j < (len : Int)) (hx : ((Int32.ofInt x).toUInt32.toUInt16.toUInt32.toInt32).toInt = x) (k : J E y n0 n1 n (pc + 1) (L) (st) (j_up μ i j (x)) Q) : J E y n0 n1 n (pc) (L) (jvI x :: jvI j :: jvR a :: st) (μ) Q := by
  intro p l e s m args below meth c C H locs ls ws hl hs hr hq hL
  obtain ⟨w0, ws0, rfl, ⟨zx, hzx, rfl⟩, w, ws, rfl, ⟨z, hz, rfl⟩, w2, ws2, rfl, hw2, hs⟩ := hs
  rw [j_ref hw2 i ha]
  obtain ⟨cell, q1, q3, q4⟩ := j_get hr hn hc
  refine W.cast C.1 C.2.1 q1 q4.1 (by rw [q3]; exact fun h => by cases h) (by rw [j_nat hz, j_lt hz (u := 0) rfl, q4.2.1]; have h0 : (0 : Int32).toInt = 0 := rfl; omega) rfl rfl hd fun H1 e1 e2 e3 => ?_
  rw [j_nat hz] at e1 ⊢
  have hr2 := hr.set (k := ((j.toNat : Nat) : Int)) hc e1 e2 e3 q3 (j_arrset q4 (by omega) (x := x) ⟨_, by rw [j_o32 hzx] at hx; exact hx, rfl⟩)
  rw [Int.toNat_of_nonneg hj.1] at hr2
  exact k p l e s m args below meth c C H1 _ ls _ hl (hs) hr2 (fun z hz => by rcases List.mem_append.mp hz with h | h; exact hq z h; rw [List.mem_singleton] at h; subst h; exact Nat.le_add_right _ _) hL
theorem J_sald {j : Int} (hd : decode y.2.1 pc = .ok (.iaload, 1)) (hj : 0 ≤ j ∧ j < (E.2.2.1 : Int)) (k : J E y n0 n1 n (pc + 1) (L) (jvI (E.2.2.2.1 j.toNat).toInt :: st) (μ) Q) : J E y n0 n1 n (pc) (L) (jvI j :: jvR (-2) :: st) (μ) Q := by
  intro p l e s m args below meth c C H locs ls ws hl hs hr hq hL
  obtain ⟨w, ws, rfl, ⟨z, hz, rfl⟩, w2, ws2, rfl, hw2, hs⟩ := hs
  have hw2 : w2 = .ref E.2.1 := hw2
  subst hw2
  obtain ⟨scr, h1, h2, h3, h4, h5⟩ := hr.2.2.1
  refine W.iald (v := .int (E.2.2.2.1 j.toNat)) C.1 C.2.1 h1 h2 h3 (by rw [j_nat hz, j_lt hz (u := 0) rfl, h4]; have h0 : (0 : Int32).toInt = 0 := rfl; omega) (by rw [j_nat hz]; exact h5 _ (by omega)) rfl rfl hd ?_
  exact k p l e s m args below meth c C H _ ls _ hl (⟨_, _, rfl, ⟨_, rfl, rfl⟩, hs⟩) hr hq hL
theorem J_slen (hd : decode y.2.1 pc = .ok (.arraylength, 1)) (hs : E.2.2.1 ≤ 3072) (k : J E y n0 n1 n (pc + 1) (L) (jvI (E.2.2.1 : Int) :: st) (μ) Q) : J E y n0 n1 n (pc) (L) (jvR (-2) :: st) (μ) Q := by
  intro p l e s m args below meth c C H locs ls ws hl hs9 hr hq hL
  obtain ⟨w2, ws2, rfl, hw2, hs9⟩ := hs9
  have hw2 : w2 = .ref E.2.1 := hw2
  subst hw2
  obtain ⟨scr, h1, h2, h3, h4, h5⟩ := hr.2.2.1
  refine W.alen (n := Int32.ofNat E.2.2.1) C.1 C.2.1 h1 h2 (by rw [h4]) rfl rfl hd ?_
  exact k p l e s m args below meth c C H _ ls _ hl (⟨_, _, rfl, ⟨_, Int32.toInt_ofNat_of_lt (by omega), rfl⟩, hs9⟩) hr hq hL
theorem J_alen (i len : Nat) (ty : FieldType) {a : Int} (hd : decode y.2.1 pc = .ok (.arraylength, 1)) (ha : a = (i : Int)) (hc : jCt[i]? = some (.inl (ty, len))) (hn : i < n) (hl9 : len < 2147483648) (k : J E y n0 n1 n (pc + 1) (L) (jvI (len : Int) :: st) (μ) Q) : J E y n0 n1 n (pc) (L) (jvR a :: st) (μ) Q := by
  intro p l e s m args below meth c C H locs ls ws hl hs hr hq hL
  obtain ⟨w2, ws2, rfl, hw2, hs⟩ := hs
  rw [j_ref hw2 i ha]
  obtain ⟨cell, q1, q3, q4, q5, q6⟩ := j_get hr hn hc
  refine W.alen (n := Int32.ofNat len) C.1 C.2.1 q1 q4 (by rw [q5]) rfl rfl hd ?_
  exact k p l e s m args below meth c C H _ ls _ hl (⟨_, _, rfl, ⟨_, Int32.toInt_ofNat_of_lt hl9, rfl⟩, hs⟩) hr hq hL
theorem J_iret {x : Int} (hd : decode y.2.1 pc = .ok (.ireturn, 1)) (hrt : y.2.2.2.1 = some .int ∨ (y.2.2.2.1 = some .boolean ∧ (x = 0 ∨ x = 1))) (hn : n = n1) (k : Q (some (jvI x)) μ) : J E y n0 n1 n (pc) (L) ([jvI x]) (μ) Q := by
  intro p l e s m args below meth c C H locs ls ws hl hs hr hq hL
  obtain ⟨w, ws, rfl, ⟨z, hz, rfl⟩, rfl⟩ := hs
  subst hn
  have hq2 : ∀ t : State, t.heap = H → s.WarmedH t.vm → j_q E n Q args s (.returned (some (.int z))) t := fun t ht hW => ⟨some (jvI x), μ, _, rfl, ⟨z, hz, rfl⟩, k, by rw [ht]; exact hr.moved hW.alike⟩
  rcases hrt with h | ⟨h, hx⟩
  · exact W.iret C.1 C.2.1 (C.2.2.1.trans h) hq2 hq hd C.2.2.2.2.2.2.2.1
  · exact W.zret C.1 C.2.1 (C.2.2.1.trans h) (by rcases j_bool hz hx with rfl | rfl <;> rfl) hq2 hq hd C.2.2.2.2.2.2.2.1
theorem J_lret {x : Int} (hd : decode y.2.1 pc = .ok (.lreturn, 1)) (hrt : y.2.2.2.1 = some .long) (hn : n = n1) (k : Q (some (jvL x)) μ) : J E y n0 n1 n (pc) (L) ([jvL x]) (μ) Q := by
  intro p l e s m args below meth c C H locs ls ws hl hs hr hq hL
  obtain ⟨w, ws, rfl, ⟨z, hz, rfl⟩, rfl⟩ := hs
  subst hn
  exact W.lret C.1 C.2.1 (C.2.2.1.trans hrt) (fun t ht hW => ⟨some (jvL x), μ, _, rfl, ⟨z, hz, rfl⟩, k, by rw [ht]; exact hr.moved hW.alike⟩) hq hd C.2.2.2.2.2.2.2.1
theorem J_vret (hd : decode y.2.1 pc = .ok (.return_, 1)) (hrt : y.2.2.2.1 = none) (hn : n = n1) (k : Q none μ) : J E y n0 n1 n (pc) (L) ([]) (μ) Q := by
  intro p l e s m args below meth c C H locs ls ws hl hs hr hq hL
  have hs : ws = [] := hs
  subst hs
  subst hn
  exact W.vret C.1 C.2.1 (C.2.2.1.trans hrt) (fun t ht hW => ⟨none, μ, _, rfl, trivial, k, by rw [ht]; exact hr.moved hW.alike⟩) hq hd C.2.2.2.2.2.2.2.1
end JH
