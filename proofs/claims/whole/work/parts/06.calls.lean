/-! new cells, calls -/
theorem j_sum_succ {n : Nat} {c : (FieldType × Nat) ⊕ Nat} (h : jCt[n]? = some c) : jSum (n + 1) = jSum n + jSz c := by
  unfold jSum
  rw [List.take_add_one, h]
  simp
theorem j_sum_le {a b : Nat} (h : a ≤ b) : jSum a ≤ jSum b := by
  obtain ⟨k, rfl⟩ := Nat.exists_eq_add_of_le h
  induction k with
  | zero => exact Nat.le_refl _
  | succ k ih =>
    refine Nat.le_trans (ih (by omega)) ?_
    rw [← Nat.add_assoc]
    cases hc : jCt[a + k]? with
    | none =>
      unfold jSum
      rw [List.take_add_one, hc]
      simp
    | some c =>
      rw [j_sum_succ hc]
      omega
def j_dv (ty : FieldType) : Int := match ty with
  | .object _ => -1
  | .array _ => -1
  | _ => 0
theorem j_def {E : jE} {ty : FieldType} (h : ty = .int ∨ ty = .long ∨ ty = .boolean ∨ ty = .byte ∨ ty = .char ∨ (∃ c, ty = .object c) ∨ ∃ c, ty = .array c) : j_v E (j_av ty (j_dv ty)) (defaultValue ty) := by
  rcases h with rfl | rfl | rfl | rfl | rfl | ⟨c, rfl⟩ | ⟨c, rfl⟩
  · exact ⟨0, rfl, rfl⟩
  · exact ⟨0, rfl, rfl⟩
  · exact ⟨0, rfl, rfl⟩
  · exact ⟨0, rfl, rfl⟩
  · exact ⟨0, rfl, rfl⟩
  · rfl
  · rfl
theorem j_rep.push {E : jE} {n : Nat} {μ : jMu} {s : State} {H H1 : Heap} {c : (FieldType × Nat) ⊕ Nat} {cell : Cell} (h : j_rep E n μ s H) (hc : jCt[n]? = some c) (e1 : H1[E.1 + n]? = some cell) (e2 : H1.size = E.1 + n + 1) (e3 : ∀ q, q < E.1 + n → H1[q]? = H[q]?) (hv : cell.vm = .none) (hcell : j_cell E s c (μ n) cell) : j_rep E (n + 1) μ s H1 := by
  obtain ⟨h1, h2, h3, h4⟩ := h
  refine ⟨by omega, h2, h3.kept (e3 _ (by omega)), fun a ha => ?_⟩
  by_cases hai : a = n
  · subst hai
    exact ⟨c, cell, hc, e1, hv, hcell⟩
  · obtain ⟨c', cell', a1, a2, a3, a4⟩ := h4 a (by omega)
    exact ⟨c', cell', a1, by rw [e3 _ (by omega)]; exact a2, a3, a4⟩
def j_plain (ty : FieldType) : Bool := match ty with
  | .int => true
  | .long => true
  | .boolean => true
  | .byte => true
  | .char => true
  | .object _ => true
  | .array _ => true
  | _ => false
theorem j_plain_or {ty : FieldType} (h : j_plain ty = true) : ty = .int ∨ ty = .long ∨ ty = .boolean ∨ ty = .byte ∨ ty = .char ∨ (∃ c, ty = .object c) ∨ ∃ c, ty = .array c := by
  cases ty <;> simp_all [j_plain]
theorem j_new0 : ∀ ci, ci < 13 → ∀ k, k < jN ci → j_plain (jty ci k) = true := by decide +kernel
def j_nw (own : String) (idx ci : Nat) : Prop := ∃ q : vw_C, jCl[ci]? = some q ∧ Cond.classLink own idx q.1 ∈ lw_tbg ∧ Cond.instantiable q.1 q.2.2 ∈ lw_tbg ∧ Cond.initialized q.1 ∈ lw_tbg
theorem lw_good : ∀ w ∈ lw_tbg, goodWord w = true := fun w h => (List.mem_filter.mp h).2
theorem j_good {y : jMt} (h : Cond.code y.1 y.2.1 y.2.2.1 y.2.2.2.1 ∈ lw_tbg) : GoodIn lw_tbg (Cond.code y.1 y.2.1 y.2.2.1 y.2.2.2.1 :: lw_tbg) := by
  intro w hw
  have hm : w ∈ lw_tbg := by
    rcases List.mem_cons.mp hw with rfl | h2
    · exact h
    · exact h2
  exact ⟨hm, good_of_word (lw_good w hm)⟩
theorem j_st_app {E : jE} : ∀ (xs zs : List AV) (ws : List Value), j_st E (xs ++ zs) ws → ∃ w1 w2, ws = w1 ++ w2 ∧ j_st E xs w1 ∧ j_st E zs w2
  | [], zs, ws, h => ⟨[], ws, rfl, rfl, h⟩
  | x :: xs, zs, ws, h => by
    obtain ⟨w, ws', rfl, hw, hs⟩ := h
    obtain ⟨w1, w2, rfl, h1, h2⟩ := j_st_app xs zs ws' hs
    exact ⟨w :: w1, w2, rfl, ⟨w, w1, rfl, hw, h1⟩, h2⟩
theorem j_st_join {E : jE} : ∀ (xs zs : List AV) (w1 w2 : List Value), j_st E xs w1 → j_st E zs w2 → j_st E (xs ++ zs) (w1 ++ w2)
  | [], zs, w1, w2, h1, h2 => by
    have h1 : w1 = [] := h1
    subst h1
    exact h2
  | x :: xs, zs, ws, w2, h1, h2 => by
    obtain ⟨w, ws', rfl, hw, hs⟩ := h1
    exact ⟨w, ws' ++ w2, rfl, hw, j_st_join xs zs ws' w2 hs h2⟩
theorem j_st_rev {E : jE} : ∀ (xs : List AV) (ws : List Value), j_st E xs ws → j_st E xs.reverse ws.reverse
  | [], ws, h => by
    have h : ws = [] := h
    subst h
    rfl
  | x :: xs, ws, h => by
    obtain ⟨w, ws', rfl, hw, hs⟩ := h
    rw [List.reverse_cons, List.reverse_cons]
    exact j_st_join _ _ _ _ (j_st_rev xs ws' hs) ⟨w, [], rfl, hw, rfl⟩
theorem j_st_len {E : jE} : ∀ (xs : List AV) (ws : List Value), j_st E xs ws → ws.length = xs.length
  | [], ws, h => by
    have h : ws = [] := h
    subst h
    rfl
  | x :: xs, ws, h => by
    obtain ⟨w, ws', rfl, hw, hs⟩ := h
    simp [j_st_len xs ws' hs]
def j_cats (xs : List AV) : Nat := (xs.map (fun v => match v with
  | .inr (.inl _) => 2
  | _ => 1)).sum
theorem j_cats_eq {E : jE} : ∀ (xs : List AV) (ws : List Value), j_st E xs ws → (ws.map fun v => v.category).sum = j_cats xs
  | [], ws, h => by
    have h : ws = [] := h
    subst h
    rfl
  | .inr (.inl x) :: xs, ws, h => by
    obtain ⟨w, ws', rfl, hw, hs⟩ := h
    have := j_cats_eq xs ws' hs
    have hc := j_cat2 hw
    unfold j_cats at this ⊢
    simp [hc, this]
  | .inl x :: xs, ws, h => by
    obtain ⟨w, ws', rfl, hw, hs⟩ := h
    have := j_cats_eq xs ws' hs
    have hc := j_cat1 hw (fun y => by simp)
    unfold j_cats at this ⊢
    simp [hc, this]
  | .inr (.inr x) :: xs, ws, h => by
    obtain ⟨w, ws', rfl, hw, hs⟩ := h
    have := j_cats_eq xs ws' hs
    have hc := j_cat1 hw (fun y => by simp)
    unfold j_cats at this ⊢
    simp [hc, this]
/-- a method's contract out of J at its entry -/
theorem J_met {E : jE} {y : jMt} {n n2 : Nat} {vs : List AV} {ws : List Value} {μ : jMu} {Q : Option AV → jMu → Prop} (h : J E y n n2 n 0 (j_ent y.2.2.1 vs) [] μ Q) (hlen : (j_en vs).length ≤ y.2.2.1) (hy : plainName y.1.cls = true) (hst : j_st E vs ws) (l : Launch) :
    Met l y.1 (Cond.code y.1 y.2.1 y.2.2.1 y.2.2.2.1 :: lw_tbg) (j_rm y n n2) (va_Pc ws (fun U => j_kn E U ∧ j_rep E n μ U U.heap)) (j_q E n2 Q) (n2 - n) (jSum n2 - jSum n) (fun q => E.1 ≤ q) := by
  refine Met.ofW (cc := y.2.1) (maxL := y.2.2.1) (ret := y.2.2.2.1) hy rfl ?_
  intro p e s m args below meth c s₁ B hml hv
  obtain ⟨rfl, hK, hP⟩ := hv
  have hts := atoms_spec (ws := Cond.code y.1 y.2.1 y.2.2.1 y.2.2.2.1 :: lw_tbg) B.pre
  rw [lg_entry_eq]
  obtain ⟨hls, hlen2⟩ := j_entry (k := y.2.2.1) hst hlen
  have k := h p l e s m ws.toArray below meth c ⟨B.exec, B.bytes, B.returns, hml, findClass_of_methodNamed B.named, fun w hw => hts w (List.mem_cons_of_mem _ hw), hK, B.notSynchronized, fun _ => (name_of_methodNamed B.named B.method).1⟩ s.heap [] _ [] hls rfl hP (fun q h => by cases h) hlen2
  rw [Nat.sub_self, Nat.sub_self] at k
  exact k
/-- what is fixed of a callee -/
def j_cal (y : jMt) (k : Nat) : Prop := Cond.initialized y.1.cls ∈ lw_tbg ∧ Cond.code y.1 y.2.1 y.2.2.1 y.2.2.2.1 ∈ lw_tbg ∧ plainName y.1.cls = true ∧ (y.1.cls ≠ "java/lang/invoke/MethodHandle" ∧ y.1.cls ≠ "java/lang/invoke/VarHandle") ∧ (parseMethodDescriptor y.1.desc).map (fun d => d.parameters.length) = some k
abbrev j_fit2 (y z : jMt) : Prop := z.2.2.2.2.1 + 1 ≤ y.2.2.2.2.1 ∧ 8 + (z.2.2.1 + 11) + z.2.2.2.2.2 ≤ y.2.2.2.2.2

section JC
variable {E : jE} {y : jMt} {n0 n1 n pc : Nat} {L : List (Option AV)} {st : List AV} {μ : jMu} {Q : Option AV → jMu → Prop}
theorem J_new {idx : Nat} (ci : Nat) (hd : decode y.2.1 pc = .ok (.new idx, 3)) (hf : j_nw y.1.cls idx ci) (hc : jCt[n]? = some (.inr ci)) (h0 : n0 ≤ n) (h1 : n < n1) (hμ : ∀ k : Nat, k < jN ci → μ n (k : Int) = j_dv (jty ci k)) (k : J E y n0 n1 (n + 1) (pc + 3) (L) (jvR (n : Int) :: st) (μ) Q) : J E y n0 n1 n (pc) (L) (st) (μ) Q := by
  intro p l e s m args below meth c C H locs ls ws hl hs hr hq hL
  obtain ⟨q, hq0, hlink, hinst, hini⟩ := hf
  obtain ⟨hty, hnm, hin⟩ := jty_ok ci q hq0
  have hKn := C.2.2.2.2.2.2.1.1 ci q hq0
  have hci : ci < 13 := (List.getElem?_eq_some_iff.mp hq0).1
  have hs1 := j_sum_succ hc
  have hsz : jSz (.inr ci) = q.2.2 := j_N hq0
  have hm1 := j_sum_le h0
  have hm2 := j_sum_le (show n + 1 ≤ n1 by omega)
  refine W.newcK C.1 C.2.1 C.2.2.2.2.1 (C.2.2.2.2.2.1 _ hlink) (C.2.2.2.2.2.1 _ hinst) (C.2.2.2.2.2.1 _ hini) rfl hd (by show n - n0 + 1 ≤ n1 - n0; omega) (by show jSum n - jSum n0 + q.2.2 ≤ jSum n1 - jSum n0; omega) hKn.2.1 hr.1 fun H1 kC hkC e1 e2 e3 => ?_
  obtain ⟨cell, b1, b2, b3, b4⟩ := u_born (jty ci) C.2.2.2.2.2.1 hin hKn hkC e1 hty
  have hr2 := hr.push hc b1 e2 e3 b3 ⟨b2, fun k hk => ⟨_, by rw [hμ k hk]; exact j_def (j_plain_or (j_new0 ci hci k hk)), b4 k (by rw [j_N hq0] at hk; exact hk)⟩⟩
  have k := k p l e s m args below meth c C H1 _ ls _ hl ((show j_st E (jvR (n : Int) :: st) (.ref (E.1 + n) :: ws) from ⟨_, _, rfl, by show _ = j_rv E n; simp [j_rv], hs⟩)) hr2 hq hL
  rw [show n + 1 - n0 = n - n0 + 1 by omega, show jSum (n + 1) - jSum n0 = jSum n - jSum n0 + q.2.2 by omega] at k
  exact k
theorem J_newa {at0 : ArrayType} (ty : FieldType) (len : Nat) {x : Int} (hd : decode y.2.1 pc = .ok (.newarray at0, 2)) (hty : newarray.typeOf at0 = ty) (hx : x = (len : Int)) (hl9 : len ≤ 65536) (hp : j_plain ty = true ∧ componentBytes ty ≤ 8) (hac : Cond.arrayClass ty ∈ lw_tbg) (hc : jCt[n]? = some (.inl (ty, len))) (h0 : n0 ≤ n) (h1 : n < n1) (hμ : ∀ k : Nat, k < len → μ n (k : Int) = j_dv ty) (k : J E y n0 n1 (n + 1) (pc + 2) (L) (jvR (n : Int) :: st) (μ) Q) : J E y n0 n1 n (pc) (L) (jvI x :: st) (μ) Q := by
  intro p l e s m args below meth c C H locs ls ws hl hs hr hq hL
  obtain ⟨w, ws, rfl, ⟨z, hz, rfl⟩, hs⟩ := hs
  subst hty
  have hs1 := j_sum_succ hc
  have hsz : jSz (.inl (newarray.typeOf at0, len)) = len := rfl
  have hm1 := j_sum_le h0
  have hm2 := j_sum_le (show n + 1 ≤ n1 by omega)
  have hzn : z.toNatClampNeg = len := by rw [j_nat hz, hx]; rfl
  refine va_newaK (N := len) C.1 C.2.1 (C.2.2.2.2.2.1 _ hac) rfl hd rfl (by rw [j_lt hz (u := 0) rfl]; have h0 : (0 : Int32).toInt = 0 := rfl; omega) hzn (by have := Nat.mul_le_mul hl9 hp.2; omega) (by show n - n0 + 1 ≤ n1 - n0; omega) (by show jSum n - jSum n0 + len ≤ jSum n1 - jSum n0; omega) hr.1 fun H1 cA e1 e2 e3 hAr hNm => ?_
  have hr2 := hr.push hc e1 e2 e3 rfl ⟨hAr _ _, arrV_size _ _ _, fun j hj => ⟨_, by rw [hμ j hj]; exact j_def (j_plain_or hp.1), arrV_read _ _ hj⟩⟩
  have k := k p l e s m args below meth c C H1 _ ls _ hl ((show j_st E (jvR (n : Int) :: st) (.ref (E.1 + n) :: ws) from ⟨_, _, rfl, by show _ = j_rv E n; simp [j_rv], hs⟩)) hr2 hq hL
  rw [show n + 1 - n0 = n - n0 + 1 by omega, show jSum (n + 1) - jSum n0 = jSum n - jSum n0 + len by omega] at k
  exact k
theorem J_obj {idx : Nat} {a : Int} (i : Nat) (hd : decode y.2.1 pc = .ok (.invokespecial idx, 3)) (hl9 : Cond.methodLink y.1.cls idx Lib.objectInit ∈ lw_tbg) (h1 : Cond.instanceMethod Lib.objectInit ∈ lw_tbg) (h2 : Cond.code Lib.objectInit ⟨#[0xb1]⟩ 1 none ∈ lw_tbg) (ha : a = (i : Int)) (hf : 1 ≤ y.2.2.2.2.1) (hlo : j_cats st + 12 ≤ y.2.2.2.2.2) (k : J E y n0 n1 n (pc + 3) (L) (st) (μ) Q) : J E y n0 n1 n (pc) (L) (jvR a :: st) (μ) Q := by
  intro p l e s m args below meth c C H locs ls ws hl hs hr hq hL
  obtain ⟨w, ws, rfl, hw, hs⟩ := hs
  rw [j_ref hw i ha]
  have hsz : ls.size = c.maxLocals := by rw [hl.1, hL, C.2.2.2.1]
  refine W.objInit C.1 C.2.1 C.2.2.2.2.1 (C.2.2.2.2.2.1 _ hl9) (C.2.2.2.2.2.1 _ h1) (C.2.2.2.2.2.1 _ h2) rfl hsz rfl hd hf (by rw [j_cats_eq _ _ hs]; show 2 * 0 + j_cats st + 12 ≤ y.2.2.2.2.2; omega) ?_
  exact k p l e s m args below meth c C H _ ls _ hl (hs) hr hq hL
theorem j_behind {z : jMt} {n2 mc ms : Nat} {rest : List AV} {wr : List Value} {p : Program} {l : Launch} {e : Env} {s : State} {m : MethodId} {args : Array Value} {below : List Frame} {meth : Method} {c : Code} {H : Heap} {locs : List Loc} {ls : Array Slot} {ws : List Value} {av : Array Value}
    (C : j_cx E y p s m args meth c) (hl : j_ls E ls L) (hq : ∀ q ∈ locs, E.1 ≤ q.base) (hL : L.length = y.2.2.1) (hwr : j_st E rest wr) (h0 : n0 ≤ n) (h2 : n ≤ n2) (hmc : mc = n2 - n) (hms : ms = jSum n2 - jSum n)
    (hrun : va_Run p l e (j_rm y n0 n1) s m args below meth c H locs (n - n0) (jSum n - jSum n0) mc ms (F0 m pc ls ws) wr (j_q E n2 (fun v μ1 => J E y n0 n1 n2 (pc + 3) L (v.toList ++ rest) μ1 Q) av) (fun q => E.1 ≤ q)) :
    W p l e (j_rm y n0 n1) s m args below meth c H locs (n - n0) (jSum n - jSum n0) (MQ below (j_q E n1 Q) args s (n1 - n0) (jSum n1 - jSum n0) (fun q => E.1 ≤ q)) (F0 m pc ls ws) := by
  intro T hT X
  obtain ⟨v, st₀, t, T', L2, e0, X', hL2, e1, e2, ⟨ov, μ1, w, ho, hov, hk, hrep⟩, hgo⟩ := hrun T hT X
  cases ho
  have hvm : s.vm.Alike t.vm := by rw [← e2]; exact X'.warmed.alike
  have hrep2 : j_rep E n2 μ1 s T'.heap := by rw [e1]; exact hrep.moved hvm.symm
  have hst2 : j_st E (ov.toList ++ rest) (v.toList ++ wr) := by
    cases ov with
    | none =>
      cases v with
      | none => exact hwr
      | some v => exact hov.elim
    | some o =>
      cases v with
      | none => exact hov.elim
      | some v => exact ⟨v, wr, rfl, hov, hwr⟩
  have k := hk p l e s m args below meth c C T'.heap (locs ++ L2) ls (v.toList ++ wr) hl hst2 hrep2 (fun q h => by rcases List.mem_append.mp h with h | h; exact hq q h; exact hL2 q h) hL
  have hm1 := j_sum_le h0
  have hm2 := j_sum_le h2
  rw [show n2 - n0 = n - n0 + mc by omega, show jSum n2 - jSum n0 = jSum n - jSum n0 + ms by omega] at k
  obtain ⟨t2, a1, b1⟩ := k T' rfl X'
  exact ⟨t2, hgo t2 a1, b1⟩
theorem j_blind {ws : List Value} : FrameBlind (va_Pc ws (fun U => j_kn E U ∧ j_rep E n μ U U.heap)) := by
  intro a U g mk h
  obtain ⟨h1, h2, h3⟩ := h
  exact ⟨h1, j_kn.same (u := U) (U := U.calling g mk a) rfl h2, j_rep.moved (u := U) (U := U.calling g mk a) (Vm.Alike.refl U.vm) h3⟩
theorem j_pre {vs : List Value} {s : State} {H : Heap} (hK : j_kn E s) (hr : j_rep E n μ s H) : PreS s H (va_Pc vs (fun U => j_kn E U ∧ j_rep E n μ U U.heap)) vs :=
  ⟨j_blind, fun U hU hW => ⟨rfl, hK.moved hW, by rw [hU]; exact hr.moved hW.alike⟩⟩
theorem j_CB {z : jMt} {n2 k idx : Nat} {s : State} {args : Array Value} (hts : ∀ w ∈ lw_tbg, w.before args s = true) (hz : j_cal z k) (hfit : j_fit2 y z) (hl : Cond.methodLink y.1.cls idx z.1 ∈ lw_tbg) :
    CallB (j_rm y n0 n1) s args y.1.cls idx z.1 z.2.1 z.2.2.1 z.2.2.2.1 (Cond.code z.1 z.2.1 z.2.2.1 z.2.2.2.1 :: lw_tbg) (j_rm z n n2) (n2 - n) (jSum n2 - jSum n) k :=
  ⟨rfl, rfl, hfit.1, hfit.2, pay_in hts (j_good hz.2.1), List.mem_cons_self, hts _ hz.2.1, hts _ hz.1, hz.2.2.2.1, fun sig h => by have h2 := hz.2.2.2.2; rw [h] at h2; exact (Option.some.inj h2).symm, hts _ hl⟩
theorem j_CN {z : jMt} {n2 k idx : Nat} {host : String} {s : State} {args : Array Value} (hts : ∀ w ∈ lw_tbg, w.before args s = true) (hK : j_kn E s) (hz : j_cal z k) (hfit : j_fit2 y z) (hl : Cond.methodLinkNest y.1.cls idx z.1 host ∈ lw_tbl) :
    va_CN (j_rm y n0 n1) s args y.1.cls idx z.1 host z.2.1 z.2.2.1 z.2.2.2.1 (Cond.code z.1 z.2.1 z.2.2.1 z.2.2.2.1 :: lw_tbg) (j_rm z n n2) (n2 - n) (jSum n2 - jSum n) k :=
  ⟨⟨rfl, rfl, hfit.1, hfit.2, pay_in hts (j_good hz.2.1), List.mem_cons_self⟩, hts _ hz.2.1, hts _ hz.1, hz.2.2.2.1, fun sig h => by have h2 := hz.2.2.2.2; rw [h] at h2; exact (Option.some.inj h2).symm, va_Nw.use rfl (hK.2 _ _ _ _ hl)⟩
theorem j_recv {i ci : Nat} {q : vw_C} {s : State} {H : Heap} (hK : j_kn E s) (hr : j_rep E n μ s H) (hq : jCl[ci]? = some q) (hc : jCt[i]? = some (.inr ci)) (hi : i < n) : ∃ cellB : Cell, H[E.1 + i]? = some cellB ∧ cellB.vm.isStatics = false ∧ s.vm.findClass q.1 = some cellB.cls := by
  obtain ⟨cell, q1, q3, q2, q4⟩ := j_get hr hi hc
  exact ⟨cell, q1, by rw [q3]; rfl, by rw [q2]; exact (hK.1 ci q hq).2.1⟩
theorem J_callV (z : jMt) {idx n2 : Nat} (ci i : Nat) (As : List AV) {a : Int} {rest : List AV} (hd : decode y.2.1 pc = .ok (.invokevirtual idx, 3)) (hz : j_cal z As.length) (hlk : Cond.methodLink y.1.cls idx z.1 ∈ lw_tbg) (hins : Cond.instanceMethod z.1 ∈ lw_tbg) (hsel : Cond.selects z.1.cls z.1 z.1 ∈ lw_tbg) (hcl : ∃ q, jCl[ci]? = some q ∧ q.1 = z.1.cls) (hfit : j_fit2 y z) (ha : a = (i : Int)) (hc : jCt[i]? = some (.inr ci)) (hi : i < n) (hen : (j_en (jvR a :: As)).length ≤ z.2.2.1) (hst : st = As.reverse ++ jvR a :: rest) (hrest : j_cats rest ≤ 8) (h0 : n0 ≤ n) (h2 : n ≤ n2) (h3 : n2 ≤ n1) (k : J E z n n2 n 0 (j_ent z.2.2.1 (jvR a :: As)) [] μ (fun v μ1 => J E y n0 n1 n2 (pc + 3) L (v.toList ++ rest) μ1 Q)) : J E y n0 n1 n (pc) (L) (st) (μ) Q := by
  intro p l e s m args below meth c C H locs ls ws hl hs hr hq hL
  subst hst
  obtain ⟨w1, w2, rfl, hs1, w3, w4, rfl, hw3, hs4⟩ := j_st_app _ _ _ hs
  have hs1 := j_st_rev _ _ hs1
  rw [List.reverse_reverse] at hs1
  have hw3' := j_ref hw3 i ha
  subst hw3'
  obtain ⟨q, hq0, hq1⟩ := hcl
  have hM := J_met k hen hz.2.2.1 (ws := .ref (E.1 + i) :: w1.reverse) ⟨_, _, rfl, hw3, hs1⟩ l
  have hp : PreV s H z.1.cls (E.1 + i) (va_Pc (.ref (E.1 + i) :: w1.reverse) (fun U => j_kn E U ∧ j_rep E n μ U U.heap)) w1.reverse := ⟨j_blind, by rw [← hq1]; exact j_recv C.2.2.2.2.2.2.1 hr hq0 hc hi, (j_pre C.2.2.2.2.2.2.1 hr).2⟩
  have hm1 := j_sum_le h0
  have hm2 := j_sum_le h2
  have hm3 := j_sum_le h3
  refine j_behind (z := z) (n2 := n2) (rest := rest) C hl hq hL hs4 h0 h2 rfl rfl (va_runV (As := w1.reverse) (rest := w4) (n := As.length) ⟨C.1, C.2.1, C.2.2.2.1, C.2.2.2.2.1, C.2.2.2.2.2.1⟩ hM ⟨j_CB C.2.2.2.2.2.1 hz hfit hlk, C.2.2.2.2.2.1 _ hins, C.2.2.2.2.2.1 _ hsel⟩ hp rfl (j_st_len _ _ hs1) (by show ls.size = y.2.2.1; rw [hl.1, hL]) (by rw [List.reverse_reverse]) (lv_room (by rw [j_cats_eq _ _ hs4]; exact hrest)) hd ⟨by show n - n0 + (n2 - n) ≤ n1 - n0; omega, by show jSum n - jSum n0 + (jSum n2 - jSum n) ≤ jSum n1 - jSum n0; omega⟩)
theorem J_callS (z : jMt) {idx n2 : Nat} (As : List AV) {rest : List AV} (hd : decode y.2.1 pc = .ok (.invokestatic idx, 3)) (hz : j_cal z As.length) (hlk : Cond.methodLink y.1.cls idx z.1 ∈ lw_tbg) (hstt : Cond.static z.1 ∈ lw_tbg) (hfit : j_fit2 y z) (hen : (j_en As).length ≤ z.2.2.1) (hst : st = As.reverse ++ rest) (hrest : j_cats rest ≤ 8) (h0 : n0 ≤ n) (h2 : n ≤ n2) (h3 : n2 ≤ n1) (k : J E z n n2 n 0 (j_ent z.2.2.1 As) [] μ (fun v μ1 => J E y n0 n1 n2 (pc + 3) L (v.toList ++ rest) μ1 Q)) : J E y n0 n1 n (pc) (L) (st) (μ) Q := by
  intro p l e s m args below meth c C H locs ls ws hl hs hr hq hL
  subst hst
  obtain ⟨w1, w4, rfl, hs1, hs4⟩ := j_st_app _ _ _ hs
  have hs1 := j_st_rev _ _ hs1
  rw [List.reverse_reverse] at hs1
  have hM := J_met k hen hz.2.2.1 (ws := w1.reverse) hs1 l
  have hm1 := j_sum_le h0
  have hm2 := j_sum_le h2
  have hm3 := j_sum_le h3
  refine j_behind (z := z) (n2 := n2) (rest := rest) C hl hq hL hs4 h0 h2 rfl rfl (va_runS (As := w1.reverse) (rest := w4) (n := As.length) ⟨C.1, C.2.1, C.2.2.2.1, C.2.2.2.2.1, C.2.2.2.2.2.1⟩ hM ⟨j_CB C.2.2.2.2.2.1 hz hfit hlk, C.2.2.2.2.2.1 _ hstt⟩ (j_pre C.2.2.2.2.2.2.1 hr) rfl (j_st_len _ _ hs1) (by show ls.size = y.2.2.1; rw [hl.1, hL]) (by rw [List.reverse_reverse]) (lv_room (by rw [j_cats_eq _ _ hs4]; exact hrest)) hd ⟨by show n - n0 + (n2 - n) ≤ n1 - n0; omega, by show jSum n - jSum n0 + (jSum n2 - jSum n) ≤ jSum n1 - jSum n0; omega⟩)
theorem J_callSN (z : jMt) {idx n2 : Nat} {host : String} (As : List AV) {rest : List AV} (hd : decode y.2.1 pc = .ok (.invokestatic idx, 3)) (hz : j_cal z As.length) (hlk : Cond.methodLinkNest y.1.cls idx z.1 host ∈ lw_tbl) (hstt : Cond.static z.1 ∈ lw_tbg) (hfit : j_fit2 y z) (hen : (j_en As).length ≤ z.2.2.1) (hst : st = As.reverse ++ rest) (hrest : j_cats rest ≤ 8) (h0 : n0 ≤ n) (h2 : n ≤ n2) (h3 : n2 ≤ n1) (k : J E z n n2 n 0 (j_ent z.2.2.1 As) [] μ (fun v μ1 => J E y n0 n1 n2 (pc + 3) L (v.toList ++ rest) μ1 Q)) : J E y n0 n1 n (pc) (L) (st) (μ) Q := by
  intro p l e s m args below meth c C H locs ls ws hl hs hr hq hL
  subst hst
  obtain ⟨w1, w4, rfl, hs1, hs4⟩ := j_st_app _ _ _ hs
  have hs1 := j_st_rev _ _ hs1
  rw [List.reverse_reverse] at hs1
  have hM := J_met k hen hz.2.2.1 (ws := w1.reverse) hs1 l
  have hm1 := j_sum_le h0
  have hm2 := j_sum_le h2
  have hm3 := j_sum_le h3
  refine j_behind (z := z) (n2 := n2) (rest := rest) C hl hq hL hs4 h0 h2 rfl rfl (va_runSN (As := w1.reverse) (rest := w4) (n := As.length) ⟨C.1, C.2.1, C.2.2.2.1, C.2.2.2.2.1, C.2.2.2.2.2.1⟩ hM ⟨j_CN C.2.2.2.2.2.1 C.2.2.2.2.2.2.1 hz hfit hlk, C.2.2.2.2.2.1 _ hstt, trivial⟩ (j_pre C.2.2.2.2.2.2.1 hr) rfl (j_st_len _ _ hs1) (by show ls.size = y.2.2.1; rw [hl.1, hL]) (by rw [List.reverse_reverse]) (lv_room (by rw [j_cats_eq _ _ hs4]; exact hrest)) hd ⟨by show n - n0 + (n2 - n) ≤ n1 - n0; omega, by show jSum n - jSum n0 + (jSum n2 - jSum n) ≤ jSum n1 - jSum n0; omega⟩)
theorem J_callI (z : jMt) {idx n2 : Nat} (i : Nat) (As : List AV) {a : Int} {rest : List AV} (hd : decode y.2.1 pc = .ok (.invokespecial idx, 3)) (hz : j_cal z As.length) (hlk : Cond.methodLink y.1.cls idx z.1 ∈ lw_tbg) (hins : Cond.instanceMethod z.1 ∈ lw_tbg) (hnm : z.1.name = "<init>") (hrt : z.2.2.2.1 = none) (hfit : j_fit2 y z) (ha : a = (i : Int)) (hen : (j_en (jvR a :: As)).length ≤ z.2.2.1) (hst : st = As.reverse ++ jvR a :: rest) (hrest : j_cats rest ≤ 8) (h0 : n0 ≤ n) (h2 : n ≤ n2) (h3 : n2 ≤ n1) (k : J E z n n2 n 0 (j_ent z.2.2.1 (jvR a :: As)) [] μ (fun v μ1 => J E y n0 n1 n2 (pc + 3) L (v.toList ++ rest) μ1 Q)) : J E y n0 n1 n (pc) (L) (st) (μ) Q := by
  intro p l e s m args below meth c C H locs ls ws hl hs hr hq hL
  subst hst
  obtain ⟨w1, w2, rfl, hs1, w3, w4, rfl, hw3, hs4⟩ := j_st_app _ _ _ hs
  have hs1 := j_st_rev _ _ hs1
  rw [List.reverse_reverse] at hs1
  have hw3' := j_ref hw3 i ha
  subst hw3'
  have hM := J_met k hen hz.2.2.1 (ws := .ref (E.1 + i) :: w1.reverse) ⟨_, _, rfl, hw3, hs1⟩ l
  have hm1 := j_sum_le h0
  have hm2 := j_sum_le h2
  have hm3 := j_sum_le h3
  have hcb := j_CB (n0 := n0) (n1 := n1) (n := n) (n2 := n2) C.2.2.2.2.2.1 hz hfit hlk
  rw [hrt] at hM hcb
  refine j_behind (z := z) (n2 := n2) (rest := rest) C hl hq hL hs4 h0 h2 rfl rfl (va_runI (As := w1.reverse) (rest := w4) (n := As.length) ⟨C.1, C.2.1, C.2.2.2.1, C.2.2.2.2.1, C.2.2.2.2.2.1⟩ hM ⟨hcb, hnm, C.2.2.2.2.2.1 _ hins⟩ (j_pre C.2.2.2.2.2.2.1 hr) rfl (j_st_len _ _ hs1) (by show ls.size = y.2.2.1; rw [hl.1, hL]) (by rw [List.reverse_reverse]) (lv_room (by rw [j_cats_eq _ _ hs4]; exact hrest)) hd ⟨by show n - n0 + (n2 - n) ≤ n1 - n0; omega, by show jSum n - jSum n0 + (jSum n2 - jSum n) ≤ jSum n1 - jSum n0; omega⟩)
theorem J_callIN (z : jMt) {idx n2 : Nat} {host : String} (i : Nat) (As : List AV) {a : Int} {rest : List AV} (hd : decode y.2.1 pc = .ok (.invokespecial idx, 3)) (hz : j_cal z As.length) (hlk : Cond.methodLinkNest y.1.cls idx z.1 host ∈ lw_tbl) (hins : Cond.instanceMethod z.1 ∈ lw_tbg) (hnm : z.1.name = "<init>") (hrt : z.2.2.2.1 = none) (hfit : j_fit2 y z) (ha : a = (i : Int)) (hen : (j_en (jvR a :: As)).length ≤ z.2.2.1) (hst : st = As.reverse ++ jvR a :: rest) (hrest : j_cats rest ≤ 8) (h0 : n0 ≤ n) (h2 : n ≤ n2) (h3 : n2 ≤ n1) (k : J E z n n2 n 0 (j_ent z.2.2.1 (jvR a :: As)) [] μ (fun v μ1 => J E y n0 n1 n2 (pc + 3) L (v.toList ++ rest) μ1 Q)) : J E y n0 n1 n (pc) (L) (st) (μ) Q := by
  intro p l e s m args below meth c C H locs ls ws hl hs hr hq hL
  subst hst
  obtain ⟨w1, w2, rfl, hs1, w3, w4, rfl, hw3, hs4⟩ := j_st_app _ _ _ hs
  have hs1 := j_st_rev _ _ hs1
  rw [List.reverse_reverse] at hs1
  have hw3' := j_ref hw3 i ha
  subst hw3'
  have hM := J_met k hen hz.2.2.1 (ws := .ref (E.1 + i) :: w1.reverse) ⟨_, _, rfl, hw3, hs1⟩ l
  have hm1 := j_sum_le h0
  have hm2 := j_sum_le h2
  have hm3 := j_sum_le h3
  have hcb := j_CN (n0 := n0) (n1 := n1) (n := n) (n2 := n2) C.2.2.2.2.2.1 C.2.2.2.2.2.2.1 hz hfit hlk
  rw [hrt] at hM hcb
  refine j_behind (z := z) (n2 := n2) (rest := rest) C hl hq hL hs4 h0 h2 rfl rfl (va_runIN (As := w1.reverse) (rest := w4) (n := As.length) ⟨C.1, C.2.1, C.2.2.2.1, C.2.2.2.2.1, C.2.2.2.2.2.1⟩ hM ⟨hcb, hnm, C.2.2.2.2.2.1 _ hins⟩ (j_pre C.2.2.2.2.2.2.1 hr) rfl (j_st_len _ _ hs1) (by show ls.size = y.2.2.1; rw [hl.1, hL]) (by rw [List.reverse_reverse]) (lv_room (by rw [j_cats_eq _ _ hs4]; exact hrest)) hd ⟨by show n - n0 + (n2 - n) ≤ n1 - n0; omega, by show jSum n - jSum n0 + (jSum n2 - jSum n) ≤ jSum n1 - jSum n0; omega⟩)
end JC
