/-! at the beginning -/
def P0 : jP := goalP P00
theorem z0 : nR P0 = 0 := by decide +kernel
theorem z1 : nD P0 = 0 := by decide +kernel
theorem z2 : nG P0 = 0 := by decide +kernel
theorem z3 : nH P0 = 0 := by decide +kernel
theorem z4 : nS P0 = 0 := by decide +kernel
theorem z5 : gl P0 = -1 := by decide +kernel
theorem z6 : nC P0 = 0 := by decide +kernel
theorem zW : WF P0 := goalP_WF WP_00
theorem zr : rn P0 = 0 := by unfold rn; rw [z4]; rfl
theorem bs_f40 : bs (fun _ => false) 40 = 0 := by decide +kernel
theorem zb (S : Int → Bool) : bs (inS P0 S) 40 = 0 := by
  rw [bs_congr (q := fun _ => false) (fun k a b => by unfold inS; rw [z4, decide_eq_false (by omega)]; rfl)]
  exact bs_f40
theorem zin {w : Int} (h : inW P0 w) : False := by
  have h0 := z0
  have h4 := z4
  rcases h with hh | ⟨r, k, a0, a1, a2, a3, a4⟩
  · omega
  · omega
theorem Wo_mk {μ : jMu} {wd wn : Nat} {c : Int} (h1 : okW c wn) (h2 : ∀ k : Fin wn, μ wd (k.val : Int) = ltr c (k.val : Int) + 96) : Wo μ wd wn c := ⟨h1, fun k a b => by
  have := h2 ⟨k.toNat, by omega⟩
  have e : ((k.toNat : Nat) : Int) = k := Int.toNat_of_nonneg a
  rw [show (((⟨k.toNat, by omega⟩ : Fin wn).val : Nat) : Int) = k from e] at this
  exact this⟩
set_option maxRecDepth 100000 in
theorem mu1_c (k : Int) : mu1 91 k = 0 ∧ mu1 107 k = 0 ∧ mu1 109 k = 0 := ⟨rfl, rfl, rfl⟩
theorem mu1_D : DC 7 mu1 P0 := by
  have h0 := z0; have h1 := z1; have h2 := z2; have h3 := z3; have h4 := z4; have h6 := z6
  refine ⟨⟨?_, ?_, ?_, ?_, ?_, ?_, ?_⟩, ?_⟩
  · rw [z0]; decide +kernel
  · rw [z4]; decide +kernel
  · rw [z1]; decide +kernel
  · rw [z5]; decide +kernel
  · rw [z2]; decide +kernel
  · rw [z3]; decide +kernel
  · rw [z6]; decide +kernel
  · exact ⟨fun r a b => by omega, fun r k a b => by omega, fun r a b => by omega, fun r k a b => by omega, fun r a b => by omega, fun r a b => by omega, fun r a b => by omega, fun r a b => by omega, fun r a b => by omega, fun r a b => by omega⟩
theorem mu1_XS : XS 7 mu1 P0 (fun _ => false) (fun _ => false) := by
  have h4 := z4; have hr := zr
  refine ⟨⟨⟨Or.inl rfl, zW, mu1_D⟩, by decide +kernel, fun s a b => by omega, ⟨?_, ?_, ?_, ?_, ?_⟩, ?_, fun s a b => by omega, fun s a b => by omega, fun s i a b => by omega⟩, by decide +kernel, ?_, ?_, ?_, fun r h => absurd h Bool.false_ne_true, fun r h => absurd h Bool.false_ne_true⟩
  · rw [zb]; decide +kernel
  · rw [zb]; decide +kernel
  · rw [zb]; decide +kernel
  · rw [zb]; decide +kernel
  · rw [zb]; decide +kernel
  · rw [zr]; decide +kernel
  · rw [bs_ff]; decide +kernel
  · rw [zb]; decide +kernel
  · rw [bs_ff]; decide +kernel
theorem mu1_RS : RS mu1 P0 (fun _ => false) (fun _ => false) := by
  have h0 := z0; have h1 := z1; have h2 := z2; have h3 := z3; have h4 := z4; have h6 := z6; have hr := zr
  refine ⟨⟨⟨zW, ⟨?_, ?_, ?_, ?_, ?_, fun hs => by omega⟩, fun r a b => by omega, fun r a b => by omega, fun s k a b => by omega, fun r a b => by omega, fun r a b => by omega, fun w hw => (zin hw).elim, fun r a b => by omega, fun kd i a b c d => ?_⟩, fun s a b => by omega, fun s a b => by omega, ?_⟩, fun r a b => (mu1_c r).2.1, fun r a b => (mu1_c r).2.2⟩
  · rw [z0]; decide +kernel
  · rw [z1]; decide +kernel
  · rw [z2]; decide +kernel
  · rw [z3]; decide +kernel
  · rw [z4]; decide +kernel
  · exfalso
    have hk : kd = 0 ∨ kd = 1 ∨ kd = 2 ∨ kd = 3 := by omega
    rcases hk with rfl | rfl | rfl | rfl
    · have d' : i < nR P0 := d
      omega
    · have d' : i < nD P0 := d
      omega
    · have d' : i < nG P0 := d
      omega
    · have d' : i < nH P0 := d
      omega
  · rw [zr]; decide +kernel
theorem mu1_W : Wds mu1 := ⟨Wo_mk okW_rule (by decide +kernel), Wo_mk okW_gives (by decide +kernel), Wo_mk okW_step (by decide +kernel), Wo_mk okW_by (by decide +kernel), Wo_mk okW_goal (by decide +kernel), Wo_mk okW_reader (by decide +kernel), Wo_mk okW_odds (by decide +kernel), Wo_mk okW_from (by decide +kernel), Wo_mk okW_to (by decide +kernel)⟩
theorem mu1_I : Inv mu1 := ⟨P0, 7, 26, fun _ => false, fun _ => false, 0, fun _ => 0, mu1_XS, mu1_RS, ⟨⟨Or.inr rfl, by decide, by decide +kernel⟩, ⟨TC.n0 (by decide +kernel), TR.n0 (by decide +kernel)⟩, ⟨by decide +kernel, by decide +kernel⟩, ⟨by decide +kernel, by rw [show mu1 74 1 = 1 by decide +kernel]; exact ⟨by decide, by decide⟩⟩, Or.inl ⟨by decide +kernel, by decide +kernel⟩, mu1_W, fun w a b => by rw [(mu1_c w).1]; decide⟩, fun c => absurd (by decide +kernel) c, fun c => absurd (by decide +kernel) c, Or.inl (by decide +kernel)⟩
theorem jlk_mem {k v : Int} : ∀ {l : List (Int × Int)}, jlk l k = some v → (k, v) ∈ l
  | [], h => by cases h
  | (a, b) :: t, h => by
    unfold jlk at h
    split at h
    · rename_i hk
      cases h
      rw [hk]
      exact List.mem_cons_self
    · exact List.mem_cons_of_mem _ (jlk_mem h)
theorem jlr_mem {i : Nat} {e : Int × Int} : ∀ {l : List (Nat × List (Int × Int))}, e ∈ jlr l i → ∃ p ∈ l, p.1 = i ∧ e ∈ p.2
  | [], h => by cases h
  | (a, b) :: t, h => by
    unfold jlr at h
    split at h
    · rename_i hk
      exact ⟨(a, b), List.mem_cons_self, hk.symm, h⟩
    · obtain ⟨p, hp, h1, h2⟩ := jlr_mem h
      exact ⟨p, List.mem_cons_of_mem _ hp, h1, h2⟩
theorem mu1_fx0 : ∀ p ∈ jfxT, ∀ e ∈ p.2, mu1 p.1 e.1 = e.2 := by decide +kernel
theorem mu1_fx : fx mu1 = mu1 := by
  funext i k
  unfold fx
  cases h : jfx i k with
  | none => rfl
  | some v =>
    obtain ⟨p, hp, h1, h2⟩ := jlr_mem (jlk_mem h)
    have := mu1_fx0 p hp (k, v) h2
    rw [h1] at this
    exact this.symm
theorem law_J (E : jE) (hL : E.2.2.1 ≤ 3072) : J E mLaw 0 121 0 0 (j_ent 4 [jvR (-2)]) [] jmu0 (fun v _ => v = some (jvI 1)) := by
  refine law_init ?_ (fun _ _ _ => rfl)
  have h := law_loop hL E.2.2.1 0 mu1 (by decide) (by omega) mu1_I
  unfold KL K at h
  rw [mu1_fx] at h
  exact J_mono h (fun v μ1 ⟨μ2, _, h2⟩ => h2)
