/-! the reference: what was told stands -/
def oS (c : Nat) : Int := if c = 87 then 5 else if c = 88 then 96 else if c = 89 then 24 else if c = 90 then 400 else if c = 91 then 88 else if c = 92 then 88 else if c = 93 then 12 else if c = 94 then 40 else if c = 95 then 120 else 6
def aS (c : Nat) : Int := if c = 91 then 400 else 0
def Wst0 (i : Nat) (k : Int) : Prop := (87 ≤ i ∧ i ≤ 98 ∧ oS i ≤ k) ∨ i = 107 ∨ i = 109 ∨ (i = 76 ∧ k = 33) ∨ WK i k
def nset (N : Nat → Int) (c : Nat) (x : Int) : Nat → Int := fun d => if d = c then x else N d
def S0 (μ : jMu) (N : Nat → Int) (ν : jMu) : Prop := Fr Wst0 μ ν ∧ (∀ (c : Nat) (i : Int), 87 ≤ c → c ≤ 98 → 0 ≤ i → i < N c → ν c (oS c + i) = aS c + μ c i) ∧ (∀ (c : Nat) (i : Int), c = 107 ∨ c = 109 → 0 ≤ i → i < N c → ν c i = 0)
section
variable {E : jE} {μ μ1 ν : jMu} {Q : Int → jMu → Prop} {Q0 : jMu → Prop} {P P' : jP} {N N' : Nat → Int}
theorem S0.mono (h : S0 μ N ν) (hN : ∀ c, N' c ≤ N c) : S0 μ N' ν := ⟨h.1, fun c i a b d f => h.2.1 c i a b d (Int.lt_of_lt_of_le f (hN c)), fun c i a d f => h.2.2 c i a d (Int.lt_of_lt_of_le f (hN c))⟩
theorem S0.cpg {c : Nat} {j : Int} (h : S0 μ N ν) {x : Int} (hN : N c = j) (hc : 87 ≤ c ∧ c ≤ 98) (hj : 0 ≤ j ∧ j < oS c) (hx : x = aS c + ν c j) : S0 μ (nset N c (j + 1)) (j_up ν c (oS c + j) x) := by
  refine ⟨h.1.put (Or.inl ⟨hc.1, hc.2, by omega⟩), fun d i a b e f => ?_, fun d i a e f => ?_⟩
  · by_cases hd : d = c
    · subst hd
      have f' : i < j + 1 := by unfold nset at f; rw [if_pos rfl] at f; exact f
      by_cases hi : i = j
      · rw [hi, up_eq, hx, h.1 d j (by unfold Wst0 WK; omega)]
      · rw [up_nk (by omega)]
        exact h.2.1 d i a b e (by omega)
    · rw [up_ne hd]
      exact h.2.1 d i a b e (by unfold nset at f; rw [if_neg hd] at f; exact f)
  · have hd : d ≠ c := by omega
    rw [up_ne hd]
    exact h.2.2 d i a e (by unfold nset at f; rw [if_neg hd] at f; exact f)
theorem S0.zpg {c : Nat} {j : Int} (h : S0 μ N ν) (hN : N c = j) (hc : c = 107 ∨ c = 109) (hj : 0 ≤ j) : S0 μ (nset N c (j + 1)) (j_up ν c j 0) := by
  refine ⟨h.1.put (by unfold Wst0; omega), fun d i a b e f => ?_, fun d i a e f => ?_⟩
  · have hd : d ≠ c := by omega
    rw [up_ne hd]
    exact h.2.1 d i a b e (by unfold nset at f; rw [if_neg hd] at f; exact f)
  · by_cases hd : d = c
    · subst hd
      have f' : i < j + 1 := by unfold nset at f; rw [if_pos rfl] at f; exact f
      by_cases hi : i = j
      · rw [hi, up_eq]
      · rw [up_nk (by omega)]
        exact h.2.2 d i a e (by omega)
    · rw [up_ne hd]
      exact h.2.2 d i a e (by unfold nset at f; rw [if_neg hd] at f; exact f)
theorem S0.cp {c : Nat} {j x : Int} (h : S0 μ (nset N c j) ν) (hc : 87 ≤ c ∧ c ≤ 98) (hj : 0 ≤ j ∧ j < oS c) (hx : x = aS c + ν c j) : S0 μ (nset N c (j + 1)) (j_up ν c (oS c + j) x) := (h.cpg (by unfold nset; rw [if_pos rfl]) hc hj hx).mono (fun z => by unfold nset; repeat' split <;> omega)
theorem S0.nz {c : Nat} (h : S0 μ N ν) (hc : N c = 0) : S0 μ (nset N c 0) ν := h.mono (fun z => by
  unfold nset
  split
  · rename_i hz
    rw [hz, hc]
    exact Int.le_refl 0
  · exact Int.le_refl _)
theorem loopG {m : Int} {A : Int → jMu → Prop} {I : Int → jMu → Prop} (hN : 0 ≤ m) (hs : ∀ j ν, 0 ≤ j → j < m → I j ν → (∀ ν', I (j + 1) ν' → A (j + 1) ν') → A j ν) (he : ∀ ν, I m ν → A m ν) (ν : jMu) (h0 : I 0 ν) : A 0 ν := by
  have lp : ∀ (f : Nat) (j : Int), 0 ≤ j → j + f = m → ∀ ν, I j ν → A j ν := by
    intro f
    induction f with
    | zero => intro j a b ν hi; have : j = m := by omega
              subst this; exact he ν hi
    | succ f ih => intro j a b ν hi; exact hs j ν a (by omega) hi (fun ν' h' => ih (j + 1) (by omega) (by omega) ν' h')
  exact lp m.toNat 0 (by omega) (by omega) ν h0
def N0 : Nat → Int := fun _ => 0
def N1 : Nat → Int := nset N0 87 5
def N2 : Nat → Int := nset N1 88 96
def N3 : Nat → Int := nset N2 89 24
def N4 (x : Int) : Nat → Int := nset N3 90 x
def N5 (x : Int) : Nat → Int := nset (nset (N4 x) 91 88) 92 88
def N6 (x : Int) : Nat → Int := nset (nset (N5 x) 93 12) 107 12
def N7 (x : Int) : Nat → Int := nset (N6 x) 94 40
def N8 (x : Int) : Nat → Int := nset (N7 x) 95 120
def N9 (x : Int) : Nat → Int := nset (nset (nset (nset (N8 x) 96 6) 97 6) 98 6) 109 6
theorem S0.rg (h : S0 μ N ν) (hG : G91 μ) {j : Int} (h0 : 0 ≤ j) (h1 : j < 88) : 0 ≤ ν 91 j ∧ ν 91 j ≤ 400 := by
  rw [h.1 91 j (by unfold Wst0 WK; show ¬ ((87 ≤ 91 ∧ 91 ≤ 98 ∧ 88 ≤ j) ∨ _); omega)]
  exact hG j h0 h1
theorem sM_stands0c (hB : RKp μ P) (hp : WP P) (hG : G91 μ) (h32 : μ 76 32 = gl P) (k : ∀ ν, S0 μ (N9 (nC P)) ν → Cv E mM_knows [jvR 76] (j_up ν 76 33 (gl (goalP P))) Q0) : Cv E mM_stands0 [jvR 76] μ Q0 := by
  have hC := hp.1.1.2.2.2.2.2
  refine vM_stands0_0 ?_
  refine loopG (m := 5) (A := fun j ν => K 121 E mM_stands0 2 [some (jvR 76), some (jvI j)] [] ν (fun v μ1 => v = none ∧ Q0 μ1)) (I := fun j ν => S0 μ (nset N0 87 j) ν) (by decide) (fun j ν a b hi ih => vM_stands0_2 ⟨fun c => absurd c (by omega), fun _ => ⟨by omega, ih _ (hi.cp (by decide) ⟨a, b⟩ (show _ = 0 + _ by omega))⟩⟩) (fun ν hi => vM_stands0_2 ⟨fun _ => ?_, fun c => absurd (by decide) c⟩) μ (S0.nz (N := N0) ⟨Fr.rf, fun c i a b d f => absurd f (by unfold N0; omega), fun c i a d f => absurd f (by unfold N0; omega)⟩ rfl)
  refine loopG (m := 96) (A := fun j ν => K 121 E mM_stands0 29 [some (jvR 76), some (jvI j)] [] ν (fun v μ1 => v = none ∧ Q0 μ1)) (I := fun j ν => S0 μ (nset N1 88 j) ν) (by decide) (fun j ν a b hi ih => vM_stands0_29 ⟨fun c => absurd c (by omega), fun _ => ⟨by omega, ih _ (hi.cp (by decide) ⟨a, b⟩ (show _ = 0 + _ by omega))⟩⟩) (fun ν hi => vM_stands0_29 ⟨fun _ => ?_, fun c => absurd (by decide) c⟩) ν (S0.nz (N := N1) hi rfl)
  refine loopG (m := 24) (A := fun j ν => K 121 E mM_stands0 58 [some (jvR 76), some (jvI j)] [] ν (fun v μ1 => v = none ∧ Q0 μ1)) (I := fun j ν => S0 μ (nset N2 89 j) ν) (by decide) (fun j ν a b hi ih => vM_stands0_58 ⟨fun c => absurd c (by omega), fun _ => ⟨by omega, ih _ (hi.cp (by decide) ⟨a, b⟩ (show _ = 0 + _ by omega))⟩⟩) (fun ν hi => vM_stands0_58 ⟨fun _ => ?_, fun c => absurd (by decide) c⟩) ν (S0.nz (N := N2) hi rfl)
  have e23 : ∀ {N ν}, S0 μ N ν → ν 76 23 = nC P := fun hi => by rw [hi.1 76 23 (by unfold Wst0 WK; omega)]; exact hB.1.1.2.2
  refine loopG (m := nC P) (A := fun j ν => K 121 E mM_stands0 87 [some (jvR 76), some (jvI j)] [] ν (fun v μ1 => v = none ∧ Q0 μ1)) (I := fun j ν => S0 μ (nset N3 90 j) ν) (by omega) (fun j ν a b hi ih => vM_stands0_87 (by rw [e23 hi]; exact ⟨fun c => absurd c (by omega), fun _ => ⟨by omega, ih _ (hi.cp (by decide) ⟨a, show j < 400 by omega⟩ (show _ = 0 + _ by omega))⟩⟩)) (fun ν hi => vM_stands0_87 ⟨fun _ => ?_, fun c => absurd (by rw [e23 hi]; exact Int.le_refl _) c⟩) ν (S0.nz (N := N3) hi rfl)
  refine loopG (m := 88) (A := fun j ν => K 121 E mM_stands0 119 [some (jvR 76), some (jvI j)] [] ν (fun v μ1 => v = none ∧ Q0 μ1)) (I := fun j ν => S0 μ (nset (nset (N4 (nC P)) 91 j) 92 j) ν) (by decide) (fun j ν a b hi ih => ?_) (fun ν hi => vM_stands0_119 ⟨fun _ => ?_, fun c => absurd (by decide) c⟩) ν ((S0.nz (N := N4 (nC P)) hi rfl).nz rfl)
  · have hg := hi.rg hG a b
    refine vM_stands0_119 ⟨fun c => absurd c (by omega), fun _ => ⟨by omega, ih _ ?_⟩⟩
    exact ((hi.cpg (c := 91) (j := j) (x := 400 + ν 91 j) rfl (by decide) ⟨a, b⟩ (show _ = 400 + _ from rfl)).cpg (c := 92) (j := j) (x := ν 92 j) rfl (by decide) ⟨a, b⟩ (show _ = 0 + _ by rw [up_ne (by decide)]; omega)).mono (fun z => by unfold nset; repeat' split <;> omega)
  refine loopG (m := 12) (A := fun j ν => K 121 E mM_stands0 167 [some (jvR 76), some (jvI j)] [] ν (fun v μ1 => v = none ∧ Q0 μ1)) (I := fun j ν => S0 μ (nset (nset (N5 (nC P)) 93 j) 107 j) ν) (by decide) (fun j ν a b hi ih => ?_) (fun ν hi => vM_stands0_167 ⟨fun _ => ?_, fun c => absurd (by decide) c⟩) ν ((S0.nz (N := N5 (nC P)) hi rfl).nz rfl)
  · refine vM_stands0_167 ⟨fun c => absurd c (by omega), fun _ => ⟨by omega, ih _ ?_⟩⟩
    exact ((hi.cpg (c := 93) (j := j) (x := ν 93 j) rfl (by decide) ⟨a, b⟩ (show _ = 0 + _ by omega)).zpg (c := 107) (j := j) rfl (Or.inl rfl) a).mono (fun z => by unfold nset; repeat' split <;> omega)
  refine loopG (m := 40) (A := fun j ν => K 121 E mM_stands0 203 [some (jvR 76), some (jvI j)] [] ν (fun v μ1 => v = none ∧ Q0 μ1)) (I := fun j ν => S0 μ (nset (N6 (nC P)) 94 j) ν) (by decide) (fun j ν a b hi ih => vM_stands0_203 ⟨fun c => absurd c (by omega), fun _ => ⟨by omega, ih _ (hi.cp (by decide) ⟨a, b⟩ (show _ = 0 + _ by omega))⟩⟩) (fun ν hi => vM_stands0_203 ⟨fun _ => ?_, fun c => absurd (by decide) c⟩) ν (S0.nz (N := N6 (nC P)) hi rfl)
  refine loopG (m := 120) (A := fun j ν => K 121 E mM_stands0 232 [some (jvR 76), some (jvI j)] [] ν (fun v μ1 => v = none ∧ Q0 μ1)) (I := fun j ν => S0 μ (nset (N7 (nC P)) 95 j) ν) (by decide) (fun j ν a b hi ih => vM_stands0_232 ⟨fun c => absurd c (by omega), fun _ => ⟨by omega, ih _ (hi.cp (by decide) ⟨a, b⟩ (show _ = 0 + _ by omega))⟩⟩) (fun ν hi => vM_stands0_232 ⟨fun _ => ?_, fun c => absurd (by decide) c⟩) ν (S0.nz (N := N7 (nC P)) hi rfl)
  refine loopG (m := 6) (A := fun j ν => K 121 E mM_stands0 261 [some (jvR 76), some (jvI j)] [] ν (fun v μ1 => v = none ∧ Q0 μ1)) (I := fun j ν => S0 μ (nset (nset (nset (nset (N8 (nC P)) 96 j) 97 j) 98 j) 109 j) ν) (by decide) (fun j ν a b hi ih => ?_) (fun ν hi => vM_stands0_261 ⟨fun _ => ?_, fun c => absurd (by decide) c⟩) ν ((((S0.nz (N := N8 (nC P)) hi rfl).nz rfl).nz rfl).nz rfl)
  · refine vM_stands0_261 ⟨fun c => absurd c (by omega), fun _ => ⟨by omega, ih _ ?_⟩⟩
    exact ((((hi.cpg (c := 96) (j := j) (x := ν 96 j) rfl (by decide) ⟨a, b⟩ (show _ = 0 + _ by omega)).cpg (c := 97) (j := j) (x := ν 97 j) rfl (by decide) ⟨a, b⟩ (show _ = 0 + _ by rw [up_ne (by decide)]; omega)).cpg (c := 98) (j := j) (x := ν 98 j) rfl (by decide) ⟨a, b⟩ (show _ = 0 + _ by rw [up_ne (by decide), up_ne (by decide)]; omega)).zpg (c := 109) (j := j) rfl (Or.inr rfl) a).mono (fun z => by unfold nset; repeat' split <;> omega)
  · have e32 : ν 76 32 = gl P := by rw [hi.1 76 32 (by unfold Wst0 WK; omega)]; exact h32
    have e4 : ν 87 4 = nS P := by rw [hi.1 87 4 (by unfold Wst0 WK; show ¬ ((87 ≤ 87 ∧ 87 ≤ 98 ∧ (5 : Int) ≤ 4) ∨ _); omega)]; exact hB.2.1.2.2
    have hn := hp.1.1
    unfold WFn at hn
    have q := k ν hi
    have eg : gl (goalP P) = if gl P = -1 then nS P - 1 else gl P := by unfold goalP; exact up_eq
    rw [e32, e4]
    refine ⟨fun c => ?_, fun c => ⟨by omega, ?_⟩⟩
    · rw [eg, if_neg c] at q
      exact Cv_mono q (fun μ5 h => ⟨rfl, h⟩)
    · rw [eg, if_pos c] at q
      exact Cv_mono q (fun μ5 h => ⟨rfl, h⟩)
end
