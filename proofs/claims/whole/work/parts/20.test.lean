theorem vM_isIn_0 {E : jE} {μ : jMu} {Q : Option AV → jMu → Prop} {a0 a1 a2 : Int} (hF : ((a0 < a1 → (Q (some (jvI 0)) μ)) ∧ (¬ (a0 < a1) → ((a2 < a0 → (Q (some (jvI 0)) μ)) ∧ (¬ (a2 < a0) → (Q (some (jvI 1)) μ)))))) : K 121 E mM_isIn 0 [some (jvL a0), none, some (jvL a1), none, some (jvL a2), none] [] μ Q := by
  refine K_lload_n 0 a0 dM_isIn_0 rfl rfl ?_
  refine K_lload_n 2 a1 dM_isIn_1 rfl rfl ?_
  refine K_lcmp_lt 17 dM_isIn_2 dM_isIn_3 (by decide) (fun c1 => ?_) (fun c1 => ?_)
  · refine K_iconst 0 dM_isIn_17 rfl ?_
    exact K_iret dM_isIn_18 (Or.inr ⟨rfl, (by decide)⟩) (hF.1 c1)
  · refine K_lload_n 0 a0 dM_isIn_6 rfl rfl ?_
    refine K_lload 4 a2 dM_isIn_7 rfl ?_
    refine K_lcmp_gt 17 dM_isIn_9 dM_isIn_10 (by decide) (fun c4 => ?_) (fun c4 => ?_)
    · refine K_iconst 0 dM_isIn_17 rfl ?_
      exact K_iret dM_isIn_18 (Or.inr ⟨rfl, (by decide)⟩) ((hF.2 c1).1 c4)
    · refine K_iconst 1 dM_isIn_13 rfl ?_
      refine K_goto 18 dM_isIn_14 (by decide) ?_
      exact K_iret dM_isIn_18 (Or.inr ⟨rfl, (by decide)⟩) ((hF.2 c1).2 c4)
theorem vM_areSame_0 {E : jE} {μ : jMu} {Q : Option AV → jMu → Prop} {a0 a1 : Int} (hF : (Ci E mM_partLong [jvR 76, jvI a0] μ (fun r4 μ1 => (Ci E mM_partLong [jvR 76, jvI a1] μ1 (fun r8 μ5 => ((r4 = r8 → (K 121 E mM_areSame 20 [some (jvR 76), some (jvI a0), some (jvI a1), some (jvI r4), some (jvI 0)] [] μ5 Q)) ∧ (¬ (r4 = r8) → (Q (some (jvI 0)) μ5)))))))) : K 121 E mM_areSame 0 [some (jvR 76), some (jvI a0), some (jvI a1), none, none] [] μ Q := by
  refine K_aload_n 0 76 dM_areSame_0 rfl rfl ?_
  refine K_iload_n 1 a0 dM_areSame_1 rfl rfl ?_
  refine K_callVi mM_partLong 12 76 [jvI a0] dM_areSame_2 pm_M_303 ⟨_, rfl, rfl⟩ ⟨(Nat.le_of_ble_eq_true rfl), (Nat.le_of_ble_eq_true rfl)⟩ rfl rfl (by decide) (Nat.le_of_ble_eq_true rfl) rfl (Nat.le_of_ble_eq_true rfl) (by decide) (Ci_mono hF (fun r4 μ1 h2 => ?_))
  refine K_istore_n 3 dM_areSame_5 rfl (Nat.le_of_ble_eq_true rfl) rfl ?_
  refine K_iload_n 3 r4 dM_areSame_6 rfl rfl ?_
  refine K_aload_n 0 76 dM_areSame_7 rfl rfl ?_
  refine K_iload_n 2 a1 dM_areSame_8 rfl rfl ?_
  refine K_callVi mM_partLong 12 76 [jvI a1] dM_areSame_9 pm_M_303 ⟨_, rfl, rfl⟩ ⟨(Nat.le_of_ble_eq_true rfl), (Nat.le_of_ble_eq_true rfl)⟩ rfl rfl (by decide) (Nat.le_of_ble_eq_true rfl) rfl (Nat.le_of_ble_eq_true rfl) (by decide) (Ci_mono h2 (fun r8 μ5 h6 => ?_))
  refine K_icmp_eq 17 dM_areSame_12 (by decide) (fun c9 => ?_) (fun c9 => ?_)
  · refine K_iconst 0 dM_areSame_17 rfl ?_
    refine K_istore 4 dM_areSame_18 (Nat.le_of_ble_eq_true rfl) rfl ?_
    exact (h6.1 c9)
  · refine K_iconst 0 dM_areSame_15 rfl ?_
    exact K_iret dM_areSame_16 (Or.inr ⟨rfl, (by decide)⟩) (h6.2 c9)
theorem vM_areSame_20 {E : jE} {μ : jMu} {Q : Option AV → jMu → Prop} {l1 l2 l3 l4 : Int} (hF : ((l3 ≤ l4 → (Q (some (jvI 1)) μ)) ∧ (¬ (l3 ≤ l4) → ((-2147483648 ≤ (l1 + l4) ∧ (l1 + l4) < 2147483648) ∧ (0 ≤ (l1 + l4) ∧ (l1 + l4) < 800) ∧ (-2147483648 ≤ (l2 + l4) ∧ (l2 + l4) < 2147483648) ∧ (0 ≤ (l2 + l4) ∧ (l2 + l4) < 800)) ∧ (((μ 90 (l1 + l4)) = (μ 90 (l2 + l4)) → ((-2147483648 ≤ (l4 + 1) ∧ (l4 + 1) < 2147483648)) ∧ (K 121 E mM_areSame 20 [some (jvR 76), some (jvI l1), some (jvI l2), some (jvI l3), some (jvI (l4 + 1))] [] μ Q)) ∧ (¬ ((μ 90 (l1 + l4)) = (μ 90 (l2 + l4))) → (Q (some (jvI 0)) μ)))))) : K 121 E mM_areSame 20 [some (jvR 76), some (jvI l1), some (jvI l2), some (jvI l3), some (jvI l4)] [] μ Q := by
  refine K_iload 4 l4 dM_areSame_20 rfl ?_
  refine K_iload_n 3 l3 dM_areSame_22 rfl rfl ?_
  refine K_icmp_ge 55 dM_areSame_23 (by decide) (fun c1 => ?_) (fun c1 => ?_)
  · refine K_iconst 1 dM_areSame_55 rfl ?_
    exact K_iret dM_areSame_56 (Or.inr ⟨rfl, (by decide)⟩) (hF.1 c1)
  · refine K_aload_n 0 76 dM_areSame_26 rfl rfl ?_
    refine K_getf 12 22 76 (jvR 90) dM_areSame_27 pf_M_55 rfl rfl (by decide) rfl rfl ?_
    refine K_iload_n 1 l1 dM_areSame_30 rfl rfl ?_
    refine K_iload 4 l4 dM_areSame_31 rfl ?_
    refine K_iadd dM_areSame_33 (w32_id (hF.2 c1).1.1) ?_
    refine K_iald 90 800 dM_areSame_34 rfl rfl (by decide) (hF.2 c1).1.2.1 ?_
    refine K_aload_n 0 76 dM_areSame_35 rfl rfl ?_
    refine K_getf 12 22 76 (jvR 90) dM_areSame_36 pf_M_55 rfl rfl (by decide) rfl rfl ?_
    refine K_iload_n 2 l2 dM_areSame_39 rfl rfl ?_
    refine K_iload 4 l4 dM_areSame_40 rfl ?_
    refine K_iadd dM_areSame_42 (w32_id (hF.2 c1).1.2.2.1) ?_
    refine K_iald 90 800 dM_areSame_43 rfl rfl (by decide) (hF.2 c1).1.2.2.2 ?_
    refine K_icmp_eq 49 dM_areSame_44 (by decide) (fun c4 => ?_) (fun c4 => ?_)
    · refine K_iinc 4 dM_areSame_49 (Nat.le_of_ble_eq_true rfl) rfl (w32_ok ((hF.2 c1).2.1 c4).1) rfl ?_
      refine K_goto 20 dM_areSame_52 (by decide) ?_
      exact ((hF.2 c1).2.1 c4).2
    · refine K_iconst 0 dM_areSame_47 rfl ?_
      exact K_iret dM_areSame_48 (Or.inr ⟨rfl, (by decide)⟩) ((hF.2 c1).2.2 c4)
theorem vM_partLong_0 {E : jE} {μ : jMu} {Q : Option AV → jMu → Prop} {a0 : Int} (hF : (K 121 E mM_partLong 4 [some (jvR 76), some (jvI a0), some (jvI 1), some (jvI a0)] [] μ Q)) : K 121 E mM_partLong 0 [some (jvR 76), some (jvI a0), none, none] [] μ Q := by
  refine K_iconst 1 dM_partLong_0 rfl ?_
  refine K_istore_n 2 dM_partLong_1 rfl (Nat.le_of_ble_eq_true rfl) rfl ?_
  refine K_iload_n 1 a0 dM_partLong_2 rfl rfl ?_
  refine K_istore_n 3 dM_partLong_3 rfl (Nat.le_of_ble_eq_true rfl) rfl ?_
  exact hF
theorem vM_partLong_4 {E : jE} {μ : jMu} {Q : Option AV → jMu → Prop} {l1 l2 l3 : Int} (hF : ((l2 ≤ 0 → ((-2147483648 ≤ (l3 - l1) ∧ (l3 - l1) < 2147483648)) ∧ (Q (some (jvI (l3 - l1))) μ)) ∧ (¬ (l2 ≤ 0) → ((-2147483648 ≤ (l2 - 1) ∧ (l2 - 1) < 2147483648) ∧ (0 ≤ l3 ∧ l3 < 800)) ∧ ((100 ≤ (μ 90 l3) → ((-2147483648 ≤ (l3 + 1) ∧ (l3 + 1) < 2147483648)) ∧ (K 121 E mM_partLong 4 [some (jvR 76), some (jvI l1), some (jvI (l2 - 1)), some (jvI (l3 + 1))] [] μ Q)) ∧ (¬ (100 ≤ (μ 90 l3)) → ((0 ≤ l3 ∧ l3 < 800) ∧ (-2147483648 ≤ (24 + (μ 90 l3)) ∧ (24 + (μ 90 l3)) < 2147483648) ∧ (0 ≤ (24 + (μ 90 l3)) ∧ (24 + (μ 90 l3)) < 48) ∧ (-2147483648 ≤ ((l2 - 1) + (μ 89 (24 + (μ 90 l3)))) ∧ ((l2 - 1) + (μ 89 (24 + (μ 90 l3)))) < 2147483648) ∧ (-2147483648 ≤ (l3 + 1) ∧ (l3 + 1) < 2147483648)) ∧ (K 121 E mM_partLong 4 [some (jvR 76), some (jvI l1), some (jvI ((l2 - 1) + (μ 89 (24 + (μ 90 l3))))), some (jvI (l3 + 1))] [] μ Q)))))) : K 121 E mM_partLong 4 [some (jvR 76), some (jvI l1), some (jvI l2), some (jvI l3)] [] μ Q := by
  refine K_iload_n 2 l2 dM_partLong_4 rfl rfl ?_
  refine K_if_le 45 dM_partLong_5 (by decide) (fun c1 => ?_) (fun c1 => ?_)
  · refine K_iload_n 3 l3 dM_partLong_45 rfl rfl ?_
    refine K_iload_n 1 l1 dM_partLong_46 rfl rfl ?_
    refine K_isub dM_partLong_47 (w32_id (hF.1 c1).1) ?_
    exact K_iret dM_partLong_48 (Or.inl rfl) (hF.1 c1).2
  · refine K_iinc 2 dM_partLong_8 (Nat.le_of_ble_eq_true rfl) rfl (w32_okn (hF.2 c1).1.1) rfl ?_
    refine K_aload_n 0 76 dM_partLong_11 rfl rfl ?_
    refine K_getf 12 22 76 (jvR 90) dM_partLong_12 pf_M_55 rfl rfl (by decide) rfl rfl ?_
    refine K_iload_n 3 l3 dM_partLong_15 rfl rfl ?_
    refine K_iald 90 800 dM_partLong_16 rfl rfl (by decide) (hF.2 c1).1.2 ?_
    refine K_bipush 100 dM_partLong_17 rfl ?_
    refine K_icmp_ge 39 dM_partLong_19 (by decide) (fun c4 => ?_) (fun c4 => ?_)
    · refine K_iinc 3 dM_partLong_39 (Nat.le_of_ble_eq_true rfl) rfl (w32_ok ((hF.2 c1).2.1 c4).1) rfl ?_
      refine K_goto 4 dM_partLong_42 (by decide) ?_
      exact ((hF.2 c1).2.1 c4).2
    · refine K_iload_n 2 (l2 - 1) dM_partLong_22 rfl rfl ?_
      refine K_aload_n 0 76 dM_partLong_23 rfl rfl ?_
      refine K_getf 12 21 76 (jvR 89) dM_partLong_24 pf_M_52 rfl rfl (by decide) rfl rfl ?_
      refine K_bipush 24 dM_partLong_27 rfl ?_
      refine K_aload_n 0 76 dM_partLong_29 rfl rfl ?_
      refine K_getf 12 22 76 (jvR 90) dM_partLong_30 pf_M_55 rfl rfl (by decide) rfl rfl ?_
      refine K_iload_n 3 l3 dM_partLong_33 rfl rfl ?_
      refine K_iald 90 800 dM_partLong_34 rfl rfl (by decide) ((hF.2 c1).2.2 c4).1.1 ?_
      refine K_iadd dM_partLong_35 (w32_id ((hF.2 c1).2.2 c4).1.2.1) ?_
      refine K_iald 89 48 dM_partLong_36 rfl rfl (by decide) ((hF.2 c1).2.2 c4).1.2.2.1 ?_
      refine K_iadd dM_partLong_37 (w32_id ((hF.2 c1).2.2 c4).1.2.2.2.1) ?_
      refine K_istore_n 2 dM_partLong_38 rfl (Nat.le_of_ble_eq_true rfl) rfl ?_
      refine K_iinc 3 dM_partLong_39 (Nat.le_of_ble_eq_true rfl) rfl (w32_ok ((hF.2 c1).2.2 c4).1.2.2.2.2) rfl ?_
      refine K_goto 4 dM_partLong_42 (by decide) ?_
      exact ((hF.2 c1).2.2 c4).2
theorem vBk_named_0 {E : jE} {μ : jMu} {Q : Option AV → jMu → Prop} {b : Nat} (hb : isB b) {a0 a1 : Int} (hF : ((-2147483648 ≤ (3 * a0) ∧ (3 * a0) < 2147483648) ∧ (-2147483648 ≤ ((3 * a0) + a1) ∧ ((3 * a0) + a1) < 2147483648) ∧ (0 ≤ ((3 * a0) + a1) ∧ ((3 * a0) + a1) < 120)) ∧ (Q (some (jvI (μ (b + 14) ((3 * a0) + a1)))) μ)) : K 121 E mBk_named 0 [some (jvR ((b : Nat) : Int)), some (jvI a0), some (jvI a1)] [] μ Q := by
  refine K_aload_n 0 ((b : Nat) : Int) dBk_named_0 rfl rfl ?_
  refine K_getf 2 7 b (jvR ((b + 14 : Nat) : Int)) dBk_named_1 pf_Bk_37 rfl (isB_c0 hb) (isB_n 0 (by decide) hb) rfl (isB_f0_7 hb) ?_
  refine K_iconst 3 dBk_named_4 rfl ?_
  refine K_iload_n 1 a0 dBk_named_5 rfl rfl ?_
  refine K_imul dBk_named_6 (w32_id hF.1.1) ?_
  refine K_iload_n 2 a1 dBk_named_7 rfl rfl ?_
  refine K_iadd dBk_named_8 (w32_id hF.1.2.1) ?_
  refine K_iald (b + 14) 120 dBk_named_9 rfl (isB_c14 hb) (isB_n 14 (by decide) hb) hF.1.2.2 ?_
  exact K_iret dBk_named_10 (Or.inl rfl) hF.2
theorem vBk_addRule_0 {E : jE} {μ : jMu} {Q : Option AV → jMu → Prop} {b : Nat} (hb : isB b) {a0 a1 a2 : Int} (hF : ((0 ≤ (μ b 12) ∧ (μ b 12) < 12) ∧ (0 ≤ ((j_up μ (b + 8) (μ b 12) a0) b 12) ∧ ((j_up μ (b + 8) (μ b 12) a0) b 12) < 12) ∧ (0 ≤ ((j_up (j_up μ (b + 8) (μ b 12) a0) (b + 9) ((j_up μ (b + 8) (μ b 12) a0) b 12) a1) b 12) ∧ ((j_up (j_up μ (b + 8) (μ b 12) a0) (b + 9) ((j_up μ (b + 8) (μ b 12) a0) b 12) a1) b 12) < 12) ∧ (-2147483648 ≤ (((j_up (j_up (j_up μ (b + 8) (μ b 12) a0) (b + 9) ((j_up μ (b + 8) (μ b 12) a0) b 12) a1) (b + 11) ((j_up (j_up μ (b + 8) (μ b 12) a0) (b + 9) ((j_up μ (b + 8) (μ b 12) a0) b 12) a1) b 12) a2) b 12) + 1) ∧ (((j_up (j_up (j_up μ (b + 8) (μ b 12) a0) (b + 9) ((j_up μ (b + 8) (μ b 12) a0) b 12) a1) (b + 11) ((j_up (j_up μ (b + 8) (μ b 12) a0) (b + 9) ((j_up μ (b + 8) (μ b 12) a0) b 12) a1) b 12) a2) b 12) + 1) < 2147483648)) ∧ (Q none (j_up (j_up (j_up (j_up μ (b + 8) (μ b 12) a0) (b + 9) ((j_up μ (b + 8) (μ b 12) a0) b 12) a1) (b + 11) ((j_up (j_up μ (b + 8) (μ b 12) a0) (b + 9) ((j_up μ (b + 8) (μ b 12) a0) b 12) a1) b 12) a2) b 12 (((j_up (j_up (j_up μ (b + 8) (μ b 12) a0) (b + 9) ((j_up μ (b + 8) (μ b 12) a0) b 12) a1) (b + 11) ((j_up (j_up μ (b + 8) (μ b 12) a0) (b + 9) ((j_up μ (b + 8) (μ b 12) a0) b 12) a1) b 12) a2) b 12) + 1)))) : K 121 E mBk_addRule 0 [some (jvR ((b : Nat) : Int)), some (jvI a0), some (jvI a1), some (jvI a2)] [] μ Q := by
  refine K_aload_n 0 ((b : Nat) : Int) dBk_addRule_0 rfl rfl ?_
  refine K_getf 2 1 b (jvR ((b + 8 : Nat) : Int)) dBk_addRule_1 pf_Bk_18 rfl (isB_c0 hb) (isB_n 0 (by decide) hb) rfl (isB_f0_1 hb) ?_
  refine K_aload_n 0 ((b : Nat) : Int) dBk_addRule_4 rfl rfl ?_
  refine K_getf 2 12 b (jvI (μ b 12)) dBk_addRule_5 pf_Bk_59 rfl (isB_c0 hb) (isB_n 0 (by decide) hb) rfl (isB_f0_12 hb) ?_
  refine K_iload_n 1 a0 dBk_addRule_8 rfl rfl ?_
  refine K_iast (b + 8) 12 dBk_addRule_9 rfl (isB_c8 hb) (isB_n 8 (by decide) hb) hF.1.1 ?_
  refine K_aload_n 0 ((b : Nat) : Int) dBk_addRule_10 rfl rfl ?_
  refine K_getf 2 2 b (jvR ((b + 9 : Nat) : Int)) dBk_addRule_11 pf_Bk_22 rfl (isB_c0 hb) (isB_n 0 (by decide) hb) rfl (isB_f0_2 hb) ?_
  refine K_aload_n 0 ((b : Nat) : Int) dBk_addRule_14 rfl rfl ?_
  refine K_getf 2 12 b (jvI ((j_up μ (b + 8) (μ b 12) a0) b 12)) dBk_addRule_15 pf_Bk_59 rfl (isB_c0 hb) (isB_n 0 (by decide) hb) rfl (isB_f0_12 hb) ?_
  refine K_iload_n 2 a1 dBk_addRule_18 rfl rfl ?_
  refine K_iast (b + 9) 12 dBk_addRule_19 rfl (isB_c9 hb) (isB_n 9 (by decide) hb) hF.1.2.1 ?_
  refine K_aload_n 0 ((b : Nat) : Int) dBk_addRule_20 rfl rfl ?_
  refine K_getf 2 4 b (jvR ((b + 11 : Nat) : Int)) dBk_addRule_21 pf_Bk_28 rfl (isB_c0 hb) (isB_n 0 (by decide) hb) rfl (isB_f0_4 hb) ?_
  refine K_aload_n 0 ((b : Nat) : Int) dBk_addRule_24 rfl rfl ?_
  refine K_getf 2 12 b (jvI ((j_up (j_up μ (b + 8) (μ b 12) a0) (b + 9) ((j_up μ (b + 8) (μ b 12) a0) b 12) a1) b 12)) dBk_addRule_25 pf_Bk_59 rfl (isB_c0 hb) (isB_n 0 (by decide) hb) rfl (isB_f0_12 hb) ?_
  refine K_iload_n 3 a2 dBk_addRule_28 rfl rfl ?_
  refine K_iast (b + 11) 12 dBk_addRule_29 rfl (isB_c11 hb) (isB_n 11 (by decide) hb) hF.1.2.2.1 ?_
  refine K_aload_n 0 ((b : Nat) : Int) dBk_addRule_30 rfl rfl ?_
  refine K_dup dBk_addRule_31 (fun _ h => by cases h) ?_
  refine K_getf 2 12 b (jvI ((j_up (j_up (j_up μ (b + 8) (μ b 12) a0) (b + 9) ((j_up μ (b + 8) (μ b 12) a0) b 12) a1) (b + 11) ((j_up (j_up μ (b + 8) (μ b 12) a0) (b + 9) ((j_up μ (b + 8) (μ b 12) a0) b 12) a1) b 12) a2) b 12)) dBk_addRule_32 pf_Bk_59 rfl (isB_c0 hb) (isB_n 0 (by decide) hb) rfl (isB_f0_12 hb) ?_
  refine K_iconst 1 dBk_addRule_35 rfl ?_
  refine K_iadd dBk_addRule_36 (w32_id hF.1.2.2.2) ?_
  refine K_putf 2 12 b (x := (((j_up (j_up (j_up μ (b + 8) (μ b 12) a0) (b + 9) ((j_up μ (b + 8) (μ b 12) a0) b 12) a1) (b + 11) ((j_up (j_up μ (b + 8) (μ b 12) a0) (b + 9) ((j_up μ (b + 8) (μ b 12) a0) b 12) a1) b 12) a2) b 12) + 1)) dBk_addRule_37 pf_Bk_59 rfl (isB_c0 hb) (isB_n 0 (by decide) hb) rfl rfl (isB_x0_12 hb) rfl trivial ?_
  exact K_vret dBk_addRule_40 rfl hF.2
theorem vPa_readRule_0 {E : jE} {μ : jMu} {Q : Option AV → jMu → Prop} {b : Nat} (hb : isB b) (hF : (μ 3 5 = ((b : Nat) : Int) ∧ μ 3 4 = 1) ∧ (Cv E mTa_advance [jvR 1] μ (fun μ1 => (Ci E mPa_takeNewName [jvR 3] μ1 (fun r7 μ4 => ((¬ r7 = 0 → (μ4 3 4 = 1) ∧ (Ci E mTa_isWord [jvR 1, jvI 245044832] μ4 (fun r13 μ10 => ((¬ r13 = 0 → (K 121 E mPa_readRule 47 [some (jvR 3), some (jvI (μ b 12)), some (jvI 0), some (jvI r7), some (jvI 0), none] [] μ10 Q)) ∧ (r13 = 0 → (K 121 E mPa_readRule 47 [some (jvR 3), some (jvI (μ b 12)), some (jvI 0), some (jvI r7), some (jvI 1), none] [] μ10 Q)))))) ∧ (r7 = 0 → (Q (some (jvI 0)) μ4)))))))) : K 121 E mPa_readRule 0 [some (jvR 3), none, none, none, none, none] [] μ Q := by
  refine K_aload_n 0 3 dPa_readRule_0 rfl rfl ?_
  refine K_getf 5 5 3 (jvR ((b : Nat) : Int)) dPa_readRule_1 pf_Pa_29 rfl rfl (by decide) rfl (congrArg jvR hF.1.1) ?_
  refine K_getf 2 12 b (jvI (μ b 12)) dPa_readRule_4 pf_Pa_70 rfl (isB_c0 hb) (isB_n 0 (by decide) hb) rfl (isB_f0_12 hb) ?_
  refine K_istore_n 1 dPa_readRule_7 rfl (Nat.le_of_ble_eq_true rfl) rfl ?_
  refine K_iconst 0 dPa_readRule_8 rfl ?_
  refine K_istore_n 2 dPa_readRule_9 rfl (Nat.le_of_ble_eq_true rfl) rfl ?_
  refine K_aload_n 0 3 dPa_readRule_10 rfl rfl ?_
  refine K_getf 5 4 3 (jvR 1) dPa_readRule_11 pf_Pa_25 rfl rfl (by decide) rfl (congrArg jvR hF.1.2) ?_
  refine K_callVv mTa_advance 8 1 [] dPa_readRule_14 pm_Pa_94 ⟨_, rfl, rfl⟩ ⟨(Nat.le_of_ble_eq_true rfl), (Nat.le_of_ble_eq_true rfl)⟩ rfl rfl (by decide) (Nat.le_of_ble_eq_true rfl) rfl (Nat.le_of_ble_eq_true rfl) (by decide) (Cv_mono hF.2 (fun μ1 h2 => ?_))
  refine K_aload_n 0 3 dPa_readRule_17 rfl rfl ?_
  refine K_callVi mPa_takeNewName 5 3 [] dPa_readRule_18 pm_Pa_97 ⟨_, rfl, rfl⟩ ⟨(Nat.le_of_ble_eq_true rfl), (Nat.le_of_ble_eq_true rfl)⟩ rfl rfl (by decide) (Nat.le_of_ble_eq_true rfl) rfl (Nat.le_of_ble_eq_true rfl) (by decide) (Ci_mono h2 (fun r7 μ4 h5 => ?_))
  refine K_istore_n 3 dPa_readRule_21 rfl (Nat.le_of_ble_eq_true rfl) rfl ?_
  refine K_iload_n 3 r7 dPa_readRule_22 rfl rfl ?_
  refine K_if_ne 28 dPa_readRule_23 (by decide) (fun c8 => ?_) (fun c8 => ?_)
  · refine K_aload_n 0 3 dPa_readRule_28 rfl rfl ?_
    refine K_getf 5 4 3 (jvR 1) dPa_readRule_29 pf_Pa_25 rfl rfl (by decide) rfl (congrArg jvR (h5.1 c8).1) ?_
    refine K_ldc 245044832 dPa_readRule_32 pc_Pa_101 rfl ?_
    refine K_callVi mTa_isWord 8 1 [jvI 245044832] dPa_readRule_34 pm_Pa_66 ⟨_, rfl, rfl⟩ ⟨(Nat.le_of_ble_eq_true rfl), (Nat.le_of_ble_eq_true rfl)⟩ rfl rfl (by decide) (Nat.le_of_ble_eq_true rfl) rfl (Nat.le_of_ble_eq_true rfl) (by decide) (Ci_mono (h5.1 c8).2 (fun r13 μ10 h11 => ?_))
    refine K_if_ne 44 dPa_readRule_37 (by decide) (fun c14 => ?_) (fun c14 => ?_)
    · refine K_iconst 0 dPa_readRule_44 rfl ?_
      refine K_istore 4 dPa_readRule_45 (Nat.le_of_ble_eq_true rfl) rfl ?_
      exact (h11.1 c14)
    · refine K_iconst 1 dPa_readRule_40 rfl ?_
      refine K_goto 45 dPa_readRule_41 (by decide) ?_
      refine K_istore 4 dPa_readRule_45 (Nat.le_of_ble_eq_true rfl) rfl ?_
      exact (h11.2 c14)
  · refine K_iconst 0 dPa_readRule_26 rfl ?_
    exact K_iret dPa_readRule_27 (Or.inr ⟨rfl, (by decide)⟩) (h5.2 c8)
theorem vPa_readRule_47 {E : jE} {μ : jMu} {Q : Option AV → jMu → Prop} {b : Nat} (hb : isB b) {l1 l2 l3 l4 : Int} (hF : ((l4 = 0 → (Ci E mPa_takeWord [jvR 3, jvI 245044832] μ (fun r6 μ3 => ((¬ r6 = 0 → (Ci E mPa_readTerm [jvR 3] μ3 (fun r12 μ9 => ((¬ r12 = (-1) → (μ9 3 5 = ((b : Nat) : Int)) ∧ (Cv E mBk_addRule [jvR ((b : Nat) : Int), jvI l3, jvI l2, jvI r12] μ9 (fun μ15 => (Q (some (jvI 1)) μ15)))) ∧ (r12 = (-1) → (Q (some (jvI 0)) μ9)))))) ∧ (r6 = 0 → (Q (some (jvI 0)) μ3)))))) ∧ (¬ (l4 = 0) → ((3 ≤ l2 → (Ci E mPa_takeWord [jvR 3, jvI 245044832] μ (fun r26 μ23 => ((¬ r26 = 0 → (Ci E mPa_readTerm [jvR 3] μ23 (fun r32 μ29 => ((¬ r32 = (-1) → (μ29 3 5 = ((b : Nat) : Int)) ∧ (Cv E mBk_addRule [jvR ((b : Nat) : Int), jvI l3, jvI l2, jvI r32] μ29 (fun μ35 => (Q (some (jvI 1)) μ35)))) ∧ (r32 = (-1) → (Q (some (jvI 0)) μ29)))))) ∧ (r26 = 0 → (Q (some (jvI 0)) μ23)))))) ∧ (¬ (3 ≤ l2) → (Ci E mPa_readTerm [jvR 3] μ (fun r44 μ41 => ((¬ r44 = (-1) → (μ41 3 5 = ((b : Nat) : Int) ∧ (-2147483648 ≤ (3 * l1) ∧ (3 * l1) < 2147483648) ∧ (-2147483648 ≤ ((3 * l1) + l2) ∧ ((3 * l1) + l2) < 2147483648) ∧ (0 ≤ ((3 * l1) + l2) ∧ ((3 * l1) + l2) < 36) ∧ (-2147483648 ≤ (l2 + 1) ∧ (l2 + 1) < 2147483648)) ∧ ((3 ≤ (l2 + 1) → (K 121 E mPa_readRule 47 [some (jvR 3), some (jvI l1), some (jvI (l2 + 1)), some (jvI l3), some (jvI 0), none] [] (j_up μ41 (b + 10) ((3 * l1) + l2) r44) Q)) ∧ (¬ (3 ≤ (l2 + 1)) → ((j_up μ41 (b + 10) ((3 * l1) + l2) r44) 3 4 = 1) ∧ (Ci E mTa_isMark [jvR 1, jvI 44] (j_up μ41 (b + 10) ((3 * l1) + l2) r44) (fun r54 μ51 => ((r54 = 0 → (K 121 E mPa_readRule 47 [some (jvR 3), some (jvI l1), some (jvI (l2 + 1)), some (jvI l3), some (jvI 0), none] [] μ51 Q)) ∧ (¬ (r54 = 0) → (μ51 3 4 = 1) ∧ (Cv E mTa_advance [jvR 1] μ51 (fun μ61 => (K 121 E mPa_readRule 47 [some (jvR 3), some (jvI l1), some (jvI (l2 + 1)), some (jvI l3), some (jvI 1), none] [] μ61 Q)))))))))) ∧ (r44 = (-1) → (Q (some (jvI 0)) μ41)))))))))) : K 121 E mPa_readRule 47 [some (jvR 3), some (jvI l1), some (jvI l2), some (jvI l3), some (jvI l4), none] [] μ Q := by
  refine K_iload 4 l4 dPa_readRule_47 rfl ?_
  refine K_if_eq 128 dPa_readRule_49 (by decide) (fun c1 => ?_) (fun c1 => ?_)
  · refine K_aload_n 0 3 dPa_readRule_128 rfl rfl ?_
    refine K_ldc 245044832 dPa_readRule_129 pc_Pa_101 rfl ?_
    refine K_callVi mPa_takeWord 5 3 [jvI 245044832] dPa_readRule_131 pm_Pa_111 ⟨_, rfl, rfl⟩ ⟨(Nat.le_of_ble_eq_true rfl), (Nat.le_of_ble_eq_true rfl)⟩ rfl rfl (by decide) (Nat.le_of_ble_eq_true rfl) rfl (Nat.le_of_ble_eq_true rfl) (by decide) (Ci_mono (hF.1 c1) (fun r6 μ3 h4 => ?_))
    refine K_if_ne 139 dPa_readRule_134 (by decide) (fun c7 => ?_) (fun c7 => ?_)
    · refine K_aload_n 0 3 dPa_readRule_139 rfl rfl ?_
      refine K_callVi mPa_readTerm 5 3 [] dPa_readRule_140 pm_Pa_102 ⟨_, rfl, rfl⟩ ⟨(Nat.le_of_ble_eq_true rfl), (Nat.le_of_ble_eq_true rfl)⟩ rfl rfl (by decide) (Nat.le_of_ble_eq_true rfl) rfl (Nat.le_of_ble_eq_true rfl) (by decide) (Ci_mono (h4.1 c7) (fun r12 μ9 h10 => ?_))
      refine K_istore 5 dPa_readRule_143 (Nat.le_of_ble_eq_true rfl) rfl ?_
      refine K_iload 5 r12 dPa_readRule_145 rfl ?_
      refine K_iconst (-1) dPa_readRule_147 rfl ?_
      refine K_icmp_ne 153 dPa_readRule_148 (by decide) (fun c13 => ?_) (fun c13 => ?_)
      · refine K_aload_n 0 3 dPa_readRule_153 rfl rfl ?_
        refine K_getf 5 5 3 (jvR ((b : Nat) : Int)) dPa_readRule_154 pf_Pa_29 rfl rfl (by decide) rfl (congrArg jvR (h10.1 c13).1) ?_
        refine K_iload_n 3 l3 dPa_readRule_157 rfl rfl ?_
        refine K_iload_n 2 l2 dPa_readRule_158 rfl rfl ?_
        refine K_iload 5 r12 dPa_readRule_159 rfl ?_
        refine K_callVv mBk_addRule 2 b [jvI l3, jvI l2, jvI r12] dPa_readRule_161 pm_Pa_114 ⟨_, rfl, rfl⟩ ⟨(Nat.le_of_ble_eq_true rfl), (Nat.le_of_ble_eq_true rfl)⟩ rfl (isB_c0 hb) (isB_n 0 (by decide) hb) (Nat.le_of_ble_eq_true rfl) rfl (Nat.le_of_ble_eq_true rfl) (by decide) (Cv_mono (h10.1 c13).2 (fun μ15 h16 => ?_))
        refine K_iconst 1 dPa_readRule_164 rfl ?_
        exact K_iret dPa_readRule_165 (Or.inr ⟨rfl, (by decide)⟩) h16
      · refine K_iconst 0 dPa_readRule_151 rfl ?_
        exact K_iret dPa_readRule_152 (Or.inr ⟨rfl, (by decide)⟩) (h10.2 c13)
    · refine K_iconst 0 dPa_readRule_137 rfl ?_
      exact K_iret dPa_readRule_138 (Or.inr ⟨rfl, (by decide)⟩) (h4.2 c7)
  · refine K_iload_n 2 l2 dPa_readRule_52 rfl rfl ?_
    refine K_iconst 3 dPa_readRule_53 rfl ?_
    refine K_icmp_ge 128 dPa_readRule_54 (by decide) (fun c21 => ?_) (fun c21 => ?_)
    · refine K_aload_n 0 3 dPa_readRule_128 rfl rfl ?_
      refine K_ldc 245044832 dPa_readRule_129 pc_Pa_101 rfl ?_
      refine K_callVi mPa_takeWord 5 3 [jvI 245044832] dPa_readRule_131 pm_Pa_111 ⟨_, rfl, rfl⟩ ⟨(Nat.le_of_ble_eq_true rfl), (Nat.le_of_ble_eq_true rfl)⟩ rfl rfl (by decide) (Nat.le_of_ble_eq_true rfl) rfl (Nat.le_of_ble_eq_true rfl) (by decide) (Ci_mono ((hF.2 c1).1 c21) (fun r26 μ23 h24 => ?_))
      refine K_if_ne 139 dPa_readRule_134 (by decide) (fun c27 => ?_) (fun c27 => ?_)
      · refine K_aload_n 0 3 dPa_readRule_139 rfl rfl ?_
        refine K_callVi mPa_readTerm 5 3 [] dPa_readRule_140 pm_Pa_102 ⟨_, rfl, rfl⟩ ⟨(Nat.le_of_ble_eq_true rfl), (Nat.le_of_ble_eq_true rfl)⟩ rfl rfl (by decide) (Nat.le_of_ble_eq_true rfl) rfl (Nat.le_of_ble_eq_true rfl) (by decide) (Ci_mono (h24.1 c27) (fun r32 μ29 h30 => ?_))
        refine K_istore 5 dPa_readRule_143 (Nat.le_of_ble_eq_true rfl) rfl ?_
        refine K_iload 5 r32 dPa_readRule_145 rfl ?_
        refine K_iconst (-1) dPa_readRule_147 rfl ?_
        refine K_icmp_ne 153 dPa_readRule_148 (by decide) (fun c33 => ?_) (fun c33 => ?_)
        · refine K_aload_n 0 3 dPa_readRule_153 rfl rfl ?_
          refine K_getf 5 5 3 (jvR ((b : Nat) : Int)) dPa_readRule_154 pf_Pa_29 rfl rfl (by decide) rfl (congrArg jvR (h30.1 c33).1) ?_
          refine K_iload_n 3 l3 dPa_readRule_157 rfl rfl ?_
          refine K_iload_n 2 l2 dPa_readRule_158 rfl rfl ?_
          refine K_iload 5 r32 dPa_readRule_159 rfl ?_
          refine K_callVv mBk_addRule 2 b [jvI l3, jvI l2, jvI r32] dPa_readRule_161 pm_Pa_114 ⟨_, rfl, rfl⟩ ⟨(Nat.le_of_ble_eq_true rfl), (Nat.le_of_ble_eq_true rfl)⟩ rfl (isB_c0 hb) (isB_n 0 (by decide) hb) (Nat.le_of_ble_eq_true rfl) rfl (Nat.le_of_ble_eq_true rfl) (by decide) (Cv_mono (h30.1 c33).2 (fun μ35 h36 => ?_))
          refine K_iconst 1 dPa_readRule_164 rfl ?_
          exact K_iret dPa_readRule_165 (Or.inr ⟨rfl, (by decide)⟩) h36
        · refine K_iconst 0 dPa_readRule_151 rfl ?_
          exact K_iret dPa_readRule_152 (Or.inr ⟨rfl, (by decide)⟩) (h30.2 c33)
      · refine K_iconst 0 dPa_readRule_137 rfl ?_
        exact K_iret dPa_readRule_138 (Or.inr ⟨rfl, (by decide)⟩) (h24.2 c27)
    · refine K_aload_n 0 3 dPa_readRule_57 rfl rfl ?_
      refine K_callVi mPa_readTerm 5 3 [] dPa_readRule_58 pm_Pa_102 ⟨_, rfl, rfl⟩ ⟨(Nat.le_of_ble_eq_true rfl), (Nat.le_of_ble_eq_true rfl)⟩ rfl rfl (by decide) (Nat.le_of_ble_eq_true rfl) rfl (Nat.le_of_ble_eq_true rfl) (by decide) (Ci_mono ((hF.2 c1).2 c21) (fun r44 μ41 h42 => ?_))
      refine K_istore 5 dPa_readRule_61 (Nat.le_of_ble_eq_true rfl) rfl ?_
      refine K_iload 5 r44 dPa_readRule_63 rfl ?_
      refine K_iconst (-1) dPa_readRule_65 rfl ?_
      refine K_icmp_ne 71 dPa_readRule_66 (by decide) (fun c45 => ?_) (fun c45 => ?_)
      · refine K_aload_n 0 3 dPa_readRule_71 rfl rfl ?_
        refine K_getf 5 5 3 (jvR ((b : Nat) : Int)) dPa_readRule_72 pf_Pa_29 rfl rfl (by decide) rfl (congrArg jvR (h42.1 c45).1.1) ?_
        refine K_getf 2 3 b (jvR ((b + 10 : Nat) : Int)) dPa_readRule_75 pf_Pa_105 rfl (isB_c0 hb) (isB_n 0 (by decide) hb) rfl (isB_f0_3 hb) ?_
        refine K_iconst 3 dPa_readRule_78 rfl ?_
        refine K_iload_n 1 l1 dPa_readRule_79 rfl rfl ?_
        refine K_imul dPa_readRule_80 (w32_id (h42.1 c45).1.2.1) ?_
        refine K_iload_n 2 l2 dPa_readRule_81 rfl rfl ?_
        refine K_iadd dPa_readRule_82 (w32_id (h42.1 c45).1.2.2.1) ?_
        refine K_iload 5 r44 dPa_readRule_83 rfl ?_
        refine K_iast (b + 10) 36 dPa_readRule_85 rfl (isB_c10 hb) (isB_n 10 (by decide) hb) (h42.1 c45).1.2.2.2.1 ?_
        refine K_iinc 2 dPa_readRule_86 (Nat.le_of_ble_eq_true rfl) rfl (w32_ok (h42.1 c45).1.2.2.2.2) rfl ?_
        refine K_iload_n 2 (l2 + 1) dPa_readRule_89 rfl rfl ?_
        refine K_iconst 3 dPa_readRule_90 rfl ?_
        refine K_icmp_ge 110 dPa_readRule_91 (by decide) (fun c47 => ?_) (fun c47 => ?_)
        · refine K_iconst 0 dPa_readRule_110 rfl ?_
          refine K_istore 4 dPa_readRule_111 (Nat.le_of_ble_eq_true rfl) rfl ?_
          refine K_iload 4 0 dPa_readRule_113 rfl ?_
          refine K_if_eq 125 dPa_readRule_115 (by decide) (fun c49 => ?_) (fun c49 => absurd c49 (by decide))
          refine K_goto 47 dPa_readRule_125 (by decide) ?_
          exact K_forget [true, true, true, true, true, false] ((h42.1 c45).2.1 c47)
        · refine K_aload_n 0 3 dPa_readRule_94 rfl rfl ?_
          refine K_getf 5 4 3 (jvR 1) dPa_readRule_95 pf_Pa_25 rfl rfl (by decide) rfl (congrArg jvR ((h42.1 c45).2.2 c47).1) ?_
          refine K_bipush 44 dPa_readRule_98 rfl ?_
          refine K_callVi mTa_isMark 8 1 [jvI 44] dPa_readRule_100 pm_Pa_108 ⟨_, rfl, rfl⟩ ⟨(Nat.le_of_ble_eq_true rfl), (Nat.le_of_ble_eq_true rfl)⟩ rfl rfl (by decide) (Nat.le_of_ble_eq_true rfl) rfl (Nat.le_of_ble_eq_true rfl) (by decide) (Ci_mono ((h42.1 c45).2.2 c47).2 (fun r54 μ51 h52 => ?_))
          refine K_if_eq 110 dPa_readRule_103 (by decide) (fun c55 => ?_) (fun c55 => ?_)
          · refine K_iconst 0 dPa_readRule_110 rfl ?_
            refine K_istore 4 dPa_readRule_111 (Nat.le_of_ble_eq_true rfl) rfl ?_
            refine K_iload 4 0 dPa_readRule_113 rfl ?_
            refine K_if_eq 125 dPa_readRule_115 (by decide) (fun c57 => ?_) (fun c57 => absurd c57 (by decide))
            refine K_goto 47 dPa_readRule_125 (by decide) ?_
            exact K_forget [true, true, true, true, true, false] (h52.1 c55)
          · refine K_iconst 1 dPa_readRule_106 rfl ?_
            refine K_goto 111 dPa_readRule_107 (by decide) ?_
            refine K_istore 4 dPa_readRule_111 (Nat.le_of_ble_eq_true rfl) rfl ?_
            refine K_iload 4 1 dPa_readRule_113 rfl ?_
            refine K_if_eq 125 dPa_readRule_115 (by decide) (fun c59 => absurd c59 (by decide)) (fun c59 => ?_)
            refine K_aload_n 0 3 dPa_readRule_118 rfl rfl ?_
            refine K_getf 5 4 3 (jvR 1) dPa_readRule_119 pf_Pa_25 rfl rfl (by decide) rfl (congrArg jvR (h52.2 c55).1) ?_
            refine K_callVv mTa_advance 8 1 [] dPa_readRule_122 pm_Pa_94 ⟨_, rfl, rfl⟩ ⟨(Nat.le_of_ble_eq_true rfl), (Nat.le_of_ble_eq_true rfl)⟩ rfl rfl (by decide) (Nat.le_of_ble_eq_true rfl) rfl (Nat.le_of_ble_eq_true rfl) (by decide) (Cv_mono (h52.2 c55).2 (fun μ61 h62 => ?_))
            refine K_goto 47 dPa_readRule_125 (by decide) ?_
            exact K_forget [true, true, true, true, true, false] h62
      · refine K_iconst 0 dPa_readRule_69 rfl ?_
        exact K_iret dPa_readRule_70 (Or.inr ⟨rfl, (by decide)⟩) (h42.2 c45)
theorem vX_has_0 {E : jE} {μ : jMu} {Q : Option AV → jMu → Prop} {b : Nat} (hb : isB b) {a0 : Int} (hF : ((a0 = 0 → (μ 0 9 = ((b : Nat) : Int)) ∧ (Q (some (jvI (μ b 12))) μ)) ∧ (a0 = 1 → (μ 0 9 = ((b : Nat) : Int)) ∧ (Q (some (jvI (μ b 13))) μ)) ∧ (a0 = 2 → (μ 0 9 = ((b : Nat) : Int)) ∧ (Q (some (jvI (μ b 14))) μ)) ∧ (a0 = 3 → (μ 0 9 = ((b : Nat) : Int)) ∧ (Q (some (jvI (μ (b + 1) 6))) μ)) ∧ (a0 = 4 → (μ 0 9 = ((b : Nat) : Int)) ∧ (Q (some (jvI (μ (b + 1) 7))) μ)) ∧ (a0 = 5 → (μ 0 9 = ((b : Nat) : Int)) ∧ (Q (some (jvI (μ b 15))) μ)) ∧ (a0 = 6 → (Ci E mLg_bitCount [jvL (μ 45 8)] μ (fun r12 μ9 => (Q (some (jvI r12)) μ9)))) ∧ (a0 = 7 → (Ci E mLg_bitCount [jvL (μ 45 9)] μ (fun r17 μ14 => (Q (some (jvI r17)) μ14)))) ∧ (a0 = 8 → (Ci E mLg_bitCount [jvL (μ 45 10)] μ (fun r22 μ19 => (Q (some (jvI r22)) μ19)))) ∧ (a0 = 9 → (Ci E mLg_bitCount [jvL (μ 45 11)] μ (fun r27 μ24 => (Q (some (jvI r27)) μ24)))) ∧ (a0 = 10 → (Q (some (jvI (μ 52 6))) μ)) ∧ (a0 = 11 → (Ci E mIg_bitCount [jvI (μ 0 13)] μ (fun r33 μ30 => (Q (some (jvI r33)) μ30)))) ∧ (a0 = 12 → (Ci E mLg_bitCount [jvL (μ 0 14)] μ (fun r38 μ35 => (Q (some (jvI r38)) μ35)))) ∧ (a0 = 13 → (Ci E mIg_bitCount [jvI (μ 74 0)] μ (fun r43 μ40 => (Q (some (jvI r43)) μ40)))) ∧ ((a0 < 0 ∨ 13 < a0) → (Q (some (jvI (-1))) μ)))) : K 121 E mX_has 0 [some (jvR 0), some (jvI a0)] [] μ Q := by
  refine K_iload_n 1 a0 dX_has_0 rfl rfl ?_
  refine K_table dX_has_1 (fun i hi9 ha9 => ?_) rfl 208 (by decide) (fun c1 => ?_)
  · match i, hi9, ha9 with
    | 0, _, ha9 =>
      have c1 : a0 = 0 := by omega
      refine ⟨_, 72, rfl, by decide, ?_⟩
      refine K_aload_n 0 0 dX_has_72 rfl rfl ?_
      refine K_getf 0 9 0 (jvR ((b : Nat) : Int)) dX_has_73 pf_X_26 rfl rfl (by decide) rfl (congrArg jvR (hF.1 c1).1) ?_
      refine K_getf 2 12 b (jvI (μ b 12)) dX_has_76 pf_X_133 rfl (isB_c0 hb) (isB_n 0 (by decide) hb) rfl (isB_f0_12 hb) ?_
      exact K_iret dX_has_79 (Or.inl rfl) (hF.1 c1).2
    | 1, _, ha9 =>
      have c1 : a0 = 1 := by omega
      refine ⟨_, 80, rfl, by decide, ?_⟩
      refine K_aload_n 0 0 dX_has_80 rfl rfl ?_
      refine K_getf 0 9 0 (jvR ((b : Nat) : Int)) dX_has_81 pf_X_26 rfl rfl (by decide) rfl (congrArg jvR (hF.2.1 c1).1) ?_
      refine K_getf 2 13 b (jvI (μ b 13)) dX_has_84 pf_X_136 rfl (isB_c0 hb) (isB_n 0 (by decide) hb) rfl (isB_f0_13 hb) ?_
      exact K_iret dX_has_87 (Or.inl rfl) (hF.2.1 c1).2
    | 2, _, ha9 =>
      have c1 : a0 = 2 := by omega
      refine ⟨_, 88, rfl, by decide, ?_⟩
      refine K_aload_n 0 0 dX_has_88 rfl rfl ?_
      refine K_getf 0 9 0 (jvR ((b : Nat) : Int)) dX_has_89 pf_X_26 rfl rfl (by decide) rfl (congrArg jvR (hF.2.2.1 c1).1) ?_
      refine K_getf 2 14 b (jvI (μ b 14)) dX_has_92 pf_X_139 rfl (isB_c0 hb) (isB_n 0 (by decide) hb) rfl (isB_f0_14 hb) ?_
      exact K_iret dX_has_95 (Or.inl rfl) (hF.2.2.1 c1).2
    | 3, _, ha9 =>
      have c1 : a0 = 3 := by omega
      refine ⟨_, 96, rfl, by decide, ?_⟩
      refine K_aload_n 0 0 dX_has_96 rfl rfl ?_
      refine K_getf 0 9 0 (jvR ((b : Nat) : Int)) dX_has_97 pf_X_26 rfl rfl (by decide) rfl (congrArg jvR (hF.2.2.2.1 c1).1) ?_
      refine K_getf 2 0 b (jvR ((b + 1 : Nat) : Int)) dX_has_100 pf_X_142 rfl (isB_c0 hb) (isB_n 0 (by decide) hb) rfl (isB_f0_0 hb) ?_
      refine K_getf 9 6 (b + 1) (jvI (μ (b + 1) 6)) dX_has_103 pf_X_146 rfl (isB_c1 hb) (isB_n 1 (by decide) hb) rfl (isB_f1_6 hb) ?_
      exact K_iret dX_has_106 (Or.inl rfl) (hF.2.2.2.1 c1).2
    | 4, _, ha9 =>
      have c1 : a0 = 4 := by omega
      refine ⟨_, 107, rfl, by decide, ?_⟩
      refine K_aload_n 0 0 dX_has_107 rfl rfl ?_
      refine K_getf 0 9 0 (jvR ((b : Nat) : Int)) dX_has_108 pf_X_26 rfl rfl (by decide) rfl (congrArg jvR (hF.2.2.2.2.1 c1).1) ?_
      refine K_getf 2 0 b (jvR ((b + 1 : Nat) : Int)) dX_has_111 pf_X_142 rfl (isB_c0 hb) (isB_n 0 (by decide) hb) rfl (isB_f0_0 hb) ?_
      refine K_getf 9 7 (b + 1) (jvI (μ (b + 1) 7)) dX_has_114 pf_X_151 rfl (isB_c1 hb) (isB_n 1 (by decide) hb) rfl (isB_f1_7 hb) ?_
      exact K_iret dX_has_117 (Or.inl rfl) (hF.2.2.2.2.1 c1).2
    | 5, _, ha9 =>
      have c1 : a0 = 5 := by omega
      refine ⟨_, 118, rfl, by decide, ?_⟩
      refine K_aload_n 0 0 dX_has_118 rfl rfl ?_
      refine K_getf 0 9 0 (jvR ((b : Nat) : Int)) dX_has_119 pf_X_26 rfl rfl (by decide) rfl (congrArg jvR (hF.2.2.2.2.2.1 c1).1) ?_
      refine K_getf 2 15 b (jvI (μ b 15)) dX_has_122 pf_X_154 rfl (isB_c0 hb) (isB_n 0 (by decide) hb) rfl (isB_f0_15 hb) ?_
      exact K_iret dX_has_125 (Or.inl rfl) (hF.2.2.2.2.2.1 c1).2
    | 6, _, ha9 =>
      have c1 : a0 = 6 := by omega
      refine ⟨_, 126, rfl, by decide, ?_⟩
      refine K_aload_n 0 0 dX_has_126 rfl rfl ?_
      refine K_getf 0 2 0 (jvR 45) dX_has_127 pf_X_38 rfl rfl (by decide) rfl rfl ?_
      refine K_getf 3 8 45 (jvL (μ 45 8)) dX_has_130 pf_X_157 rfl rfl (by decide) rfl rfl ?_
      refine K_callSi mLg_bitCount [jvL (μ 45 8)] dX_has_133 pm_X_160 ⟨(Nat.le_of_ble_eq_true rfl), (Nat.le_of_ble_eq_true rfl)⟩ (Nat.le_of_ble_eq_true rfl) rfl (Nat.le_of_ble_eq_true rfl) (by decide) (Ci_mono (hF.2.2.2.2.2.2.1 c1) (fun r12 μ9 h10 => ?_))
      exact K_iret dX_has_136 (Or.inl rfl) h10
    | 7, _, ha9 =>
      have c1 : a0 = 7 := by omega
      refine ⟨_, 137, rfl, by decide, ?_⟩
      refine K_aload_n 0 0 dX_has_137 rfl rfl ?_
      refine K_getf 0 2 0 (jvR 45) dX_has_138 pf_X_38 rfl rfl (by decide) rfl rfl ?_
      refine K_getf 3 9 45 (jvL (μ 45 9)) dX_has_141 pf_X_166 rfl rfl (by decide) rfl rfl ?_
      refine K_callSi mLg_bitCount [jvL (μ 45 9)] dX_has_144 pm_X_160 ⟨(Nat.le_of_ble_eq_true rfl), (Nat.le_of_ble_eq_true rfl)⟩ (Nat.le_of_ble_eq_true rfl) rfl (Nat.le_of_ble_eq_true rfl) (by decide) (Ci_mono (hF.2.2.2.2.2.2.2.1 c1) (fun r17 μ14 h15 => ?_))
      exact K_iret dX_has_147 (Or.inl rfl) h15
    | 8, _, ha9 =>
      have c1 : a0 = 8 := by omega
      refine ⟨_, 148, rfl, by decide, ?_⟩
      refine K_aload_n 0 0 dX_has_148 rfl rfl ?_
      refine K_getf 0 2 0 (jvR 45) dX_has_149 pf_X_38 rfl rfl (by decide) rfl rfl ?_
      refine K_getf 3 10 45 (jvL (μ 45 10)) dX_has_152 pf_X_169 rfl rfl (by decide) rfl rfl ?_
      refine K_callSi mLg_bitCount [jvL (μ 45 10)] dX_has_155 pm_X_160 ⟨(Nat.le_of_ble_eq_true rfl), (Nat.le_of_ble_eq_true rfl)⟩ (Nat.le_of_ble_eq_true rfl) rfl (Nat.le_of_ble_eq_true rfl) (by decide) (Ci_mono (hF.2.2.2.2.2.2.2.2.1 c1) (fun r22 μ19 h20 => ?_))
      exact K_iret dX_has_158 (Or.inl rfl) h20
    | 9, _, ha9 =>
      have c1 : a0 = 9 := by omega
      refine ⟨_, 159, rfl, by decide, ?_⟩
      refine K_aload_n 0 0 dX_has_159 rfl rfl ?_
      refine K_getf 0 2 0 (jvR 45) dX_has_160 pf_X_38 rfl rfl (by decide) rfl rfl ?_
      refine K_getf 3 11 45 (jvL (μ 45 11)) dX_has_163 pf_X_172 rfl rfl (by decide) rfl rfl ?_
      refine K_callSi mLg_bitCount [jvL (μ 45 11)] dX_has_166 pm_X_160 ⟨(Nat.le_of_ble_eq_true rfl), (Nat.le_of_ble_eq_true rfl)⟩ (Nat.le_of_ble_eq_true rfl) rfl (Nat.le_of_ble_eq_true rfl) (by decide) (Ci_mono (hF.2.2.2.2.2.2.2.2.2.1 c1) (fun r27 μ24 h25 => ?_))
      exact K_iret dX_has_169 (Or.inl rfl) h25
    | 10, _, ha9 =>
      have c1 : a0 = 10 := by omega
      refine ⟨_, 170, rfl, by decide, ?_⟩
      refine K_aload_n 0 0 dX_has_170 rfl rfl ?_
      refine K_getf 0 2 0 (jvR 45) dX_has_171 pf_X_38 rfl rfl (by decide) rfl rfl ?_
      refine K_getf 3 6 45 (jvR 52) dX_has_174 pf_X_175 rfl rfl (by decide) rfl rfl ?_
      refine K_getf 6 6 52 (jvI (μ 52 6)) dX_has_177 pf_X_179 rfl rfl (by decide) rfl rfl ?_
      exact K_iret dX_has_180 (Or.inl rfl) (hF.2.2.2.2.2.2.2.2.2.2.1 c1)
    | 11, _, ha9 =>
      have c1 : a0 = 11 := by omega
      refine ⟨_, 181, rfl, by decide, ?_⟩
      refine K_aload_n 0 0 dX_has_181 rfl rfl ?_
      refine K_getf 0 13 0 (jvI (μ 0 13)) dX_has_182 pf_X_92 rfl rfl (by decide) rfl rfl ?_
      refine K_callSi mIg_bitCount [jvI (μ 0 13)] dX_has_185 pm_X_182 ⟨(Nat.le_of_ble_eq_true rfl), (Nat.le_of_ble_eq_true rfl)⟩ (Nat.le_of_ble_eq_true rfl) rfl (Nat.le_of_ble_eq_true rfl) (by decide) (Ci_mono (hF.2.2.2.2.2.2.2.2.2.2.2.1 c1) (fun r33 μ30 h31 => ?_))
      exact K_iret dX_has_188 (Or.inl rfl) h31
    | 12, _, ha9 =>
      have c1 : a0 = 12 := by omega
      refine ⟨_, 189, rfl, by decide, ?_⟩
      refine K_aload_n 0 0 dX_has_189 rfl rfl ?_
      refine K_getf 0 14 0 (jvL (μ 0 14)) dX_has_190 pf_X_95 rfl rfl (by decide) rfl rfl ?_
      refine K_callSi mLg_bitCount [jvL (μ 0 14)] dX_has_193 pm_X_160 ⟨(Nat.le_of_ble_eq_true rfl), (Nat.le_of_ble_eq_true rfl)⟩ (Nat.le_of_ble_eq_true rfl) rfl (Nat.le_of_ble_eq_true rfl) (by decide) (Ci_mono (hF.2.2.2.2.2.2.2.2.2.2.2.2.1 c1) (fun r38 μ35 h36 => ?_))
      exact K_iret dX_has_196 (Or.inl rfl) h36
    | 13, _, ha9 =>
      have c1 : a0 = 13 := by omega
      refine ⟨_, 197, rfl, by decide, ?_⟩
      refine K_aload_n 0 0 dX_has_197 rfl rfl ?_
      refine K_getf 0 7 0 (jvR 74) dX_has_198 pf_X_73 rfl rfl (by decide) rfl rfl ?_
      refine K_getf 10 0 74 (jvI (μ 74 0)) dX_has_201 pf_X_127 rfl rfl (by decide) rfl rfl ?_
      refine K_callSi mIg_bitCount [jvI (μ 74 0)] dX_has_204 pm_X_182 ⟨(Nat.le_of_ble_eq_true rfl), (Nat.le_of_ble_eq_true rfl)⟩ (Nat.le_of_ble_eq_true rfl) rfl (Nat.le_of_ble_eq_true rfl) (by decide) (Ci_mono (hF.2.2.2.2.2.2.2.2.2.2.2.2.2.1 c1) (fun r43 μ40 h41 => ?_))
      exact K_iret dX_has_207 (Or.inl rfl) h41
    | i + 14, hi9, _ => exact absurd hi9 (by simp <;> omega)
  · skip
    refine K_iconst (-1) dX_has_208 rfl ?_
    exact K_iret dX_has_209 (Or.inl rfl) (hF.2.2.2.2.2.2.2.2.2.2.2.2.2.2 c1)
theorem vX_fault_0 {E : jE} {μ : jMu} {Q : Option AV → jMu → Prop} {a0 : Int} (hF : ((a0 = 0 → (Q (some (jvI (μ 0 11))) μ)) ∧ (a0 = 1 → (Q (some (jvI (μ 0 12))) μ)) ∧ ((¬ a0 = 0 ∧ ¬ a0 = 1) → (Q (some (jvI (-1))) μ)))) : K 121 E mX_fault 0 [some (jvR 0), some (jvI a0)] [] μ Q := by
  refine K_iload_n 1 a0 dX_fault_0 rfl rfl ?_
  refine K_lookup dX_fault_1 (by decide) ?_
  by_cases c20 : a0 = 0
  · refine ⟨28, by simp [Op.lookupswitch.offset, c20], ?_⟩
    refine K_aload_n 0 0 dX_fault_28 rfl rfl ?_
    refine K_getf 0 11 0 (jvI (μ 0 11)) dX_fault_29 pf_X_85 rfl rfl (by decide) rfl rfl ?_
    exact K_iret dX_fault_32 (Or.inl rfl) (hF.1 c20)
  by_cases c21 : a0 = 1
  · refine ⟨33, by simp [Op.lookupswitch.offset, Ne.symm c20, c21], ?_⟩
    refine K_aload_n 0 0 dX_fault_33 rfl rfl ?_
    refine K_getf 0 12 0 (jvI (μ 0 12)) dX_fault_34 pf_X_89 rfl rfl (by decide) rfl rfl ?_
    exact K_iret dX_fault_37 (Or.inl rfl) (hF.2.1 c21)
  refine ⟨38, by simp [Op.lookupswitch.offset, Ne.symm c20, Ne.symm c21], ?_⟩
  refine K_iconst (-1) dX_fault_38 rfl ?_
  exact K_iret dX_fault_39 (Or.inl rfl) (hF.2.2 ⟨c20, c21⟩)
theorem vAr_fill_0 {E : jE} {μ : jMu} {Q : Option AV → jMu → Prop} {fi wl : Nat} (hwd : jCt[fi]? = some (.inl (.int, wl))) (hwn : fi < 121) (hwl : wl < 2147483648) {a1 : Int} (hF : (K 121 E mAr_fill 5 [some (jvR ((fi : Nat) : Int)), some (jvI a1), some (jvI 0), some (jvI (wl : Int))] [] μ Q)) : K 121 E mAr_fill 0 [some (jvR ((fi : Nat) : Int)), some (jvI a1), none, none] [] μ Q := by
  refine K_iconst 0 dAr_fill_0 rfl ?_
  refine K_istore_n 2 dAr_fill_1 rfl (Nat.le_of_ble_eq_true rfl) rfl ?_
  refine K_aload_n 0 ((fi : Nat) : Int) dAr_fill_2 rfl rfl ?_
  refine K_alen fi wl .int dAr_fill_3 rfl hwd hwn hwl ?_
  refine K_istore_n 3 dAr_fill_4 rfl (Nat.le_of_ble_eq_true rfl) rfl ?_
  exact hF
theorem vAr_fill_5 {E : jE} {μ : jMu} {Q : Option AV → jMu → Prop} {fi wl : Nat} (hwd : jCt[fi]? = some (.inl (.int, wl))) (hwn : fi < 121) (hwl : wl < 2147483648) {l1 l2 l3 : Int} (hF : ((l3 ≤ l2 → (Q none μ)) ∧ (¬ (l3 ≤ l2) → ((0 ≤ l2 ∧ l2 < (wl : Int)) ∧ (-2147483648 ≤ (l2 + 1) ∧ (l2 + 1) < 2147483648)) ∧ (K 121 E mAr_fill 5 [some (jvR ((fi : Nat) : Int)), some (jvI l1), some (jvI (l2 + 1)), some (jvI l3)] [] (j_up μ fi l2 l1) Q)))) : K 121 E mAr_fill 5 [some (jvR ((fi : Nat) : Int)), some (jvI l1), some (jvI l2), some (jvI l3)] [] μ Q := by
  refine K_iload_n 2 l2 dAr_fill_5 rfl rfl ?_
  refine K_iload_n 3 l3 dAr_fill_6 rfl rfl ?_
  refine K_icmp_ge 20 dAr_fill_7 (by decide) (fun c1 => ?_) (fun c1 => ?_)
  · exact K_vret dAr_fill_20 rfl (hF.1 c1)
  · refine K_aload_n 0 ((fi : Nat) : Int) dAr_fill_10 rfl rfl ?_
    refine K_iload_n 2 l2 dAr_fill_11 rfl rfl ?_
    refine K_iload_n 1 l1 dAr_fill_12 rfl rfl ?_
    refine K_iast fi wl dAr_fill_13 rfl hwd hwn (hF.2 c1).1.1 ?_
    refine K_iinc 2 dAr_fill_14 (Nat.le_of_ble_eq_true rfl) rfl (w32_ok (hF.2 c1).1.2) rfl ?_
    refine K_goto 5 dAr_fill_17 (by decide) ?_
    exact (hF.2 c1).2
theorem vM_isHere_0 {E : jE} {μ : jMu} {Q : Option AV → jMu → Prop} {wd wl : Nat} (hwd : jCt[wd]? = some (.inl (.char, wl))) (hwn : wd < 121) (hwl : wl < 2147483648) (hF : ((¬ (μ 76 5) = 0 → (Q (some (jvI 0)) μ)) ∧ ((μ 76 5) = 0 → (Ci E mM_look [jvR 76] μ (fun r7 μ4 => (Ci E mM_isLetter [jvI r7] μ4 (fun r11 μ8 => ((r11 = 0 → (Q (some (jvI 0)) μ8)) ∧ (¬ (r11 = 0) → ((¬ (μ8 76 2) = (μ8 76 4) → (K 121 E mM_isHere 35 [some (jvR 76), some (jvR ((wd : Nat) : Int)), some (jvI (μ8 76 2)), none] [] μ8 Q)) ∧ ((μ8 76 2) = (μ8 76 4) → (Q (some (jvI 0)) μ8)))))))))))) : K 121 E mM_isHere 0 [some (jvR 76), some (jvR ((wd : Nat) : Int)), none, none] [] μ Q := by
  refine K_aload_n 0 76 dM_isHere_0 rfl rfl ?_
  refine K_getf 12 5 76 (jvI (μ 76 5)) dM_isHere_1 pf_M_156 rfl rfl (by decide) rfl rfl ?_
  refine K_if_ne 28 dM_isHere_4 (by decide) (fun c1 => ?_) (fun c1 => ?_)
  · refine K_iconst 0 dM_isHere_28 rfl ?_
    exact K_iret dM_isHere_29 (Or.inr ⟨rfl, (by decide)⟩) (hF.1 c1)
  · refine K_aload_n 0 76 dM_isHere_7 rfl rfl ?_
    refine K_callVi mM_look 12 76 [] dM_isHere_8 pm_M_168 ⟨_, rfl, rfl⟩ ⟨(Nat.le_of_ble_eq_true rfl), (Nat.le_of_ble_eq_true rfl)⟩ rfl rfl (by decide) (Nat.le_of_ble_eq_true rfl) rfl (Nat.le_of_ble_eq_true rfl) (by decide) (Ci_mono (hF.2 c1) (fun r7 μ4 h5 => ?_))
    refine K_callSi mM_isLetter [jvI r7] dM_isHere_11 pm_M_172 ⟨(Nat.le_of_ble_eq_true rfl), (Nat.le_of_ble_eq_true rfl)⟩ (Nat.le_of_ble_eq_true rfl) rfl (Nat.le_of_ble_eq_true rfl) (by decide) (Ci_mono h5 (fun r11 μ8 h9 => ?_))
    refine K_if_eq 28 dM_isHere_14 (by decide) (fun c12 => ?_) (fun c12 => ?_)
    · refine K_iconst 0 dM_isHere_28 rfl ?_
      exact K_iret dM_isHere_29 (Or.inr ⟨rfl, (by decide)⟩) (h9.1 c12)
    · refine K_aload_n 0 76 dM_isHere_17 rfl rfl ?_
      refine K_getf 12 2 76 (jvI (μ8 76 2)) dM_isHere_18 pf_M_162 rfl rfl (by decide) rfl rfl ?_
      refine K_aload_n 0 76 dM_isHere_21 rfl rfl ?_
      refine K_getf 12 4 76 (jvI (μ8 76 4)) dM_isHere_22 pf_M_176 rfl rfl (by decide) rfl rfl ?_
      refine K_icmp_ne 30 dM_isHere_25 (by decide) (fun c15 => ?_) (fun c15 => ?_)
      · refine K_aload_n 0 76 dM_isHere_30 rfl rfl ?_
        refine K_getf 12 2 76 (jvI (μ8 76 2)) dM_isHere_31 pf_M_162 rfl rfl (by decide) rfl rfl ?_
        refine K_istore_n 2 dM_isHere_34 rfl (Nat.le_of_ble_eq_true rfl) rfl ?_
        exact ((h9.2 c12).1 c15)
      · refine K_iconst 0 dM_isHere_28 rfl ?_
        exact K_iret dM_isHere_29 (Or.inr ⟨rfl, (by decide)⟩) ((h9.2 c12).2 c15)
theorem vM_isHere_35 {E : jE} {μ : jMu} {Q : Option AV → jMu → Prop} {wd wl : Nat} (hwd : jCt[wd]? = some (.inl (.char, wl))) (hwn : wd < 121) (hwl : wl < 2147483648) {l2 : Int} (hF : (((μ 76 3) ≤ l2 → ((-2147483648 ≤ (l2 - (μ 76 2)) ∧ (l2 - (μ 76 2)) < 2147483648)) ∧ (((l2 - (μ 76 2)) = (wl : Int) → (K 121 E mM_isHere 76 [some (jvR 76), some (jvR ((wd : Nat) : Int)), some (jvI l2), some (jvI 0)] [] μ Q)) ∧ (¬ ((l2 - (μ 76 2)) = (wl : Int)) → (Q (some (jvI 0)) μ)))) ∧ (¬ ((μ 76 3) ≤ l2) → ((0 ≤ l2 ∧ l2 < 1600)) ∧ (Ci E mM_isLetter [jvI (μ 77 l2)] μ (fun r9 μ6 => ((r9 = 0 → ((-2147483648 ≤ (l2 - (μ6 76 2)) ∧ (l2 - (μ6 76 2)) < 2147483648)) ∧ (((l2 - (μ6 76 2)) = (wl : Int) → (K 121 E mM_isHere 76 [some (jvR 76), some (jvR ((wd : Nat) : Int)), some (jvI l2), some (jvI 0)] [] μ6 Q)) ∧ (¬ ((l2 - (μ6 76 2)) = (wl : Int)) → (Q (some (jvI 0)) μ6)))) ∧ (¬ (r9 = 0) → ((-2147483648 ≤ (l2 + 1) ∧ (l2 + 1) < 2147483648)) ∧ (K 121 E mM_isHere 35 [some (jvR 76), some (jvR ((wd : Nat) : Int)), some (jvI (l2 + 1)), none] [] μ6 Q)))))))) : K 121 E mM_isHere 35 [some (jvR 76), some (jvR ((wd : Nat) : Int)), some (jvI l2), none] [] μ Q := by
  refine K_iload_n 2 l2 dM_isHere_35 rfl rfl ?_
  refine K_aload_n 0 76 dM_isHere_36 rfl rfl ?_
  refine K_getf 12 3 76 (jvI (μ 76 3)) dM_isHere_37 pf_M_165 rfl rfl (by decide) rfl rfl ?_
  refine K_icmp_ge 61 dM_isHere_40 (by decide) (fun c1 => ?_) (fun c1 => ?_)
  · refine K_iload_n 2 l2 dM_isHere_61 rfl rfl ?_
    refine K_aload_n 0 76 dM_isHere_62 rfl rfl ?_
    refine K_getf 12 2 76 (jvI (μ 76 2)) dM_isHere_63 pf_M_162 rfl rfl (by decide) rfl rfl ?_
    refine K_isub dM_isHere_66 (w32_id (hF.1 c1).1) ?_
    refine K_aload_n 1 ((wd : Nat) : Int) dM_isHere_67 rfl rfl ?_
    refine K_alen wd wl .char dM_isHere_68 rfl hwd hwn hwl ?_
    refine K_icmp_eq 74 dM_isHere_69 (by decide) (fun c3 => ?_) (fun c3 => ?_)
    · refine K_iconst 0 dM_isHere_74 rfl ?_
      refine K_istore_n 3 dM_isHere_75 rfl (Nat.le_of_ble_eq_true rfl) rfl ?_
      exact ((hF.1 c1).2.1 c3)
    · refine K_iconst 0 dM_isHere_72 rfl ?_
      exact K_iret dM_isHere_73 (Or.inr ⟨rfl, (by decide)⟩) ((hF.1 c1).2.2 c3)
  · refine K_aload_n 0 76 dM_isHere_43 rfl rfl ?_
    refine K_getf 12 0 76 (jvR 77) dM_isHere_44 pf_M_7 rfl rfl (by decide) rfl rfl ?_
    refine K_iload_n 2 l2 dM_isHere_47 rfl rfl ?_
    refine K_iald 77 1600 dM_isHere_48 rfl rfl (by decide) (hF.2 c1).1 ?_
    refine K_callSi mM_isLetter [jvI (μ 77 l2)] dM_isHere_49 pm_M_172 ⟨(Nat.le_of_ble_eq_true rfl), (Nat.le_of_ble_eq_true rfl)⟩ (Nat.le_of_ble_eq_true rfl) rfl (Nat.le_of_ble_eq_true rfl) (by decide) (Ci_mono (hF.2 c1).2 (fun r9 μ6 h7 => ?_))
    refine K_if_eq 61 dM_isHere_52 (by decide) (fun c10 => ?_) (fun c10 => ?_)
    · refine K_iload_n 2 l2 dM_isHere_61 rfl rfl ?_
      refine K_aload_n 0 76 dM_isHere_62 rfl rfl ?_
      refine K_getf 12 2 76 (jvI (μ6 76 2)) dM_isHere_63 pf_M_162 rfl rfl (by decide) rfl rfl ?_
      refine K_isub dM_isHere_66 (w32_id (h7.1 c10).1) ?_
      refine K_aload_n 1 ((wd : Nat) : Int) dM_isHere_67 rfl rfl ?_
      refine K_alen wd wl .char dM_isHere_68 rfl hwd hwn hwl ?_
      refine K_icmp_eq 74 dM_isHere_69 (by decide) (fun c12 => ?_) (fun c12 => ?_)
      · refine K_iconst 0 dM_isHere_74 rfl ?_
        refine K_istore_n 3 dM_isHere_75 rfl (Nat.le_of_ble_eq_true rfl) rfl ?_
        exact ((h7.1 c10).2.1 c12)
      · refine K_iconst 0 dM_isHere_72 rfl ?_
        exact K_iret dM_isHere_73 (Or.inr ⟨rfl, (by decide)⟩) ((h7.1 c10).2.2 c12)
    · refine K_iinc 2 dM_isHere_55 (Nat.le_of_ble_eq_true rfl) rfl (w32_ok (h7.2 c10).1) rfl ?_
      refine K_goto 35 dM_isHere_58 (by decide) ?_
      exact (h7.2 c10).2
theorem vM_isHere_76 {E : jE} {μ : jMu} {Q : Option AV → jMu → Prop} {wd wl : Nat} (hwd : jCt[wd]? = some (.inl (.char, wl))) (hwn : wd < 121) (hwl : wl < 2147483648) {l2 l3 : Int} (hF : (((wl : Int) ≤ l3 → (Q (some (jvI 1)) μ)) ∧ (¬ ((wl : Int) ≤ l3) → ((-2147483648 ≤ ((μ 76 2) + l3) ∧ ((μ 76 2) + l3) < 2147483648) ∧ (0 ≤ ((μ 76 2) + l3) ∧ ((μ 76 2) + l3) < 1600) ∧ (0 ≤ l3 ∧ l3 < (wl : Int))) ∧ (((μ 77 ((μ 76 2) + l3)) = (μ wd l3) → ((-2147483648 ≤ (l3 + 1) ∧ (l3 + 1) < 2147483648)) ∧ (K 121 E mM_isHere 76 [some (jvR 76), some (jvR ((wd : Nat) : Int)), some (jvI l2), some (jvI (l3 + 1))] [] μ Q)) ∧ (¬ ((μ 77 ((μ 76 2) + l3)) = (μ wd l3)) → (Q (some (jvI 0)) μ)))))) : K 121 E mM_isHere 76 [some (jvR 76), some (jvR ((wd : Nat) : Int)), some (jvI l2), some (jvI l3)] [] μ Q := by
  refine K_iload_n 3 l3 dM_isHere_76 rfl rfl ?_
  refine K_aload_n 1 ((wd : Nat) : Int) dM_isHere_77 rfl rfl ?_
  refine K_alen wd wl .char dM_isHere_78 rfl hwd hwn hwl ?_
  refine K_icmp_ge 107 dM_isHere_79 (by decide) (fun c1 => ?_) (fun c1 => ?_)
  · refine K_iconst 1 dM_isHere_107 rfl ?_
    exact K_iret dM_isHere_108 (Or.inr ⟨rfl, (by decide)⟩) (hF.1 c1)
  · refine K_aload_n 0 76 dM_isHere_82 rfl rfl ?_
    refine K_getf 12 0 76 (jvR 77) dM_isHere_83 pf_M_7 rfl rfl (by decide) rfl rfl ?_
    refine K_aload_n 0 76 dM_isHere_86 rfl rfl ?_
    refine K_getf 12 2 76 (jvI (μ 76 2)) dM_isHere_87 pf_M_162 rfl rfl (by decide) rfl rfl ?_
    refine K_iload_n 3 l3 dM_isHere_90 rfl rfl ?_
    refine K_iadd dM_isHere_91 (w32_id (hF.2 c1).1.1) ?_
    refine K_iald 77 1600 dM_isHere_92 rfl rfl (by decide) (hF.2 c1).1.2.1 ?_
    refine K_aload_n 1 ((wd : Nat) : Int) dM_isHere_93 rfl rfl ?_
    refine K_iload_n 3 l3 dM_isHere_94 rfl rfl ?_
    refine K_cald wd wl dM_isHere_95 rfl hwd hwn (hF.2 c1).1.2.2 ?_
    refine K_icmp_eq 101 dM_isHere_96 (by decide) (fun c4 => ?_) (fun c4 => ?_)
    · refine K_iinc 3 dM_isHere_101 (Nat.le_of_ble_eq_true rfl) rfl (w32_ok ((hF.2 c1).2.1 c4).1) rfl ?_
      refine K_goto 76 dM_isHere_104 (by decide) ?_
      exact ((hF.2 c1).2.1 c4).2
    · refine K_iconst 0 dM_isHere_99 rfl ?_
      exact K_iret dM_isHere_100 (Or.inr ⟨rfl, (by decide)⟩) ((hF.2 c1).2.2 c4)
theorem vBe_lay_0 {E : jE} {μ : jMu} {Q : Option AV → jMu → Prop} {b : Nat} (hb : isB b) {a1 a2 : Int} (hF : (K 121 E mBe_lay 21 [some (jvR 59), some (jvR ((b + 1 : Nat) : Int)), some (jvI a1), some (jvI a2), some (jvI a1), some (jvI a2)] [] (j_up (j_up (j_up μ 59 3 0) 59 4 0) 59 5 0) Q)) : K 121 E mBe_lay 0 [some (jvR 59), some (jvR ((b + 1 : Nat) : Int)), some (jvI a1), some (jvI a2), none, none] [] μ Q := by
  refine K_iload_n 2 a1 dBe_lay_0 rfl rfl ?_
  refine K_istore 4 dBe_lay_1 (Nat.le_of_ble_eq_true rfl) rfl ?_
  refine K_iload_n 3 a2 dBe_lay_3 rfl rfl ?_
  refine K_istore 5 dBe_lay_4 (Nat.le_of_ble_eq_true rfl) rfl ?_
  refine K_aload_n 0 59 dBe_lay_6 rfl rfl ?_
  refine K_iconst 0 dBe_lay_7 rfl ?_
  refine K_putf 1 3 59 (x := 0) dBe_lay_8 pf_Be_21 rfl rfl (by decide) rfl rfl rfl rfl trivial ?_
  refine K_aload_n 0 59 dBe_lay_11 rfl rfl ?_
  refine K_iconst 0 dBe_lay_12 rfl ?_
  refine K_putf 1 4 59 (x := 0) dBe_lay_13 pf_Be_25 rfl rfl (by decide) rfl rfl rfl rfl trivial ?_
  refine K_aload_n 0 59 dBe_lay_16 rfl rfl ?_
  refine K_iconst 0 dBe_lay_17 rfl ?_
  refine K_putf 1 5 59 (x := 0) dBe_lay_18 pf_Be_28 rfl rfl (by decide) rfl rfl rfl rfl trivial ?_
  exact hF
theorem vBe_lay_21 {E : jE} {μ : jMu} {Q : Option AV → jMu → Prop} {b : Nat} (hb : isB b) {l2 l3 l4 l5 : Int} (hF : ((24 ≤ (μ 59 3) → (Q none μ)) ∧ (¬ (24 ≤ (μ 59 3)) → ((0 ≤ l2 ∧ l2 < 400)) ∧ (((μ (b + 6) l2) ≤ l4 → (Q none μ)) ∧ (¬ ((μ (b + 6) l2) ≤ l4) → ((0 ≤ l3 ∧ l3 < 400)) ∧ (((μ (b + 6) l3) ≤ l5 → (Q none μ)) ∧ (¬ ((μ (b + 6) l3) ≤ l5) → ((0 ≤ l4 ∧ l4 < 400) ∧ (0 ≤ l5 ∧ l5 < 400)) ∧ ((¬ (μ (b + 5) l4) = (μ (b + 5) l5) → (Ci E mBe_holeFor [jvR 59, jvR ((b + 1 : Nat) : Int), jvI l4, jvI l5] μ (fun r15 μ12 => ((-2147483648 ≤ (200 + r15) ∧ (200 + r15) < 2147483648) ∧ (0 ≤ (μ 59 3) ∧ (μ 59 3) < 24) ∧ (-2147483648 ≤ (((j_up μ12 60 (μ 59 3) (200 + r15)) 59 4) + 1) ∧ (((j_up μ12 60 (μ 59 3) (200 + r15)) 59 4) + 1) < 2147483648) ∧ (0 ≤ l4 ∧ l4 < 400) ∧ (0 ≤ l5 ∧ l5 < 400) ∧ (-2147483648 ≤ (((j_up (j_up μ12 60 (μ 59 3) (200 + r15)) 59 4 (((j_up μ12 60 (μ 59 3) (200 + r15)) 59 4) + 1)) 59 3) + 1) ∧ (((j_up (j_up μ12 60 (μ 59 3) (200 + r15)) 59 4 (((j_up μ12 60 (μ 59 3) (200 + r15)) 59 4) + 1)) 59 3) + 1) < 2147483648)) ∧ (K 121 E mBe_lay 21 [some (jvR 59), some (jvR ((b + 1 : Nat) : Int)), some (jvI l2), some (jvI l3), some (jvI ((j_up (j_up μ12 60 (μ 59 3) (200 + r15)) 59 4 (((j_up μ12 60 (μ 59 3) (200 + r15)) 59 4) + 1)) (b + 6) l4)), some (jvI ((j_up (j_up μ12 60 (μ 59 3) (200 + r15)) 59 4 (((j_up μ12 60 (μ 59 3) (200 + r15)) 59 4) + 1)) (b + 6) l5))] [] (j_up (j_up (j_up μ12 60 (μ 59 3) (200 + r15)) 59 4 (((j_up μ12 60 (μ 59 3) (200 + r15)) 59 4) + 1)) 59 3 (((j_up (j_up μ12 60 (μ 59 3) (200 + r15)) 59 4 (((j_up μ12 60 (μ 59 3) (200 + r15)) 59 4) + 1)) 59 3) + 1)) Q)))) ∧ ((μ (b + 5) l4) = (μ (b + 5) l5) → ((0 ≤ l4 ∧ l4 < 400) ∧ (0 ≤ (μ 59 3) ∧ (μ 59 3) < 24) ∧ (-2147483648 ≤ (l4 + 1) ∧ (l4 + 1) < 2147483648) ∧ (-2147483648 ≤ (l5 + 1) ∧ (l5 + 1) < 2147483648) ∧ (-2147483648 ≤ (((j_up μ 60 (μ 59 3) (μ (b + 5) l4)) 59 3) + 1) ∧ (((j_up μ 60 (μ 59 3) (μ (b + 5) l4)) 59 3) + 1) < 2147483648)) ∧ (K 121 E mBe_lay 21 [some (jvR 59), some (jvR ((b + 1 : Nat) : Int)), some (jvI l2), some (jvI l3), some (jvI (l4 + 1)), some (jvI (l5 + 1))] [] (j_up (j_up μ 60 (μ 59 3) (μ (b + 5) l4)) 59 3 (((j_up μ 60 (μ 59 3) (μ (b + 5) l4)) 59 3) + 1)) Q)))))))))) : K 121 E mBe_lay 21 [some (jvR 59), some (jvR ((b + 1 : Nat) : Int)), some (jvI l2), some (jvI l3), some (jvI l4), some (jvI l5)] [] μ Q := by
  refine K_aload_n 0 59 dBe_lay_21 rfl rfl ?_
  refine K_getf 1 3 59 (jvI (μ 59 3)) dBe_lay_22 pf_Be_21 rfl rfl (by decide) rfl rfl ?_
  refine K_bipush 24 dBe_lay_25 rfl ?_
  refine K_icmp_ge 157 dBe_lay_27 (by decide) (fun c1 => ?_) (fun c1 => ?_)
  · exact K_vret dBe_lay_157 rfl (hF.1 c1)
  · refine K_iload 4 l4 dBe_lay_30 rfl ?_
    refine K_aload_n 1 ((b + 1 : Nat) : Int) dBe_lay_32 rfl rfl ?_
    refine K_getf 9 4 (b + 1) (jvR ((b + 6 : Nat) : Int)) dBe_lay_33 pf_Be_31 rfl (isB_c1 hb) (isB_n 1 (by decide) hb) rfl (isB_f1_4 hb) ?_
    refine K_iload_n 2 l2 dBe_lay_36 rfl rfl ?_
    refine K_iald (b + 6) 400 dBe_lay_37 rfl (isB_c6 hb) (isB_n 6 (by decide) hb) (hF.2 c1).1 ?_
    refine K_icmp_ge 157 dBe_lay_38 (by decide) (fun c4 => ?_) (fun c4 => ?_)
    · exact K_vret dBe_lay_157 rfl ((hF.2 c1).2.1 c4)
    · refine K_iload 5 l5 dBe_lay_41 rfl ?_
      refine K_aload_n 1 ((b + 1 : Nat) : Int) dBe_lay_43 rfl rfl ?_
      refine K_getf 9 4 (b + 1) (jvR ((b + 6 : Nat) : Int)) dBe_lay_44 pf_Be_31 rfl (isB_c1 hb) (isB_n 1 (by decide) hb) rfl (isB_f1_4 hb) ?_
      refine K_iload_n 3 l3 dBe_lay_47 rfl rfl ?_
      refine K_iald (b + 6) 400 dBe_lay_48 rfl (isB_c6 hb) (isB_n 6 (by decide) hb) ((hF.2 c1).2.2 c4).1 ?_
      refine K_icmp_ge 157 dBe_lay_49 (by decide) (fun c7 => ?_) (fun c7 => ?_)
      · exact K_vret dBe_lay_157 rfl (((hF.2 c1).2.2 c4).2.1 c7)
      · refine K_aload_n 1 ((b + 1 : Nat) : Int) dBe_lay_52 rfl rfl ?_
        refine K_getf 9 3 (b + 1) (jvR ((b + 5 : Nat) : Int)) dBe_lay_53 pf_Be_34 rfl (isB_c1 hb) (isB_n 1 (by decide) hb) rfl (isB_f1_3 hb) ?_
        refine K_iload 4 l4 dBe_lay_56 rfl ?_
        refine K_iald (b + 5) 400 dBe_lay_58 rfl (isB_c5 hb) (isB_n 5 (by decide) hb) (((hF.2 c1).2.2 c4).2.2 c7).1.1 ?_
        refine K_aload_n 1 ((b + 1 : Nat) : Int) dBe_lay_59 rfl rfl ?_
        refine K_getf 9 3 (b + 1) (jvR ((b + 5 : Nat) : Int)) dBe_lay_60 pf_Be_34 rfl (isB_c1 hb) (isB_n 1 (by decide) hb) rfl (isB_f1_3 hb) ?_
        refine K_iload 5 l5 dBe_lay_63 rfl ?_
        refine K_iald (b + 5) 400 dBe_lay_65 rfl (isB_c5 hb) (isB_n 5 (by decide) hb) (((hF.2 c1).2.2 c4).2.2 c7).1.2 ?_
        refine K_icmp_ne 94 dBe_lay_66 (by decide) (fun c10 => ?_) (fun c10 => ?_)
        · refine K_aload_n 0 59 dBe_lay_94 rfl rfl ?_
          refine K_getf 1 0 59 (jvR 60) dBe_lay_95 pf_Be_9 rfl rfl (by decide) rfl rfl ?_
          refine K_aload_n 0 59 dBe_lay_98 rfl rfl ?_
          refine K_getf 1 3 59 (jvI (μ 59 3)) dBe_lay_99 pf_Be_21 rfl rfl (by decide) rfl rfl ?_
          refine K_sipush 200 dBe_lay_102 rfl ?_
          refine K_aload_n 0 59 dBe_lay_105 rfl rfl ?_
          refine K_aload_n 1 ((b + 1 : Nat) : Int) dBe_lay_106 rfl rfl ?_
          refine K_iload 4 l4 dBe_lay_107 rfl ?_
          refine K_iload 5 l5 dBe_lay_109 rfl ?_
          refine K_callVi mBe_holeFor 1 59 [jvR ((b + 1 : Nat) : Int), jvI l4, jvI l5] dBe_lay_111 pm_Be_35 ⟨_, rfl, rfl⟩ ⟨(Nat.le_of_ble_eq_true rfl), (Nat.le_of_ble_eq_true rfl)⟩ rfl rfl (by decide) (Nat.le_of_ble_eq_true rfl) rfl (Nat.le_of_ble_eq_true rfl) (by decide) (Ci_mono ((((hF.2 c1).2.2 c4).2.2 c7).2.1 c10) (fun r15 μ12 h13 => ?_))
          refine K_iadd dBe_lay_114 (w32_id h13.1.1) ?_
          refine K_iast 60 24 dBe_lay_115 rfl rfl (by decide) h13.1.2.1 ?_
          refine K_aload_n 0 59 dBe_lay_116 rfl rfl ?_
          refine K_dup dBe_lay_117 (fun _ h => by cases h) ?_
          refine K_getf 1 4 59 (jvI ((j_up μ12 60 (μ 59 3) (200 + r15)) 59 4)) dBe_lay_118 pf_Be_25 rfl rfl (by decide) rfl rfl ?_
          refine K_iconst 1 dBe_lay_121 rfl ?_
          refine K_iadd dBe_lay_122 (w32_id h13.1.2.2.1) ?_
          refine K_putf 1 4 59 (x := (((j_up μ12 60 (μ 59 3) (200 + r15)) 59 4) + 1)) dBe_lay_123 pf_Be_25 rfl rfl (by decide) rfl rfl rfl rfl trivial ?_
          refine K_aload_n 1 ((b + 1 : Nat) : Int) dBe_lay_126 rfl rfl ?_
          refine K_getf 9 4 (b + 1) (jvR ((b + 6 : Nat) : Int)) dBe_lay_127 pf_Be_31 rfl (isB_c1 hb) (isB_n 1 (by decide) hb) rfl (isB_f1_4 hb) ?_
          refine K_iload 4 l4 dBe_lay_130 rfl ?_
          refine K_iald (b + 6) 400 dBe_lay_132 rfl (isB_c6 hb) (isB_n 6 (by decide) hb) h13.1.2.2.2.1 ?_
          refine K_istore 4 dBe_lay_133 (Nat.le_of_ble_eq_true rfl) rfl ?_
          refine K_aload_n 1 ((b + 1 : Nat) : Int) dBe_lay_135 rfl rfl ?_
          refine K_getf 9 4 (b + 1) (jvR ((b + 6 : Nat) : Int)) dBe_lay_136 pf_Be_31 rfl (isB_c1 hb) (isB_n 1 (by decide) hb) rfl (isB_f1_4 hb) ?_
          refine K_iload 5 l5 dBe_lay_139 rfl ?_
          refine K_iald (b + 6) 400 dBe_lay_141 rfl (isB_c6 hb) (isB_n 6 (by decide) hb) h13.1.2.2.2.2.1 ?_
          refine K_istore 5 dBe_lay_142 (Nat.le_of_ble_eq_true rfl) rfl ?_
          refine K_aload_n 0 59 dBe_lay_144 rfl rfl ?_
          refine K_dup dBe_lay_145 (fun _ h => by cases h) ?_
          refine K_getf 1 3 59 (jvI ((j_up (j_up μ12 60 (μ 59 3) (200 + r15)) 59 4 (((j_up μ12 60 (μ 59 3) (200 + r15)) 59 4) + 1)) 59 3)) dBe_lay_146 pf_Be_21 rfl rfl (by decide) rfl rfl ?_
          refine K_iconst 1 dBe_lay_149 rfl ?_
          refine K_iadd dBe_lay_150 (w32_id h13.1.2.2.2.2.2) ?_
          refine K_putf 1 3 59 (x := (((j_up (j_up μ12 60 (μ 59 3) (200 + r15)) 59 4 (((j_up μ12 60 (μ 59 3) (200 + r15)) 59 4) + 1)) 59 3) + 1)) dBe_lay_151 pf_Be_21 rfl rfl (by decide) rfl rfl rfl rfl trivial ?_
          refine K_goto 21 dBe_lay_154 (by decide) ?_
          exact h13.2
        · refine K_aload_n 0 59 dBe_lay_69 rfl rfl ?_
          refine K_getf 1 0 59 (jvR 60) dBe_lay_70 pf_Be_9 rfl rfl (by decide) rfl rfl ?_
          refine K_aload_n 0 59 dBe_lay_73 rfl rfl ?_
          refine K_getf 1 3 59 (jvI (μ 59 3)) dBe_lay_74 pf_Be_21 rfl rfl (by decide) rfl rfl ?_
          refine K_aload_n 1 ((b + 1 : Nat) : Int) dBe_lay_77 rfl rfl ?_
          refine K_getf 9 3 (b + 1) (jvR ((b + 5 : Nat) : Int)) dBe_lay_78 pf_Be_34 rfl (isB_c1 hb) (isB_n 1 (by decide) hb) rfl (isB_f1_3 hb) ?_
          refine K_iload 4 l4 dBe_lay_81 rfl ?_
          refine K_iald (b + 5) 400 dBe_lay_83 rfl (isB_c5 hb) (isB_n 5 (by decide) hb) ((((hF.2 c1).2.2 c4).2.2 c7).2.2 c10).1.1 ?_
          refine K_iast 60 24 dBe_lay_84 rfl rfl (by decide) ((((hF.2 c1).2.2 c4).2.2 c7).2.2 c10).1.2.1 ?_
          refine K_iinc 4 dBe_lay_85 (Nat.le_of_ble_eq_true rfl) rfl (w32_ok ((((hF.2 c1).2.2 c4).2.2 c7).2.2 c10).1.2.2.1) rfl ?_
          refine K_iinc 5 dBe_lay_88 (Nat.le_of_ble_eq_true rfl) rfl (w32_ok ((((hF.2 c1).2.2 c4).2.2 c7).2.2 c10).1.2.2.2.1) rfl ?_
          refine K_goto 144 dBe_lay_91 (by decide) ?_
          refine K_aload_n 0 59 dBe_lay_144 rfl rfl ?_
          refine K_dup dBe_lay_145 (fun _ h => by cases h) ?_
          refine K_getf 1 3 59 (jvI ((j_up μ 60 (μ 59 3) (μ (b + 5) l4)) 59 3)) dBe_lay_146 pf_Be_21 rfl rfl (by decide) rfl rfl ?_
          refine K_iconst 1 dBe_lay_149 rfl ?_
          refine K_iadd dBe_lay_150 (w32_id ((((hF.2 c1).2.2 c4).2.2 c7).2.2 c10).1.2.2.2.2) ?_
          refine K_putf 1 3 59 (x := (((j_up μ 60 (μ 59 3) (μ (b + 5) l4)) 59 3) + 1)) dBe_lay_151 pf_Be_21 rfl rfl (by decide) rfl rfl rfl rfl trivial ?_
          refine K_goto 21 dBe_lay_154 (by decide) ?_
          exact ((((hF.2 c1).2.2 c4).2.2 c7).2.2 c10).2
theorem vRu_meet_0 {E : jE} {μ : jMu} {Q : Option AV → jMu → Prop} {a0 a1 a2 : Int} (hF : ((-2147483648 ≤ (a0 - a1) ∧ (a0 - a1) < 2147483648) ∧ -2147483648 < (a0 - a1)) ∧ ((a2 ≤ (if 0 ≤ (a0 - a1) then (a0 - a1) else -(a0 - a1)) → (Q (some (jvI 0)) μ)) ∧ (¬ (a2 ≤ (if 0 ≤ (a0 - a1) then (a0 - a1) else -(a0 - a1))) → (Q (some (jvI 1)) μ)))) : K 121 E mRu_meet 0 [some (jvI a0), some (jvI a1), some (jvI a2)] [] μ Q := by
  refine K_iload_n 0 a0 dRu_meet_0 rfl rfl ?_
  refine K_iload_n 1 a1 dRu_meet_1 rfl rfl ?_
  refine K_isub dRu_meet_2 (w32_id hF.1.1) ?_
  refine K_mabs dRu_meet_3 pm_Ru_15 (Nat.le_of_ble_eq_true rfl) (Nat.le_of_ble_eq_true rfl) hF.1.2 ?_
  refine K_iload_n 2 a2 dRu_meet_6 rfl rfl ?_
  refine K_icmp_ge 14 dRu_meet_7 (by decide) (fun c1 => ?_) (fun c1 => ?_)
  · refine K_iconst 0 dRu_meet_14 rfl ?_
    exact K_iret dRu_meet_15 (Or.inr ⟨rfl, (by decide)⟩) (hF.2.1 c1)
  · refine K_iconst 1 dRu_meet_10 rfl ?_
    refine K_goto 15 dRu_meet_11 (by decide) ?_
    exact K_iret dRu_meet_15 (Or.inr ⟨rfl, (by decide)⟩) (hF.2.2 c1)
theorem vRu_areAhead_0 {E : jE} {μ : jMu} {Q : Option AV → jMu → Prop} {a0 a1 a2 a3 : Int} (hF : (((if a3 < a2 then a3 else a2) ≤ (if a0 < a1 then a1 else a0) → (Q (some (jvI 0)) μ)) ∧ (¬ ((if a3 < a2 then a3 else a2) ≤ (if a0 < a1 then a1 else a0)) → (Q (some (jvI 1)) μ)))) : K 121 E mRu_areAhead 0 [some (jvI a0), some (jvI a1), some (jvI a2), some (jvI a3)] [] μ Q := by
  refine K_iload_n 0 a0 dRu_areAhead_0 rfl rfl ?_
  refine K_iload_n 1 a1 dRu_areAhead_1 rfl rfl ?_
  refine K_mmax dRu_areAhead_2 pm_Ru_53 (Nat.le_of_ble_eq_true rfl) (Nat.le_of_ble_eq_true rfl) ?_
  refine K_iload_n 2 a2 dRu_areAhead_5 rfl rfl ?_
  refine K_iload_n 3 a3 dRu_areAhead_6 rfl rfl ?_
  refine K_mmin dRu_areAhead_7 pm_Ru_56 (Nat.le_of_ble_eq_true rfl) (Nat.le_of_ble_eq_true rfl) ?_
  refine K_icmp_ge 17 dRu_areAhead_10 (by decide) (fun c1 => ?_) (fun c1 => ?_)
  · refine K_iconst 0 dRu_areAhead_17 rfl ?_
    exact K_iret dRu_areAhead_18 (Or.inr ⟨rfl, (by decide)⟩) (hF.1 c1)
  · refine K_iconst 1 dRu_areAhead_13 rfl ?_
    refine K_goto 18 dRu_areAhead_14 (by decide) ?_
    exact K_iret dRu_areAhead_18 (Or.inr ⟨rfl, (by decide)⟩) (hF.2 c1)
