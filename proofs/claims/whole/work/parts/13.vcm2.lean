set_option maxHeartbeats 8000000 in
theorem vM_seenOf_0 {E : jE} {μ : jMu} {Q : Option AV → jMu → Prop} {a0 a1 : Int} (hF : (K 121 E mM_seenOf 7 [some (jvR 76), some (jvI a0), some (jvI a1), some (jvI 1000), some (jvI 0)] [] μ Q)) : K 121 E mM_seenOf 0 [some (jvR 76), some (jvI a0), some (jvI a1), none, none] [] μ Q := by
  refine K_sipush 1000 dM_seenOf_0 rfl ?_
  refine K_istore_n 3 dM_seenOf_3 rfl (Nat.le_of_ble_eq_true rfl) rfl ?_
  refine K_iconst 0 dM_seenOf_4 rfl ?_
  refine K_istore 4 dM_seenOf_5 (Nat.le_of_ble_eq_true rfl) rfl ?_
  exact hF
set_option maxHeartbeats 8000000 in
theorem vM_seenOf_7 {E : jE} {μ : jMu} {Q : Option AV → jMu → Prop} {l1 l2 l3 l4 : Int} (hF : (Ci E mM_readers [jvR 76] μ (fun r4 μ1 => ((r4 ≤ l4 → ((-2147483648 ≤ (1000 - l3) ∧ (1000 - l3) < 2147483648)) ∧ (Q (some (jvI (1000 - l3))) μ1)) ∧ (¬ (r4 ≤ l4) → ((0 ≤ l4 ∧ l4 < 6)) ∧ ((¬ (μ1 109 l4) = 0 → (Ci E mM_reads [jvR 76, jvI l4, jvI l1] μ1 (fun r13 μ10 => ((r13 = 0 → ((-2147483648 ≤ (l4 + 1) ∧ (l4 + 1) < 2147483648)) ∧ (K 121 E mM_seenOf 7 [some (jvR 76), some (jvI l1), some (jvI l2), some (jvI l3), some (jvI (l4 + 1))] [] μ10 Q)) ∧ (¬ (r13 = 0) → ((-2147483648 ≤ (6 + l4) ∧ (6 + l4) < 2147483648) ∧ (0 ≤ (6 + l4) ∧ (6 + l4) < 12) ∧ (-2147483648 ≤ (100 - (μ10 96 (6 + l4))) ∧ (100 - (μ10 96 (6 + l4))) < 2147483648) ∧ (-2147483648 ≤ (l3 * (100 - (μ10 96 (6 + l4)))) ∧ (l3 * (100 - (μ10 96 (6 + l4)))) < 2147483648) ∧ (-2147483648 ≤ (Int.tdiv (l3 * (100 - (μ10 96 (6 + l4)))) 100) ∧ (Int.tdiv (l3 * (100 - (μ10 96 (6 + l4)))) 100) < 2147483648) ∧ (-2147483648 ≤ (l4 + 1) ∧ (l4 + 1) < 2147483648)) ∧ (K 121 E mM_seenOf 7 [some (jvR 76), some (jvI l1), some (jvI l2), some (jvI (Int.tdiv (l3 * (100 - (μ10 96 (6 + l4)))) 100)), some (jvI (l4 + 1))] [] μ10 Q)))))) ∧ ((μ1 109 l4) = 0 → ((¬ l4 = l2 → ((-2147483648 ≤ (l4 + 1) ∧ (l4 + 1) < 2147483648)) ∧ (K 121 E mM_seenOf 7 [some (jvR 76), some (jvI l1), some (jvI l2), some (jvI l3), some (jvI (l4 + 1))] [] μ1 Q)) ∧ (l4 = l2 → (Ci E mM_reads [jvR 76, jvI l4, jvI l1] μ1 (fun r21 μ18 => ((r21 = 0 → ((-2147483648 ≤ (l4 + 1) ∧ (l4 + 1) < 2147483648)) ∧ (K 121 E mM_seenOf 7 [some (jvR 76), some (jvI l1), some (jvI l2), some (jvI l3), some (jvI (l4 + 1))] [] μ18 Q)) ∧ (¬ (r21 = 0) → ((-2147483648 ≤ (6 + l4) ∧ (6 + l4) < 2147483648) ∧ (0 ≤ (6 + l4) ∧ (6 + l4) < 12) ∧ (-2147483648 ≤ (100 - (μ18 96 (6 + l4))) ∧ (100 - (μ18 96 (6 + l4))) < 2147483648) ∧ (-2147483648 ≤ (l3 * (100 - (μ18 96 (6 + l4)))) ∧ (l3 * (100 - (μ18 96 (6 + l4)))) < 2147483648) ∧ (-2147483648 ≤ (Int.tdiv (l3 * (100 - (μ18 96 (6 + l4)))) 100) ∧ (Int.tdiv (l3 * (100 - (μ18 96 (6 + l4)))) 100) < 2147483648) ∧ (-2147483648 ≤ (l4 + 1) ∧ (l4 + 1) < 2147483648)) ∧ (K 121 E mM_seenOf 7 [some (jvR 76), some (jvI l1), some (jvI l2), some (jvI (Int.tdiv (l3 * (100 - (μ18 96 (6 + l4)))) 100)), some (jvI (l4 + 1))] [] μ18 Q)))))))))))))) : K 121 E mM_seenOf 7 [some (jvR 76), some (jvI l1), some (jvI l2), some (jvI l3), some (jvI l4)] [] μ Q := by
  refine K_iload 4 l4 dM_seenOf_7 rfl ?_
  refine K_aload_n 0 76 dM_seenOf_9 rfl rfl ?_
  refine K_callVi mM_readers 12 76 [] dM_seenOf_10 pm_M_334 ⟨_, rfl, rfl⟩ ⟨(Nat.le_of_ble_eq_true rfl), (Nat.le_of_ble_eq_true rfl)⟩ rfl rfl (by decide) (Nat.le_of_ble_eq_true rfl) rfl (Nat.le_of_ble_eq_true rfl) (by decide) (Ci_mono hF (fun r4 μ1 h2 => ?_))
  refine K_icmp_ge 67 dM_seenOf_13 (by decide) (fun c5 => ?_) (fun c5 => ?_)
  · refine K_sipush 1000 dM_seenOf_67 rfl ?_
    refine K_iload_n 3 l3 dM_seenOf_70 rfl rfl ?_
    refine K_isub dM_seenOf_71 (w32_id (h2.1 c5).1) ?_
    exact K_iret dM_seenOf_72 (Or.inl rfl) (h2.1 c5).2
  · refine K_aload_n 0 76 dM_seenOf_16 rfl rfl ?_
    refine K_getf 12 47 76 (jvR 109) dM_seenOf_17 pf_M_113 rfl rfl (by decide) rfl rfl ?_
    refine K_iload 4 l4 dM_seenOf_20 rfl ?_
    refine K_zald 109 6 dM_seenOf_22 rfl rfl (by decide) (h2.2 c5).1 ?_
    refine K_if_ne 32 dM_seenOf_23 (by decide) (fun c8 => ?_) (fun c8 => ?_)
    · refine K_aload_n 0 76 dM_seenOf_32 rfl rfl ?_
      refine K_iload 4 l4 dM_seenOf_33 rfl ?_
      refine K_iload_n 1 l1 dM_seenOf_35 rfl rfl ?_
      refine K_callVi mM_reads 12 76 [jvI l4, jvI l1] dM_seenOf_36 pm_M_463 ⟨_, rfl, rfl⟩ ⟨(Nat.le_of_ble_eq_true rfl), (Nat.le_of_ble_eq_true rfl)⟩ rfl rfl (by decide) (Nat.le_of_ble_eq_true rfl) rfl (Nat.le_of_ble_eq_true rfl) (by decide) (Ci_mono ((h2.2 c5).2.1 c8) (fun r13 μ10 h11 => ?_))
      refine K_if_eq 61 dM_seenOf_39 (by decide) (fun c14 => ?_) (fun c14 => ?_)
      · refine K_iinc 4 dM_seenOf_61 (Nat.le_of_ble_eq_true rfl) rfl (w32_ok (h11.1 c14).1) rfl ?_
        refine K_goto 7 dM_seenOf_64 (by decide) ?_
        exact (h11.1 c14).2
      · refine K_iload_n 3 l3 dM_seenOf_42 rfl rfl ?_
        refine K_bipush 100 dM_seenOf_43 rfl ?_
        refine K_aload_n 0 76 dM_seenOf_45 rfl rfl ?_
        refine K_getf 12 29 76 (jvR 96) dM_seenOf_46 pf_M_73 rfl rfl (by decide) rfl rfl ?_
        refine K_bipush 6 dM_seenOf_49 rfl ?_
        refine K_iload 4 l4 dM_seenOf_51 rfl ?_
        refine K_iadd dM_seenOf_53 (w32_id (h11.2 c14).1.1) ?_
        refine K_iald 96 12 dM_seenOf_54 rfl rfl (by decide) (h11.2 c14).1.2.1 ?_
        refine K_isub dM_seenOf_55 (w32_id (h11.2 c14).1.2.2.1) ?_
        refine K_imul dM_seenOf_56 (w32_id (h11.2 c14).1.2.2.2.1) ?_
        refine K_bipush 100 dM_seenOf_57 rfl ?_
        refine K_idiv dM_seenOf_59 (by decide) (w32_id (h11.2 c14).1.2.2.2.2.1) ?_
        refine K_istore_n 3 dM_seenOf_60 rfl (Nat.le_of_ble_eq_true rfl) rfl ?_
        refine K_iinc 4 dM_seenOf_61 (Nat.le_of_ble_eq_true rfl) rfl (w32_ok (h11.2 c14).1.2.2.2.2.2) rfl ?_
        refine K_goto 7 dM_seenOf_64 (by decide) ?_
        exact (h11.2 c14).2
    · refine K_iload 4 l4 dM_seenOf_26 rfl ?_
      refine K_iload_n 2 l2 dM_seenOf_28 rfl rfl ?_
      refine K_icmp_ne 61 dM_seenOf_29 (by decide) (fun c16 => ?_) (fun c16 => ?_)
      · refine K_iinc 4 dM_seenOf_61 (Nat.le_of_ble_eq_true rfl) rfl (w32_ok (((h2.2 c5).2.2 c8).1 c16).1) rfl ?_
        refine K_goto 7 dM_seenOf_64 (by decide) ?_
        exact (((h2.2 c5).2.2 c8).1 c16).2
      · refine K_aload_n 0 76 dM_seenOf_32 rfl rfl ?_
        refine K_iload 4 l4 dM_seenOf_33 rfl ?_
        refine K_iload_n 1 l1 dM_seenOf_35 rfl rfl ?_
        refine K_callVi mM_reads 12 76 [jvI l4, jvI l1] dM_seenOf_36 pm_M_463 ⟨_, rfl, rfl⟩ ⟨(Nat.le_of_ble_eq_true rfl), (Nat.le_of_ble_eq_true rfl)⟩ rfl rfl (by decide) (Nat.le_of_ble_eq_true rfl) rfl (Nat.le_of_ble_eq_true rfl) (by decide) (Ci_mono (((h2.2 c5).2.2 c8).2 c16) (fun r21 μ18 h19 => ?_))
        refine K_if_eq 61 dM_seenOf_39 (by decide) (fun c22 => ?_) (fun c22 => ?_)
        · refine K_iinc 4 dM_seenOf_61 (Nat.le_of_ble_eq_true rfl) rfl (w32_ok (h19.1 c22).1) rfl ?_
          refine K_goto 7 dM_seenOf_64 (by decide) ?_
          exact (h19.1 c22).2
        · refine K_iload_n 3 l3 dM_seenOf_42 rfl rfl ?_
          refine K_bipush 100 dM_seenOf_43 rfl ?_
          refine K_aload_n 0 76 dM_seenOf_45 rfl rfl ?_
          refine K_getf 12 29 76 (jvR 96) dM_seenOf_46 pf_M_73 rfl rfl (by decide) rfl rfl ?_
          refine K_bipush 6 dM_seenOf_49 rfl ?_
          refine K_iload 4 l4 dM_seenOf_51 rfl ?_
          refine K_iadd dM_seenOf_53 (w32_id (h19.2 c22).1.1) ?_
          refine K_iald 96 12 dM_seenOf_54 rfl rfl (by decide) (h19.2 c22).1.2.1 ?_
          refine K_isub dM_seenOf_55 (w32_id (h19.2 c22).1.2.2.1) ?_
          refine K_imul dM_seenOf_56 (w32_id (h19.2 c22).1.2.2.2.1) ?_
          refine K_bipush 100 dM_seenOf_57 rfl ?_
          refine K_idiv dM_seenOf_59 (by decide) (w32_id (h19.2 c22).1.2.2.2.2.1) ?_
          refine K_istore_n 3 dM_seenOf_60 rfl (Nat.le_of_ble_eq_true rfl) rfl ?_
          refine K_iinc 4 dM_seenOf_61 (Nat.le_of_ble_eq_true rfl) rfl (w32_ok (h19.2 c22).1.2.2.2.2.2) rfl ?_
          refine K_goto 7 dM_seenOf_64 (by decide) ?_
          exact (h19.2 c22).2
set_option maxHeartbeats 8000000 in
theorem vM_reads_0 {E : jE} {μ : jMu} {Q : Option AV → jMu → Prop} {a0 a1 : Int} (hF : ((-2147483648 ≤ (6 + a0) ∧ (6 + a0) < 2147483648) ∧ (0 ≤ (6 + a0) ∧ (6 + a0) < 12) ∧ (-2147483648 ≤ (6 + a0) ∧ (6 + a0) < 2147483648) ∧ (0 ≤ (6 + a0) ∧ (6 + a0) < 12)) ∧ (Ci E mM_isIn [jvL a1, jvL (μ 97 (6 + a0)), jvL (μ 98 (6 + a0))] μ (fun r4 μ1 => ((r4 = 0 ∨ r4 = 1)) ∧ (Q (some (jvI r4)) μ1)))) : K 121 E mM_reads 0 [some (jvR 76), some (jvI a0), some (jvI a1)] [] μ Q := by
  refine K_iload_n 2 a1 dM_reads_0 rfl rfl ?_
  refine K_i2l dM_reads_1 rfl ?_
  refine K_aload_n 0 76 dM_reads_2 rfl rfl ?_
  refine K_getf 12 30 76 (jvR 97) dM_reads_3 pf_M_76 rfl rfl (by decide) rfl rfl ?_
  refine K_bipush 6 dM_reads_6 rfl ?_
  refine K_iload_n 1 a0 dM_reads_8 rfl rfl ?_
  refine K_iadd dM_reads_9 (w32_id hF.1.1) ?_
  refine K_iald 97 12 dM_reads_10 rfl rfl (by decide) hF.1.2.1 ?_
  refine K_i2l dM_reads_11 rfl ?_
  refine K_aload_n 0 76 dM_reads_12 rfl rfl ?_
  refine K_getf 12 31 76 (jvR 98) dM_reads_13 pf_M_79 rfl rfl (by decide) rfl rfl ?_
  refine K_bipush 6 dM_reads_16 rfl ?_
  refine K_iload_n 1 a0 dM_reads_18 rfl rfl ?_
  refine K_iadd dM_reads_19 (w32_id hF.1.2.2.1) ?_
  refine K_iald 98 12 dM_reads_20 rfl rfl (by decide) hF.1.2.2.2 ?_
  refine K_i2l dM_reads_21 rfl ?_
  refine K_callSi mM_isIn [jvL a1, jvL (μ 97 (6 + a0)), jvL (μ 98 (6 + a0))] dM_reads_22 pm_M_196 ⟨(Nat.le_of_ble_eq_true rfl), (Nat.le_of_ble_eq_true rfl)⟩ (Nat.le_of_ble_eq_true rfl) rfl (Nat.le_of_ble_eq_true rfl) (by decide) (Ci_mono hF.2 (fun r4 μ1 h2 => ?_))
  exact K_iret dM_reads_25 (Or.inr ⟨rfl, h2.1⟩) h2.2
set_option maxHeartbeats 8000000 in
theorem vM_names_0 {E : jE} {μ : jMu} {Q : Option AV → jMu → Prop} {a0 a1 : Int} (hF : (Ci E mM_isStep [jvR 76, jvI a0] μ (fun r4 μ1 => ((r4 = 0 → (Q (some (jvI (-1))) μ1)) ∧ (¬ (r4 = 0) → (Ci E mM_namesMany [jvR 76, jvI a0] μ1 (fun r11 μ8 => ((-2147483648 ≤ (r11 - 1) ∧ (r11 - 1) < 2147483648)) ∧ (Ci E mM_isIn [jvL a1, jvL 0, jvL (r11 - 1)] μ8 (fun r15 μ12 => ((r15 = 0 → (Q (some (jvI (-1))) μ12)) ∧ (¬ (r15 = 0) → (Ci E mM_namedBy [jvR 76, jvI a0, jvI a1] μ12 (fun r22 μ19 => (Q (some (jvI r22)) μ19)))))))))))))) : K 121 E mM_names 0 [some (jvR 76), some (jvI a0), some (jvI a1)] [] μ Q := by
  refine K_aload_n 0 76 dM_names_0 rfl rfl ?_
  refine K_iload_n 1 a0 dM_names_1 rfl rfl ?_
  refine K_callVi mM_isStep 12 76 [jvI a0] dM_names_2 pm_M_368 ⟨_, rfl, rfl⟩ ⟨(Nat.le_of_ble_eq_true rfl), (Nat.le_of_ble_eq_true rfl)⟩ rfl rfl (by decide) (Nat.le_of_ble_eq_true rfl) rfl (Nat.le_of_ble_eq_true rfl) (by decide) (Ci_mono hF (fun r4 μ1 h2 => ?_))
  refine K_if_eq 34 dM_names_5 (by decide) (fun c5 => ?_) (fun c5 => ?_)
  · refine K_iconst (-1) dM_names_34 rfl ?_
    exact K_iret dM_names_35 (Or.inl rfl) (h2.1 c5)
  · refine K_iload_n 2 a1 dM_names_8 rfl rfl ?_
    refine K_i2l dM_names_9 rfl ?_
    refine K_lconst 0 dM_names_10 rfl ?_
    refine K_aload_n 0 76 dM_names_11 rfl rfl ?_
    refine K_iload_n 1 a0 dM_names_12 rfl rfl ?_
    refine K_callVi mM_namesMany 12 76 [jvI a0] dM_names_13 pm_M_328 ⟨_, rfl, rfl⟩ ⟨(Nat.le_of_ble_eq_true rfl), (Nat.le_of_ble_eq_true rfl)⟩ rfl rfl (by decide) (Nat.le_of_ble_eq_true rfl) rfl (Nat.le_of_ble_eq_true rfl) (by decide) (Ci_mono (h2.2 c5) (fun r11 μ8 h9 => ?_))
    refine K_iconst 1 dM_names_16 rfl ?_
    refine K_isub dM_names_17 (w32_id h9.1) ?_
    refine K_i2l dM_names_18 rfl ?_
    refine K_callSi mM_isIn [jvL a1, jvL 0, jvL (r11 - 1)] dM_names_19 pm_M_196 ⟨(Nat.le_of_ble_eq_true rfl), (Nat.le_of_ble_eq_true rfl)⟩ (Nat.le_of_ble_eq_true rfl) rfl (Nat.le_of_ble_eq_true rfl) (by decide) (Ci_mono h9.2 (fun r15 μ12 h13 => ?_))
    refine K_if_eq 34 dM_names_22 (by decide) (fun c16 => ?_) (fun c16 => ?_)
    · refine K_iconst (-1) dM_names_34 rfl ?_
      exact K_iret dM_names_35 (Or.inl rfl) (h13.1 c16)
    · refine K_aload_n 0 76 dM_names_25 rfl rfl ?_
      refine K_iload_n 1 a0 dM_names_26 rfl rfl ?_
      refine K_iload_n 2 a1 dM_names_27 rfl rfl ?_
      refine K_callVi mM_namedBy 12 76 [jvI a0, jvI a1] dM_names_28 pm_M_319 ⟨_, rfl, rfl⟩ ⟨(Nat.le_of_ble_eq_true rfl), (Nat.le_of_ble_eq_true rfl)⟩ rfl rfl (by decide) (Nat.le_of_ble_eq_true rfl) rfl (Nat.le_of_ble_eq_true rfl) (by decide) (Ci_mono (h13.2 c16) (fun r22 μ19 h20 => ?_))
      refine K_goto 35 dM_names_31 (by decide) ?_
      exact K_iret dM_names_35 (Or.inl rfl) h20
set_option maxHeartbeats 8000000 in
theorem vM_term_0 {E : jE} {μ : jMu} {Q : Option AV → jMu → Prop} {a0 a1 : Int} (hF : (Ci E mM_isStep [jvR 76, jvI a0] μ (fun r4 μ1 => ((r4 = 0 → (Q (some (jvI (-1))) μ1)) ∧ (¬ (r4 = 0) → ((-2147483648 ≤ (48 + a0) ∧ (48 + a0) < 2147483648)) ∧ (Ci E mM_longOf [jvR 76, jvI (48 + a0)] μ1 (fun r11 μ8 => ((-2147483648 ≤ (r11 - 1) ∧ (r11 - 1) < 2147483648)) ∧ (Ci E mM_isIn [jvL a1, jvL 0, jvL (r11 - 1)] μ8 (fun r15 μ12 => ((r15 = 0 → (Q (some (jvI (-1))) μ12)) ∧ (¬ (r15 = 0) → ((-2147483648 ≤ (48 + a0) ∧ (48 + a0) < 2147483648)) ∧ (Ci E mM_fromOf [jvR 76, jvI (48 + a0)] μ12 (fun r22 μ19 => ((-2147483648 ≤ (r22 + a1) ∧ (r22 + a1) < 2147483648) ∧ (0 ≤ (r22 + a1) ∧ (r22 + a1) < 800)) ∧ (Q (some (jvI (μ19 90 (r22 + a1)))) μ19)))))))))))))) : K 121 E mM_term 0 [some (jvR 76), some (jvI a0), some (jvI a1)] [] μ Q := by
  refine K_aload_n 0 76 dM_term_0 rfl rfl ?_
  refine K_iload_n 1 a0 dM_term_1 rfl rfl ?_
  refine K_callVi mM_isStep 12 76 [jvI a0] dM_term_2 pm_M_368 ⟨_, rfl, rfl⟩ ⟨(Nat.le_of_ble_eq_true rfl), (Nat.le_of_ble_eq_true rfl)⟩ rfl rfl (by decide) (Nat.le_of_ble_eq_true rfl) rfl (Nat.le_of_ble_eq_true rfl) (by decide) (Ci_mono hF (fun r4 μ1 h2 => ?_))
  refine K_if_eq 46 dM_term_5 (by decide) (fun c5 => ?_) (fun c5 => ?_)
  · refine K_iconst (-1) dM_term_46 rfl ?_
    exact K_iret dM_term_47 (Or.inl rfl) (h2.1 c5)
  · refine K_iload_n 2 a1 dM_term_8 rfl rfl ?_
    refine K_i2l dM_term_9 rfl ?_
    refine K_lconst 0 dM_term_10 rfl ?_
    refine K_aload_n 0 76 dM_term_11 rfl rfl ?_
    refine K_bipush 48 dM_term_12 rfl ?_
    refine K_iload_n 1 a0 dM_term_14 rfl rfl ?_
    refine K_iadd dM_term_15 (w32_id (h2.2 c5).1) ?_
    refine K_callVi mM_longOf 12 76 [jvI (48 + a0)] dM_term_16 pm_M_316 ⟨_, rfl, rfl⟩ ⟨(Nat.le_of_ble_eq_true rfl), (Nat.le_of_ble_eq_true rfl)⟩ rfl rfl (by decide) (Nat.le_of_ble_eq_true rfl) rfl (Nat.le_of_ble_eq_true rfl) (by decide) (Ci_mono (h2.2 c5).2 (fun r11 μ8 h9 => ?_))
    refine K_iconst 1 dM_term_19 rfl ?_
    refine K_isub dM_term_20 (w32_id h9.1) ?_
    refine K_i2l dM_term_21 rfl ?_
    refine K_callSi mM_isIn [jvL a1, jvL 0, jvL (r11 - 1)] dM_term_22 pm_M_196 ⟨(Nat.le_of_ble_eq_true rfl), (Nat.le_of_ble_eq_true rfl)⟩ (Nat.le_of_ble_eq_true rfl) rfl (Nat.le_of_ble_eq_true rfl) (by decide) (Ci_mono h9.2 (fun r15 μ12 h13 => ?_))
    refine K_if_eq 46 dM_term_25 (by decide) (fun c16 => ?_) (fun c16 => ?_)
    · refine K_iconst (-1) dM_term_46 rfl ?_
      exact K_iret dM_term_47 (Or.inl rfl) (h13.1 c16)
    · refine K_aload_n 0 76 dM_term_28 rfl rfl ?_
      refine K_getf 12 22 76 (jvR 90) dM_term_29 pf_M_55 rfl rfl (by decide) rfl rfl ?_
      refine K_aload_n 0 76 dM_term_32 rfl rfl ?_
      refine K_bipush 48 dM_term_33 rfl ?_
      refine K_iload_n 1 a0 dM_term_35 rfl rfl ?_
      refine K_iadd dM_term_36 (w32_id (h13.2 c16).1) ?_
      refine K_callVi mM_fromOf 12 76 [jvI (48 + a0)] dM_term_37 pm_M_313 ⟨_, rfl, rfl⟩ ⟨(Nat.le_of_ble_eq_true rfl), (Nat.le_of_ble_eq_true rfl)⟩ rfl rfl (by decide) (Nat.le_of_ble_eq_true rfl) rfl (Nat.le_of_ble_eq_true rfl) (by decide) (Ci_mono (h13.2 c16).2 (fun r22 μ19 h20 => ?_))
      refine K_iload_n 2 a1 dM_term_40 rfl rfl ?_
      refine K_iadd dM_term_41 (w32_id h20.1.1) ?_
      refine K_iald 90 800 dM_term_42 rfl rfl (by decide) h20.1.2 ?_
      refine K_goto 47 dM_term_43 (by decide) ?_
      exact K_iret dM_term_47 (Or.inl rfl) h20.2
set_option maxHeartbeats 8000000 in
theorem vM_wrong_0 {E : jE} {μ : jMu} {Q : Option AV → jMu → Prop} (hF : (K 121 E mM_wrong 2 [some (jvR 76), some (jvI 0)] [] μ Q)) : K 121 E mM_wrong 0 [some (jvR 76), none] [] μ Q := by
  refine K_iconst 0 dM_wrong_0 rfl ?_
  refine K_istore_n 1 dM_wrong_1 rfl (Nat.le_of_ble_eq_true rfl) rfl ?_
  exact hF
set_option maxHeartbeats 8000000 in
theorem vM_wrong_2 {E : jE} {μ : jMu} {Q : Option AV → jMu → Prop} {l1 : Int} (hF : (Ci E mM_steps [jvR 76] μ (fun r4 μ1 => ((r4 ≤ l1 → (Q (some (jvI (-1))) μ1)) ∧ (¬ (r4 ≤ l1) → (Ci E mM_isRight [jvR 76, jvI l1] μ1 (fun r11 μ8 => ((¬ r11 = 0 → ((-2147483648 ≤ (l1 + 1) ∧ (l1 + 1) < 2147483648)) ∧ (K 121 E mM_wrong 2 [some (jvR 76), some (jvI (l1 + 1))] [] μ8 Q)) ∧ (r11 = 0 → (Q (some (jvI l1)) μ8)))))))))) : K 121 E mM_wrong 2 [some (jvR 76), some (jvI l1)] [] μ Q := by
  refine K_iload_n 1 l1 dM_wrong_2 rfl rfl ?_
  refine K_aload_n 0 76 dM_wrong_3 rfl rfl ?_
  refine K_callVi mM_steps 12 76 [] dM_wrong_4 pm_M_294 ⟨_, rfl, rfl⟩ ⟨(Nat.le_of_ble_eq_true rfl), (Nat.le_of_ble_eq_true rfl)⟩ rfl rfl (by decide) (Nat.le_of_ble_eq_true rfl) rfl (Nat.le_of_ble_eq_true rfl) (by decide) (Ci_mono hF (fun r4 μ1 h2 => ?_))
  refine K_icmp_ge 26 dM_wrong_7 (by decide) (fun c5 => ?_) (fun c5 => ?_)
  · refine K_iconst (-1) dM_wrong_26 rfl ?_
    exact K_iret dM_wrong_27 (Or.inl rfl) (h2.1 c5)
  · refine K_aload_n 0 76 dM_wrong_10 rfl rfl ?_
    refine K_iload_n 1 l1 dM_wrong_11 rfl rfl ?_
    refine K_callVi mM_isRight 12 76 [jvI l1] dM_wrong_12 pm_M_337 ⟨_, rfl, rfl⟩ ⟨(Nat.le_of_ble_eq_true rfl), (Nat.le_of_ble_eq_true rfl)⟩ rfl rfl (by decide) (Nat.le_of_ble_eq_true rfl) rfl (Nat.le_of_ble_eq_true rfl) (by decide) (Ci_mono (h2.2 c5) (fun r11 μ8 h9 => ?_))
    refine K_if_ne 20 dM_wrong_15 (by decide) (fun c12 => ?_) (fun c12 => ?_)
    · refine K_iinc 1 dM_wrong_20 (Nat.le_of_ble_eq_true rfl) rfl (w32_ok (h9.1 c12).1) rfl ?_
      refine K_goto 2 dM_wrong_23 (by decide) ?_
      exact (h9.1 c12).2
    · refine K_iload_n 1 l1 dM_wrong_18 rfl rfl ?_
      exact K_iret dM_wrong_19 (Or.inl rfl) (h9.2 c12)
set_option maxHeartbeats 8000000 in
theorem vM_rest_0 {E : jE} {μ : jMu} {Q : Option AV → jMu → Prop} {a0 : Int} (hF : ((-2147483648 ≤ ((μ 76 44) - 1) ∧ ((μ 76 44) - 1) < 2147483648)) ∧ (Ci E mM_isIn [jvL a0, jvL 0, jvL ((μ 76 44) - 1)] μ (fun r4 μ1 => ((r4 = 0 → (Q (some (jvI (-1))) μ1)) ∧ (¬ (r4 = 0) → ((0 ≤ a0 ∧ a0 < 40)) ∧ (Q (some (jvI (μ1 105 a0))) μ1)))))) : K 121 E mM_rest 0 [some (jvR 76), some (jvI a0)] [] μ Q := by
  refine K_iload_n 1 a0 dM_rest_0 rfl rfl ?_
  refine K_i2l dM_rest_1 rfl ?_
  refine K_lconst 0 dM_rest_2 rfl ?_
  refine K_aload_n 0 76 dM_rest_3 rfl rfl ?_
  refine K_getf 12 44 76 (jvI (μ 76 44)) dM_rest_4 pf_M_331 rfl rfl (by decide) rfl rfl ?_
  refine K_iconst 1 dM_rest_7 rfl ?_
  refine K_isub dM_rest_8 (w32_id hF.1) ?_
  refine K_i2l dM_rest_9 rfl ?_
  refine K_callSi mM_isIn [jvL a0, jvL 0, jvL ((μ 76 44) - 1)] dM_rest_10 pm_M_196 ⟨(Nat.le_of_ble_eq_true rfl), (Nat.le_of_ble_eq_true rfl)⟩ (Nat.le_of_ble_eq_true rfl) rfl (Nat.le_of_ble_eq_true rfl) (by decide) (Ci_mono hF.2 (fun r4 μ1 h2 => ?_))
  refine K_if_eq 25 dM_rest_13 (by decide) (fun c5 => ?_) (fun c5 => ?_)
  · refine K_iconst (-1) dM_rest_25 rfl ?_
    exact K_iret dM_rest_26 (Or.inl rfl) (h2.1 c5)
  · refine K_aload_n 0 76 dM_rest_16 rfl rfl ?_
    refine K_getf 12 42 76 (jvR 105) dM_rest_17 pf_M_100 rfl rfl (by decide) rfl rfl ?_
    refine K_iload_n 1 a0 dM_rest_20 rfl rfl ?_
    refine K_iald 105 40 dM_rest_21 rfl rfl (by decide) (h2.2 c5).1 ?_
    refine K_goto 26 dM_rest_22 (by decide) ?_
    exact K_iret dM_rest_26 (Or.inl rfl) (h2.2 c5).2
set_option maxHeartbeats 8000000 in
theorem vM_leans_0 {E : jE} {μ : jMu} {Q : Option AV → jMu → Prop} {a0 a1 : Int} (hF : ((-2147483648 ≤ ((μ 76 44) - 1) ∧ ((μ 76 44) - 1) < 2147483648)) ∧ (Ci E mM_isIn [jvL a0, jvL 0, jvL ((μ 76 44) - 1)] μ (fun r4 μ1 => ((r4 = 0 → (Q (some (jvI (-1))) μ1)) ∧ (¬ (r4 = 0) → ((0 ≤ a0 ∧ a0 < 40)) ∧ (Ci E mM_namesMany [jvR 76, jvI (μ1 105 a0)] μ1 (fun r11 μ8 => ((-2147483648 ≤ (r11 - 1) ∧ (r11 - 1) < 2147483648)) ∧ (Ci E mM_isIn [jvL a1, jvL 0, jvL (r11 - 1)] μ8 (fun r15 μ12 => ((r15 = 0 → (Q (some (jvI (-1))) μ12)) ∧ (¬ (r15 = 0) → (Ci E mM_leansTo [jvR 76, jvI a0, jvI a1] μ12 (fun r22 μ19 => (Q (some (jvI r22)) μ19)))))))))))))) : K 121 E mM_leans 0 [some (jvR 76), some (jvI a0), some (jvI a1)] [] μ Q := by
  refine K_iload_n 1 a0 dM_leans_0 rfl rfl ?_
  refine K_i2l dM_leans_1 rfl ?_
  refine K_lconst 0 dM_leans_2 rfl ?_
  refine K_aload_n 0 76 dM_leans_3 rfl rfl ?_
  refine K_getf 12 44 76 (jvI (μ 76 44)) dM_leans_4 pf_M_331 rfl rfl (by decide) rfl rfl ?_
  refine K_iconst 1 dM_leans_7 rfl ?_
  refine K_isub dM_leans_8 (w32_id hF.1) ?_
  refine K_i2l dM_leans_9 rfl ?_
  refine K_callSi mM_isIn [jvL a0, jvL 0, jvL ((μ 76 44) - 1)] dM_leans_10 pm_M_196 ⟨(Nat.le_of_ble_eq_true rfl), (Nat.le_of_ble_eq_true rfl)⟩ (Nat.le_of_ble_eq_true rfl) rfl (Nat.le_of_ble_eq_true rfl) (by decide) (Ci_mono hF.2 (fun r4 μ1 h2 => ?_))
  refine K_if_eq 47 dM_leans_13 (by decide) (fun c5 => ?_) (fun c5 => ?_)
  · refine K_iconst (-1) dM_leans_47 rfl ?_
    exact K_iret dM_leans_48 (Or.inl rfl) (h2.1 c5)
  · refine K_iload_n 2 a1 dM_leans_16 rfl rfl ?_
    refine K_i2l dM_leans_17 rfl ?_
    refine K_lconst 0 dM_leans_18 rfl ?_
    refine K_aload_n 0 76 dM_leans_19 rfl rfl ?_
    refine K_aload_n 0 76 dM_leans_20 rfl rfl ?_
    refine K_getf 12 42 76 (jvR 105) dM_leans_21 pf_M_100 rfl rfl (by decide) rfl rfl ?_
    refine K_iload_n 1 a0 dM_leans_24 rfl rfl ?_
    refine K_iald 105 40 dM_leans_25 rfl rfl (by decide) (h2.2 c5).1 ?_
    refine K_callVi mM_namesMany 12 76 [jvI (μ1 105 a0)] dM_leans_26 pm_M_328 ⟨_, rfl, rfl⟩ ⟨(Nat.le_of_ble_eq_true rfl), (Nat.le_of_ble_eq_true rfl)⟩ rfl rfl (by decide) (Nat.le_of_ble_eq_true rfl) rfl (Nat.le_of_ble_eq_true rfl) (by decide) (Ci_mono (h2.2 c5).2 (fun r11 μ8 h9 => ?_))
    refine K_iconst 1 dM_leans_29 rfl ?_
    refine K_isub dM_leans_30 (w32_id h9.1) ?_
    refine K_i2l dM_leans_31 rfl ?_
    refine K_callSi mM_isIn [jvL a1, jvL 0, jvL (r11 - 1)] dM_leans_32 pm_M_196 ⟨(Nat.le_of_ble_eq_true rfl), (Nat.le_of_ble_eq_true rfl)⟩ (Nat.le_of_ble_eq_true rfl) rfl (Nat.le_of_ble_eq_true rfl) (by decide) (Ci_mono h9.2 (fun r15 μ12 h13 => ?_))
    refine K_if_eq 47 dM_leans_35 (by decide) (fun c16 => ?_) (fun c16 => ?_)
    · refine K_iconst (-1) dM_leans_47 rfl ?_
      exact K_iret dM_leans_48 (Or.inl rfl) (h13.1 c16)
    · refine K_aload_n 0 76 dM_leans_38 rfl rfl ?_
      refine K_iload_n 1 a0 dM_leans_39 rfl rfl ?_
      refine K_iload_n 2 a1 dM_leans_40 rfl rfl ?_
      refine K_callVi mM_leansTo 12 76 [jvI a0, jvI a1] dM_leans_41 pm_M_377 ⟨_, rfl, rfl⟩ ⟨(Nat.le_of_ble_eq_true rfl), (Nat.le_of_ble_eq_true rfl)⟩ rfl rfl (by decide) (Nat.le_of_ble_eq_true rfl) rfl (Nat.le_of_ble_eq_true rfl) (by decide) (Ci_mono (h13.2 c16) (fun r22 μ19 h20 => ?_))
      refine K_goto 48 dM_leans_44 (by decide) ?_
      exact K_iret dM_leans_48 (Or.inl rfl) h20
set_option maxHeartbeats 8000000 in
theorem vM_leansTo_0 {E : jE} {μ : jMu} {Q : Option AV → jMu → Prop} {a0 a1 : Int} (hF : ((0 ≤ a0 ∧ a0 < 40)) ∧ (Ci E mM_namedBy [jvR 76, jvI (μ 105 a0), jvI a1] μ (fun r4 μ1 => ((0 ≤ r4 ∧ r4 < 40) ∧ (0 ≤ (μ1 103 r4) ∧ (μ1 103 r4) < 40)) ∧ (Q (some (jvI (μ1 106 (μ1 103 r4)))) μ1)))) : K 121 E mM_leansTo 0 [some (jvR 76), some (jvI a0), some (jvI a1)] [] μ Q := by
  refine K_aload_n 0 76 dM_leansTo_0 rfl rfl ?_
  refine K_getf 12 43 76 (jvR 106) dM_leansTo_1 pf_M_103 rfl rfl (by decide) rfl rfl ?_
  refine K_aload_n 0 76 dM_leansTo_4 rfl rfl ?_
  refine K_getf 12 40 76 (jvR 103) dM_leansTo_5 pf_M_94 rfl rfl (by decide) rfl rfl ?_
  refine K_aload_n 0 76 dM_leansTo_8 rfl rfl ?_
  refine K_aload_n 0 76 dM_leansTo_9 rfl rfl ?_
  refine K_getf 12 42 76 (jvR 105) dM_leansTo_10 pf_M_100 rfl rfl (by decide) rfl rfl ?_
  refine K_iload_n 1 a0 dM_leansTo_13 rfl rfl ?_
  refine K_iald 105 40 dM_leansTo_14 rfl rfl (by decide) hF.1 ?_
  refine K_iload_n 2 a1 dM_leansTo_15 rfl rfl ?_
  refine K_callVi mM_namedBy 12 76 [jvI (μ 105 a0), jvI a1] dM_leansTo_16 pm_M_319 ⟨_, rfl, rfl⟩ ⟨(Nat.le_of_ble_eq_true rfl), (Nat.le_of_ble_eq_true rfl)⟩ rfl rfl (by decide) (Nat.le_of_ble_eq_true rfl) rfl (Nat.le_of_ble_eq_true rfl) (by decide) (Ci_mono hF.2 (fun r4 μ1 h2 => ?_))
  refine K_iald 103 40 dM_leansTo_19 rfl rfl (by decide) h2.1.1 ?_
  refine K_iald 106 40 dM_leansTo_20 rfl rfl (by decide) h2.1.2 ?_
  exact K_iret dM_leansTo_21 (Or.inl rfl) h2.2
set_option maxHeartbeats 8000000 in
theorem vM_upon_0 {E : jE} {μ : jMu} {Q : Option AV → jMu → Prop} {a0 a1 : Int} (hF : (Ci E mM_isStep [jvR 76, jvI a0] μ (fun r4 μ1 => ((r4 = 0 → (Q (some (jvI (-1))) μ1)) ∧ (¬ (r4 = 0) → (Ci E mM_isStep [jvR 76, jvI a1] μ1 (fun r11 μ8 => ((¬ r11 = 0 → ((0 ≤ a0 ∧ a0 < 40) ∧ (-2147483648 ≤ (iand64 (ishr64 (μ8 104 a0) a1) 1) ∧ (iand64 (ishr64 (μ8 104 a0) a1) 1) < 2147483648)) ∧ (Q (some (jvI (iand64 (ishr64 (μ8 104 a0) a1) 1))) μ8)) ∧ (r11 = 0 → (Q (some (jvI (-1))) μ8)))))))))) : K 121 E mM_upon 0 [some (jvR 76), some (jvI a0), some (jvI a1)] [] μ Q := by
  refine K_aload_n 0 76 dM_upon_0 rfl rfl ?_
  refine K_iload_n 1 a0 dM_upon_1 rfl rfl ?_
  refine K_callVi mM_isStep 12 76 [jvI a0] dM_upon_2 pm_M_368 ⟨_, rfl, rfl⟩ ⟨(Nat.le_of_ble_eq_true rfl), (Nat.le_of_ble_eq_true rfl)⟩ rfl rfl (by decide) (Nat.le_of_ble_eq_true rfl) rfl (Nat.le_of_ble_eq_true rfl) (by decide) (Ci_mono hF (fun r4 μ1 h2 => ?_))
  refine K_if_eq 16 dM_upon_5 (by decide) (fun c5 => ?_) (fun c5 => ?_)
  · refine K_iconst (-1) dM_upon_16 rfl ?_
    refine K_goto 31 dM_upon_17 (by decide) ?_
    exact K_iret dM_upon_31 (Or.inl rfl) (h2.1 c5)
  · refine K_aload_n 0 76 dM_upon_8 rfl rfl ?_
    refine K_iload_n 2 a1 dM_upon_9 rfl rfl ?_
    refine K_callVi mM_isStep 12 76 [jvI a1] dM_upon_10 pm_M_368 ⟨_, rfl, rfl⟩ ⟨(Nat.le_of_ble_eq_true rfl), (Nat.le_of_ble_eq_true rfl)⟩ rfl rfl (by decide) (Nat.le_of_ble_eq_true rfl) rfl (Nat.le_of_ble_eq_true rfl) (by decide) (Ci_mono (h2.2 c5) (fun r11 μ8 h9 => ?_))
    refine K_if_ne 20 dM_upon_13 (by decide) (fun c12 => ?_) (fun c12 => ?_)
    · refine K_aload_n 0 76 dM_upon_20 rfl rfl ?_
      refine K_getf 12 41 76 (jvR 104) dM_upon_21 pf_M_97 rfl rfl (by decide) rfl rfl ?_
      refine K_iload_n 1 a0 dM_upon_24 rfl rfl ?_
      refine K_lald 104 40 dM_upon_25 rfl rfl (by decide) (h9.1 c12).1.1 ?_
      refine K_iload_n 2 a1 dM_upon_26 rfl rfl ?_
      refine K_lshr dM_upon_27 rfl ?_
      refine K_lconst 1 dM_upon_28 rfl ?_
      refine K_land dM_upon_29 rfl ?_
      refine K_l2i dM_upon_30 (w32_id (h9.1 c12).1.2) ?_
      exact K_iret dM_upon_31 (Or.inl rfl) (h9.1 c12).2
    · refine K_iconst (-1) dM_upon_16 rfl ?_
      refine K_goto 31 dM_upon_17 (by decide) ?_
      exact K_iret dM_upon_31 (Or.inl rfl) (h9.2 c12)
set_option maxHeartbeats 8000000 in
theorem vM_depth_0 {E : jE} {μ : jMu} {Q : Option AV → jMu → Prop} {a0 : Int} (hF : (Ci E mM_isStep [jvR 76, jvI a0] μ (fun r4 μ1 => ((¬ r4 = 0 → (K 121 E mM_depth 12 [some (jvR 76), some (jvI a0), some (jvI 0), none] [] μ1 Q)) ∧ (r4 = 0 → (Q (some (jvI (-1))) μ1)))))) : K 121 E mM_depth 0 [some (jvR 76), some (jvI a0), none, none] [] μ Q := by
  refine K_aload_n 0 76 dM_depth_0 rfl rfl ?_
  refine K_iload_n 1 a0 dM_depth_1 rfl rfl ?_
  refine K_callVi mM_isStep 12 76 [jvI a0] dM_depth_2 pm_M_368 ⟨_, rfl, rfl⟩ ⟨(Nat.le_of_ble_eq_true rfl), (Nat.le_of_ble_eq_true rfl)⟩ rfl rfl (by decide) (Nat.le_of_ble_eq_true rfl) rfl (Nat.le_of_ble_eq_true rfl) (by decide) (Ci_mono hF (fun r4 μ1 h2 => ?_))
  refine K_if_ne 10 dM_depth_5 (by decide) (fun c5 => ?_) (fun c5 => ?_)
  · refine K_iconst 0 dM_depth_10 rfl ?_
    refine K_istore_n 2 dM_depth_11 rfl (Nat.le_of_ble_eq_true rfl) rfl ?_
    exact (h2.1 c5)
  · refine K_iconst (-1) dM_depth_8 rfl ?_
    exact K_iret dM_depth_9 (Or.inl rfl) (h2.2 c5)
set_option maxHeartbeats 8000000 in
theorem vM_depth_12 {E : jE} {μ : jMu} {Q : Option AV → jMu → Prop} {l1 l2 : Int} (hF : ((l1 < l2 → ((0 ≤ l1 ∧ l1 < 40)) ∧ (Q (some (jvI (μ 110 l1))) μ)) ∧ (¬ (l1 < l2) → ((0 ≤ l2 ∧ l2 < 40)) ∧ (K 121 E mM_depth 26 [some (jvR 76), some (jvI l1), some (jvI l2), some (jvI 0)] [] (j_up μ 110 l2 1) Q)))) : K 121 E mM_depth 12 [some (jvR 76), some (jvI l1), some (jvI l2), none] [] μ Q := by
  refine K_iload_n 2 l2 dM_depth_12 rfl rfl ?_
  refine K_iload_n 1 l1 dM_depth_13 rfl rfl ?_
  refine K_icmp_gt 86 dM_depth_14 (by decide) (fun c1 => ?_) (fun c1 => ?_)
  · refine K_aload_n 0 76 dM_depth_86 rfl rfl ?_
    refine K_getf 12 48 76 (jvR 110) dM_depth_87 pf_M_116 rfl rfl (by decide) rfl rfl ?_
    refine K_iload_n 1 l1 dM_depth_90 rfl rfl ?_
    refine K_iald 110 40 dM_depth_91 rfl rfl (by decide) (hF.1 c1).1 ?_
    exact K_iret dM_depth_92 (Or.inl rfl) (hF.1 c1).2
  · refine K_aload_n 0 76 dM_depth_17 rfl rfl ?_
    refine K_getf 12 48 76 (jvR 110) dM_depth_18 pf_M_116 rfl rfl (by decide) rfl rfl ?_
    refine K_iload_n 2 l2 dM_depth_21 rfl rfl ?_
    refine K_iconst 1 dM_depth_22 rfl ?_
    refine K_iast 110 40 dM_depth_23 rfl rfl (by decide) (hF.2 c1).1 ?_
    refine K_iconst 0 dM_depth_24 rfl ?_
    refine K_istore_n 3 dM_depth_25 rfl (Nat.le_of_ble_eq_true rfl) rfl ?_
    exact (hF.2 c1).2
set_option maxHeartbeats 8000000 in
theorem vM_depth_26 {E : jE} {μ : jMu} {Q : Option AV → jMu → Prop} {l1 l2 l3 : Int} (hF : (Ci E mM_namesMany [jvR 76, jvI l2] μ (fun r4 μ1 => ((r4 ≤ l3 → ((-2147483648 ≤ (l2 + 1) ∧ (l2 + 1) < 2147483648)) ∧ (K 121 E mM_depth 12 [some (jvR 76), some (jvI l1), some (jvI (l2 + 1)), none] [] μ1 Q)) ∧ (¬ (r4 ≤ l3) → (Ci E mM_namedBy [jvR 76, jvI l2, jvI l3] μ1 (fun r10 μ7 => ((0 ≤ r10 ∧ r10 < 40) ∧ (0 ≤ l2 ∧ l2 < 40)) ∧ (((μ7 110 r10) < (μ7 110 l2) → ((-2147483648 ≤ (l3 + 1) ∧ (l3 + 1) < 2147483648)) ∧ (K 121 E mM_depth 26 [some (jvR 76), some (jvI l1), some (jvI l2), some (jvI (l3 + 1))] [] μ7 Q)) ∧ (¬ ((μ7 110 r10) < (μ7 110 l2)) → (Ci E mM_namedBy [jvR 76, jvI l2, jvI l3] μ7 (fun r16 μ13 => ((0 ≤ r16 ∧ r16 < 40) ∧ (-2147483648 ≤ ((μ13 110 r16) + 1) ∧ ((μ13 110 r16) + 1) < 2147483648) ∧ (0 ≤ l2 ∧ l2 < 40) ∧ (-2147483648 ≤ (l3 + 1) ∧ (l3 + 1) < 2147483648)) ∧ (K 121 E mM_depth 26 [some (jvR 76), some (jvI l1), some (jvI l2), some (jvI (l3 + 1))] [] (j_up μ13 110 l2 ((μ13 110 r16) + 1)) Q)))))))))))) : K 121 E mM_depth 26 [some (jvR 76), some (jvI l1), some (jvI l2), some (jvI l3)] [] μ Q := by
  refine K_iload_n 3 l3 dM_depth_26 rfl rfl ?_
  refine K_aload_n 0 76 dM_depth_27 rfl rfl ?_
  refine K_iload_n 2 l2 dM_depth_28 rfl rfl ?_
  refine K_callVi mM_namesMany 12 76 [jvI l2] dM_depth_29 pm_M_328 ⟨_, rfl, rfl⟩ ⟨(Nat.le_of_ble_eq_true rfl), (Nat.le_of_ble_eq_true rfl)⟩ rfl rfl (by decide) (Nat.le_of_ble_eq_true rfl) rfl (Nat.le_of_ble_eq_true rfl) (by decide) (Ci_mono hF (fun r4 μ1 h2 => ?_))
  refine K_icmp_ge 80 dM_depth_32 (by decide) (fun c5 => ?_) (fun c5 => ?_)
  · refine K_iinc 2 dM_depth_80 (Nat.le_of_ble_eq_true rfl) rfl (w32_ok (h2.1 c5).1) rfl ?_
    refine K_goto 12 dM_depth_83 (by decide) ?_
    exact K_forget [true, true, true, false] (h2.1 c5).2
  · refine K_aload_n 0 76 dM_depth_35 rfl rfl ?_
    refine K_getf 12 48 76 (jvR 110) dM_depth_36 pf_M_116 rfl rfl (by decide) rfl rfl ?_
    refine K_aload_n 0 76 dM_depth_39 rfl rfl ?_
    refine K_iload_n 2 l2 dM_depth_40 rfl rfl ?_
    refine K_iload_n 3 l3 dM_depth_41 rfl rfl ?_
    refine K_callVi mM_namedBy 12 76 [jvI l2, jvI l3] dM_depth_42 pm_M_319 ⟨_, rfl, rfl⟩ ⟨(Nat.le_of_ble_eq_true rfl), (Nat.le_of_ble_eq_true rfl)⟩ rfl rfl (by decide) (Nat.le_of_ble_eq_true rfl) rfl (Nat.le_of_ble_eq_true rfl) (by decide) (Ci_mono (h2.2 c5) (fun r10 μ7 h8 => ?_))
    refine K_iald 110 40 dM_depth_45 rfl rfl (by decide) h8.1.1 ?_
    refine K_aload_n 0 76 dM_depth_46 rfl rfl ?_
    refine K_getf 12 48 76 (jvR 110) dM_depth_47 pf_M_116 rfl rfl (by decide) rfl rfl ?_
    refine K_iload_n 2 l2 dM_depth_50 rfl rfl ?_
    refine K_iald 110 40 dM_depth_51 rfl rfl (by decide) h8.1.2 ?_
    refine K_icmp_lt 74 dM_depth_52 (by decide) (fun c11 => ?_) (fun c11 => ?_)
    · refine K_iinc 3 dM_depth_74 (Nat.le_of_ble_eq_true rfl) rfl (w32_ok (h8.2.1 c11).1) rfl ?_
      refine K_goto 26 dM_depth_77 (by decide) ?_
      exact (h8.2.1 c11).2
    · refine K_aload_n 0 76 dM_depth_55 rfl rfl ?_
      refine K_getf 12 48 76 (jvR 110) dM_depth_56 pf_M_116 rfl rfl (by decide) rfl rfl ?_
      refine K_iload_n 2 l2 dM_depth_59 rfl rfl ?_
      refine K_aload_n 0 76 dM_depth_60 rfl rfl ?_
      refine K_getf 12 48 76 (jvR 110) dM_depth_61 pf_M_116 rfl rfl (by decide) rfl rfl ?_
      refine K_aload_n 0 76 dM_depth_64 rfl rfl ?_
      refine K_iload_n 2 l2 dM_depth_65 rfl rfl ?_
      refine K_iload_n 3 l3 dM_depth_66 rfl rfl ?_
      refine K_callVi mM_namedBy 12 76 [jvI l2, jvI l3] dM_depth_67 pm_M_319 ⟨_, rfl, rfl⟩ ⟨(Nat.le_of_ble_eq_true rfl), (Nat.le_of_ble_eq_true rfl)⟩ rfl rfl (by decide) (Nat.le_of_ble_eq_true rfl) rfl (Nat.le_of_ble_eq_true rfl) (by decide) (Ci_mono (h8.2.2 c11) (fun r16 μ13 h14 => ?_))
      refine K_iald 110 40 dM_depth_70 rfl rfl (by decide) h14.1.1 ?_
      refine K_iconst 1 dM_depth_71 rfl ?_
      refine K_iadd dM_depth_72 (w32_id h14.1.2.1) ?_
      refine K_iast 110 40 dM_depth_73 rfl rfl (by decide) h14.1.2.2.1 ?_
      refine K_iinc 3 dM_depth_74 (Nat.le_of_ble_eq_true rfl) rfl (w32_ok h14.1.2.2.2) rfl ?_
      refine K_goto 26 dM_depth_77 (by decide) ?_
      exact h14.2
set_option maxHeartbeats 8000000 in
theorem vM_load_0 {E : jE} {μ : jMu} {Q : Option AV → jMu → Prop} {a0 : Int} (hF : (Ci E mM_isStep [jvR 76, jvI a0] μ (fun r4 μ1 => ((¬ r4 = 0 → (K 121 E mM_load 14 [some (jvR 76), some (jvI a0), some (jvI 0), some (jvI 0)] [] μ1 Q)) ∧ (r4 = 0 → (Q (some (jvI (-1))) μ1)))))) : K 121 E mM_load 0 [some (jvR 76), some (jvI a0), none, none] [] μ Q := by
  refine K_aload_n 0 76 dM_load_0 rfl rfl ?_
  refine K_iload_n 1 a0 dM_load_1 rfl rfl ?_
  refine K_callVi mM_isStep 12 76 [jvI a0] dM_load_2 pm_M_368 ⟨_, rfl, rfl⟩ ⟨(Nat.le_of_ble_eq_true rfl), (Nat.le_of_ble_eq_true rfl)⟩ rfl rfl (by decide) (Nat.le_of_ble_eq_true rfl) rfl (Nat.le_of_ble_eq_true rfl) (by decide) (Ci_mono hF (fun r4 μ1 h2 => ?_))
  refine K_if_ne 10 dM_load_5 (by decide) (fun c5 => ?_) (fun c5 => ?_)
  · refine K_iconst 0 dM_load_10 rfl ?_
    refine K_istore_n 2 dM_load_11 rfl (Nat.le_of_ble_eq_true rfl) rfl ?_
    refine K_iconst 0 dM_load_12 rfl ?_
    refine K_istore_n 3 dM_load_13 rfl (Nat.le_of_ble_eq_true rfl) rfl ?_
    exact (h2.1 c5)
  · refine K_iconst (-1) dM_load_8 rfl ?_
    exact K_iret dM_load_9 (Or.inl rfl) (h2.2 c5)
set_option maxHeartbeats 8000000 in
theorem vM_load_14 {E : jE} {μ : jMu} {Q : Option AV → jMu → Prop} {l1 l2 l3 : Int} (hF : (Ci E mM_steps [jvR 76] μ (fun r4 μ1 => ((r4 ≤ l3 → (Q (some (jvI l2)) μ1)) ∧ (¬ (r4 ≤ l3) → (Ci E mM_isNeeded [jvR 76, jvI l3] μ1 (fun r11 μ8 => ((r11 = 0 → ((-2147483648 ≤ (l3 + 1) ∧ (l3 + 1) < 2147483648)) ∧ (K 121 E mM_load 14 [some (jvR 76), some (jvI l1), some (jvI l2), some (jvI (l3 + 1))] [] μ8 Q)) ∧ (¬ (r11 = 0) → ((0 ≤ l3 ∧ l3 < 40)) ∧ ((¬ (iand64 (ishr64 (μ8 104 l3) l1) 1) = 1 → ((-2147483648 ≤ (l3 + 1) ∧ (l3 + 1) < 2147483648)) ∧ (K 121 E mM_load 14 [some (jvR 76), some (jvI l1), some (jvI l2), some (jvI (l3 + 1))] [] μ8 Q)) ∧ ((iand64 (ishr64 (μ8 104 l3) l1) 1) = 1 → ((-2147483648 ≤ (l2 + 1) ∧ (l2 + 1) < 2147483648) ∧ (-2147483648 ≤ (l3 + 1) ∧ (l3 + 1) < 2147483648)) ∧ (K 121 E mM_load 14 [some (jvR 76), some (jvI l1), some (jvI (l2 + 1)), some (jvI (l3 + 1))] [] μ8 Q)))))))))))) : K 121 E mM_load 14 [some (jvR 76), some (jvI l1), some (jvI l2), some (jvI l3)] [] μ Q := by
  refine K_iload_n 3 l3 dM_load_14 rfl rfl ?_
  refine K_aload_n 0 76 dM_load_15 rfl rfl ?_
  refine K_callVi mM_steps 12 76 [] dM_load_16 pm_M_294 ⟨_, rfl, rfl⟩ ⟨(Nat.le_of_ble_eq_true rfl), (Nat.le_of_ble_eq_true rfl)⟩ rfl rfl (by decide) (Nat.le_of_ble_eq_true rfl) rfl (Nat.le_of_ble_eq_true rfl) (by decide) (Ci_mono hF (fun r4 μ1 h2 => ?_))
  refine K_icmp_ge 54 dM_load_19 (by decide) (fun c5 => ?_) (fun c5 => ?_)
  · refine K_iload_n 2 l2 dM_load_54 rfl rfl ?_
    exact K_iret dM_load_55 (Or.inl rfl) (h2.1 c5)
  · refine K_aload_n 0 76 dM_load_22 rfl rfl ?_
    refine K_iload_n 3 l3 dM_load_23 rfl rfl ?_
    refine K_callVi mM_isNeeded 12 76 [jvI l3] dM_load_24 pm_M_340 ⟨_, rfl, rfl⟩ ⟨(Nat.le_of_ble_eq_true rfl), (Nat.le_of_ble_eq_true rfl)⟩ rfl rfl (by decide) (Nat.le_of_ble_eq_true rfl) rfl (Nat.le_of_ble_eq_true rfl) (by decide) (Ci_mono (h2.2 c5) (fun r11 μ8 h9 => ?_))
    refine K_if_eq 48 dM_load_27 (by decide) (fun c12 => ?_) (fun c12 => ?_)
    · refine K_iinc 3 dM_load_48 (Nat.le_of_ble_eq_true rfl) rfl (w32_ok (h9.1 c12).1) rfl ?_
      refine K_goto 14 dM_load_51 (by decide) ?_
      exact (h9.1 c12).2
    · refine K_aload_n 0 76 dM_load_30 rfl rfl ?_
      refine K_getf 12 41 76 (jvR 104) dM_load_31 pf_M_97 rfl rfl (by decide) rfl rfl ?_
      refine K_iload_n 3 l3 dM_load_34 rfl rfl ?_
      refine K_lald 104 40 dM_load_35 rfl rfl (by decide) (h9.2 c12).1 ?_
      refine K_iload_n 1 l1 dM_load_36 rfl rfl ?_
      refine K_lshr dM_load_37 rfl ?_
      refine K_lconst 1 dM_load_38 rfl ?_
      refine K_land dM_load_39 rfl ?_
      refine K_lconst 1 dM_load_40 rfl ?_
      refine K_lcmp_ne 48 dM_load_41 dM_load_42 (by decide) (fun c14 => ?_) (fun c14 => ?_)
      · refine K_iinc 3 dM_load_48 (Nat.le_of_ble_eq_true rfl) rfl (w32_ok ((h9.2 c12).2.1 c14).1) rfl ?_
        refine K_goto 14 dM_load_51 (by decide) ?_
        exact ((h9.2 c12).2.1 c14).2
      · refine K_iinc 2 dM_load_45 (Nat.le_of_ble_eq_true rfl) rfl (w32_ok ((h9.2 c12).2.2 c14).1.1) rfl ?_
        refine K_iinc 3 dM_load_48 (Nat.le_of_ble_eq_true rfl) rfl (w32_ok ((h9.2 c12).2.2 c14).1.2) rfl ?_
        refine K_goto 14 dM_load_51 (by decide) ?_
        exact ((h9.2 c12).2.2 c14).2
set_option maxHeartbeats 8000000 in
theorem vM_covers_0 {E : jE} {μ : jMu} {Q : Option AV → jMu → Prop} {a0 : Int} (hF : (Ci E mM_isStep [jvR 76, jvI a0] μ (fun r4 μ1 => ((¬ r4 = 0 → ((-2147483648 ≤ (a0 + 1) ∧ (a0 + 1) < 2147483648)) ∧ (K 121 E mM_covers 16 [some (jvR 76), some (jvI a0), some (jvI 0), some (jvI (a0 + 1))] [] μ1 Q)) ∧ (r4 = 0 → (Q (some (jvI (-1))) μ1)))))) : K 121 E mM_covers 0 [some (jvR 76), some (jvI a0), none, none] [] μ Q := by
  refine K_aload_n 0 76 dM_covers_0 rfl rfl ?_
  refine K_iload_n 1 a0 dM_covers_1 rfl rfl ?_
  refine K_callVi mM_isStep 12 76 [jvI a0] dM_covers_2 pm_M_368 ⟨_, rfl, rfl⟩ ⟨(Nat.le_of_ble_eq_true rfl), (Nat.le_of_ble_eq_true rfl)⟩ rfl rfl (by decide) (Nat.le_of_ble_eq_true rfl) rfl (Nat.le_of_ble_eq_true rfl) (by decide) (Ci_mono hF (fun r4 μ1 h2 => ?_))
  refine K_if_ne 10 dM_covers_5 (by decide) (fun c5 => ?_) (fun c5 => ?_)
  · refine K_iconst 0 dM_covers_10 rfl ?_
    refine K_istore_n 2 dM_covers_11 rfl (Nat.le_of_ble_eq_true rfl) rfl ?_
    refine K_iload_n 1 a0 dM_covers_12 rfl rfl ?_
    refine K_iconst 1 dM_covers_13 rfl ?_
    refine K_iadd dM_covers_14 (w32_id (h2.1 c5).1) ?_
    refine K_istore_n 3 dM_covers_15 rfl (Nat.le_of_ble_eq_true rfl) rfl ?_
    exact (h2.1 c5).2
  · refine K_iconst (-1) dM_covers_8 rfl ?_
    exact K_iret dM_covers_9 (Or.inl rfl) (h2.2 c5)
set_option maxHeartbeats 8000000 in
theorem vM_covers_16 {E : jE} {μ : jMu} {Q : Option AV → jMu → Prop} {l1 l2 l3 : Int} (hF : (Ci E mM_steps [jvR 76] μ (fun r4 μ1 => ((r4 ≤ l3 → (Q (some (jvI l2)) μ1)) ∧ (¬ (r4 ≤ l3) → (Ci E mM_isCover [jvR 76, jvI l1, jvI l3] μ1 (fun r11 μ8 => ((r11 = 0 → ((-2147483648 ≤ (l3 + 1) ∧ (l3 + 1) < 2147483648)) ∧ (K 121 E mM_covers 16 [some (jvR 76), some (jvI l1), some (jvI l2), some (jvI (l3 + 1))] [] μ8 Q)) ∧ (¬ (r11 = 0) → ((-2147483648 ≤ (l2 + 1) ∧ (l2 + 1) < 2147483648) ∧ (-2147483648 ≤ (l3 + 1) ∧ (l3 + 1) < 2147483648)) ∧ (K 121 E mM_covers 16 [some (jvR 76), some (jvI l1), some (jvI (l2 + 1)), some (jvI (l3 + 1))] [] μ8 Q)))))))))) : K 121 E mM_covers 16 [some (jvR 76), some (jvI l1), some (jvI l2), some (jvI l3)] [] μ Q := by
  refine K_iload_n 3 l3 dM_covers_16 rfl rfl ?_
  refine K_aload_n 0 76 dM_covers_17 rfl rfl ?_
  refine K_callVi mM_steps 12 76 [] dM_covers_18 pm_M_294 ⟨_, rfl, rfl⟩ ⟨(Nat.le_of_ble_eq_true rfl), (Nat.le_of_ble_eq_true rfl)⟩ rfl rfl (by decide) (Nat.le_of_ble_eq_true rfl) rfl (Nat.le_of_ble_eq_true rfl) (by decide) (Ci_mono hF (fun r4 μ1 h2 => ?_))
  refine K_icmp_ge 42 dM_covers_21 (by decide) (fun c5 => ?_) (fun c5 => ?_)
  · refine K_iload_n 2 l2 dM_covers_42 rfl rfl ?_
    exact K_iret dM_covers_43 (Or.inl rfl) (h2.1 c5)
  · refine K_aload_n 0 76 dM_covers_24 rfl rfl ?_
    refine K_iload_n 1 l1 dM_covers_25 rfl rfl ?_
    refine K_iload_n 3 l3 dM_covers_26 rfl rfl ?_
    refine K_callVi mM_isCover 12 76 [jvI l1, jvI l3] dM_covers_27 pm_M_325 ⟨_, rfl, rfl⟩ ⟨(Nat.le_of_ble_eq_true rfl), (Nat.le_of_ble_eq_true rfl)⟩ rfl rfl (by decide) (Nat.le_of_ble_eq_true rfl) rfl (Nat.le_of_ble_eq_true rfl) (by decide) (Ci_mono (h2.2 c5) (fun r11 μ8 h9 => ?_))
    refine K_if_eq 36 dM_covers_30 (by decide) (fun c12 => ?_) (fun c12 => ?_)
    · refine K_iinc 3 dM_covers_36 (Nat.le_of_ble_eq_true rfl) rfl (w32_ok (h9.1 c12).1) rfl ?_
      refine K_goto 16 dM_covers_39 (by decide) ?_
      exact (h9.1 c12).2
    · refine K_iinc 2 dM_covers_33 (Nat.le_of_ble_eq_true rfl) rfl (w32_ok (h9.2 c12).1.1) rfl ?_
      refine K_iinc 3 dM_covers_36 (Nat.le_of_ble_eq_true rfl) rfl (w32_ok (h9.2 c12).1.2) rfl ?_
      refine K_goto 16 dM_covers_39 (by decide) ?_
      exact (h9.2 c12).2
set_option maxHeartbeats 8000000 in
theorem vM_vital_0 {E : jE} {μ : jMu} {Q : Option AV → jMu → Prop} {a0 : Int} (hF : (Ci E mM_isStep [jvR 76, jvI a0] μ (fun r4 μ1 => ((¬ r4 = 0 → (Ci E mM_isProvedWithout [jvR 76, jvI a0] μ1 (fun r10 μ7 => ((r10 = 0 → (Q (some (jvI 1)) μ7)) ∧ (¬ (r10 = 0) → (Q (some (jvI 0)) μ7)))))) ∧ (r4 = 0 → (Q (some (jvI (-1))) μ1)))))) : K 121 E mM_vital 0 [some (jvR 76), some (jvI a0)] [] μ Q := by
  refine K_aload_n 0 76 dM_vital_0 rfl rfl ?_
  refine K_iload_n 1 a0 dM_vital_1 rfl rfl ?_
  refine K_callVi mM_isStep 12 76 [jvI a0] dM_vital_2 pm_M_368 ⟨_, rfl, rfl⟩ ⟨(Nat.le_of_ble_eq_true rfl), (Nat.le_of_ble_eq_true rfl)⟩ rfl rfl (by decide) (Nat.le_of_ble_eq_true rfl) rfl (Nat.le_of_ble_eq_true rfl) (by decide) (Ci_mono hF (fun r4 μ1 h2 => ?_))
  refine K_if_ne 12 dM_vital_5 (by decide) (fun c5 => ?_) (fun c5 => ?_)
  · refine K_aload_n 0 76 dM_vital_12 rfl rfl ?_
    refine K_iload_n 1 a0 dM_vital_13 rfl rfl ?_
    refine K_callVi mM_isProvedWithout 12 76 [jvI a0] dM_vital_14 pm_M_380 ⟨_, rfl, rfl⟩ ⟨(Nat.le_of_ble_eq_true rfl), (Nat.le_of_ble_eq_true rfl)⟩ rfl rfl (by decide) (Nat.le_of_ble_eq_true rfl) rfl (Nat.le_of_ble_eq_true rfl) (by decide) (Ci_mono (h2.1 c5) (fun r10 μ7 h8 => ?_))
    refine K_if_eq 24 dM_vital_17 (by decide) (fun c11 => ?_) (fun c11 => ?_)
    · refine K_iconst 1 dM_vital_24 rfl ?_
      exact K_iret dM_vital_25 (Or.inl rfl) (h8.1 c11)
    · refine K_iconst 0 dM_vital_20 rfl ?_
      refine K_goto 25 dM_vital_21 (by decide) ?_
      exact K_iret dM_vital_25 (Or.inl rfl) (h8.2 c11)
  · refine K_iconst (-1) dM_vital_8 rfl ?_
    refine K_goto 25 dM_vital_9 (by decide) ?_
    exact K_iret dM_vital_25 (Or.inl rfl) (h2.2 c5)
set_option maxHeartbeats 8000000 in
theorem vM_isProvedWithout_0 {E : jE} {μ : jMu} {Q : Option AV → jMu → Prop} {a0 : Int} (hF : (K 121 E mM_isProvedWithout 2 [some (jvR 76), some (jvI a0), some (jvI 0), none, none] [] μ Q)) : K 121 E mM_isProvedWithout 0 [some (jvR 76), some (jvI a0), none, none, none] [] μ Q := by
  refine K_iconst 0 dM_isProvedWithout_0 rfl ?_
  refine K_istore_n 2 dM_isProvedWithout_1 rfl (Nat.le_of_ble_eq_true rfl) rfl ?_
  exact hF
set_option maxHeartbeats 8000000 in
theorem vM_isProvedWithout_2 {E : jE} {μ : jMu} {Q : Option AV → jMu → Prop} {l1 l2 : Int} (hF : (Ci E mM_steps [jvR 76] μ (fun r4 μ1 => ((r4 ≤ l2 → (K 121 E mM_isProvedWithout 25 [some (jvR 76), some (jvI l1), some (jvI 0), none, none] [] μ1 Q)) ∧ (¬ (r4 ≤ l2) → ((0 ≤ l2 ∧ l2 < 40) ∧ (-2147483648 ≤ (l2 + 1) ∧ (l2 + 1) < 2147483648)) ∧ (K 121 E mM_isProvedWithout 2 [some (jvR 76), some (jvI l1), some (jvI (l2 + 1)), none, none] [] (j_up μ1 111 l2 0) Q)))))) : K 121 E mM_isProvedWithout 2 [some (jvR 76), some (jvI l1), some (jvI l2), none, none] [] μ Q := by
  refine K_iload_n 2 l2 dM_isProvedWithout_2 rfl rfl ?_
  refine K_aload_n 0 76 dM_isProvedWithout_3 rfl rfl ?_
  refine K_callVi mM_steps 12 76 [] dM_isProvedWithout_4 pm_M_294 ⟨_, rfl, rfl⟩ ⟨(Nat.le_of_ble_eq_true rfl), (Nat.le_of_ble_eq_true rfl)⟩ rfl rfl (by decide) (Nat.le_of_ble_eq_true rfl) rfl (Nat.le_of_ble_eq_true rfl) (by decide) (Ci_mono hF (fun r4 μ1 h2 => ?_))
  refine K_icmp_ge 23 dM_isProvedWithout_7 (by decide) (fun c5 => ?_) (fun c5 => ?_)
  · refine K_iconst 0 dM_isProvedWithout_23 rfl ?_
    refine K_istore_n 2 dM_isProvedWithout_24 rfl (Nat.le_of_ble_eq_true rfl) rfl ?_
    exact (h2.1 c5)
  · refine K_aload_n 0 76 dM_isProvedWithout_10 rfl rfl ?_
    refine K_getf 12 49 76 (jvR 111) dM_isProvedWithout_11 pf_M_119 rfl rfl (by decide) rfl rfl ?_
    refine K_iload_n 2 l2 dM_isProvedWithout_14 rfl rfl ?_
    refine K_iconst 0 dM_isProvedWithout_15 rfl ?_
    refine K_zast 111 40 dM_isProvedWithout_16 rfl rfl (by decide) (h2.2 c5).1.1 (by decide) ?_
    refine K_iinc 2 dM_isProvedWithout_17 (Nat.le_of_ble_eq_true rfl) rfl (w32_ok (h2.2 c5).1.2) rfl ?_
    refine K_goto 2 dM_isProvedWithout_20 (by decide) ?_
    exact (h2.2 c5).2
set_option maxHeartbeats 8000000 in
theorem vM_isProvedWithout_25 {E : jE} {μ : jMu} {Q : Option AV → jMu → Prop} {l1 l2 : Int} (hF : (Ci E mM_steps [jvR 76] μ (fun r4 μ1 => ((r4 ≤ l2 → ((0 ≤ (μ1 76 33) ∧ (μ1 76 33) < 40) ∧ (0 ≤ (μ1 103 (μ1 76 33)) ∧ (μ1 103 (μ1 76 33)) < 40) ∧ ((μ1 111 (μ1 103 (μ1 76 33))) = 0 ∨ (μ1 111 (μ1 103 (μ1 76 33))) = 1)) ∧ (Q (some (jvI (μ1 111 (μ1 103 (μ1 76 33))))) μ1)) ∧ (¬ (r4 ≤ l2) → ((l2 = l1 → (K 121 E mM_isProvedWithout 47 [some (jvR 76), some (jvI l1), some (jvI l2), some (jvI 0), some (jvI 0)] [] μ1 Q)) ∧ (¬ (l2 = l1) → (K 121 E mM_isProvedWithout 47 [some (jvR 76), some (jvI l1), some (jvI l2), some (jvI 1), some (jvI 0)] [] μ1 Q)))))))) : K 121 E mM_isProvedWithout 25 [some (jvR 76), some (jvI l1), some (jvI l2), none, none] [] μ Q := by
  refine K_iload_n 2 l2 dM_isProvedWithout_25 rfl rfl ?_
  refine K_aload_n 0 76 dM_isProvedWithout_26 rfl rfl ?_
  refine K_callVi mM_steps 12 76 [] dM_isProvedWithout_27 pm_M_294 ⟨_, rfl, rfl⟩ ⟨(Nat.le_of_ble_eq_true rfl), (Nat.le_of_ble_eq_true rfl)⟩ rfl rfl (by decide) (Nat.le_of_ble_eq_true rfl) rfl (Nat.le_of_ble_eq_true rfl) (by decide) (Ci_mono hF (fun r4 μ1 h2 => ?_))
  refine K_icmp_ge 115 dM_isProvedWithout_30 (by decide) (fun c5 => ?_) (fun c5 => ?_)
  · refine K_aload_n 0 76 dM_isProvedWithout_115 rfl rfl ?_
    refine K_getf 12 49 76 (jvR 111) dM_isProvedWithout_116 pf_M_119 rfl rfl (by decide) rfl rfl ?_
    refine K_aload_n 0 76 dM_isProvedWithout_119 rfl rfl ?_
    refine K_getf 12 40 76 (jvR 103) dM_isProvedWithout_120 pf_M_94 rfl rfl (by decide) rfl rfl ?_
    refine K_aload_n 0 76 dM_isProvedWithout_123 rfl rfl ?_
    refine K_getf 12 33 76 (jvI (μ1 76 33)) dM_isProvedWithout_124 pf_M_288 rfl rfl (by decide) rfl rfl ?_
    refine K_iald 103 40 dM_isProvedWithout_127 rfl rfl (by decide) (h2.1 c5).1.1 ?_
    refine K_zald 111 40 dM_isProvedWithout_128 rfl rfl (by decide) (h2.1 c5).1.2.1 ?_
    exact K_iret dM_isProvedWithout_129 (Or.inr ⟨rfl, (h2.1 c5).1.2.2⟩) (h2.1 c5).2
  · refine K_iload_n 2 l2 dM_isProvedWithout_33 rfl rfl ?_
    refine K_iload_n 1 l1 dM_isProvedWithout_34 rfl rfl ?_
    refine K_icmp_eq 42 dM_isProvedWithout_35 (by decide) (fun c8 => ?_) (fun c8 => ?_)
    · refine K_iconst 0 dM_isProvedWithout_42 rfl ?_
      refine K_istore_n 3 dM_isProvedWithout_43 rfl (Nat.le_of_ble_eq_true rfl) rfl ?_
      refine K_iconst 0 dM_isProvedWithout_44 rfl ?_
      refine K_istore 4 dM_isProvedWithout_45 (Nat.le_of_ble_eq_true rfl) rfl ?_
      exact ((h2.2 c5).1 c8)
    · refine K_iconst 1 dM_isProvedWithout_38 rfl ?_
      refine K_goto 43 dM_isProvedWithout_39 (by decide) ?_
      refine K_istore_n 3 dM_isProvedWithout_43 rfl (Nat.le_of_ble_eq_true rfl) rfl ?_
      refine K_iconst 0 dM_isProvedWithout_44 rfl ?_
      refine K_istore 4 dM_isProvedWithout_45 (Nat.le_of_ble_eq_true rfl) rfl ?_
      exact ((h2.2 c5).2 c8)
set_option maxHeartbeats 8000000 in
theorem vM_isProvedWithout_47 {E : jE} {μ : jMu} {Q : Option AV → jMu → Prop} {l1 l2 l3 l4 : Int} (hF : (Ci E mM_namesMany [jvR 76, jvI l2] μ (fun r4 μ1 => ((r4 ≤ l4 → ((l3 = 0 → ((-2147483648 ≤ (l2 + 1) ∧ (l2 + 1) < 2147483648)) ∧ (K 121 E mM_isProvedWithout 25 [some (jvR 76), some (jvI l1), some (jvI (l2 + 1)), none, none] [] μ1 Q)) ∧ (¬ (l3 = 0) → ((0 ≤ l2 ∧ l2 < 40) ∧ (0 ≤ (μ1 103 l2) ∧ (μ1 103 l2) < 40) ∧ (-2147483648 ≤ (l2 + 1) ∧ (l2 + 1) < 2147483648)) ∧ (K 121 E mM_isProvedWithout 25 [some (jvR 76), some (jvI l1), some (jvI (l2 + 1)), none, none] [] (j_up μ1 111 (μ1 103 l2) 1) Q)))) ∧ (¬ (r4 ≤ l4) → ((l3 = 0 → ((-2147483648 ≤ (l4 + 1) ∧ (l4 + 1) < 2147483648)) ∧ (K 121 E mM_isProvedWithout 47 [some (jvR 76), some (jvI l1), some (jvI l2), some (jvI 0), some (jvI (l4 + 1))] [] μ1 Q)) ∧ (¬ (l3 = 0) → (Ci E mM_namedBy [jvR 76, jvI l2, jvI l4] μ1 (fun r14 μ11 => ((0 ≤ r14 ∧ r14 < 40) ∧ (0 ≤ (μ11 103 r14) ∧ (μ11 103 r14) < 40)) ∧ (((μ11 111 (μ11 103 r14)) = 0 → ((-2147483648 ≤ (l4 + 1) ∧ (l4 + 1) < 2147483648)) ∧ (K 121 E mM_isProvedWithout 47 [some (jvR 76), some (jvI l1), some (jvI l2), some (jvI 0), some (jvI (l4 + 1))] [] μ11 Q)) ∧ (¬ ((μ11 111 (μ11 103 r14)) = 0) → ((-2147483648 ≤ (l4 + 1) ∧ (l4 + 1) < 2147483648)) ∧ (K 121 E mM_isProvedWithout 47 [some (jvR 76), some (jvI l1), some (jvI l2), some (jvI 1), some (jvI (l4 + 1))] [] μ11 Q)))))))))))) : K 121 E mM_isProvedWithout 47 [some (jvR 76), some (jvI l1), some (jvI l2), some (jvI l3), some (jvI l4)] [] μ Q := by
  refine K_iload 4 l4 dM_isProvedWithout_47 rfl ?_
  refine K_aload_n 0 76 dM_isProvedWithout_49 rfl rfl ?_
  refine K_iload_n 2 l2 dM_isProvedWithout_50 rfl rfl ?_
  refine K_callVi mM_namesMany 12 76 [jvI l2] dM_isProvedWithout_51 pm_M_328 ⟨_, rfl, rfl⟩ ⟨(Nat.le_of_ble_eq_true rfl), (Nat.le_of_ble_eq_true rfl)⟩ rfl rfl (by decide) (Nat.le_of_ble_eq_true rfl) rfl (Nat.le_of_ble_eq_true rfl) (by decide) (Ci_mono hF (fun r4 μ1 h2 => ?_))
  refine K_icmp_ge 93 dM_isProvedWithout_54 (by decide) (fun c5 => ?_) (fun c5 => ?_)
  · refine K_iload_n 3 l3 dM_isProvedWithout_93 rfl rfl ?_
    refine K_if_eq 109 dM_isProvedWithout_94 (by decide) (fun c7 => ?_) (fun c7 => ?_)
    · refine K_iinc 2 dM_isProvedWithout_109 (Nat.le_of_ble_eq_true rfl) rfl (w32_ok ((h2.1 c5).1 c7).1) rfl ?_
      refine K_goto 25 dM_isProvedWithout_112 (by decide) ?_
      exact K_forget [true, true, true, false, false] ((h2.1 c5).1 c7).2
    · refine K_aload_n 0 76 dM_isProvedWithout_97 rfl rfl ?_
      refine K_getf 12 49 76 (jvR 111) dM_isProvedWithout_98 pf_M_119 rfl rfl (by decide) rfl rfl ?_
      refine K_aload_n 0 76 dM_isProvedWithout_101 rfl rfl ?_
      refine K_getf 12 40 76 (jvR 103) dM_isProvedWithout_102 pf_M_94 rfl rfl (by decide) rfl rfl ?_
      refine K_iload_n 2 l2 dM_isProvedWithout_105 rfl rfl ?_
      refine K_iald 103 40 dM_isProvedWithout_106 rfl rfl (by decide) ((h2.1 c5).2 c7).1.1 ?_
      refine K_iconst 1 dM_isProvedWithout_107 rfl ?_
      refine K_zast 111 40 dM_isProvedWithout_108 rfl rfl (by decide) ((h2.1 c5).2 c7).1.2.1 (by decide) ?_
      refine K_iinc 2 dM_isProvedWithout_109 (Nat.le_of_ble_eq_true rfl) rfl (w32_ok ((h2.1 c5).2 c7).1.2.2) rfl ?_
      refine K_goto 25 dM_isProvedWithout_112 (by decide) ?_
      exact K_forget [true, true, true, false, false] ((h2.1 c5).2 c7).2
  · refine K_iload_n 3 l3 dM_isProvedWithout_57 rfl rfl ?_
    refine K_if_eq 85 dM_isProvedWithout_58 (by decide) (fun c9 => ?_) (fun c9 => ?_)
    · refine K_iconst 0 dM_isProvedWithout_85 rfl ?_
      refine K_istore_n 3 dM_isProvedWithout_86 rfl (Nat.le_of_ble_eq_true rfl) rfl ?_
      refine K_iinc 4 dM_isProvedWithout_87 (Nat.le_of_ble_eq_true rfl) rfl (w32_ok ((h2.2 c5).1 c9).1) rfl ?_
      refine K_goto 47 dM_isProvedWithout_90 (by decide) ?_
      exact ((h2.2 c5).1 c9).2
    · refine K_aload_n 0 76 dM_isProvedWithout_61 rfl rfl ?_
      refine K_getf 12 49 76 (jvR 111) dM_isProvedWithout_62 pf_M_119 rfl rfl (by decide) rfl rfl ?_
      refine K_aload_n 0 76 dM_isProvedWithout_65 rfl rfl ?_
      refine K_getf 12 40 76 (jvR 103) dM_isProvedWithout_66 pf_M_94 rfl rfl (by decide) rfl rfl ?_
      refine K_aload_n 0 76 dM_isProvedWithout_69 rfl rfl ?_
      refine K_iload_n 2 l2 dM_isProvedWithout_70 rfl rfl ?_
      refine K_iload 4 l4 dM_isProvedWithout_71 rfl ?_
      refine K_callVi mM_namedBy 12 76 [jvI l2, jvI l4] dM_isProvedWithout_73 pm_M_319 ⟨_, rfl, rfl⟩ ⟨(Nat.le_of_ble_eq_true rfl), (Nat.le_of_ble_eq_true rfl)⟩ rfl rfl (by decide) (Nat.le_of_ble_eq_true rfl) rfl (Nat.le_of_ble_eq_true rfl) (by decide) (Ci_mono ((h2.2 c5).2 c9) (fun r14 μ11 h12 => ?_))
      refine K_iald 103 40 dM_isProvedWithout_76 rfl rfl (by decide) h12.1.1 ?_
      refine K_zald 111 40 dM_isProvedWithout_77 rfl rfl (by decide) h12.1.2 ?_
      refine K_if_eq 85 dM_isProvedWithout_78 (by decide) (fun c15 => ?_) (fun c15 => ?_)
      · refine K_iconst 0 dM_isProvedWithout_85 rfl ?_
        refine K_istore_n 3 dM_isProvedWithout_86 rfl (Nat.le_of_ble_eq_true rfl) rfl ?_
        refine K_iinc 4 dM_isProvedWithout_87 (Nat.le_of_ble_eq_true rfl) rfl (w32_ok (h12.2.1 c15).1) rfl ?_
        refine K_goto 47 dM_isProvedWithout_90 (by decide) ?_
        exact (h12.2.1 c15).2
      · refine K_iconst 1 dM_isProvedWithout_81 rfl ?_
        refine K_goto 86 dM_isProvedWithout_82 (by decide) ?_
        refine K_istore_n 3 dM_isProvedWithout_86 rfl (Nat.le_of_ble_eq_true rfl) rfl ?_
        refine K_iinc 4 dM_isProvedWithout_87 (Nat.le_of_ble_eq_true rfl) rfl (w32_ok (h12.2.2 c15).1) rfl ?_
        refine K_goto 47 dM_isProvedWithout_90 (by decide) ?_
        exact (h12.2.2 c15).2
set_option maxHeartbeats 8000000 in
theorem vM_vitals_0 {E : jE} {μ : jMu} {Q : Option AV → jMu → Prop} {a0 : Int} (hF : (K 121 E mM_vitals 4 [some (jvR 76), some (jvI a0), some (jvI 0), some (jvI 0)] [] μ Q)) : K 121 E mM_vitals 0 [some (jvR 76), some (jvI a0), none, none] [] μ Q := by
  refine K_iconst 0 dM_vitals_0 rfl ?_
  refine K_istore_n 2 dM_vitals_1 rfl (Nat.le_of_ble_eq_true rfl) rfl ?_
  refine K_iconst 0 dM_vitals_2 rfl ?_
  refine K_istore_n 3 dM_vitals_3 rfl (Nat.le_of_ble_eq_true rfl) rfl ?_
  exact hF
set_option maxHeartbeats 8000000 in
theorem vM_vitals_4 {E : jE} {μ : jMu} {Q : Option AV → jMu → Prop} {l1 l2 l3 : Int} (hF : (Ci E mM_steps [jvR 76] μ (fun r4 μ1 => ((r4 ≤ l3 → (Q (some (jvI (-1))) μ1)) ∧ (¬ (r4 ≤ l3) → (Ci E mM_isProvedWithout [jvR 76, jvI l3] μ1 (fun r11 μ8 => ((r11 = 0 → ((¬ l2 = l1 → ((-2147483648 ≤ (l2 + 1) ∧ (l2 + 1) < 2147483648) ∧ (-2147483648 ≤ (l3 + 1) ∧ (l3 + 1) < 2147483648)) ∧ (K 121 E mM_vitals 4 [some (jvR 76), some (jvI l1), some (jvI (l2 + 1)), some (jvI (l3 + 1))] [] μ8 Q)) ∧ (l2 = l1 → (Q (some (jvI l3)) μ8)))) ∧ (¬ (r11 = 0) → ((-2147483648 ≤ (l3 + 1) ∧ (l3 + 1) < 2147483648)) ∧ (K 121 E mM_vitals 4 [some (jvR 76), some (jvI l1), some (jvI l2), some (jvI (l3 + 1))] [] μ8 Q)))))))))) : K 121 E mM_vitals 4 [some (jvR 76), some (jvI l1), some (jvI l2), some (jvI l3)] [] μ Q := by
  refine K_iload_n 3 l3 dM_vitals_4 rfl rfl ?_
  refine K_aload_n 0 76 dM_vitals_5 rfl rfl ?_
  refine K_callVi mM_steps 12 76 [] dM_vitals_6 pm_M_294 ⟨_, rfl, rfl⟩ ⟨(Nat.le_of_ble_eq_true rfl), (Nat.le_of_ble_eq_true rfl)⟩ rfl rfl (by decide) (Nat.le_of_ble_eq_true rfl) rfl (Nat.le_of_ble_eq_true rfl) (by decide) (Ci_mono hF (fun r4 μ1 h2 => ?_))
  refine K_icmp_ge 39 dM_vitals_9 (by decide) (fun c5 => ?_) (fun c5 => ?_)
  · refine K_iconst (-1) dM_vitals_39 rfl ?_
    exact K_iret dM_vitals_40 (Or.inl rfl) (h2.1 c5)
  · refine K_aload_n 0 76 dM_vitals_12 rfl rfl ?_
    refine K_iload_n 3 l3 dM_vitals_13 rfl rfl ?_
    refine K_callVi mM_isProvedWithout 12 76 [jvI l3] dM_vitals_14 pm_M_380 ⟨_, rfl, rfl⟩ ⟨(Nat.le_of_ble_eq_true rfl), (Nat.le_of_ble_eq_true rfl)⟩ rfl rfl (by decide) (Nat.le_of_ble_eq_true rfl) rfl (Nat.le_of_ble_eq_true rfl) (by decide) (Ci_mono (h2.2 c5) (fun r11 μ8 h9 => ?_))
    refine K_if_eq 23 dM_vitals_17 (by decide) (fun c12 => ?_) (fun c12 => ?_)
    · refine K_iload_n 2 l2 dM_vitals_23 rfl rfl ?_
      refine K_iload_n 1 l1 dM_vitals_24 rfl rfl ?_
      refine K_icmp_ne 30 dM_vitals_25 (by decide) (fun c14 => ?_) (fun c14 => ?_)
      · refine K_iinc 2 dM_vitals_30 (Nat.le_of_ble_eq_true rfl) rfl (w32_ok ((h9.1 c12).1 c14).1.1) rfl ?_
        refine K_iinc 3 dM_vitals_33 (Nat.le_of_ble_eq_true rfl) rfl (w32_ok ((h9.1 c12).1 c14).1.2) rfl ?_
        refine K_goto 4 dM_vitals_36 (by decide) ?_
        exact ((h9.1 c12).1 c14).2
      · refine K_iload_n 3 l3 dM_vitals_28 rfl rfl ?_
        exact K_iret dM_vitals_29 (Or.inl rfl) ((h9.1 c12).2 c14)
    · refine K_goto 33 dM_vitals_20 (by decide) ?_
      refine K_iinc 3 dM_vitals_33 (Nat.le_of_ble_eq_true rfl) rfl (w32_ok (h9.2 c12).1) rfl ?_
      refine K_goto 4 dM_vitals_36 (by decide) ?_
      exact (h9.2 c12).2
set_option maxHeartbeats 8000000 in
theorem vM_beside_0 {E : jE} {μ : jMu} {Q : Option AV → jMu → Prop} {a0 a1 a2 : Int} (hF : (Ci E mM_isStep [jvR 76, jvI a0] μ (fun r4 μ1 => ((r4 = 0 → (Q (some (jvI (-1))) μ1)) ∧ (¬ (r4 = 0) → (Ci E mM_isStep [jvR 76, jvI a1] μ1 (fun r11 μ8 => ((r11 = 0 → (Q (some (jvI (-1))) μ8)) ∧ (¬ (r11 = 0) → (Ci E mM_isIn [jvL a2, jvL 0, jvL 2] μ8 (fun r18 μ15 => ((¬ r18 = 0 → (Cv E mM_laysBeside [jvR 76, jvI a0, jvI a1] μ15 (fun μ21 => ((¬ a2 = 0 → ((¬ a2 = 1 → (Q (some (jvI (μ21 76 54))) μ21)) ∧ (a2 = 1 → (Q (some (jvI (μ21 76 55))) μ21)))) ∧ (a2 = 0 → (Q (some (jvI (μ21 76 51))) μ21)))))) ∧ (r18 = 0 → (Q (some (jvI (-1))) μ15)))))))))))))) : K 121 E mM_beside 0 [some (jvR 76), some (jvI a0), some (jvI a1), some (jvI a2)] [] μ Q := by
  refine K_aload_n 0 76 dM_beside_0 rfl rfl ?_
  refine K_iload_n 1 a0 dM_beside_1 rfl rfl ?_
  refine K_callVi mM_isStep 12 76 [jvI a0] dM_beside_2 pm_M_368 ⟨_, rfl, rfl⟩ ⟨(Nat.le_of_ble_eq_true rfl), (Nat.le_of_ble_eq_true rfl)⟩ rfl rfl (by decide) (Nat.le_of_ble_eq_true rfl) rfl (Nat.le_of_ble_eq_true rfl) (by decide) (Ci_mono hF (fun r4 μ1 h2 => ?_))
  refine K_if_eq 28 dM_beside_5 (by decide) (fun c5 => ?_) (fun c5 => ?_)
  · refine K_iconst (-1) dM_beside_28 rfl ?_
    exact K_iret dM_beside_29 (Or.inl rfl) (h2.1 c5)
  · refine K_aload_n 0 76 dM_beside_8 rfl rfl ?_
    refine K_iload_n 2 a1 dM_beside_9 rfl rfl ?_
    refine K_callVi mM_isStep 12 76 [jvI a1] dM_beside_10 pm_M_368 ⟨_, rfl, rfl⟩ ⟨(Nat.le_of_ble_eq_true rfl), (Nat.le_of_ble_eq_true rfl)⟩ rfl rfl (by decide) (Nat.le_of_ble_eq_true rfl) rfl (Nat.le_of_ble_eq_true rfl) (by decide) (Ci_mono (h2.2 c5) (fun r11 μ8 h9 => ?_))
    refine K_if_eq 28 dM_beside_13 (by decide) (fun c12 => ?_) (fun c12 => ?_)
    · refine K_iconst (-1) dM_beside_28 rfl ?_
      exact K_iret dM_beside_29 (Or.inl rfl) (h9.1 c12)
    · refine K_iload_n 3 a2 dM_beside_16 rfl rfl ?_
      refine K_i2l dM_beside_17 rfl ?_
      refine K_lconst 0 dM_beside_18 rfl ?_
      refine K_ldc2 2 dM_beside_19 pc_M_395 rfl ?_
      refine K_callSi mM_isIn [jvL a2, jvL 0, jvL 2] dM_beside_22 pm_M_196 ⟨(Nat.le_of_ble_eq_true rfl), (Nat.le_of_ble_eq_true rfl)⟩ (Nat.le_of_ble_eq_true rfl) rfl (Nat.le_of_ble_eq_true rfl) (by decide) (Ci_mono (h9.2 c12) (fun r18 μ15 h16 => ?_))
      refine K_if_ne 30 dM_beside_25 (by decide) (fun c19 => ?_) (fun c19 => ?_)
      · refine K_aload_n 0 76 dM_beside_30 rfl rfl ?_
        refine K_iload_n 1 a0 dM_beside_31 rfl rfl ?_
        refine K_iload_n 2 a1 dM_beside_32 rfl rfl ?_
        refine K_callVv mM_laysBeside 12 76 [jvI a0, jvI a1] dM_beside_33 pm_M_397 ⟨_, rfl, rfl⟩ ⟨(Nat.le_of_ble_eq_true rfl), (Nat.le_of_ble_eq_true rfl)⟩ rfl rfl (by decide) (Nat.le_of_ble_eq_true rfl) rfl (Nat.le_of_ble_eq_true rfl) (by decide) (Cv_mono (h16.1 c19) (fun μ21 h22 => ?_))
        refine K_iload_n 3 a2 dM_beside_36 rfl rfl ?_
        refine K_if_ne 47 dM_beside_37 (by decide) (fun c24 => ?_) (fun c24 => ?_)
        · refine K_iload_n 3 a2 dM_beside_47 rfl rfl ?_
          refine K_iconst 1 dM_beside_48 rfl ?_
          refine K_icmp_ne 59 dM_beside_49 (by decide) (fun c26 => ?_) (fun c26 => ?_)
          · refine K_aload_n 0 76 dM_beside_59 rfl rfl ?_
            refine K_getf 12 54 76 (jvI (μ21 76 54)) dM_beside_60 pf_M_383 rfl rfl (by decide) rfl rfl ?_
            exact K_iret dM_beside_63 (Or.inl rfl) ((h22.1 c24).1 c26)
          · refine K_aload_n 0 76 dM_beside_52 rfl rfl ?_
            refine K_getf 12 55 76 (jvI (μ21 76 55)) dM_beside_53 pf_M_389 rfl rfl (by decide) rfl rfl ?_
            refine K_goto 63 dM_beside_56 (by decide) ?_
            exact K_iret dM_beside_63 (Or.inl rfl) ((h22.1 c24).2 c26)
        · refine K_aload_n 0 76 dM_beside_40 rfl rfl ?_
          refine K_getf 12 51 76 (jvI (μ21 76 51)) dM_beside_41 pf_M_386 rfl rfl (by decide) rfl rfl ?_
          refine K_goto 63 dM_beside_44 (by decide) ?_
          exact K_iret dM_beside_63 (Or.inl rfl) (h22.2 c24)
      · refine K_iconst (-1) dM_beside_28 rfl ?_
        exact K_iret dM_beside_29 (Or.inl rfl) (h16.2 c19)
set_option maxHeartbeats 8000000 in
theorem vM_laysBeside_0 {E : jE} {μ : jMu} {Q : Option AV → jMu → Prop} {a0 a1 : Int} (hF : ((-2147483648 ≤ (48 + a0) ∧ (48 + a0) < 2147483648)) ∧ (Ci E mM_fromOf [jvR 76, jvI (48 + a0)] μ (fun r4 μ1 => ((-2147483648 ≤ (48 + a1) ∧ (48 + a1) < 2147483648)) ∧ (Ci E mM_fromOf [jvR 76, jvI (48 + a1)] μ1 (fun r8 μ5 => ((-2147483648 ≤ (48 + a0) ∧ (48 + a0) < 2147483648)) ∧ (Ci E mM_longOf [jvR 76, jvI (48 + a0)] μ5 (fun r12 μ9 => ((-2147483648 ≤ (r4 + r12) ∧ (r4 + r12) < 2147483648)) ∧ (K 121 E mM_laysBeside 46 [some (jvR 76), some (jvI a0), some (jvI a1), some (jvI r4), some (jvI r8), some (jvI (r4 + r12))] [] (j_up (j_up (j_up μ9 76 51 0) 76 54 0) 76 55 0) Q)))))))) : K 121 E mM_laysBeside 0 [some (jvR 76), some (jvI a0), some (jvI a1), none, none, none] [] μ Q := by
  refine K_aload_n 0 76 dM_laysBeside_0 rfl rfl ?_
  refine K_bipush 48 dM_laysBeside_1 rfl ?_
  refine K_iload_n 1 a0 dM_laysBeside_3 rfl rfl ?_
  refine K_iadd dM_laysBeside_4 (w32_id hF.1) ?_
  refine K_callVi mM_fromOf 12 76 [jvI (48 + a0)] dM_laysBeside_5 pm_M_313 ⟨_, rfl, rfl⟩ ⟨(Nat.le_of_ble_eq_true rfl), (Nat.le_of_ble_eq_true rfl)⟩ rfl rfl (by decide) (Nat.le_of_ble_eq_true rfl) rfl (Nat.le_of_ble_eq_true rfl) (by decide) (Ci_mono hF.2 (fun r4 μ1 h2 => ?_))
  refine K_istore_n 3 dM_laysBeside_8 rfl (Nat.le_of_ble_eq_true rfl) rfl ?_
  refine K_aload_n 0 76 dM_laysBeside_9 rfl rfl ?_
  refine K_bipush 48 dM_laysBeside_10 rfl ?_
  refine K_iload_n 2 a1 dM_laysBeside_12 rfl rfl ?_
  refine K_iadd dM_laysBeside_13 (w32_id h2.1) ?_
  refine K_callVi mM_fromOf 12 76 [jvI (48 + a1)] dM_laysBeside_14 pm_M_313 ⟨_, rfl, rfl⟩ ⟨(Nat.le_of_ble_eq_true rfl), (Nat.le_of_ble_eq_true rfl)⟩ rfl rfl (by decide) (Nat.le_of_ble_eq_true rfl) rfl (Nat.le_of_ble_eq_true rfl) (by decide) (Ci_mono h2.2 (fun r8 μ5 h6 => ?_))
  refine K_istore 4 dM_laysBeside_17 (Nat.le_of_ble_eq_true rfl) rfl ?_
  refine K_iload_n 3 r4 dM_laysBeside_19 rfl rfl ?_
  refine K_aload_n 0 76 dM_laysBeside_20 rfl rfl ?_
  refine K_bipush 48 dM_laysBeside_21 rfl ?_
  refine K_iload_n 1 a0 dM_laysBeside_23 rfl rfl ?_
  refine K_iadd dM_laysBeside_24 (w32_id h6.1) ?_
  refine K_callVi mM_longOf 12 76 [jvI (48 + a0)] dM_laysBeside_25 pm_M_316 ⟨_, rfl, rfl⟩ ⟨(Nat.le_of_ble_eq_true rfl), (Nat.le_of_ble_eq_true rfl)⟩ rfl rfl (by decide) (Nat.le_of_ble_eq_true rfl) rfl (Nat.le_of_ble_eq_true rfl) (by decide) (Ci_mono h6.2 (fun r12 μ9 h10 => ?_))
  refine K_iadd dM_laysBeside_28 (w32_id h10.1) ?_
  refine K_istore 5 dM_laysBeside_29 (Nat.le_of_ble_eq_true rfl) rfl ?_
  refine K_aload_n 0 76 dM_laysBeside_31 rfl rfl ?_
  refine K_iconst 0 dM_laysBeside_32 rfl ?_
  refine K_putf 12 51 76 (x := 0) dM_laysBeside_33 pf_M_386 rfl rfl (by decide) rfl rfl rfl rfl trivial ?_
  refine K_aload_n 0 76 dM_laysBeside_36 rfl rfl ?_
  refine K_iconst 0 dM_laysBeside_37 rfl ?_
  refine K_putf 12 54 76 (x := 0) dM_laysBeside_38 pf_M_383 rfl rfl (by decide) rfl rfl rfl rfl trivial ?_
  refine K_aload_n 0 76 dM_laysBeside_41 rfl rfl ?_
  refine K_iconst 0 dM_laysBeside_42 rfl ?_
  refine K_putf 12 55 76 (x := 0) dM_laysBeside_43 pf_M_389 rfl rfl (by decide) rfl rfl rfl rfl trivial ?_
  exact h10.2
set_option maxHeartbeats 8000000 in
theorem vM_laysBeside_46 {E : jE} {μ : jMu} {Q : Option AV → jMu → Prop} {l1 l2 l3 l4 l5 : Int} (hF : ((l5 ≤ l3 → (Q none μ)) ∧ (¬ (l5 ≤ l3) → ((0 ≤ l3 ∧ l3 < 800) ∧ (0 ≤ l4 ∧ l4 < 800)) ∧ ((¬ (μ 90 l3) = (μ 90 l4) → (Ci E mM_pairOf [jvR 76, jvI l3, jvI l4] μ (fun r9 μ6 => ((-2147483648 ≤ (200 + r9) ∧ (200 + r9) < 2147483648) ∧ (0 ≤ (μ 76 51) ∧ (μ 76 51) < 24) ∧ (-2147483648 ≤ ((μ6 76 55) + 1) ∧ ((μ6 76 55) + 1) < 2147483648)) ∧ (Ci E mM_partLong [jvR 76, jvI l3] (j_up (j_up μ6 112 (μ 76 51) (200 + r9)) 76 55 ((μ6 76 55) + 1)) (fun r13 μ10 => ((-2147483648 ≤ (l3 + r13) ∧ (l3 + r13) < 2147483648)) ∧ (Ci E mM_partLong [jvR 76, jvI l4] μ10 (fun r17 μ14 => ((-2147483648 ≤ (l4 + r17) ∧ (l4 + r17) < 2147483648) ∧ (-2147483648 ≤ ((μ14 76 51) + 1) ∧ ((μ14 76 51) + 1) < 2147483648)) ∧ (K 121 E mM_laysBeside 46 [some (jvR 76), some (jvI l1), some (jvI l2), some (jvI (l3 + r13)), some (jvI (l4 + r17)), some (jvI l5)] [] (j_up μ14 76 51 ((μ14 76 51) + 1)) Q)))))))) ∧ ((μ 90 l3) = (μ 90 l4) → ((0 ≤ l3 ∧ l3 < 800) ∧ (0 ≤ (μ 76 51) ∧ (μ 76 51) < 24) ∧ (-2147483648 ≤ (l3 + 1) ∧ (l3 + 1) < 2147483648) ∧ (-2147483648 ≤ (l4 + 1) ∧ (l4 + 1) < 2147483648) ∧ (-2147483648 ≤ ((μ 76 51) + 1) ∧ ((μ 76 51) + 1) < 2147483648)) ∧ (K 121 E mM_laysBeside 46 [some (jvR 76), some (jvI l1), some (jvI l2), some (jvI (l3 + 1)), some (jvI (l4 + 1)), some (jvI l5)] [] (j_up (j_up μ 112 (μ 76 51) (μ 90 l3)) 76 51 ((μ 76 51) + 1)) Q)))))) : K 121 E mM_laysBeside 46 [some (jvR 76), some (jvI l1), some (jvI l2), some (jvI l3), some (jvI l4), some (jvI l5)] [] μ Q := by
  refine K_iload_n 3 l3 dM_laysBeside_46 rfl rfl ?_
  refine K_iload 5 l5 dM_laysBeside_47 rfl ?_
  refine K_icmp_ge 154 dM_laysBeside_49 (by decide) (fun c1 => ?_) (fun c1 => ?_)
  · exact K_vret dM_laysBeside_154 rfl (hF.1 c1)
  · refine K_aload_n 0 76 dM_laysBeside_52 rfl rfl ?_
    refine K_getf 12 22 76 (jvR 90) dM_laysBeside_53 pf_M_55 rfl rfl (by decide) rfl rfl ?_
    refine K_iload_n 3 l3 dM_laysBeside_56 rfl rfl ?_
    refine K_iald 90 800 dM_laysBeside_57 rfl rfl (by decide) (hF.2 c1).1.1 ?_
    refine K_aload_n 0 76 dM_laysBeside_58 rfl rfl ?_
    refine K_getf 12 22 76 (jvR 90) dM_laysBeside_59 pf_M_55 rfl rfl (by decide) rfl rfl ?_
    refine K_iload 4 l4 dM_laysBeside_62 rfl ?_
    refine K_iald 90 800 dM_laysBeside_64 rfl rfl (by decide) (hF.2 c1).1.2 ?_
    refine K_icmp_ne 92 dM_laysBeside_65 (by decide) (fun c4 => ?_) (fun c4 => ?_)
    · refine K_aload_n 0 76 dM_laysBeside_92 rfl rfl ?_
      refine K_getf 12 50 76 (jvR 112) dM_laysBeside_93 pf_M_122 rfl rfl (by decide) rfl rfl ?_
      refine K_aload_n 0 76 dM_laysBeside_96 rfl rfl ?_
      refine K_getf 12 51 76 (jvI (μ 76 51)) dM_laysBeside_97 pf_M_386 rfl rfl (by decide) rfl rfl ?_
      refine K_sipush 200 dM_laysBeside_100 rfl ?_
      refine K_aload_n 0 76 dM_laysBeside_103 rfl rfl ?_
      refine K_iload_n 3 l3 dM_laysBeside_104 rfl rfl ?_
      refine K_iload 4 l4 dM_laysBeside_105 rfl ?_
      refine K_callVi mM_pairOf 12 76 [jvI l3, jvI l4] dM_laysBeside_107 pm_M_392 ⟨_, rfl, rfl⟩ ⟨(Nat.le_of_ble_eq_true rfl), (Nat.le_of_ble_eq_true rfl)⟩ rfl rfl (by decide) (Nat.le_of_ble_eq_true rfl) rfl (Nat.le_of_ble_eq_true rfl) (by decide) (Ci_mono ((hF.2 c1).2.1 c4) (fun r9 μ6 h7 => ?_))
      refine K_iadd dM_laysBeside_110 (w32_id h7.1.1) ?_
      refine K_iast 112 24 dM_laysBeside_111 rfl rfl (by decide) h7.1.2.1 ?_
      refine K_aload_n 0 76 dM_laysBeside_112 rfl rfl ?_
      refine K_dup dM_laysBeside_113 (fun _ h => by cases h) ?_
      refine K_getf 12 55 76 (jvI (μ6 76 55)) dM_laysBeside_114 pf_M_389 rfl rfl (by decide) rfl rfl ?_
      refine K_iconst 1 dM_laysBeside_117 rfl ?_
      refine K_iadd dM_laysBeside_118 (w32_id h7.1.2.2) ?_
      refine K_putf 12 55 76 (x := ((μ6 76 55) + 1)) dM_laysBeside_119 pf_M_389 rfl rfl (by decide) rfl rfl rfl rfl trivial ?_
      refine K_iload_n 3 l3 dM_laysBeside_122 rfl rfl ?_
      refine K_aload_n 0 76 dM_laysBeside_123 rfl rfl ?_
      refine K_iload_n 3 l3 dM_laysBeside_124 rfl rfl ?_
      refine K_callVi mM_partLong 12 76 [jvI l3] dM_laysBeside_125 pm_M_303 ⟨_, rfl, rfl⟩ ⟨(Nat.le_of_ble_eq_true rfl), (Nat.le_of_ble_eq_true rfl)⟩ rfl rfl (by decide) (Nat.le_of_ble_eq_true rfl) rfl (Nat.le_of_ble_eq_true rfl) (by decide) (Ci_mono h7.2 (fun r13 μ10 h11 => ?_))
      refine K_iadd dM_laysBeside_128 (w32_id h11.1) ?_
      refine K_istore_n 3 dM_laysBeside_129 rfl (Nat.le_of_ble_eq_true rfl) rfl ?_
      refine K_iload 4 l4 dM_laysBeside_130 rfl ?_
      refine K_aload_n 0 76 dM_laysBeside_132 rfl rfl ?_
      refine K_iload 4 l4 dM_laysBeside_133 rfl ?_
      refine K_callVi mM_partLong 12 76 [jvI l4] dM_laysBeside_135 pm_M_303 ⟨_, rfl, rfl⟩ ⟨(Nat.le_of_ble_eq_true rfl), (Nat.le_of_ble_eq_true rfl)⟩ rfl rfl (by decide) (Nat.le_of_ble_eq_true rfl) rfl (Nat.le_of_ble_eq_true rfl) (by decide) (Ci_mono h11.2 (fun r17 μ14 h15 => ?_))
      refine K_iadd dM_laysBeside_138 (w32_id h15.1.1) ?_
      refine K_istore 4 dM_laysBeside_139 (Nat.le_of_ble_eq_true rfl) rfl ?_
      refine K_aload_n 0 76 dM_laysBeside_141 rfl rfl ?_
      refine K_dup dM_laysBeside_142 (fun _ h => by cases h) ?_
      refine K_getf 12 51 76 (jvI (μ14 76 51)) dM_laysBeside_143 pf_M_386 rfl rfl (by decide) rfl rfl ?_
      refine K_iconst 1 dM_laysBeside_146 rfl ?_
      refine K_iadd dM_laysBeside_147 (w32_id h15.1.2) ?_
      refine K_putf 12 51 76 (x := ((μ14 76 51) + 1)) dM_laysBeside_148 pf_M_386 rfl rfl (by decide) rfl rfl rfl rfl trivial ?_
      refine K_goto 46 dM_laysBeside_151 (by decide) ?_
      exact h15.2
    · refine K_aload_n 0 76 dM_laysBeside_68 rfl rfl ?_
      refine K_getf 12 50 76 (jvR 112) dM_laysBeside_69 pf_M_122 rfl rfl (by decide) rfl rfl ?_
      refine K_aload_n 0 76 dM_laysBeside_72 rfl rfl ?_
      refine K_getf 12 51 76 (jvI (μ 76 51)) dM_laysBeside_73 pf_M_386 rfl rfl (by decide) rfl rfl ?_
      refine K_aload_n 0 76 dM_laysBeside_76 rfl rfl ?_
      refine K_getf 12 22 76 (jvR 90) dM_laysBeside_77 pf_M_55 rfl rfl (by decide) rfl rfl ?_
      refine K_iload_n 3 l3 dM_laysBeside_80 rfl rfl ?_
      refine K_iald 90 800 dM_laysBeside_81 rfl rfl (by decide) ((hF.2 c1).2.2 c4).1.1 ?_
      refine K_iast 112 24 dM_laysBeside_82 rfl rfl (by decide) ((hF.2 c1).2.2 c4).1.2.1 ?_
      refine K_iinc 3 dM_laysBeside_83 (Nat.le_of_ble_eq_true rfl) rfl (w32_ok ((hF.2 c1).2.2 c4).1.2.2.1) rfl ?_
      refine K_iinc 4 dM_laysBeside_86 (Nat.le_of_ble_eq_true rfl) rfl (w32_ok ((hF.2 c1).2.2 c4).1.2.2.2.1) rfl ?_
      refine K_goto 141 dM_laysBeside_89 (by decide) ?_
      refine K_aload_n 0 76 dM_laysBeside_141 rfl rfl ?_
      refine K_dup dM_laysBeside_142 (fun _ h => by cases h) ?_
      refine K_getf 12 51 76 (jvI (μ 76 51)) dM_laysBeside_143 pf_M_386 rfl rfl (by decide) rfl rfl ?_
      refine K_iconst 1 dM_laysBeside_146 rfl ?_
      refine K_iadd dM_laysBeside_147 (w32_id ((hF.2 c1).2.2 c4).1.2.2.2.2) ?_
      refine K_putf 12 51 76 (x := ((μ 76 51) + 1)) dM_laysBeside_148 pf_M_386 rfl rfl (by decide) rfl rfl rfl rfl trivial ?_
      refine K_goto 46 dM_laysBeside_151 (by decide) ?_
      exact ((hF.2 c1).2.2 c4).2
set_option maxHeartbeats 8000000 in
theorem vM_pairOf_0 {E : jE} {μ : jMu} {Q : Option AV → jMu → Prop} {a0 a1 : Int} (hF : (K 121 E mM_pairOf 2 [some (jvR 76), some (jvI a0), some (jvI a1), some (jvI 0)] [] μ Q)) : K 121 E mM_pairOf 0 [some (jvR 76), some (jvI a0), some (jvI a1), none] [] μ Q := by
  refine K_iconst 0 dM_pairOf_0 rfl ?_
  refine K_istore_n 3 dM_pairOf_1 rfl (Nat.le_of_ble_eq_true rfl) rfl ?_
  exact hF
set_option maxHeartbeats 8000000 in
theorem vM_pairOf_2 {E : jE} {μ : jMu} {Q : Option AV → jMu → Prop} {l1 l2 l3 : Int} (hF : (((μ 76 54) ≤ l3 → (((μ 76 54) ≤ l3 → ((0 ≤ (μ 76 54) ∧ (μ 76 54) < 24) ∧ (0 ≤ (μ 76 54) ∧ (μ 76 54) < 24) ∧ (-2147483648 ≤ ((μ 76 54) + 1) ∧ ((μ 76 54) + 1) < 2147483648)) ∧ (Q (some (jvI l3)) (j_up (j_up (j_up μ 113 (μ 76 54) l1) 114 (μ 76 54) l2) 76 54 ((μ 76 54) + 1)))) ∧ (¬ ((μ 76 54) ≤ l3) → (Q (some (jvI l3)) μ)))) ∧ (¬ ((μ 76 54) ≤ l3) → ((0 ≤ l3 ∧ l3 < 24)) ∧ (Ci E mM_areSame [jvR 76, jvI (μ 113 l3), jvI l1] μ (fun r10 μ7 => ((r10 = 0 → ((-2147483648 ≤ (l3 + 1) ∧ (l3 + 1) < 2147483648)) ∧ (K 121 E mM_pairOf 2 [some (jvR 76), some (jvI l1), some (jvI l2), some (jvI (l3 + 1))] [] μ7 Q)) ∧ (¬ (r10 = 0) → ((0 ≤ l3 ∧ l3 < 24)) ∧ (Ci E mM_areSame [jvR 76, jvI (μ7 114 l3), jvI l2] μ7 (fun r16 μ13 => ((¬ r16 = 0 → (((μ13 76 54) ≤ l3 → ((0 ≤ (μ13 76 54) ∧ (μ13 76 54) < 24) ∧ (0 ≤ (μ13 76 54) ∧ (μ13 76 54) < 24) ∧ (-2147483648 ≤ ((μ13 76 54) + 1) ∧ ((μ13 76 54) + 1) < 2147483648)) ∧ (Q (some (jvI l3)) (j_up (j_up (j_up μ13 113 (μ13 76 54) l1) 114 (μ13 76 54) l2) 76 54 ((μ13 76 54) + 1)))) ∧ (¬ ((μ13 76 54) ≤ l3) → (Q (some (jvI l3)) μ13)))) ∧ (r16 = 0 → ((-2147483648 ≤ (l3 + 1) ∧ (l3 + 1) < 2147483648)) ∧ (K 121 E mM_pairOf 2 [some (jvR 76), some (jvI l1), some (jvI l2), some (jvI (l3 + 1))] [] μ13 Q)))))))))))) : K 121 E mM_pairOf 2 [some (jvR 76), some (jvI l1), some (jvI l2), some (jvI l3)] [] μ Q := by
  refine K_iload_n 3 l3 dM_pairOf_2 rfl rfl ?_
  refine K_aload_n 0 76 dM_pairOf_3 rfl rfl ?_
  refine K_getf 12 54 76 (jvI (μ 76 54)) dM_pairOf_4 pf_M_383 rfl rfl (by decide) rfl rfl ?_
  refine K_icmp_ge 44 dM_pairOf_7 (by decide) (fun c1 => ?_) (fun c1 => ?_)
  · refine K_iload_n 3 l3 dM_pairOf_44 rfl rfl ?_
    refine K_aload_n 0 76 dM_pairOf_45 rfl rfl ?_
    refine K_getf 12 54 76 (jvI (μ 76 54)) dM_pairOf_46 pf_M_383 rfl rfl (by decide) rfl rfl ?_
    refine K_icmp_ge 54 dM_pairOf_49 (by decide) (fun c3 => ?_) (fun c3 => ?_)
    · refine K_aload_n 0 76 dM_pairOf_54 rfl rfl ?_
      refine K_getf 12 52 76 (jvR 113) dM_pairOf_55 pf_M_125 rfl rfl (by decide) rfl rfl ?_
      refine K_aload_n 0 76 dM_pairOf_58 rfl rfl ?_
      refine K_getf 12 54 76 (jvI (μ 76 54)) dM_pairOf_59 pf_M_383 rfl rfl (by decide) rfl rfl ?_
      refine K_iload_n 1 l1 dM_pairOf_62 rfl rfl ?_
      refine K_iast 113 24 dM_pairOf_63 rfl rfl (by decide) ((hF.1 c1).1 c3).1.1 ?_
      refine K_aload_n 0 76 dM_pairOf_64 rfl rfl ?_
      refine K_getf 12 53 76 (jvR 114) dM_pairOf_65 pf_M_128 rfl rfl (by decide) rfl rfl ?_
      refine K_aload_n 0 76 dM_pairOf_68 rfl rfl ?_
      refine K_getf 12 54 76 (jvI (μ 76 54)) dM_pairOf_69 pf_M_383 rfl rfl (by decide) rfl rfl ?_
      refine K_iload_n 2 l2 dM_pairOf_72 rfl rfl ?_
      refine K_iast 114 24 dM_pairOf_73 rfl rfl (by decide) ((hF.1 c1).1 c3).1.2.1 ?_
      refine K_aload_n 0 76 dM_pairOf_74 rfl rfl ?_
      refine K_dup dM_pairOf_75 (fun _ h => by cases h) ?_
      refine K_getf 12 54 76 (jvI (μ 76 54)) dM_pairOf_76 pf_M_383 rfl rfl (by decide) rfl rfl ?_
      refine K_iconst 1 dM_pairOf_79 rfl ?_
      refine K_iadd dM_pairOf_80 (w32_id ((hF.1 c1).1 c3).1.2.2) ?_
      refine K_putf 12 54 76 (x := ((μ 76 54) + 1)) dM_pairOf_81 pf_M_383 rfl rfl (by decide) rfl rfl rfl rfl trivial ?_
      refine K_iload_n 3 l3 dM_pairOf_84 rfl rfl ?_
      exact K_iret dM_pairOf_85 (Or.inl rfl) ((hF.1 c1).1 c3).2
    · refine K_iload_n 3 l3 dM_pairOf_52 rfl rfl ?_
      exact K_iret dM_pairOf_53 (Or.inl rfl) ((hF.1 c1).2 c3)
  · refine K_aload_n 0 76 dM_pairOf_10 rfl rfl ?_
    refine K_aload_n 0 76 dM_pairOf_11 rfl rfl ?_
    refine K_getf 12 52 76 (jvR 113) dM_pairOf_12 pf_M_125 rfl rfl (by decide) rfl rfl ?_
    refine K_iload_n 3 l3 dM_pairOf_15 rfl rfl ?_
    refine K_iald 113 24 dM_pairOf_16 rfl rfl (by decide) (hF.2 c1).1 ?_
    refine K_iload_n 1 l1 dM_pairOf_17 rfl rfl ?_
    refine K_callVi mM_areSame 12 76 [jvI (μ 113 l3), jvI l1] dM_pairOf_18 pm_M_306 ⟨_, rfl, rfl⟩ ⟨(Nat.le_of_ble_eq_true rfl), (Nat.le_of_ble_eq_true rfl)⟩ rfl rfl (by decide) (Nat.le_of_ble_eq_true rfl) rfl (Nat.le_of_ble_eq_true rfl) (by decide) (Ci_mono (hF.2 c1).2 (fun r10 μ7 h8 => ?_))
    refine K_if_eq 38 dM_pairOf_21 (by decide) (fun c11 => ?_) (fun c11 => ?_)
    · refine K_iinc 3 dM_pairOf_38 (Nat.le_of_ble_eq_true rfl) rfl (w32_ok (h8.1 c11).1) rfl ?_
      refine K_goto 2 dM_pairOf_41 (by decide) ?_
      exact (h8.1 c11).2
    · refine K_aload_n 0 76 dM_pairOf_24 rfl rfl ?_
      refine K_aload_n 0 76 dM_pairOf_25 rfl rfl ?_
      refine K_getf 12 53 76 (jvR 114) dM_pairOf_26 pf_M_128 rfl rfl (by decide) rfl rfl ?_
      refine K_iload_n 3 l3 dM_pairOf_29 rfl rfl ?_
      refine K_iald 114 24 dM_pairOf_30 rfl rfl (by decide) (h8.2 c11).1 ?_
      refine K_iload_n 2 l2 dM_pairOf_31 rfl rfl ?_
      refine K_callVi mM_areSame 12 76 [jvI (μ7 114 l3), jvI l2] dM_pairOf_32 pm_M_306 ⟨_, rfl, rfl⟩ ⟨(Nat.le_of_ble_eq_true rfl), (Nat.le_of_ble_eq_true rfl)⟩ rfl rfl (by decide) (Nat.le_of_ble_eq_true rfl) rfl (Nat.le_of_ble_eq_true rfl) (by decide) (Ci_mono (h8.2 c11).2 (fun r16 μ13 h14 => ?_))
      refine K_if_ne 44 dM_pairOf_35 (by decide) (fun c17 => ?_) (fun c17 => ?_)
      · refine K_iload_n 3 l3 dM_pairOf_44 rfl rfl ?_
        refine K_aload_n 0 76 dM_pairOf_45 rfl rfl ?_
        refine K_getf 12 54 76 (jvI (μ13 76 54)) dM_pairOf_46 pf_M_383 rfl rfl (by decide) rfl rfl ?_
        refine K_icmp_ge 54 dM_pairOf_49 (by decide) (fun c19 => ?_) (fun c19 => ?_)
        · refine K_aload_n 0 76 dM_pairOf_54 rfl rfl ?_
          refine K_getf 12 52 76 (jvR 113) dM_pairOf_55 pf_M_125 rfl rfl (by decide) rfl rfl ?_
          refine K_aload_n 0 76 dM_pairOf_58 rfl rfl ?_
          refine K_getf 12 54 76 (jvI (μ13 76 54)) dM_pairOf_59 pf_M_383 rfl rfl (by decide) rfl rfl ?_
          refine K_iload_n 1 l1 dM_pairOf_62 rfl rfl ?_
          refine K_iast 113 24 dM_pairOf_63 rfl rfl (by decide) ((h14.1 c17).1 c19).1.1 ?_
          refine K_aload_n 0 76 dM_pairOf_64 rfl rfl ?_
          refine K_getf 12 53 76 (jvR 114) dM_pairOf_65 pf_M_128 rfl rfl (by decide) rfl rfl ?_
          refine K_aload_n 0 76 dM_pairOf_68 rfl rfl ?_
          refine K_getf 12 54 76 (jvI (μ13 76 54)) dM_pairOf_69 pf_M_383 rfl rfl (by decide) rfl rfl ?_
          refine K_iload_n 2 l2 dM_pairOf_72 rfl rfl ?_
          refine K_iast 114 24 dM_pairOf_73 rfl rfl (by decide) ((h14.1 c17).1 c19).1.2.1 ?_
          refine K_aload_n 0 76 dM_pairOf_74 rfl rfl ?_
          refine K_dup dM_pairOf_75 (fun _ h => by cases h) ?_
          refine K_getf 12 54 76 (jvI (μ13 76 54)) dM_pairOf_76 pf_M_383 rfl rfl (by decide) rfl rfl ?_
          refine K_iconst 1 dM_pairOf_79 rfl ?_
          refine K_iadd dM_pairOf_80 (w32_id ((h14.1 c17).1 c19).1.2.2) ?_
          refine K_putf 12 54 76 (x := ((μ13 76 54) + 1)) dM_pairOf_81 pf_M_383 rfl rfl (by decide) rfl rfl rfl rfl trivial ?_
          refine K_iload_n 3 l3 dM_pairOf_84 rfl rfl ?_
          exact K_iret dM_pairOf_85 (Or.inl rfl) ((h14.1 c17).1 c19).2
        · refine K_iload_n 3 l3 dM_pairOf_52 rfl rfl ?_
          exact K_iret dM_pairOf_53 (Or.inl rfl) ((h14.1 c17).2 c19)
      · refine K_iinc 3 dM_pairOf_38 (Nat.le_of_ble_eq_true rfl) rfl (w32_ok (h14.2 c17).1) rfl ?_
        refine K_goto 2 dM_pairOf_41 (by decide) ?_
        exact (h14.2 c17).2
set_option maxHeartbeats 8000000 in
theorem vM_common_0 {E : jE} {μ : jMu} {Q : Option AV → jMu → Prop} {a0 a1 a2 : Int} (hF : (Ci E mM_isStep [jvR 76, jvI a0] μ (fun r4 μ1 => ((r4 = 0 → (Q (some (jvI (-1))) μ1)) ∧ (¬ (r4 = 0) → (Ci E mM_isStep [jvR 76, jvI a1] μ1 (fun r11 μ8 => ((¬ r11 = 0 → (Cv E mM_laysBeside [jvR 76, jvI a0, jvI a1] μ8 (fun μ14 => ((-2147483648 ≤ ((μ14 76 51) - 1) ∧ ((μ14 76 51) - 1) < 2147483648)) ∧ (Ci E mM_isIn [jvL a2, jvL 0, jvL ((μ14 76 51) - 1)] μ14 (fun r20 μ17 => ((r20 = 0 → (Q (some (jvI (-1))) μ17)) ∧ (¬ (r20 = 0) → ((0 ≤ a2 ∧ a2 < 24)) ∧ (Q (some (jvI (μ17 112 a2))) μ17)))))))) ∧ (r11 = 0 → (Q (some (jvI (-1))) μ8)))))))))) : K 121 E mM_common 0 [some (jvR 76), some (jvI a0), some (jvI a1), some (jvI a2)] [] μ Q := by
  refine K_aload_n 0 76 dM_common_0 rfl rfl ?_
  refine K_iload_n 1 a0 dM_common_1 rfl rfl ?_
  refine K_callVi mM_isStep 12 76 [jvI a0] dM_common_2 pm_M_368 ⟨_, rfl, rfl⟩ ⟨(Nat.le_of_ble_eq_true rfl), (Nat.le_of_ble_eq_true rfl)⟩ rfl rfl (by decide) (Nat.le_of_ble_eq_true rfl) rfl (Nat.le_of_ble_eq_true rfl) (by decide) (Ci_mono hF (fun r4 μ1 h2 => ?_))
  refine K_if_eq 16 dM_common_5 (by decide) (fun c5 => ?_) (fun c5 => ?_)
  · refine K_iconst (-1) dM_common_16 rfl ?_
    exact K_iret dM_common_17 (Or.inl rfl) (h2.1 c5)
  · refine K_aload_n 0 76 dM_common_8 rfl rfl ?_
    refine K_iload_n 2 a1 dM_common_9 rfl rfl ?_
    refine K_callVi mM_isStep 12 76 [jvI a1] dM_common_10 pm_M_368 ⟨_, rfl, rfl⟩ ⟨(Nat.le_of_ble_eq_true rfl), (Nat.le_of_ble_eq_true rfl)⟩ rfl rfl (by decide) (Nat.le_of_ble_eq_true rfl) rfl (Nat.le_of_ble_eq_true rfl) (by decide) (Ci_mono (h2.2 c5) (fun r11 μ8 h9 => ?_))
    refine K_if_ne 18 dM_common_13 (by decide) (fun c12 => ?_) (fun c12 => ?_)
    · refine K_aload_n 0 76 dM_common_18 rfl rfl ?_
      refine K_iload_n 1 a0 dM_common_19 rfl rfl ?_
      refine K_iload_n 2 a1 dM_common_20 rfl rfl ?_
      refine K_callVv mM_laysBeside 12 76 [jvI a0, jvI a1] dM_common_21 pm_M_397 ⟨_, rfl, rfl⟩ ⟨(Nat.le_of_ble_eq_true rfl), (Nat.le_of_ble_eq_true rfl)⟩ rfl rfl (by decide) (Nat.le_of_ble_eq_true rfl) rfl (Nat.le_of_ble_eq_true rfl) (by decide) (Cv_mono (h9.1 c12) (fun μ14 h15 => ?_))
      refine K_iload_n 3 a2 dM_common_24 rfl rfl ?_
      refine K_i2l dM_common_25 rfl ?_
      refine K_lconst 0 dM_common_26 rfl ?_
      refine K_aload_n 0 76 dM_common_27 rfl rfl ?_
      refine K_getf 12 51 76 (jvI (μ14 76 51)) dM_common_28 pf_M_386 rfl rfl (by decide) rfl rfl ?_
      refine K_iconst 1 dM_common_31 rfl ?_
      refine K_isub dM_common_32 (w32_id h15.1) ?_
      refine K_i2l dM_common_33 rfl ?_
      refine K_callSi mM_isIn [jvL a2, jvL 0, jvL ((μ14 76 51) - 1)] dM_common_34 pm_M_196 ⟨(Nat.le_of_ble_eq_true rfl), (Nat.le_of_ble_eq_true rfl)⟩ (Nat.le_of_ble_eq_true rfl) rfl (Nat.le_of_ble_eq_true rfl) (by decide) (Ci_mono h15.2 (fun r20 μ17 h18 => ?_))
      refine K_if_eq 49 dM_common_37 (by decide) (fun c21 => ?_) (fun c21 => ?_)
      · refine K_iconst (-1) dM_common_49 rfl ?_
        exact K_iret dM_common_50 (Or.inl rfl) (h18.1 c21)
      · refine K_aload_n 0 76 dM_common_40 rfl rfl ?_
        refine K_getf 12 50 76 (jvR 112) dM_common_41 pf_M_122 rfl rfl (by decide) rfl rfl ?_
        refine K_iload_n 3 a2 dM_common_44 rfl rfl ?_
        refine K_iald 112 24 dM_common_45 rfl rfl (by decide) (h18.2 c21).1 ?_
        refine K_goto 50 dM_common_46 (by decide) ?_
        exact K_iret dM_common_50 (Or.inl rfl) (h18.2 c21).2
    · refine K_iconst (-1) dM_common_16 rfl ?_
      exact K_iret dM_common_17 (Or.inl rfl) (h9.2 c12)
set_option maxHeartbeats 8000000 in
theorem vM_run_0 {E : jE} {μ : jMu} {Q : Option AV → jMu → Prop} {a0 a1 : Int} (hF : (Ci E mM_areSteps [jvR 76, jvI a0, jvI a1] μ (fun r4 μ1 => ((¬ r4 = 0 → (Ci E mM_isRun [jvR 76, jvI a0, jvI a1] μ1 (fun r10 μ7 => ((r10 = 0 → (Q (some (jvI 0)) μ7)) ∧ (¬ (r10 = 0) → (Q (some (jvI 1)) μ7)))))) ∧ (r4 = 0 → (Q (some (jvI (-1))) μ1)))))) : K 121 E mM_run 0 [some (jvR 76), some (jvI a0), some (jvI a1)] [] μ Q := by
  refine K_aload_n 0 76 dM_run_0 rfl rfl ?_
  refine K_iload_n 1 a0 dM_run_1 rfl rfl ?_
  refine K_iload_n 2 a1 dM_run_2 rfl rfl ?_
  refine K_callVi mM_areSteps 12 76 [jvI a0, jvI a1] dM_run_3 pm_M_402 ⟨_, rfl, rfl⟩ ⟨(Nat.le_of_ble_eq_true rfl), (Nat.le_of_ble_eq_true rfl)⟩ rfl rfl (by decide) (Nat.le_of_ble_eq_true rfl) rfl (Nat.le_of_ble_eq_true rfl) (by decide) (Ci_mono hF (fun r4 μ1 h2 => ?_))
  refine K_if_ne 13 dM_run_6 (by decide) (fun c5 => ?_) (fun c5 => ?_)
  · refine K_aload_n 0 76 dM_run_13 rfl rfl ?_
    refine K_iload_n 1 a0 dM_run_14 rfl rfl ?_
    refine K_iload_n 2 a1 dM_run_15 rfl rfl ?_
    refine K_callVi mM_isRun 12 76 [jvI a0, jvI a1] dM_run_16 pm_M_405 ⟨_, rfl, rfl⟩ ⟨(Nat.le_of_ble_eq_true rfl), (Nat.le_of_ble_eq_true rfl)⟩ rfl rfl (by decide) (Nat.le_of_ble_eq_true rfl) rfl (Nat.le_of_ble_eq_true rfl) (by decide) (Ci_mono (h2.1 c5) (fun r10 μ7 h8 => ?_))
    refine K_if_eq 26 dM_run_19 (by decide) (fun c11 => ?_) (fun c11 => ?_)
    · refine K_iconst 0 dM_run_26 rfl ?_
      exact K_iret dM_run_27 (Or.inl rfl) (h8.1 c11)
    · refine K_iconst 1 dM_run_22 rfl ?_
      refine K_goto 27 dM_run_23 (by decide) ?_
      exact K_iret dM_run_27 (Or.inl rfl) (h8.2 c11)
  · refine K_iconst (-1) dM_run_9 rfl ?_
    refine K_goto 27 dM_run_10 (by decide) ?_
    exact K_iret dM_run_27 (Or.inl rfl) (h2.2 c5)
set_option maxHeartbeats 8000000 in
theorem vM_areSteps_0 {E : jE} {μ : jMu} {Q : Option AV → jMu → Prop} {a0 a1 : Int} (hF : (Ci E mM_isIn [jvL a1, jvL 2, jvL 8] μ (fun r4 μ1 => ((r4 = 0 → (Q (some (jvI 0)) μ1)) ∧ (¬ (r4 = 0) → (Ci E mM_isStep [jvR 76, jvI a0] μ1 (fun r11 μ8 => ((r11 = 0 → (Q (some (jvI 0)) μ8)) ∧ (¬ (r11 = 0) → ((-2147483648 ≤ (a0 + a1) ∧ (a0 + a1) < 2147483648)) ∧ (Ci E mM_steps [jvR 76] μ8 (fun r18 μ15 => ((r18 < (a0 + a1) → (Q (some (jvI 0)) μ15)) ∧ (¬ (r18 < (a0 + a1)) → (Q (some (jvI 1)) μ15)))))))))))))) : K 121 E mM_areSteps 0 [some (jvR 76), some (jvI a0), some (jvI a1)] [] μ Q := by
  refine K_iload_n 2 a1 dM_areSteps_0 rfl rfl ?_
  refine K_i2l dM_areSteps_1 rfl ?_
  refine K_ldc2 2 dM_areSteps_2 pc_M_395 rfl ?_
  refine K_ldc2 8 dM_areSteps_5 pc_M_400 rfl ?_
  refine K_callSi mM_isIn [jvL a1, jvL 2, jvL 8] dM_areSteps_8 pm_M_196 ⟨(Nat.le_of_ble_eq_true rfl), (Nat.le_of_ble_eq_true rfl)⟩ (Nat.le_of_ble_eq_true rfl) rfl (Nat.le_of_ble_eq_true rfl) (by decide) (Ci_mono hF (fun r4 μ1 h2 => ?_))
  refine K_if_eq 36 dM_areSteps_11 (by decide) (fun c5 => ?_) (fun c5 => ?_)
  · refine K_iconst 0 dM_areSteps_36 rfl ?_
    exact K_iret dM_areSteps_37 (Or.inr ⟨rfl, (by decide)⟩) (h2.1 c5)
  · refine K_aload_n 0 76 dM_areSteps_14 rfl rfl ?_
    refine K_iload_n 1 a0 dM_areSteps_15 rfl rfl ?_
    refine K_callVi mM_isStep 12 76 [jvI a0] dM_areSteps_16 pm_M_368 ⟨_, rfl, rfl⟩ ⟨(Nat.le_of_ble_eq_true rfl), (Nat.le_of_ble_eq_true rfl)⟩ rfl rfl (by decide) (Nat.le_of_ble_eq_true rfl) rfl (Nat.le_of_ble_eq_true rfl) (by decide) (Ci_mono (h2.2 c5) (fun r11 μ8 h9 => ?_))
    refine K_if_eq 36 dM_areSteps_19 (by decide) (fun c12 => ?_) (fun c12 => ?_)
    · refine K_iconst 0 dM_areSteps_36 rfl ?_
      exact K_iret dM_areSteps_37 (Or.inr ⟨rfl, (by decide)⟩) (h9.1 c12)
    · refine K_iload_n 1 a0 dM_areSteps_22 rfl rfl ?_
      refine K_iload_n 2 a1 dM_areSteps_23 rfl rfl ?_
      refine K_iadd dM_areSteps_24 (w32_id (h9.2 c12).1) ?_
      refine K_aload_n 0 76 dM_areSteps_25 rfl rfl ?_
      refine K_callVi mM_steps 12 76 [] dM_areSteps_26 pm_M_294 ⟨_, rfl, rfl⟩ ⟨(Nat.le_of_ble_eq_true rfl), (Nat.le_of_ble_eq_true rfl)⟩ rfl rfl (by decide) (Nat.le_of_ble_eq_true rfl) rfl (Nat.le_of_ble_eq_true rfl) (by decide) (Ci_mono (h9.2 c12).2 (fun r18 μ15 h16 => ?_))
      refine K_icmp_gt 36 dM_areSteps_29 (by decide) (fun c19 => ?_) (fun c19 => ?_)
      · refine K_iconst 0 dM_areSteps_36 rfl ?_
        exact K_iret dM_areSteps_37 (Or.inr ⟨rfl, (by decide)⟩) (h16.1 c19)
      · refine K_iconst 1 dM_areSteps_32 rfl ?_
        refine K_goto 37 dM_areSteps_33 (by decide) ?_
        exact K_iret dM_areSteps_37 (Or.inr ⟨rfl, (by decide)⟩) (h16.2 c19)
set_option maxHeartbeats 8000000 in
theorem vM_isRun_0 {E : jE} {μ : jMu} {Q : Option AV → jMu → Prop} {a0 a1 : Int} (hF : (K 121 E mM_isRun 2 [some (jvR 76), some (jvI a0), some (jvI a1), some (jvI 0), none] [] μ Q)) : K 121 E mM_isRun 0 [some (jvR 76), some (jvI a0), some (jvI a1), none, none] [] μ Q := by
  refine K_iconst 0 dM_isRun_0 rfl ?_
  refine K_istore_n 3 dM_isRun_1 rfl (Nat.le_of_ble_eq_true rfl) rfl ?_
  exact hF
set_option maxHeartbeats 8000000 in
theorem vM_isRun_2 {E : jE} {μ : jMu} {Q : Option AV → jMu → Prop} {l1 l2 l3 : Int} (hF : (Ci E mM_steps [jvR 76] μ (fun r4 μ1 => ((r4 ≤ l3 → (Q (some (jvI 1)) μ1)) ∧ (¬ (r4 ≤ l3) → ((l3 < l1 → (K 121 E mM_isRun 28 [some (jvR 76), some (jvI l1), some (jvI l2), some (jvI l3), some (jvI 0)] [] μ1 Q)) ∧ (¬ (l3 < l1) → ((-2147483648 ≤ (l1 + l2) ∧ (l1 + l2) < 2147483648)) ∧ (((l1 + l2) ≤ l3 → (K 121 E mM_isRun 28 [some (jvR 76), some (jvI l1), some (jvI l2), some (jvI l3), some (jvI 0)] [] μ1 Q)) ∧ (¬ ((l1 + l2) ≤ l3) → ((-2147483648 ≤ (l3 + 1) ∧ (l3 + 1) < 2147483648)) ∧ (K 121 E mM_isRun 2 [some (jvR 76), some (jvI l1), some (jvI l2), some (jvI (l3 + 1)), none] [] μ1 Q)))))))))) : K 121 E mM_isRun 2 [some (jvR 76), some (jvI l1), some (jvI l2), some (jvI l3), none] [] μ Q := by
  refine K_iload_n 3 l3 dM_isRun_2 rfl rfl ?_
  refine K_aload_n 0 76 dM_isRun_3 rfl rfl ?_
  refine K_callVi mM_steps 12 76 [] dM_isRun_4 pm_M_294 ⟨_, rfl, rfl⟩ ⟨(Nat.le_of_ble_eq_true rfl), (Nat.le_of_ble_eq_true rfl)⟩ rfl rfl (by decide) (Nat.le_of_ble_eq_true rfl) rfl (Nat.le_of_ble_eq_true rfl) (by decide) (Ci_mono hF (fun r4 μ1 h2 => ?_))
  refine K_icmp_ge 74 dM_isRun_7 (by decide) (fun c5 => ?_) (fun c5 => ?_)
  · refine K_iconst 1 dM_isRun_74 rfl ?_
    exact K_iret dM_isRun_75 (Or.inr ⟨rfl, (by decide)⟩) (h2.1 c5)
  · refine K_iload_n 3 l3 dM_isRun_10 rfl rfl ?_
    refine K_iload_n 1 l1 dM_isRun_11 rfl rfl ?_
    refine K_icmp_lt 25 dM_isRun_12 (by decide) (fun c8 => ?_) (fun c8 => ?_)
    · refine K_iconst 0 dM_isRun_25 rfl ?_
      refine K_istore 4 dM_isRun_26 (Nat.le_of_ble_eq_true rfl) rfl ?_
      exact ((h2.2 c5).1 c8)
    · refine K_iload_n 3 l3 dM_isRun_15 rfl rfl ?_
      refine K_iload_n 1 l1 dM_isRun_16 rfl rfl ?_
      refine K_iload_n 2 l2 dM_isRun_17 rfl rfl ?_
      refine K_iadd dM_isRun_18 (w32_id ((h2.2 c5).2 c8).1) ?_
      refine K_icmp_ge 25 dM_isRun_19 (by decide) (fun c10 => ?_) (fun c10 => ?_)
      · refine K_iconst 0 dM_isRun_25 rfl ?_
        refine K_istore 4 dM_isRun_26 (Nat.le_of_ble_eq_true rfl) rfl ?_
        exact (((h2.2 c5).2 c8).2.1 c10)
      · refine K_goto 68 dM_isRun_22 (by decide) ?_
        refine K_iinc 3 dM_isRun_68 (Nat.le_of_ble_eq_true rfl) rfl (w32_ok (((h2.2 c5).2 c8).2.2 c10).1) rfl ?_
        refine K_goto 2 dM_isRun_71 (by decide) ?_
        exact (((h2.2 c5).2 c8).2.2 c10).2
set_option maxHeartbeats 8000000 in
theorem vM_isRun_28 {E : jE} {μ : jMu} {Q : Option AV → jMu → Prop} {l1 l2 l3 l4 : Int} (hF : (Ci E mM_namesMany [jvR 76, jvI l3] μ (fun r4 μ1 => ((r4 ≤ l4 → ((-2147483648 ≤ (l3 + 1) ∧ (l3 + 1) < 2147483648)) ∧ (K 121 E mM_isRun 2 [some (jvR 76), some (jvI l1), some (jvI l2), some (jvI (l3 + 1)), none] [] μ1 Q)) ∧ (¬ (r4 ≤ l4) → (Ci E mM_namedBy [jvR 76, jvI l3, jvI l4] μ1 (fun r10 μ7 => ((-2147483648 ≤ (l1 + l2) ∧ (l1 + l2) < 2147483648) ∧ (-2147483648 ≤ ((l1 + l2) - 2) ∧ ((l1 + l2) - 2) < 2147483648)) ∧ (Ci E mM_isIn [jvL r10, jvL l1, jvL ((l1 + l2) - 2)] μ7 (fun r14 μ11 => ((r14 = 0 → ((-2147483648 ≤ (l4 + 1) ∧ (l4 + 1) < 2147483648)) ∧ (K 121 E mM_isRun 28 [some (jvR 76), some (jvI l1), some (jvI l2), some (jvI l3), some (jvI (l4 + 1))] [] μ11 Q)) ∧ (¬ (r14 = 0) → (Q (some (jvI 0)) μ11)))))))))))) : K 121 E mM_isRun 28 [some (jvR 76), some (jvI l1), some (jvI l2), some (jvI l3), some (jvI l4)] [] μ Q := by
  refine K_iload 4 l4 dM_isRun_28 rfl ?_
  refine K_aload_n 0 76 dM_isRun_30 rfl rfl ?_
  refine K_iload_n 3 l3 dM_isRun_31 rfl rfl ?_
  refine K_callVi mM_namesMany 12 76 [jvI l3] dM_isRun_32 pm_M_328 ⟨_, rfl, rfl⟩ ⟨(Nat.le_of_ble_eq_true rfl), (Nat.le_of_ble_eq_true rfl)⟩ rfl rfl (by decide) (Nat.le_of_ble_eq_true rfl) rfl (Nat.le_of_ble_eq_true rfl) (by decide) (Ci_mono hF (fun r4 μ1 h2 => ?_))
  refine K_icmp_ge 68 dM_isRun_35 (by decide) (fun c5 => ?_) (fun c5 => ?_)
  · refine K_iinc 3 dM_isRun_68 (Nat.le_of_ble_eq_true rfl) rfl (w32_ok (h2.1 c5).1) rfl ?_
    refine K_goto 2 dM_isRun_71 (by decide) ?_
    exact K_forget [true, true, true, true, false] (h2.1 c5).2
  · refine K_aload_n 0 76 dM_isRun_38 rfl rfl ?_
    refine K_iload_n 3 l3 dM_isRun_39 rfl rfl ?_
    refine K_iload 4 l4 dM_isRun_40 rfl ?_
    refine K_callVi mM_namedBy 12 76 [jvI l3, jvI l4] dM_isRun_42 pm_M_319 ⟨_, rfl, rfl⟩ ⟨(Nat.le_of_ble_eq_true rfl), (Nat.le_of_ble_eq_true rfl)⟩ rfl rfl (by decide) (Nat.le_of_ble_eq_true rfl) rfl (Nat.le_of_ble_eq_true rfl) (by decide) (Ci_mono (h2.2 c5) (fun r10 μ7 h8 => ?_))
    refine K_i2l dM_isRun_45 rfl ?_
    refine K_iload_n 1 l1 dM_isRun_46 rfl rfl ?_
    refine K_i2l dM_isRun_47 rfl ?_
    refine K_iload_n 1 l1 dM_isRun_48 rfl rfl ?_
    refine K_iload_n 2 l2 dM_isRun_49 rfl rfl ?_
    refine K_iadd dM_isRun_50 (w32_id h8.1.1) ?_
    refine K_iconst 2 dM_isRun_51 rfl ?_
    refine K_isub dM_isRun_52 (w32_id h8.1.2) ?_
    refine K_i2l dM_isRun_53 rfl ?_
    refine K_callSi mM_isIn [jvL r10, jvL l1, jvL ((l1 + l2) - 2)] dM_isRun_54 pm_M_196 ⟨(Nat.le_of_ble_eq_true rfl), (Nat.le_of_ble_eq_true rfl)⟩ (Nat.le_of_ble_eq_true rfl) rfl (Nat.le_of_ble_eq_true rfl) (by decide) (Ci_mono h8.2 (fun r14 μ11 h12 => ?_))
    refine K_if_eq 62 dM_isRun_57 (by decide) (fun c15 => ?_) (fun c15 => ?_)
    · refine K_iinc 4 dM_isRun_62 (Nat.le_of_ble_eq_true rfl) rfl (w32_ok (h12.1 c15).1) rfl ?_
      refine K_goto 28 dM_isRun_65 (by decide) ?_
      exact (h12.1 c15).2
    · refine K_iconst 0 dM_isRun_60 rfl ?_
      exact K_iret dM_isRun_61 (Or.inr ⟨rfl, (by decide)⟩) (h12.2 c15)
set_option maxHeartbeats 8000000 in
theorem vM_alike_0 {E : jE} {μ : jMu} {Q : Option AV → jMu → Prop} {a0 a1 a2 : Int} (hF : (Ci E mM_areRuns [jvR 76, jvI a0, jvI a1, jvI a2] μ (fun r4 μ1 => ((¬ r4 = 0 → (Ci E mM_areAlike [jvR 76, jvI a0, jvI a1, jvI a2] μ1 (fun r10 μ7 => ((r10 = 0 → (Q (some (jvI 0)) μ7)) ∧ (¬ (r10 = 0) → (Q (some (jvI 1)) μ7)))))) ∧ (r4 = 0 → (Q (some (jvI (-1))) μ1)))))) : K 121 E mM_alike 0 [some (jvR 76), some (jvI a0), some (jvI a1), some (jvI a2)] [] μ Q := by
  refine K_aload_n 0 76 dM_alike_0 rfl rfl ?_
  refine K_iload_n 1 a0 dM_alike_1 rfl rfl ?_
  refine K_iload_n 2 a1 dM_alike_2 rfl rfl ?_
  refine K_iload_n 3 a2 dM_alike_3 rfl rfl ?_
  refine K_callVi mM_areRuns 12 76 [jvI a0, jvI a1, jvI a2] dM_alike_4 pm_M_408 ⟨_, rfl, rfl⟩ ⟨(Nat.le_of_ble_eq_true rfl), (Nat.le_of_ble_eq_true rfl)⟩ rfl rfl (by decide) (Nat.le_of_ble_eq_true rfl) rfl (Nat.le_of_ble_eq_true rfl) (by decide) (Ci_mono hF (fun r4 μ1 h2 => ?_))
  refine K_if_ne 14 dM_alike_7 (by decide) (fun c5 => ?_) (fun c5 => ?_)
  · refine K_aload_n 0 76 dM_alike_14 rfl rfl ?_
    refine K_iload_n 1 a0 dM_alike_15 rfl rfl ?_
    refine K_iload_n 2 a1 dM_alike_16 rfl rfl ?_
    refine K_iload_n 3 a2 dM_alike_17 rfl rfl ?_
    refine K_callVi mM_areAlike 12 76 [jvI a0, jvI a1, jvI a2] dM_alike_18 pm_M_411 ⟨_, rfl, rfl⟩ ⟨(Nat.le_of_ble_eq_true rfl), (Nat.le_of_ble_eq_true rfl)⟩ rfl rfl (by decide) (Nat.le_of_ble_eq_true rfl) rfl (Nat.le_of_ble_eq_true rfl) (by decide) (Ci_mono (h2.1 c5) (fun r10 μ7 h8 => ?_))
    refine K_if_eq 28 dM_alike_21 (by decide) (fun c11 => ?_) (fun c11 => ?_)
    · refine K_iconst 0 dM_alike_28 rfl ?_
      exact K_iret dM_alike_29 (Or.inl rfl) (h8.1 c11)
    · refine K_iconst 1 dM_alike_24 rfl ?_
      refine K_goto 29 dM_alike_25 (by decide) ?_
      exact K_iret dM_alike_29 (Or.inl rfl) (h8.2 c11)
  · refine K_iconst (-1) dM_alike_10 rfl ?_
    refine K_goto 29 dM_alike_11 (by decide) ?_
    exact K_iret dM_alike_29 (Or.inl rfl) (h2.2 c5)
set_option maxHeartbeats 8000000 in
theorem vM_areRuns_0 {E : jE} {μ : jMu} {Q : Option AV → jMu → Prop} {a0 a1 a2 : Int} (hF : (Ci E mM_areSteps [jvR 76, jvI a0, jvI a2] μ (fun r4 μ1 => ((r4 = 0 → (Q (some (jvI 0)) μ1)) ∧ (¬ (r4 = 0) → (Ci E mM_areSteps [jvR 76, jvI a1, jvI a2] μ1 (fun r11 μ8 => ((r11 = 0 → (Q (some (jvI 0)) μ8)) ∧ (¬ (r11 = 0) → (Ci E mM_isRun [jvR 76, jvI a0, jvI a2] μ8 (fun r18 μ15 => ((r18 = 0 → (Q (some (jvI 0)) μ15)) ∧ (¬ (r18 = 0) → (Ci E mM_isRun [jvR 76, jvI a1, jvI a2] μ15 (fun r25 μ22 => ((r25 = 0 → (Q (some (jvI 0)) μ22)) ∧ (¬ (r25 = 0) → ((-2147483648 ≤ (a0 + a2) ∧ (a0 + a2) < 2147483648)) ∧ (((a0 + a2) ≤ a1 → (Q (some (jvI 1)) μ22)) ∧ (¬ ((a0 + a2) ≤ a1) → ((-2147483648 ≤ (a1 + a2) ∧ (a1 + a2) < 2147483648)) ∧ ((a0 < (a1 + a2) → (Q (some (jvI 0)) μ22)) ∧ (¬ (a0 < (a1 + a2)) → (Q (some (jvI 1)) μ22)))))))))))))))))))))) : K 121 E mM_areRuns 0 [some (jvR 76), some (jvI a0), some (jvI a1), some (jvI a2)] [] μ Q := by
  refine K_aload_n 0 76 dM_areRuns_0 rfl rfl ?_
  refine K_iload_n 1 a0 dM_areRuns_1 rfl rfl ?_
  refine K_iload_n 3 a2 dM_areRuns_2 rfl rfl ?_
  refine K_callVi mM_areSteps 12 76 [jvI a0, jvI a2] dM_areRuns_3 pm_M_402 ⟨_, rfl, rfl⟩ ⟨(Nat.le_of_ble_eq_true rfl), (Nat.le_of_ble_eq_true rfl)⟩ rfl rfl (by decide) (Nat.le_of_ble_eq_true rfl) rfl (Nat.le_of_ble_eq_true rfl) (by decide) (Ci_mono hF (fun r4 μ1 h2 => ?_))
  refine K_if_eq 54 dM_areRuns_6 (by decide) (fun c5 => ?_) (fun c5 => ?_)
  · refine K_iconst 0 dM_areRuns_54 rfl ?_
    exact K_iret dM_areRuns_55 (Or.inr ⟨rfl, (by decide)⟩) (h2.1 c5)
  · refine K_aload_n 0 76 dM_areRuns_9 rfl rfl ?_
    refine K_iload_n 2 a1 dM_areRuns_10 rfl rfl ?_
    refine K_iload_n 3 a2 dM_areRuns_11 rfl rfl ?_
    refine K_callVi mM_areSteps 12 76 [jvI a1, jvI a2] dM_areRuns_12 pm_M_402 ⟨_, rfl, rfl⟩ ⟨(Nat.le_of_ble_eq_true rfl), (Nat.le_of_ble_eq_true rfl)⟩ rfl rfl (by decide) (Nat.le_of_ble_eq_true rfl) rfl (Nat.le_of_ble_eq_true rfl) (by decide) (Ci_mono (h2.2 c5) (fun r11 μ8 h9 => ?_))
    refine K_if_eq 54 dM_areRuns_15 (by decide) (fun c12 => ?_) (fun c12 => ?_)
    · refine K_iconst 0 dM_areRuns_54 rfl ?_
      exact K_iret dM_areRuns_55 (Or.inr ⟨rfl, (by decide)⟩) (h9.1 c12)
    · refine K_aload_n 0 76 dM_areRuns_18 rfl rfl ?_
      refine K_iload_n 1 a0 dM_areRuns_19 rfl rfl ?_
      refine K_iload_n 3 a2 dM_areRuns_20 rfl rfl ?_
      refine K_callVi mM_isRun 12 76 [jvI a0, jvI a2] dM_areRuns_21 pm_M_405 ⟨_, rfl, rfl⟩ ⟨(Nat.le_of_ble_eq_true rfl), (Nat.le_of_ble_eq_true rfl)⟩ rfl rfl (by decide) (Nat.le_of_ble_eq_true rfl) rfl (Nat.le_of_ble_eq_true rfl) (by decide) (Ci_mono (h9.2 c12) (fun r18 μ15 h16 => ?_))
      refine K_if_eq 54 dM_areRuns_24 (by decide) (fun c19 => ?_) (fun c19 => ?_)
      · refine K_iconst 0 dM_areRuns_54 rfl ?_
        exact K_iret dM_areRuns_55 (Or.inr ⟨rfl, (by decide)⟩) (h16.1 c19)
      · refine K_aload_n 0 76 dM_areRuns_27 rfl rfl ?_
        refine K_iload_n 2 a1 dM_areRuns_28 rfl rfl ?_
        refine K_iload_n 3 a2 dM_areRuns_29 rfl rfl ?_
        refine K_callVi mM_isRun 12 76 [jvI a1, jvI a2] dM_areRuns_30 pm_M_405 ⟨_, rfl, rfl⟩ ⟨(Nat.le_of_ble_eq_true rfl), (Nat.le_of_ble_eq_true rfl)⟩ rfl rfl (by decide) (Nat.le_of_ble_eq_true rfl) rfl (Nat.le_of_ble_eq_true rfl) (by decide) (Ci_mono (h16.2 c19) (fun r25 μ22 h23 => ?_))
        refine K_if_eq 54 dM_areRuns_33 (by decide) (fun c26 => ?_) (fun c26 => ?_)
        · refine K_iconst 0 dM_areRuns_54 rfl ?_
          exact K_iret dM_areRuns_55 (Or.inr ⟨rfl, (by decide)⟩) (h23.1 c26)
        · refine K_iload_n 1 a0 dM_areRuns_36 rfl rfl ?_
          refine K_iload_n 3 a2 dM_areRuns_37 rfl rfl ?_
          refine K_iadd dM_areRuns_38 (w32_id (h23.2 c26).1) ?_
          refine K_iload_n 2 a1 dM_areRuns_39 rfl rfl ?_
          refine K_icmp_le 50 dM_areRuns_40 (by decide) (fun c29 => ?_) (fun c29 => ?_)
          · refine K_iconst 1 dM_areRuns_50 rfl ?_
            refine K_goto 55 dM_areRuns_51 (by decide) ?_
            exact K_iret dM_areRuns_55 (Or.inr ⟨rfl, (by decide)⟩) ((h23.2 c26).2.1 c29)
          · refine K_iload_n 2 a1 dM_areRuns_43 rfl rfl ?_
            refine K_iload_n 3 a2 dM_areRuns_44 rfl rfl ?_
            refine K_iadd dM_areRuns_45 (w32_id ((h23.2 c26).2.2 c29).1) ?_
            refine K_iload_n 1 a0 dM_areRuns_46 rfl rfl ?_
            refine K_icmp_gt 54 dM_areRuns_47 (by decide) (fun c32 => ?_) (fun c32 => ?_)
            · refine K_iconst 0 dM_areRuns_54 rfl ?_
              exact K_iret dM_areRuns_55 (Or.inr ⟨rfl, (by decide)⟩) (((h23.2 c26).2.2 c29).2.1 c32)
            · refine K_iconst 1 dM_areRuns_50 rfl ?_
              refine K_goto 55 dM_areRuns_51 (by decide) ?_
              exact K_iret dM_areRuns_55 (Or.inr ⟨rfl, (by decide)⟩) (((h23.2 c26).2.2 c29).2.2 c32)
set_option maxHeartbeats 8000000 in
theorem vM_areAlike_0 {E : jE} {μ : jMu} {Q : Option AV → jMu → Prop} {a0 a1 a2 : Int} (hF : ((a1 ≤ a0 → (K 121 E mM_areAlike 15 [some (jvR 76), some (jvI a0), some (jvI a1), some (jvI a2), some (jvI a1), some (jvI 0), none, none, none] [] μ Q)) ∧ (¬ (a1 ≤ a0) → (K 121 E mM_areAlike 15 [some (jvR 76), some (jvI a0), some (jvI a1), some (jvI a2), some (jvI a0), some (jvI 0), none, none, none] [] μ Q)))) : K 121 E mM_areAlike 0 [some (jvR 76), some (jvI a0), some (jvI a1), some (jvI a2), none, none, none, none, none] [] μ Q := by
  refine K_iload_n 1 a0 dM_areAlike_0 rfl rfl ?_
  refine K_iload_n 2 a1 dM_areAlike_1 rfl rfl ?_
  refine K_icmp_ge 9 dM_areAlike_2 (by decide) (fun c1 => ?_) (fun c1 => ?_)
  · refine K_iload_n 2 a1 dM_areAlike_9 rfl rfl ?_
    refine K_istore 4 dM_areAlike_10 (Nat.le_of_ble_eq_true rfl) rfl ?_
    refine K_iconst 0 dM_areAlike_12 rfl ?_
    refine K_istore 5 dM_areAlike_13 (Nat.le_of_ble_eq_true rfl) rfl ?_
    exact (hF.1 c1)
  · refine K_iload_n 1 a0 dM_areAlike_5 rfl rfl ?_
    refine K_goto 10 dM_areAlike_6 (by decide) ?_
    refine K_istore 4 dM_areAlike_10 (Nat.le_of_ble_eq_true rfl) rfl ?_
    refine K_iconst 0 dM_areAlike_12 rfl ?_
    refine K_istore 5 dM_areAlike_13 (Nat.le_of_ble_eq_true rfl) rfl ?_
    exact (hF.2 c1)
set_option maxHeartbeats 8000000 in
theorem vM_areAlike_15 {E : jE} {μ : jMu} {Q : Option AV → jMu → Prop} {l1 l2 l3 l4 l5 : Int} (hF : ((l3 ≤ l5 → (Q (some (jvI 1)) μ)) ∧ (¬ (l3 ≤ l5) → ((-2147483648 ≤ (l1 + l5) ∧ (l1 + l5) < 2147483648)) ∧ (Ci E mM_ruleBy [jvR 76, jvI (l1 + l5)] μ (fun r7 μ4 => ((-2147483648 ≤ (l2 + l5) ∧ (l2 + l5) < 2147483648)) ∧ (Ci E mM_ruleBy [jvR 76, jvI (l2 + l5)] μ4 (fun r11 μ8 => ((r7 = r11 → (K 121 E mM_areAlike 45 [some (jvR 76), some (jvI l1), some (jvI l2), some (jvI l3), some (jvI l4), some (jvI l5), some (jvI 0), none, none] [] μ8 Q)) ∧ (¬ (r7 = r11) → (Q (some (jvI 0)) μ8)))))))))) : K 121 E mM_areAlike 15 [some (jvR 76), some (jvI l1), some (jvI l2), some (jvI l3), some (jvI l4), some (jvI l5), none, none, none] [] μ Q := by
  refine K_iload 5 l5 dM_areAlike_15 rfl ?_
  refine K_iload_n 3 l3 dM_areAlike_17 rfl rfl ?_
  refine K_icmp_ge 127 dM_areAlike_18 (by decide) (fun c1 => ?_) (fun c1 => ?_)
  · refine K_iconst 1 dM_areAlike_127 rfl ?_
    exact K_iret dM_areAlike_128 (Or.inr ⟨rfl, (by decide)⟩) (hF.1 c1)
  · refine K_aload_n 0 76 dM_areAlike_21 rfl rfl ?_
    refine K_iload_n 1 l1 dM_areAlike_22 rfl rfl ?_
    refine K_iload 5 l5 dM_areAlike_23 rfl ?_
    refine K_iadd dM_areAlike_25 (w32_id (hF.2 c1).1) ?_
    refine K_callVi mM_ruleBy 12 76 [jvI (l1 + l5)] dM_areAlike_26 pm_M_300 ⟨_, rfl, rfl⟩ ⟨(Nat.le_of_ble_eq_true rfl), (Nat.le_of_ble_eq_true rfl)⟩ rfl rfl (by decide) (Nat.le_of_ble_eq_true rfl) rfl (Nat.le_of_ble_eq_true rfl) (by decide) (Ci_mono (hF.2 c1).2 (fun r7 μ4 h5 => ?_))
    refine K_aload_n 0 76 dM_areAlike_29 rfl rfl ?_
    refine K_iload_n 2 l2 dM_areAlike_30 rfl rfl ?_
    refine K_iload 5 l5 dM_areAlike_31 rfl ?_
    refine K_iadd dM_areAlike_33 (w32_id h5.1) ?_
    refine K_callVi mM_ruleBy 12 76 [jvI (l2 + l5)] dM_areAlike_34 pm_M_300 ⟨_, rfl, rfl⟩ ⟨(Nat.le_of_ble_eq_true rfl), (Nat.le_of_ble_eq_true rfl)⟩ rfl rfl (by decide) (Nat.le_of_ble_eq_true rfl) rfl (Nat.le_of_ble_eq_true rfl) (by decide) (Ci_mono h5.2 (fun r11 μ8 h9 => ?_))
    refine K_icmp_eq 42 dM_areAlike_37 (by decide) (fun c12 => ?_) (fun c12 => ?_)
    · refine K_iconst 0 dM_areAlike_42 rfl ?_
      refine K_istore 6 dM_areAlike_43 (Nat.le_of_ble_eq_true rfl) rfl ?_
      exact (h9.1 c12)
    · refine K_iconst 0 dM_areAlike_40 rfl ?_
      exact K_iret dM_areAlike_41 (Or.inr ⟨rfl, (by decide)⟩) (h9.2 c12)
set_option maxHeartbeats 8000000 in
theorem vM_areAlike_45 {E : jE} {μ : jMu} {Q : Option AV → jMu → Prop} {l1 l2 l3 l4 l5 l6 : Int} (hF : ((-2147483648 ≤ (l1 + l5) ∧ (l1 + l5) < 2147483648)) ∧ (Ci E mM_namesMany [jvR 76, jvI (l1 + l5)] μ (fun r4 μ1 => ((r4 ≤ l6 → ((-2147483648 ≤ (l5 + 1) ∧ (l5 + 1) < 2147483648)) ∧ (K 121 E mM_areAlike 15 [some (jvR 76), some (jvI l1), some (jvI l2), some (jvI l3), some (jvI l4), some (jvI (l5 + 1)), none, none, none] [] μ1 Q)) ∧ (¬ (r4 ≤ l6) → ((-2147483648 ≤ (l1 + l5) ∧ (l1 + l5) < 2147483648)) ∧ (Ci E mM_namedBy [jvR 76, jvI (l1 + l5), jvI l6] μ1 (fun r10 μ7 => ((-2147483648 ≤ (l2 + l5) ∧ (l2 + l5) < 2147483648)) ∧ (Ci E mM_namedBy [jvR 76, jvI (l2 + l5), jvI l6] μ7 (fun r14 μ11 => ((r10 < l1 → ((l4 ≤ r10 → (Q (some (jvI 0)) μ11)) ∧ (¬ (l4 ≤ r10) → ((r14 < l4 → ((-2147483648 ≤ (l6 + 1) ∧ (l6 + 1) < 2147483648)) ∧ (K 121 E mM_areAlike 45 [some (jvR 76), some (jvI l1), some (jvI l2), some (jvI l3), some (jvI l4), some (jvI l5), some (jvI (l6 + 1)), none, none] [] μ11 Q)) ∧ (¬ (r14 < l4) → (Q (some (jvI 0)) μ11)))))) ∧ (¬ (r10 < l1) → ((-2147483648 ≤ (r10 - l1) ∧ (r10 - l1) < 2147483648) ∧ (-2147483648 ≤ (r14 - l2) ∧ (r14 - l2) < 2147483648)) ∧ (((r10 - l1) = (r14 - l2) → ((-2147483648 ≤ (l6 + 1) ∧ (l6 + 1) < 2147483648)) ∧ (K 121 E mM_areAlike 45 [some (jvR 76), some (jvI l1), some (jvI l2), some (jvI l3), some (jvI l4), some (jvI l5), some (jvI (l6 + 1)), none, none] [] μ11 Q)) ∧ (¬ ((r10 - l1) = (r14 - l2)) → ((l4 ≤ r10 → (Q (some (jvI 0)) μ11)) ∧ (¬ (l4 ≤ r10) → ((r14 < l4 → ((-2147483648 ≤ (l6 + 1) ∧ (l6 + 1) < 2147483648)) ∧ (K 121 E mM_areAlike 45 [some (jvR 76), some (jvI l1), some (jvI l2), some (jvI l3), some (jvI l4), some (jvI l5), some (jvI (l6 + 1)), none, none] [] μ11 Q)) ∧ (¬ (r14 < l4) → (Q (some (jvI 0)) μ11)))))))))))))))))) : K 121 E mM_areAlike 45 [some (jvR 76), some (jvI l1), some (jvI l2), some (jvI l3), some (jvI l4), some (jvI l5), some (jvI l6), none, none] [] μ Q := by
  refine K_iload 6 l6 dM_areAlike_45 rfl ?_
  refine K_aload_n 0 76 dM_areAlike_47 rfl rfl ?_
  refine K_iload_n 1 l1 dM_areAlike_48 rfl rfl ?_
  refine K_iload 5 l5 dM_areAlike_49 rfl ?_
  refine K_iadd dM_areAlike_51 (w32_id hF.1) ?_
  refine K_callVi mM_namesMany 12 76 [jvI (l1 + l5)] dM_areAlike_52 pm_M_328 ⟨_, rfl, rfl⟩ ⟨(Nat.le_of_ble_eq_true rfl), (Nat.le_of_ble_eq_true rfl)⟩ rfl rfl (by decide) (Nat.le_of_ble_eq_true rfl) rfl (Nat.le_of_ble_eq_true rfl) (by decide) (Ci_mono hF.2 (fun r4 μ1 h2 => ?_))
  refine K_icmp_ge 121 dM_areAlike_55 (by decide) (fun c5 => ?_) (fun c5 => ?_)
  · refine K_iinc 5 dM_areAlike_121 (Nat.le_of_ble_eq_true rfl) rfl (w32_ok (h2.1 c5).1) rfl ?_
    refine K_goto 15 dM_areAlike_124 (by decide) ?_
    exact K_forget [true, true, true, true, true, true, false, true, true] (h2.1 c5).2
  · refine K_aload_n 0 76 dM_areAlike_58 rfl rfl ?_
    refine K_iload_n 1 l1 dM_areAlike_59 rfl rfl ?_
    refine K_iload 5 l5 dM_areAlike_60 rfl ?_
    refine K_iadd dM_areAlike_62 (w32_id (h2.2 c5).1) ?_
    refine K_iload 6 l6 dM_areAlike_63 rfl ?_
    refine K_callVi mM_namedBy 12 76 [jvI (l1 + l5), jvI l6] dM_areAlike_65 pm_M_319 ⟨_, rfl, rfl⟩ ⟨(Nat.le_of_ble_eq_true rfl), (Nat.le_of_ble_eq_true rfl)⟩ rfl rfl (by decide) (Nat.le_of_ble_eq_true rfl) rfl (Nat.le_of_ble_eq_true rfl) (by decide) (Ci_mono (h2.2 c5).2 (fun r10 μ7 h8 => ?_))
    refine K_istore 7 dM_areAlike_68 (Nat.le_of_ble_eq_true rfl) rfl ?_
    refine K_aload_n 0 76 dM_areAlike_70 rfl rfl ?_
    refine K_iload_n 2 l2 dM_areAlike_71 rfl rfl ?_
    refine K_iload 5 l5 dM_areAlike_72 rfl ?_
    refine K_iadd dM_areAlike_74 (w32_id h8.1) ?_
    refine K_iload 6 l6 dM_areAlike_75 rfl ?_
    refine K_callVi mM_namedBy 12 76 [jvI (l2 + l5), jvI l6] dM_areAlike_77 pm_M_319 ⟨_, rfl, rfl⟩ ⟨(Nat.le_of_ble_eq_true rfl), (Nat.le_of_ble_eq_true rfl)⟩ rfl rfl (by decide) (Nat.le_of_ble_eq_true rfl) rfl (Nat.le_of_ble_eq_true rfl) (by decide) (Ci_mono h8.2 (fun r14 μ11 h12 => ?_))
    refine K_istore 8 dM_areAlike_80 (Nat.le_of_ble_eq_true rfl) rfl ?_
    refine K_iload 7 r10 dM_areAlike_82 rfl ?_
    refine K_iload_n 1 l1 dM_areAlike_84 rfl rfl ?_
    refine K_icmp_lt 99 dM_areAlike_85 (by decide) (fun c15 => ?_) (fun c15 => ?_)
    · refine K_iload 7 r10 dM_areAlike_99 rfl ?_
      refine K_iload 4 l4 dM_areAlike_101 rfl ?_
      refine K_icmp_ge 113 dM_areAlike_103 (by decide) (fun c17 => ?_) (fun c17 => ?_)
      · refine K_iconst 0 dM_areAlike_113 rfl ?_
        exact K_iret dM_areAlike_114 (Or.inr ⟨rfl, (by decide)⟩) ((h12.1 c15).1 c17)
      · refine K_iload 8 r14 dM_areAlike_106 rfl ?_
        refine K_iload 4 l4 dM_areAlike_108 rfl ?_
        refine K_icmp_lt 115 dM_areAlike_110 (by decide) (fun c20 => ?_) (fun c20 => ?_)
        · refine K_iinc 6 dM_areAlike_115 (Nat.le_of_ble_eq_true rfl) rfl (w32_ok (((h12.1 c15).2 c17).1 c20).1) rfl ?_
          refine K_goto 45 dM_areAlike_118 (by decide) ?_
          exact K_forget [true, true, true, true, true, true, true, false, false] (((h12.1 c15).2 c17).1 c20).2
        · refine K_iconst 0 dM_areAlike_113 rfl ?_
          exact K_iret dM_areAlike_114 (Or.inr ⟨rfl, (by decide)⟩) (((h12.1 c15).2 c17).2 c20)
    · refine K_iload 7 r10 dM_areAlike_88 rfl ?_
      refine K_iload_n 1 l1 dM_areAlike_90 rfl rfl ?_
      refine K_isub dM_areAlike_91 (w32_id (h12.2 c15).1.1) ?_
      refine K_iload 8 r14 dM_areAlike_92 rfl ?_
      refine K_iload_n 2 l2 dM_areAlike_94 rfl rfl ?_
      refine K_isub dM_areAlike_95 (w32_id (h12.2 c15).1.2) ?_
      refine K_icmp_eq 115 dM_areAlike_96 (by decide) (fun c23 => ?_) (fun c23 => ?_)
      · refine K_iinc 6 dM_areAlike_115 (Nat.le_of_ble_eq_true rfl) rfl (w32_ok ((h12.2 c15).2.1 c23).1) rfl ?_
        refine K_goto 45 dM_areAlike_118 (by decide) ?_
        exact K_forget [true, true, true, true, true, true, true, false, false] ((h12.2 c15).2.1 c23).2
      · refine K_iload 7 r10 dM_areAlike_99 rfl ?_
        refine K_iload 4 l4 dM_areAlike_101 rfl ?_
        refine K_icmp_ge 113 dM_areAlike_103 (by decide) (fun c25 => ?_) (fun c25 => ?_)
        · refine K_iconst 0 dM_areAlike_113 rfl ?_
          exact K_iret dM_areAlike_114 (Or.inr ⟨rfl, (by decide)⟩) (((h12.2 c15).2.2 c23).1 c25)
        · refine K_iload 8 r14 dM_areAlike_106 rfl ?_
          refine K_iload 4 l4 dM_areAlike_108 rfl ?_
          refine K_icmp_lt 115 dM_areAlike_110 (by decide) (fun c28 => ?_) (fun c28 => ?_)
          · refine K_iinc 6 dM_areAlike_115 (Nat.le_of_ble_eq_true rfl) rfl (w32_ok ((((h12.2 c15).2.2 c23).2 c25).1 c28).1) rfl ?_
            refine K_goto 45 dM_areAlike_118 (by decide) ?_
            exact K_forget [true, true, true, true, true, true, true, false, false] ((((h12.2 c15).2.2 c23).2 c25).1 c28).2
          · refine K_iconst 0 dM_areAlike_113 rfl ?_
            exact K_iret dM_areAlike_114 (Or.inr ⟨rfl, (by decide)⟩) ((((h12.2 c15).2.2 c23).2 c25).2 c28)
set_option maxHeartbeats 8000000 in
theorem vM_worth_0 {E : jE} {μ : jMu} {Q : Option AV → jMu → Prop} {a0 a1 : Int} (hF : (Ci E mM_isNew [jvR 76, jvI a0, jvI a1] μ (fun r4 μ1 => ((r4 = 0 → (Q (some (jvI (-1))) μ1)) ∧ (¬ (r4 = 0) → (Ci E mM_worthOf [jvR 76, jvI a0, jvI a1] μ1 (fun r11 μ8 => (Q (some (jvI r11)) μ8)))))))) : K 121 E mM_worth 0 [some (jvR 76), some (jvI a0), some (jvI a1)] [] μ Q := by
  refine K_aload_n 0 76 dM_worth_0 rfl rfl ?_
  refine K_iload_n 1 a0 dM_worth_1 rfl rfl ?_
  refine K_iload_n 2 a1 dM_worth_2 rfl rfl ?_
  refine K_callVi mM_isNew 12 76 [jvI a0, jvI a1] dM_worth_3 pm_M_414 ⟨_, rfl, rfl⟩ ⟨(Nat.le_of_ble_eq_true rfl), (Nat.le_of_ble_eq_true rfl)⟩ rfl rfl (by decide) (Nat.le_of_ble_eq_true rfl) rfl (Nat.le_of_ble_eq_true rfl) (by decide) (Ci_mono hF (fun r4 μ1 h2 => ?_))
  refine K_if_eq 18 dM_worth_6 (by decide) (fun c5 => ?_) (fun c5 => ?_)
  · refine K_iconst (-1) dM_worth_18 rfl ?_
    exact K_iret dM_worth_19 (Or.inl rfl) (h2.1 c5)
  · refine K_aload_n 0 76 dM_worth_9 rfl rfl ?_
    refine K_iload_n 1 a0 dM_worth_10 rfl rfl ?_
    refine K_iload_n 2 a1 dM_worth_11 rfl rfl ?_
    refine K_callVi mM_worthOf 12 76 [jvI a0, jvI a1] dM_worth_12 pm_M_417 ⟨_, rfl, rfl⟩ ⟨(Nat.le_of_ble_eq_true rfl), (Nat.le_of_ble_eq_true rfl)⟩ rfl rfl (by decide) (Nat.le_of_ble_eq_true rfl) rfl (Nat.le_of_ble_eq_true rfl) (by decide) (Ci_mono (h2.2 c5) (fun r11 μ8 h9 => ?_))
    refine K_goto 19 dM_worth_15 (by decide) ?_
    exact K_iret dM_worth_19 (Or.inl rfl) h9
set_option maxHeartbeats 8000000 in
theorem vM_isNew_0 {E : jE} {μ : jMu} {Q : Option AV → jMu → Prop} {a0 a1 : Int} (hF : (Ci E mM_areSteps [jvR 76, jvI a0, jvI a1] μ (fun r4 μ1 => ((r4 = 0 → (Q (some (jvI 0)) μ1)) ∧ (¬ (r4 = 0) → (Ci E mM_isRun [jvR 76, jvI a0, jvI a1] μ1 (fun r11 μ8 => ((¬ r11 = 0 → (K 121 E mM_isNew 22 [some (jvR 76), some (jvI a0), some (jvI a1), some (jvI 0)] [] μ8 Q)) ∧ (r11 = 0 → (Q (some (jvI 0)) μ8)))))))))) : K 121 E mM_isNew 0 [some (jvR 76), some (jvI a0), some (jvI a1), none] [] μ Q := by
  refine K_aload_n 0 76 dM_isNew_0 rfl rfl ?_
  refine K_iload_n 1 a0 dM_isNew_1 rfl rfl ?_
  refine K_iload_n 2 a1 dM_isNew_2 rfl rfl ?_
  refine K_callVi mM_areSteps 12 76 [jvI a0, jvI a1] dM_isNew_3 pm_M_402 ⟨_, rfl, rfl⟩ ⟨(Nat.le_of_ble_eq_true rfl), (Nat.le_of_ble_eq_true rfl)⟩ rfl rfl (by decide) (Nat.le_of_ble_eq_true rfl) rfl (Nat.le_of_ble_eq_true rfl) (by decide) (Ci_mono hF (fun r4 μ1 h2 => ?_))
  refine K_if_eq 18 dM_isNew_6 (by decide) (fun c5 => ?_) (fun c5 => ?_)
  · refine K_iconst 0 dM_isNew_18 rfl ?_
    exact K_iret dM_isNew_19 (Or.inr ⟨rfl, (by decide)⟩) (h2.1 c5)
  · refine K_aload_n 0 76 dM_isNew_9 rfl rfl ?_
    refine K_iload_n 1 a0 dM_isNew_10 rfl rfl ?_
    refine K_iload_n 2 a1 dM_isNew_11 rfl rfl ?_
    refine K_callVi mM_isRun 12 76 [jvI a0, jvI a1] dM_isNew_12 pm_M_405 ⟨_, rfl, rfl⟩ ⟨(Nat.le_of_ble_eq_true rfl), (Nat.le_of_ble_eq_true rfl)⟩ rfl rfl (by decide) (Nat.le_of_ble_eq_true rfl) rfl (Nat.le_of_ble_eq_true rfl) (by decide) (Ci_mono (h2.2 c5) (fun r11 μ8 h9 => ?_))
    refine K_if_ne 20 dM_isNew_15 (by decide) (fun c12 => ?_) (fun c12 => ?_)
    · refine K_iconst 0 dM_isNew_20 rfl ?_
      refine K_istore_n 3 dM_isNew_21 rfl (Nat.le_of_ble_eq_true rfl) rfl ?_
      exact (h9.1 c12)
    · refine K_iconst 0 dM_isNew_18 rfl ?_
      exact K_iret dM_isNew_19 (Or.inr ⟨rfl, (by decide)⟩) (h9.2 c12)
set_option maxHeartbeats 8000000 in
theorem vM_isNew_22 {E : jE} {μ : jMu} {Q : Option AV → jMu → Prop} {l1 l2 l3 : Int} (hF : ((-2147483648 ≤ (l3 + l2) ∧ (l3 + l2) < 2147483648)) ∧ ((l1 < (l3 + l2) → (Q (some (jvI 1)) μ)) ∧ (¬ (l1 < (l3 + l2)) → (Ci E mM_isRun [jvR 76, jvI l3, jvI l2] μ (fun r7 μ4 => ((r7 = 0 → ((-2147483648 ≤ (l3 + 1) ∧ (l3 + 1) < 2147483648)) ∧ (K 121 E mM_isNew 22 [some (jvR 76), some (jvI l1), some (jvI l2), some (jvI (l3 + 1))] [] μ4 Q)) ∧ (¬ (r7 = 0) → (Ci E mM_areAlike [jvR 76, jvI l3, jvI l1, jvI l2] μ4 (fun r13 μ10 => ((r13 = 0 → ((-2147483648 ≤ (l3 + 1) ∧ (l3 + 1) < 2147483648)) ∧ (K 121 E mM_isNew 22 [some (jvR 76), some (jvI l1), some (jvI l2), some (jvI (l3 + 1))] [] μ10 Q)) ∧ (¬ (r13 = 0) → (Q (some (jvI 0)) μ10)))))))))))) : K 121 E mM_isNew 22 [some (jvR 76), some (jvI l1), some (jvI l2), some (jvI l3)] [] μ Q := by
  refine K_iload_n 3 l3 dM_isNew_22 rfl rfl ?_
  refine K_iload_n 2 l2 dM_isNew_23 rfl rfl ?_
  refine K_iadd dM_isNew_24 (w32_id hF.1) ?_
  refine K_iload_n 1 l1 dM_isNew_25 rfl rfl ?_
  refine K_icmp_gt 56 dM_isNew_26 (by decide) (fun c1 => ?_) (fun c1 => ?_)
  · refine K_iconst 1 dM_isNew_56 rfl ?_
    exact K_iret dM_isNew_57 (Or.inr ⟨rfl, (by decide)⟩) (hF.2.1 c1)
  · refine K_aload_n 0 76 dM_isNew_29 rfl rfl ?_
    refine K_iload_n 3 l3 dM_isNew_30 rfl rfl ?_
    refine K_iload_n 2 l2 dM_isNew_31 rfl rfl ?_
    refine K_callVi mM_isRun 12 76 [jvI l3, jvI l2] dM_isNew_32 pm_M_405 ⟨_, rfl, rfl⟩ ⟨(Nat.le_of_ble_eq_true rfl), (Nat.le_of_ble_eq_true rfl)⟩ rfl rfl (by decide) (Nat.le_of_ble_eq_true rfl) rfl (Nat.le_of_ble_eq_true rfl) (by decide) (Ci_mono (hF.2.2 c1) (fun r7 μ4 h5 => ?_))
    refine K_if_eq 50 dM_isNew_35 (by decide) (fun c8 => ?_) (fun c8 => ?_)
    · refine K_iinc 3 dM_isNew_50 (Nat.le_of_ble_eq_true rfl) rfl (w32_ok (h5.1 c8).1) rfl ?_
      refine K_goto 22 dM_isNew_53 (by decide) ?_
      exact (h5.1 c8).2
    · refine K_aload_n 0 76 dM_isNew_38 rfl rfl ?_
      refine K_iload_n 3 l3 dM_isNew_39 rfl rfl ?_
      refine K_iload_n 1 l1 dM_isNew_40 rfl rfl ?_
      refine K_iload_n 2 l2 dM_isNew_41 rfl rfl ?_
      refine K_callVi mM_areAlike 12 76 [jvI l3, jvI l1, jvI l2] dM_isNew_42 pm_M_411 ⟨_, rfl, rfl⟩ ⟨(Nat.le_of_ble_eq_true rfl), (Nat.le_of_ble_eq_true rfl)⟩ rfl rfl (by decide) (Nat.le_of_ble_eq_true rfl) rfl (Nat.le_of_ble_eq_true rfl) (by decide) (Ci_mono (h5.2 c8) (fun r13 μ10 h11 => ?_))
      refine K_if_eq 50 dM_isNew_45 (by decide) (fun c14 => ?_) (fun c14 => ?_)
      · refine K_iinc 3 dM_isNew_50 (Nat.le_of_ble_eq_true rfl) rfl (w32_ok (h11.1 c14).1) rfl ?_
        refine K_goto 22 dM_isNew_53 (by decide) ?_
        exact (h11.1 c14).2
      · refine K_iconst 0 dM_isNew_48 rfl ?_
        exact K_iret dM_isNew_49 (Or.inr ⟨rfl, (by decide)⟩) (h11.2 c14)
set_option maxHeartbeats 8000000 in
theorem vM_worthOf_0 {E : jE} {μ : jMu} {Q : Option AV → jMu → Prop} {a0 a1 : Int} (hF : ((-2147483648 ≤ (a0 + a1) ∧ (a0 + a1) < 2147483648)) ∧ (K 121 E mM_worthOf 11 [some (jvR 76), some (jvI a0), some (jvI a1), some (jvI 1), some (jvI (a0 + a1)), some (jvI (a0 + a1))] [] μ Q)) : K 121 E mM_worthOf 0 [some (jvR 76), some (jvI a0), some (jvI a1), none, none, none] [] μ Q := by
  refine K_iconst 1 dM_worthOf_0 rfl ?_
  refine K_istore_n 3 dM_worthOf_1 rfl (Nat.le_of_ble_eq_true rfl) rfl ?_
  refine K_iload_n 1 a0 dM_worthOf_2 rfl rfl ?_
  refine K_iload_n 2 a1 dM_worthOf_3 rfl rfl ?_
  refine K_iadd dM_worthOf_4 (w32_id hF.1) ?_
  refine K_istore 4 dM_worthOf_5 (Nat.le_of_ble_eq_true rfl) rfl ?_
  refine K_iload 4 (a0 + a1) dM_worthOf_7 rfl ?_
  refine K_istore 5 dM_worthOf_9 (Nat.le_of_ble_eq_true rfl) rfl ?_
  exact hF.2
set_option maxHeartbeats 8000000 in
theorem vM_worthOf_11 {E : jE} {μ : jMu} {Q : Option AV → jMu → Prop} {l1 l2 l3 l4 l5 : Int} (hF : ((-2147483648 ≤ (l5 + l2) ∧ (l5 + l2) < 2147483648)) ∧ (Ci E mM_steps [jvR 76] μ (fun r4 μ1 => ((r4 < (l5 + l2) → ((-2147483648 ≤ (l2 - 1) ∧ (l2 - 1) < 2147483648) ∧ (-2147483648 ≤ (l3 * (l2 - 1)) ∧ (l3 * (l2 - 1)) < 2147483648) ∧ (-2147483648 ≤ ((l3 * (l2 - 1)) - l2) ∧ ((l3 * (l2 - 1)) - l2) < 2147483648)) ∧ (Q (some (jvI ((l3 * (l2 - 1)) - l2))) μ1)) ∧ (¬ (r4 < (l5 + l2)) → ((l5 < l4 → ((-2147483648 ≤ (l5 + 1) ∧ (l5 + 1) < 2147483648)) ∧ (K 121 E mM_worthOf 11 [some (jvR 76), some (jvI l1), some (jvI l2), some (jvI l3), some (jvI l4), some (jvI (l5 + 1))] [] μ1 Q)) ∧ (¬ (l5 < l4) → (Ci E mM_isRun [jvR 76, jvI l5, jvI l2] μ1 (fun r13 μ10 => ((r13 = 0 → ((-2147483648 ≤ (l5 + 1) ∧ (l5 + 1) < 2147483648)) ∧ (K 121 E mM_worthOf 11 [some (jvR 76), some (jvI l1), some (jvI l2), some (jvI l3), some (jvI l4), some (jvI (l5 + 1))] [] μ10 Q)) ∧ (¬ (r13 = 0) → (Ci E mM_areAlike [jvR 76, jvI l1, jvI l5, jvI l2] μ10 (fun r19 μ16 => ((¬ r19 = 0 → ((-2147483648 ≤ (l3 + 1) ∧ (l3 + 1) < 2147483648) ∧ (-2147483648 ≤ (l5 + l2) ∧ (l5 + l2) < 2147483648) ∧ (-2147483648 ≤ (l5 + 1) ∧ (l5 + 1) < 2147483648)) ∧ (K 121 E mM_worthOf 11 [some (jvR 76), some (jvI l1), some (jvI l2), some (jvI (l3 + 1)), some (jvI (l5 + l2)), some (jvI (l5 + 1))] [] μ16 Q)) ∧ (r19 = 0 → ((-2147483648 ≤ (l5 + 1) ∧ (l5 + 1) < 2147483648)) ∧ (K 121 E mM_worthOf 11 [some (jvR 76), some (jvI l1), some (jvI l2), some (jvI l3), some (jvI l4), some (jvI (l5 + 1))] [] μ16 Q)))))))))))))))) : K 121 E mM_worthOf 11 [some (jvR 76), some (jvI l1), some (jvI l2), some (jvI l3), some (jvI l4), some (jvI l5)] [] μ Q := by
  refine K_iload 5 l5 dM_worthOf_11 rfl ?_
  refine K_iload_n 2 l2 dM_worthOf_13 rfl rfl ?_
  refine K_iadd dM_worthOf_14 (w32_id hF.1) ?_
  refine K_aload_n 0 76 dM_worthOf_15 rfl rfl ?_
  refine K_callVi mM_steps 12 76 [] dM_worthOf_16 pm_M_294 ⟨_, rfl, rfl⟩ ⟨(Nat.le_of_ble_eq_true rfl), (Nat.le_of_ble_eq_true rfl)⟩ rfl rfl (by decide) (Nat.le_of_ble_eq_true rfl) rfl (Nat.le_of_ble_eq_true rfl) (by decide) (Ci_mono hF.2 (fun r4 μ1 h2 => ?_))
  refine K_icmp_gt 68 dM_worthOf_19 (by decide) (fun c5 => ?_) (fun c5 => ?_)
  · refine K_iload_n 3 l3 dM_worthOf_68 rfl rfl ?_
    refine K_iload_n 2 l2 dM_worthOf_69 rfl rfl ?_
    refine K_iconst 1 dM_worthOf_70 rfl ?_
    refine K_isub dM_worthOf_71 (w32_id (h2.1 c5).1.1) ?_
    refine K_imul dM_worthOf_72 (w32_id (h2.1 c5).1.2.1) ?_
    refine K_iload_n 2 l2 dM_worthOf_73 rfl rfl ?_
    refine K_isub dM_worthOf_74 (w32_id (h2.1 c5).1.2.2) ?_
    exact K_iret dM_worthOf_75 (Or.inl rfl) (h2.1 c5).2
  · refine K_iload 5 l5 dM_worthOf_22 rfl ?_
    refine K_iload 4 l4 dM_worthOf_24 rfl ?_
    refine K_icmp_lt 62 dM_worthOf_26 (by decide) (fun c8 => ?_) (fun c8 => ?_)
    · refine K_iinc 5 dM_worthOf_62 (Nat.le_of_ble_eq_true rfl) rfl (w32_ok ((h2.2 c5).1 c8).1) rfl ?_
      refine K_goto 11 dM_worthOf_65 (by decide) ?_
      exact ((h2.2 c5).1 c8).2
    · refine K_aload_n 0 76 dM_worthOf_29 rfl rfl ?_
      refine K_iload 5 l5 dM_worthOf_30 rfl ?_
      refine K_iload_n 2 l2 dM_worthOf_32 rfl rfl ?_
      refine K_callVi mM_isRun 12 76 [jvI l5, jvI l2] dM_worthOf_33 pm_M_405 ⟨_, rfl, rfl⟩ ⟨(Nat.le_of_ble_eq_true rfl), (Nat.le_of_ble_eq_true rfl)⟩ rfl rfl (by decide) (Nat.le_of_ble_eq_true rfl) rfl (Nat.le_of_ble_eq_true rfl) (by decide) (Ci_mono ((h2.2 c5).2 c8) (fun r13 μ10 h11 => ?_))
      refine K_if_eq 62 dM_worthOf_36 (by decide) (fun c14 => ?_) (fun c14 => ?_)
      · refine K_iinc 5 dM_worthOf_62 (Nat.le_of_ble_eq_true rfl) rfl (w32_ok (h11.1 c14).1) rfl ?_
        refine K_goto 11 dM_worthOf_65 (by decide) ?_
        exact (h11.1 c14).2
      · refine K_aload_n 0 76 dM_worthOf_39 rfl rfl ?_
        refine K_iload_n 1 l1 dM_worthOf_40 rfl rfl ?_
        refine K_iload 5 l5 dM_worthOf_41 rfl ?_
        refine K_iload_n 2 l2 dM_worthOf_43 rfl rfl ?_
        refine K_callVi mM_areAlike 12 76 [jvI l1, jvI l5, jvI l2] dM_worthOf_44 pm_M_411 ⟨_, rfl, rfl⟩ ⟨(Nat.le_of_ble_eq_true rfl), (Nat.le_of_ble_eq_true rfl)⟩ rfl rfl (by decide) (Nat.le_of_ble_eq_true rfl) rfl (Nat.le_of_ble_eq_true rfl) (by decide) (Ci_mono (h11.2 c14) (fun r19 μ16 h17 => ?_))
        refine K_if_ne 53 dM_worthOf_47 (by decide) (fun c20 => ?_) (fun c20 => ?_)
        · refine K_iinc 3 dM_worthOf_53 (Nat.le_of_ble_eq_true rfl) rfl (w32_ok (h17.1 c20).1.1) rfl ?_
          refine K_iload 5 l5 dM_worthOf_56 rfl ?_
          refine K_iload_n 2 l2 dM_worthOf_58 rfl rfl ?_
          refine K_iadd dM_worthOf_59 (w32_id (h17.1 c20).1.2.1) ?_
          refine K_istore 4 dM_worthOf_60 (Nat.le_of_ble_eq_true rfl) rfl ?_
          refine K_iinc 5 dM_worthOf_62 (Nat.le_of_ble_eq_true rfl) rfl (w32_ok (h17.1 c20).1.2.2) rfl ?_
          refine K_goto 11 dM_worthOf_65 (by decide) ?_
          exact (h17.1 c20).2
        · refine K_goto 62 dM_worthOf_50 (by decide) ?_
          refine K_iinc 5 dM_worthOf_62 (Nat.le_of_ble_eq_true rfl) rfl (w32_ok (h17.2 c20).1) rfl ?_
          refine K_goto 11 dM_worthOf_65 (by decide) ?_
          exact (h17.2 c20).2
set_option maxHeartbeats 8000000 in
theorem vM_lemma_0 {E : jE} {μ : jMu} {Q : Option AV → jMu → Prop} {a0 : Int} (hF : (Ci E mM_isIn [jvL a0, jvL 0, jvL 2] μ (fun r4 μ1 => ((¬ r4 = 0 → (K 121 E mM_lemma 24 [some (jvR 76), some (jvI a0), some (jvI (-1)), some (jvI (-1)), some (jvI 0), some (jvI 0), none] [] μ1 Q)) ∧ (r4 = 0 → (Q (some (jvI (-1))) μ1)))))) : K 121 E mM_lemma 0 [some (jvR 76), some (jvI a0), none, none, none, none, none] [] μ Q := by
  refine K_iload_n 1 a0 dM_lemma_0 rfl rfl ?_
  refine K_i2l dM_lemma_1 rfl ?_
  refine K_lconst 0 dM_lemma_2 rfl ?_
  refine K_ldc2 2 dM_lemma_3 pc_M_395 rfl ?_
  refine K_callSi mM_isIn [jvL a0, jvL 0, jvL 2] dM_lemma_6 pm_M_196 ⟨(Nat.le_of_ble_eq_true rfl), (Nat.le_of_ble_eq_true rfl)⟩ (Nat.le_of_ble_eq_true rfl) rfl (Nat.le_of_ble_eq_true rfl) (by decide) (Ci_mono hF (fun r4 μ1 h2 => ?_))
  refine K_if_ne 14 dM_lemma_9 (by decide) (fun c5 => ?_) (fun c5 => ?_)
  · refine K_iconst (-1) dM_lemma_14 rfl ?_
    refine K_istore_n 2 dM_lemma_15 rfl (Nat.le_of_ble_eq_true rfl) rfl ?_
    refine K_iconst (-1) dM_lemma_16 rfl ?_
    refine K_istore_n 3 dM_lemma_17 rfl (Nat.le_of_ble_eq_true rfl) rfl ?_
    refine K_iconst 0 dM_lemma_18 rfl ?_
    refine K_istore 4 dM_lemma_19 (Nat.le_of_ble_eq_true rfl) rfl ?_
    refine K_iconst 0 dM_lemma_21 rfl ?_
    refine K_istore 5 dM_lemma_22 (Nat.le_of_ble_eq_true rfl) rfl ?_
    exact (h2.1 c5)
  · refine K_iconst (-1) dM_lemma_12 rfl ?_
    exact K_iret dM_lemma_13 (Or.inl rfl) (h2.2 c5)
set_option maxHeartbeats 8000000 in
theorem vM_lemma_24 {E : jE} {μ : jMu} {Q : Option AV → jMu → Prop} {l1 l2 l3 l4 l5 : Int} (hF : (Ci E mM_steps [jvR 76] μ (fun r4 μ1 => ((r4 ≤ l5 → ((¬ l2 = (-1) → ((¬ l1 = 0 → ((¬ l1 = 1 → (Q (some (jvI l4)) μ1)) ∧ (l1 = 1 → (Q (some (jvI l3)) μ1)))) ∧ (l1 = 0 → (Q (some (jvI l2)) μ1)))) ∧ (l2 = (-1) → (Q (some (jvI (-1))) μ1)))) ∧ (¬ (r4 ≤ l5) → (K 121 E mM_lemma 36 [some (jvR 76), some (jvI l1), some (jvI l2), some (jvI l3), some (jvI l4), some (jvI l5), some (jvI 2)] [] μ1 Q)))))) : K 121 E mM_lemma 24 [some (jvR 76), some (jvI l1), some (jvI l2), some (jvI l3), some (jvI l4), some (jvI l5), none] [] μ Q := by
  refine K_iload 5 l5 dM_lemma_24 rfl ?_
  refine K_aload_n 0 76 dM_lemma_26 rfl rfl ?_
  refine K_callVi mM_steps 12 76 [] dM_lemma_27 pm_M_294 ⟨_, rfl, rfl⟩ ⟨(Nat.le_of_ble_eq_true rfl), (Nat.le_of_ble_eq_true rfl)⟩ rfl rfl (by decide) (Nat.le_of_ble_eq_true rfl) rfl (Nat.le_of_ble_eq_true rfl) (by decide) (Ci_mono hF (fun r4 μ1 h2 => ?_))
  refine K_icmp_ge 98 dM_lemma_30 (by decide) (fun c5 => ?_) (fun c5 => ?_)
  · refine K_iload_n 2 l2 dM_lemma_98 rfl rfl ?_
    refine K_iconst (-1) dM_lemma_99 rfl ?_
    refine K_icmp_ne 107 dM_lemma_100 (by decide) (fun c7 => ?_) (fun c7 => ?_)
    · refine K_iload_n 1 l1 dM_lemma_107 rfl rfl ?_
      refine K_if_ne 115 dM_lemma_108 (by decide) (fun c9 => ?_) (fun c9 => ?_)
      · refine K_iload_n 1 l1 dM_lemma_115 rfl rfl ?_
        refine K_iconst 1 dM_lemma_116 rfl ?_
        refine K_icmp_ne 124 dM_lemma_117 (by decide) (fun c11 => ?_) (fun c11 => ?_)
        · refine K_iload 4 l4 dM_lemma_124 rfl ?_
          exact K_iret dM_lemma_126 (Or.inl rfl) ((((h2.1 c5).1 c7).1 c9).1 c11)
        · refine K_iload_n 3 l3 dM_lemma_120 rfl rfl ?_
          refine K_goto 126 dM_lemma_121 (by decide) ?_
          exact K_iret dM_lemma_126 (Or.inl rfl) ((((h2.1 c5).1 c7).1 c9).2 c11)
      · refine K_iload_n 2 l2 dM_lemma_111 rfl rfl ?_
        refine K_goto 126 dM_lemma_112 (by decide) ?_
        exact K_iret dM_lemma_126 (Or.inl rfl) (((h2.1 c5).1 c7).2 c9)
    · refine K_iconst (-1) dM_lemma_103 rfl ?_
      refine K_goto 126 dM_lemma_104 (by decide) ?_
      exact K_iret dM_lemma_126 (Or.inl rfl) ((h2.1 c5).2 c7)
  · refine K_iconst 2 dM_lemma_33 rfl ?_
    refine K_istore 6 dM_lemma_34 (Nat.le_of_ble_eq_true rfl) rfl ?_
    exact (h2.2 c5)
set_option maxHeartbeats 8000000 in
theorem vM_lemma_36 {E : jE} {μ : jMu} {Q : Option AV → jMu → Prop} {l1 l2 l3 l4 l5 l6 : Int} (hF : ((9 ≤ l6 → ((-2147483648 ≤ (l5 + 1) ∧ (l5 + 1) < 2147483648)) ∧ (K 121 E mM_lemma 24 [some (jvR 76), some (jvI l1), some (jvI l2), some (jvI l3), some (jvI l4), some (jvI (l5 + 1)), none] [] μ Q)) ∧ (¬ (9 ≤ l6) → (Ci E mM_isNew [jvR 76, jvI l5, jvI l6] μ (fun r6 μ3 => ((r6 = 0 → ((-2147483648 ≤ (l6 + 1) ∧ (l6 + 1) < 2147483648)) ∧ (K 121 E mM_lemma 36 [some (jvR 76), some (jvI l1), some (jvI l2), some (jvI l3), some (jvI l4), some (jvI l5), some (jvI (l6 + 1))] [] μ3 Q)) ∧ (¬ (r6 = 0) → (Ci E mM_worthOf [jvR 76, jvI l5, jvI l6] μ3 (fun r12 μ9 => ((l4 < r12 → (Ci E mM_worthOf [jvR 76, jvI l5, jvI l6] μ9 (fun r18 μ15 => ((-2147483648 ≤ (l6 + 1) ∧ (l6 + 1) < 2147483648)) ∧ (K 121 E mM_lemma 36 [some (jvR 76), some (jvI l1), some (jvI l5), some (jvI l6), some (jvI r18), some (jvI l5), some (jvI (l6 + 1))] [] μ15 Q)))) ∧ (¬ (l4 < r12) → ((-2147483648 ≤ (l6 + 1) ∧ (l6 + 1) < 2147483648)) ∧ (K 121 E mM_lemma 36 [some (jvR 76), some (jvI l1), some (jvI l2), some (jvI l3), some (jvI l4), some (jvI l5), some (jvI (l6 + 1))] [] μ9 Q)))))))))))) : K 121 E mM_lemma 36 [some (jvR 76), some (jvI l1), some (jvI l2), some (jvI l3), some (jvI l4), some (jvI l5), some (jvI l6)] [] μ Q := by
  refine K_iload 6 l6 dM_lemma_36 rfl ?_
  refine K_bipush 9 dM_lemma_38 rfl ?_
  refine K_icmp_ge 92 dM_lemma_40 (by decide) (fun c1 => ?_) (fun c1 => ?_)
  · refine K_iinc 5 dM_lemma_92 (Nat.le_of_ble_eq_true rfl) rfl (w32_ok (hF.1 c1).1) rfl ?_
    refine K_goto 24 dM_lemma_95 (by decide) ?_
    exact K_forget [true, true, true, true, true, true, false] (hF.1 c1).2
  · refine K_aload_n 0 76 dM_lemma_43 rfl rfl ?_
    refine K_iload 5 l5 dM_lemma_44 rfl ?_
    refine K_iload 6 l6 dM_lemma_46 rfl ?_
    refine K_callVi mM_isNew 12 76 [jvI l5, jvI l6] dM_lemma_48 pm_M_414 ⟨_, rfl, rfl⟩ ⟨(Nat.le_of_ble_eq_true rfl), (Nat.le_of_ble_eq_true rfl)⟩ rfl rfl (by decide) (Nat.le_of_ble_eq_true rfl) rfl (Nat.le_of_ble_eq_true rfl) (by decide) (Ci_mono (hF.2 c1) (fun r6 μ3 h4 => ?_))
    refine K_if_eq 86 dM_lemma_51 (by decide) (fun c7 => ?_) (fun c7 => ?_)
    · refine K_iinc 6 dM_lemma_86 (Nat.le_of_ble_eq_true rfl) rfl (w32_ok (h4.1 c7).1) rfl ?_
      refine K_goto 36 dM_lemma_89 (by decide) ?_
      exact (h4.1 c7).2
    · refine K_aload_n 0 76 dM_lemma_54 rfl rfl ?_
      refine K_iload 5 l5 dM_lemma_55 rfl ?_
      refine K_iload 6 l6 dM_lemma_57 rfl ?_
      refine K_callVi mM_worthOf 12 76 [jvI l5, jvI l6] dM_lemma_59 pm_M_417 ⟨_, rfl, rfl⟩ ⟨(Nat.le_of_ble_eq_true rfl), (Nat.le_of_ble_eq_true rfl)⟩ rfl rfl (by decide) (Nat.le_of_ble_eq_true rfl) rfl (Nat.le_of_ble_eq_true rfl) (by decide) (Ci_mono (h4.2 c7) (fun r12 μ9 h10 => ?_))
      refine K_iload 4 l4 dM_lemma_62 rfl ?_
      refine K_icmp_gt 70 dM_lemma_64 (by decide) (fun c13 => ?_) (fun c13 => ?_)
      · refine K_iload 5 l5 dM_lemma_70 rfl ?_
        refine K_istore_n 2 dM_lemma_72 rfl (Nat.le_of_ble_eq_true rfl) rfl ?_
        refine K_iload 6 l6 dM_lemma_73 rfl ?_
        refine K_istore_n 3 dM_lemma_75 rfl (Nat.le_of_ble_eq_true rfl) rfl ?_
        refine K_aload_n 0 76 dM_lemma_76 rfl rfl ?_
        refine K_iload 5 l5 dM_lemma_77 rfl ?_
        refine K_iload 6 l6 dM_lemma_79 rfl ?_
        refine K_callVi mM_worthOf 12 76 [jvI l5, jvI l6] dM_lemma_81 pm_M_417 ⟨_, rfl, rfl⟩ ⟨(Nat.le_of_ble_eq_true rfl), (Nat.le_of_ble_eq_true rfl)⟩ rfl rfl (by decide) (Nat.le_of_ble_eq_true rfl) rfl (Nat.le_of_ble_eq_true rfl) (by decide) (Ci_mono (h10.1 c13) (fun r18 μ15 h16 => ?_))
        refine K_istore 4 dM_lemma_84 (Nat.le_of_ble_eq_true rfl) rfl ?_
        refine K_iinc 6 dM_lemma_86 (Nat.le_of_ble_eq_true rfl) rfl (w32_ok h16.1) rfl ?_
        refine K_goto 36 dM_lemma_89 (by decide) ?_
        exact h16.2
      · refine K_goto 86 dM_lemma_67 (by decide) ?_
        refine K_iinc 6 dM_lemma_86 (Nat.le_of_ble_eq_true rfl) rfl (w32_ok (h10.2 c13).1) rfl ?_
        refine K_goto 36 dM_lemma_89 (by decide) ?_
        exact (h10.2 c13).2
set_option maxHeartbeats 8000000 in
theorem vM_order_0 {E : jE} {μ : jMu} {Q : Option AV → jMu → Prop} {a0 : Int} (hF : (((μ 76 44) = 0 → (Q (some (jvI (-1))) μ)) ∧ (¬ ((μ 76 44) = 0) → ((14 < (μ 76 44) → (Q (some (jvI (-1))) μ)) ∧ (¬ (14 < (μ 76 44)) → ((a0 = (-1) → (Cv E mM_orders [jvR 76] μ (fun μ9 => ((¬ a0 = (-1) → (K 121 E mM_order 65 [some (jvR 76), some (jvI a0), some (jvI (μ9 115 0)), some (jvI 0), some (jvI 0), some (jvI 0)] [] μ9 Q)) ∧ (a0 = (-1) → (Q (some (jvI (μ9 115 0))) μ9)))))) ∧ (¬ (a0 = (-1)) → ((-2147483648 ≤ ((μ 76 44) - 1) ∧ ((μ 76 44) - 1) < 2147483648)) ∧ (Ci E mM_isIn [jvL a0, jvL 0, jvL ((μ 76 44) - 1)] μ (fun r18 μ15 => ((¬ r18 = 0 → (Cv E mM_orders [jvR 76] μ15 (fun μ21 => ((¬ a0 = (-1) → (K 121 E mM_order 65 [some (jvR 76), some (jvI a0), some (jvI (μ21 115 0)), some (jvI 0), some (jvI 0), some (jvI 0)] [] μ21 Q)) ∧ (a0 = (-1) → (Q (some (jvI (μ21 115 0))) μ21)))))) ∧ (r18 = 0 → (Q (some (jvI (-1))) μ15)))))))))))) : K 121 E mM_order 0 [some (jvR 76), some (jvI a0), none, none, none, none] [] μ Q := by
  refine K_aload_n 0 76 dM_order_0 rfl rfl ?_
  refine K_getf 12 44 76 (jvI (μ 76 44)) dM_order_1 pf_M_331 rfl rfl (by decide) rfl rfl ?_
  refine K_if_eq 37 dM_order_4 (by decide) (fun c1 => ?_) (fun c1 => ?_)
  · refine K_iconst (-1) dM_order_37 rfl ?_
    exact K_iret dM_order_38 (Or.inl rfl) (hF.1 c1)
  · refine K_aload_n 0 76 dM_order_7 rfl rfl ?_
    refine K_getf 12 44 76 (jvI (μ 76 44)) dM_order_8 pf_M_331 rfl rfl (by decide) rfl rfl ?_
    refine K_bipush 14 dM_order_11 rfl ?_
    refine K_icmp_gt 37 dM_order_13 (by decide) (fun c4 => ?_) (fun c4 => ?_)
    · refine K_iconst (-1) dM_order_37 rfl ?_
      exact K_iret dM_order_38 (Or.inl rfl) ((hF.2 c1).1 c4)
    · refine K_iload_n 1 a0 dM_order_16 rfl rfl ?_
      refine K_iconst (-1) dM_order_17 rfl ?_
      refine K_icmp_eq 39 dM_order_18 (by decide) (fun c7 => ?_) (fun c7 => ?_)
      · refine K_aload_n 0 76 dM_order_39 rfl rfl ?_
        refine K_callVv mM_orders 12 76 [] dM_order_40 pm_M_429 ⟨_, rfl, rfl⟩ ⟨(Nat.le_of_ble_eq_true rfl), (Nat.le_of_ble_eq_true rfl)⟩ rfl rfl (by decide) (Nat.le_of_ble_eq_true rfl) rfl (Nat.le_of_ble_eq_true rfl) (by decide) (Cv_mono (((hF.2 c1).2 c4).1 c7) (fun μ9 h10 => ?_))
        refine K_aload_n 0 76 dM_order_43 rfl rfl ?_
        refine K_getf 12 56 76 (jvR 115) dM_order_44 pf_M_131 rfl rfl (by decide) rfl rfl ?_
        refine K_iconst 0 dM_order_47 rfl ?_
        refine K_iald 115 16384 dM_order_48 rfl rfl (by decide) (by decide) ?_
        refine K_istore_n 2 dM_order_49 rfl (Nat.le_of_ble_eq_true rfl) rfl ?_
        refine K_iload_n 1 a0 dM_order_50 rfl rfl ?_
        refine K_iconst (-1) dM_order_51 rfl ?_
        refine K_icmp_ne 57 dM_order_52 (by decide) (fun c12 => ?_) (fun c12 => ?_)
        · refine K_iconst 0 dM_order_57 rfl ?_
          refine K_istore_n 3 dM_order_58 rfl (Nat.le_of_ble_eq_true rfl) rfl ?_
          refine K_iconst 0 dM_order_59 rfl ?_
          refine K_istore 4 dM_order_60 (Nat.le_of_ble_eq_true rfl) rfl ?_
          refine K_iconst 0 dM_order_62 rfl ?_
          refine K_istore 5 dM_order_63 (Nat.le_of_ble_eq_true rfl) rfl ?_
          exact (h10.1 c12)
        · refine K_iload_n 2 (μ9 115 0) dM_order_55 rfl rfl ?_
          exact K_iret dM_order_56 (Or.inl rfl) (h10.2 c12)
      · refine K_iload_n 1 a0 dM_order_21 rfl rfl ?_
        refine K_i2l dM_order_22 rfl ?_
        refine K_lconst 0 dM_order_23 rfl ?_
        refine K_aload_n 0 76 dM_order_24 rfl rfl ?_
        refine K_getf 12 44 76 (jvI (μ 76 44)) dM_order_25 pf_M_331 rfl rfl (by decide) rfl rfl ?_
        refine K_iconst 1 dM_order_28 rfl ?_
        refine K_isub dM_order_29 (w32_id (((hF.2 c1).2 c4).2 c7).1) ?_
        refine K_i2l dM_order_30 rfl ?_
        refine K_callSi mM_isIn [jvL a0, jvL 0, jvL ((μ 76 44) - 1)] dM_order_31 pm_M_196 ⟨(Nat.le_of_ble_eq_true rfl), (Nat.le_of_ble_eq_true rfl)⟩ (Nat.le_of_ble_eq_true rfl) rfl (Nat.le_of_ble_eq_true rfl) (by decide) (Ci_mono (((hF.2 c1).2 c4).2 c7).2 (fun r18 μ15 h16 => ?_))
        refine K_if_ne 39 dM_order_34 (by decide) (fun c19 => ?_) (fun c19 => ?_)
        · refine K_aload_n 0 76 dM_order_39 rfl rfl ?_
          refine K_callVv mM_orders 12 76 [] dM_order_40 pm_M_429 ⟨_, rfl, rfl⟩ ⟨(Nat.le_of_ble_eq_true rfl), (Nat.le_of_ble_eq_true rfl)⟩ rfl rfl (by decide) (Nat.le_of_ble_eq_true rfl) rfl (Nat.le_of_ble_eq_true rfl) (by decide) (Cv_mono (h16.1 c19) (fun μ21 h22 => ?_))
          refine K_aload_n 0 76 dM_order_43 rfl rfl ?_
          refine K_getf 12 56 76 (jvR 115) dM_order_44 pf_M_131 rfl rfl (by decide) rfl rfl ?_
          refine K_iconst 0 dM_order_47 rfl ?_
          refine K_iald 115 16384 dM_order_48 rfl rfl (by decide) (by decide) ?_
          refine K_istore_n 2 dM_order_49 rfl (Nat.le_of_ble_eq_true rfl) rfl ?_
          refine K_iload_n 1 a0 dM_order_50 rfl rfl ?_
          refine K_iconst (-1) dM_order_51 rfl ?_
          refine K_icmp_ne 57 dM_order_52 (by decide) (fun c24 => ?_) (fun c24 => ?_)
          · refine K_iconst 0 dM_order_57 rfl ?_
            refine K_istore_n 3 dM_order_58 rfl (Nat.le_of_ble_eq_true rfl) rfl ?_
            refine K_iconst 0 dM_order_59 rfl ?_
            refine K_istore 4 dM_order_60 (Nat.le_of_ble_eq_true rfl) rfl ?_
            refine K_iconst 0 dM_order_62 rfl ?_
            refine K_istore 5 dM_order_63 (Nat.le_of_ble_eq_true rfl) rfl ?_
            exact (h22.1 c24)
          · refine K_iload_n 2 (μ21 115 0) dM_order_55 rfl rfl ?_
            exact K_iret dM_order_56 (Or.inl rfl) (h22.2 c24)
        · refine K_iconst (-1) dM_order_37 rfl ?_
          exact K_iret dM_order_38 (Or.inl rfl) (h16.2 c19)
set_option maxHeartbeats 8000000 in
theorem vM_order_65 {E : jE} {μ : jMu} {Q : Option AV → jMu → Prop} {l1 l2 l3 l4 l5 : Int} (hF : ((l1 < l5 → (Q (some (jvI l4)) μ)) ∧ (¬ (l1 < l5) → (K 121 E mM_order 74 [some (jvR 76), some (jvI l1), some (jvI l2), some (jvI l3), some (jvI 0), some (jvI l5)] [] μ Q)))) : K 121 E mM_order 65 [some (jvR 76), some (jvI l1), some (jvI l2), some (jvI l3), some (jvI l4), some (jvI l5)] [] μ Q := by
  refine K_iload 5 l5 dM_order_65 rfl ?_
  refine K_iload_n 1 l1 dM_order_67 rfl rfl ?_
  refine K_icmp_gt 104 dM_order_68 (by decide) (fun c1 => ?_) (fun c1 => ?_)
  · refine K_iload 4 l4 dM_order_104 rfl ?_
    exact K_iret dM_order_106 (Or.inl rfl) (hF.1 c1)
  · refine K_iconst 0 dM_order_71 rfl ?_
    refine K_istore 4 dM_order_72 (Nat.le_of_ble_eq_true rfl) rfl ?_
    exact (hF.2 c1)
set_option maxHeartbeats 8000000 in
theorem vM_order_74 {E : jE} {μ : jMu} {Q : Option AV → jMu → Prop} {l1 l2 l3 l4 l5 : Int} (hF : (Ci E mM_heldBy [jvR 76, jvI l3, jvI l4] μ (fun r4 μ1 => ((r4 ≤ l2 → ((-2147483648 ≤ (l5 + 1) ∧ (l5 + 1) < 2147483648)) ∧ (K 121 E mM_order 65 [some (jvR 76), some (jvI l1), some (jvI l2), some (jvI (ior32 l3 (ishl32 1 l4))), some (jvI l4), some (jvI (l5 + 1))] [] μ1 Q)) ∧ (¬ (r4 ≤ l2) → ((-2147483648 ≤ (l4 + 1) ∧ (l4 + 1) < 2147483648)) ∧ (K 121 E mM_order 74 [some (jvR 76), some (jvI l1), some (jvI l2), some (jvI l3), some (jvI (l4 + 1)), some (jvI l5)] [] μ1 Q)))))) : K 121 E mM_order 74 [some (jvR 76), some (jvI l1), some (jvI l2), some (jvI l3), some (jvI l4), some (jvI l5)] [] μ Q := by
  refine K_aload_n 0 76 dM_order_74 rfl rfl ?_
  refine K_iload_n 3 l3 dM_order_75 rfl rfl ?_
  refine K_iload 4 l4 dM_order_76 rfl ?_
  refine K_callVi mM_heldBy 12 76 [jvI l3, jvI l4] dM_order_78 pm_M_426 ⟨_, rfl, rfl⟩ ⟨(Nat.le_of_ble_eq_true rfl), (Nat.le_of_ble_eq_true rfl)⟩ rfl rfl (by decide) (Nat.le_of_ble_eq_true rfl) rfl (Nat.le_of_ble_eq_true rfl) (by decide) (Ci_mono hF (fun r4 μ1 h2 => ?_))
  refine K_iload_n 2 l2 dM_order_81 rfl rfl ?_
  refine K_icmp_le 91 dM_order_82 (by decide) (fun c5 => ?_) (fun c5 => ?_)
  · refine K_iload_n 3 l3 dM_order_91 rfl rfl ?_
    refine K_iconst 1 dM_order_92 rfl ?_
    refine K_iload 4 l4 dM_order_93 rfl ?_
    refine K_ishl dM_order_95 rfl ?_
    refine K_ior dM_order_96 rfl ?_
    refine K_istore_n 3 dM_order_97 rfl (Nat.le_of_ble_eq_true rfl) rfl ?_
    refine K_iinc 5 dM_order_98 (Nat.le_of_ble_eq_true rfl) rfl (w32_ok (h2.1 c5).1) rfl ?_
    refine K_goto 65 dM_order_101 (by decide) ?_
    exact (h2.1 c5).2
  · refine K_iinc 4 dM_order_85 (Nat.le_of_ble_eq_true rfl) rfl (w32_ok (h2.2 c5).1) rfl ?_
    refine K_goto 74 dM_order_88 (by decide) ?_
    exact (h2.2 c5).2
set_option maxHeartbeats 8000000 in
theorem vM_orders_0 {E : jE} {μ : jMu} {Q : Option AV → jMu → Prop} (hF : (Cv E mM_ties [jvR 76] μ (fun μ1 => ((-2147483648 ≤ ((ishl32 1 (μ1 76 44)) - 1) ∧ ((ishl32 1 (μ1 76 44)) - 1) < 2147483648) ∧ (0 ≤ ((ishl32 1 (μ1 76 44)) - 1) ∧ ((ishl32 1 (μ1 76 44)) - 1) < 16384) ∧ (-2147483648 ≤ (((ishl32 1 (μ1 76 44)) - 1) - 1) ∧ (((ishl32 1 (μ1 76 44)) - 1) - 1) < 2147483648)) ∧ (K 121 E mM_orders 24 [some (jvR 76), some (jvI ((ishl32 1 (μ1 76 44)) - 1)), some (jvI (((ishl32 1 (μ1 76 44)) - 1) - 1)), none, none] [] (j_up μ1 115 ((ishl32 1 (μ1 76 44)) - 1) 0) Q)))) : K 121 E mM_orders 0 [some (jvR 76), none, none, none, none] [] μ Q := by
  refine K_aload_n 0 76 dM_orders_0 rfl rfl ?_
  refine K_callVv mM_ties 12 76 [] dM_orders_1 pm_M_423 ⟨_, rfl, rfl⟩ ⟨(Nat.le_of_ble_eq_true rfl), (Nat.le_of_ble_eq_true rfl)⟩ rfl rfl (by decide) (Nat.le_of_ble_eq_true rfl) rfl (Nat.le_of_ble_eq_true rfl) (by decide) (Cv_mono hF (fun μ1 h2 => ?_))
  refine K_iconst 1 dM_orders_4 rfl ?_
  refine K_aload_n 0 76 dM_orders_5 rfl rfl ?_
  refine K_getf 12 44 76 (jvI (μ1 76 44)) dM_orders_6 pf_M_331 rfl rfl (by decide) rfl rfl ?_
  refine K_ishl dM_orders_9 rfl ?_
  refine K_iconst 1 dM_orders_10 rfl ?_
  refine K_isub dM_orders_11 (w32_id h2.1.1) ?_
  refine K_istore_n 1 dM_orders_12 rfl (Nat.le_of_ble_eq_true rfl) rfl ?_
  refine K_aload_n 0 76 dM_orders_13 rfl rfl ?_
  refine K_getf 12 56 76 (jvR 115) dM_orders_14 pf_M_131 rfl rfl (by decide) rfl rfl ?_
  refine K_iload_n 1 ((ishl32 1 (μ1 76 44)) - 1) dM_orders_17 rfl rfl ?_
  refine K_iconst 0 dM_orders_18 rfl ?_
  refine K_iast 115 16384 dM_orders_19 rfl rfl (by decide) h2.1.2.1 ?_
  refine K_iload_n 1 ((ishl32 1 (μ1 76 44)) - 1) dM_orders_20 rfl rfl ?_
  refine K_iconst 1 dM_orders_21 rfl ?_
  refine K_isub dM_orders_22 (w32_id h2.1.2.2) ?_
  refine K_istore_n 2 dM_orders_23 rfl (Nat.le_of_ble_eq_true rfl) rfl ?_
  exact h2.2
set_option maxHeartbeats 8000000 in
theorem vM_orders_24 {E : jE} {μ : jMu} {Q : Option AV → jMu → Prop} {l1 l2 : Int} (hF : ((l2 < 0 → (Q none μ)) ∧ (¬ (l2 < 0) → ((0 ≤ l2 ∧ l2 < 16384)) ∧ (K 121 E mM_orders 38 [some (jvR 76), some (jvI l1), some (jvI l2), some (jvI 0), none] [] (j_up μ 115 l2 100) Q)))) : K 121 E mM_orders 24 [some (jvR 76), some (jvI l1), some (jvI l2), none, none] [] μ Q := by
  refine K_iload_n 2 l2 dM_orders_24 rfl rfl ?_
  refine K_if_lt 85 dM_orders_25 (by decide) (fun c1 => ?_) (fun c1 => ?_)
  · exact K_vret dM_orders_85 rfl (hF.1 c1)
  · refine K_aload_n 0 76 dM_orders_28 rfl rfl ?_
    refine K_getf 12 56 76 (jvR 115) dM_orders_29 pf_M_131 rfl rfl (by decide) rfl rfl ?_
    refine K_iload_n 2 l2 dM_orders_32 rfl rfl ?_
    refine K_bipush 100 dM_orders_33 rfl ?_
    refine K_iast 115 16384 dM_orders_35 rfl rfl (by decide) (hF.2 c1).1 ?_
    refine K_iconst 0 dM_orders_36 rfl ?_
    refine K_istore_n 3 dM_orders_37 rfl (Nat.le_of_ble_eq_true rfl) rfl ?_
    exact (hF.2 c1).2
set_option maxHeartbeats 8000000 in
theorem vM_orders_38 {E : jE} {μ : jMu} {Q : Option AV → jMu → Prop} {l1 l2 l3 : Int} (hF : (((μ 76 44) ≤ l3 → ((-2147483648 ≤ (l2 - 1) ∧ (l2 - 1) < 2147483648)) ∧ (K 121 E mM_orders 24 [some (jvR 76), some (jvI l1), some (jvI (l2 - 1)), none, none] [] μ Q)) ∧ (¬ ((μ 76 44) ≤ l3) → (Ci E mM_heldBy [jvR 76, jvI l2, jvI l3] μ (fun r6 μ3 => ((0 ≤ l2 ∧ l2 < 16384)) ∧ (((μ3 115 l2) ≤ r6 → ((-2147483648 ≤ (l3 + 1) ∧ (l3 + 1) < 2147483648)) ∧ (K 121 E mM_orders 38 [some (jvR 76), some (jvI l1), some (jvI l2), some (jvI (l3 + 1)), none] [] μ3 Q)) ∧ (¬ ((μ3 115 l2) ≤ r6) → ((0 ≤ l2 ∧ l2 < 16384) ∧ (-2147483648 ≤ (l3 + 1) ∧ (l3 + 1) < 2147483648)) ∧ (K 121 E mM_orders 38 [some (jvR 76), some (jvI l1), some (jvI l2), some (jvI (l3 + 1)), none] [] (j_up μ3 115 l2 r6) Q)))))))) : K 121 E mM_orders 38 [some (jvR 76), some (jvI l1), some (jvI l2), some (jvI l3), none] [] μ Q := by
  refine K_iload_n 3 l3 dM_orders_38 rfl rfl ?_
  refine K_aload_n 0 76 dM_orders_39 rfl rfl ?_
  refine K_getf 12 44 76 (jvI (μ 76 44)) dM_orders_40 pf_M_331 rfl rfl (by decide) rfl rfl ?_
  refine K_icmp_ge 79 dM_orders_43 (by decide) (fun c1 => ?_) (fun c1 => ?_)
  · refine K_iinc 2 dM_orders_79 (Nat.le_of_ble_eq_true rfl) rfl (w32_okn (hF.1 c1).1) rfl ?_
    refine K_goto 24 dM_orders_82 (by decide) ?_
    exact K_forget [true, true, true, false, true] (hF.1 c1).2
  · refine K_aload_n 0 76 dM_orders_46 rfl rfl ?_
    refine K_iload_n 2 l2 dM_orders_47 rfl rfl ?_
    refine K_iload_n 3 l3 dM_orders_48 rfl rfl ?_
    refine K_callVi mM_heldBy 12 76 [jvI l2, jvI l3] dM_orders_49 pm_M_426 ⟨_, rfl, rfl⟩ ⟨(Nat.le_of_ble_eq_true rfl), (Nat.le_of_ble_eq_true rfl)⟩ rfl rfl (by decide) (Nat.le_of_ble_eq_true rfl) rfl (Nat.le_of_ble_eq_true rfl) (by decide) (Ci_mono (hF.2 c1) (fun r6 μ3 h4 => ?_))
    refine K_istore 4 dM_orders_52 (Nat.le_of_ble_eq_true rfl) rfl ?_
    refine K_iload 4 r6 dM_orders_54 rfl ?_
    refine K_aload_n 0 76 dM_orders_56 rfl rfl ?_
    refine K_getf 12 56 76 (jvR 115) dM_orders_57 pf_M_131 rfl rfl (by decide) rfl rfl ?_
    refine K_iload_n 2 l2 dM_orders_60 rfl rfl ?_
    refine K_iald 115 16384 dM_orders_61 rfl rfl (by decide) h4.1 ?_
    refine K_icmp_ge 73 dM_orders_62 (by decide) (fun c7 => ?_) (fun c7 => ?_)
    · refine K_iinc 3 dM_orders_73 (Nat.le_of_ble_eq_true rfl) rfl (w32_ok (h4.2.1 c7).1) rfl ?_
      refine K_goto 38 dM_orders_76 (by decide) ?_
      exact K_forget [true, true, true, true, false] (h4.2.1 c7).2
    · refine K_aload_n 0 76 dM_orders_65 rfl rfl ?_
      refine K_getf 12 56 76 (jvR 115) dM_orders_66 pf_M_131 rfl rfl (by decide) rfl rfl ?_
      refine K_iload_n 2 l2 dM_orders_69 rfl rfl ?_
      refine K_iload 4 r6 dM_orders_70 rfl ?_
      refine K_iast 115 16384 dM_orders_72 rfl rfl (by decide) (h4.2.2 c7).1.1 ?_
      refine K_iinc 3 dM_orders_73 (Nat.le_of_ble_eq_true rfl) rfl (w32_ok (h4.2.2 c7).1.2) rfl ?_
      refine K_goto 38 dM_orders_76 (by decide) ?_
      exact K_forget [true, true, true, true, false] (h4.2.2 c7).2
set_option maxHeartbeats 8000000 in
theorem vM_ties_0 {E : jE} {μ : jMu} {Q : Option AV → jMu → Prop} (hF : (K 121 E mM_ties 2 [some (jvR 76), some (jvI 0), none] [] μ Q)) : K 121 E mM_ties 0 [some (jvR 76), none, none] [] μ Q := by
  refine K_iconst 0 dM_ties_0 rfl ?_
  refine K_istore_n 1 dM_ties_1 rfl (Nat.le_of_ble_eq_true rfl) rfl ?_
  exact hF
set_option maxHeartbeats 8000000 in
theorem vM_ties_2 {E : jE} {μ : jMu} {Q : Option AV → jMu → Prop} {l1 : Int} (hF : (((μ 76 44) ≤ l1 → (K 121 E mM_ties 25 [some (jvR 76), some (jvI 0), none] [] μ Q)) ∧ (¬ ((μ 76 44) ≤ l1) → ((0 ≤ l1 ∧ l1 < 40) ∧ (-2147483648 ≤ (l1 + 1) ∧ (l1 + 1) < 2147483648)) ∧ (K 121 E mM_ties 2 [some (jvR 76), some (jvI (l1 + 1)), none] [] (j_up μ 117 l1 0) Q)))) : K 121 E mM_ties 2 [some (jvR 76), some (jvI l1), none] [] μ Q := by
  refine K_iload_n 1 l1 dM_ties_2 rfl rfl ?_
  refine K_aload_n 0 76 dM_ties_3 rfl rfl ?_
  refine K_getf 12 44 76 (jvI (μ 76 44)) dM_ties_4 pf_M_331 rfl rfl (by decide) rfl rfl ?_
  refine K_icmp_ge 23 dM_ties_7 (by decide) (fun c1 => ?_) (fun c1 => ?_)
  · refine K_iconst 0 dM_ties_23 rfl ?_
    refine K_istore_n 1 dM_ties_24 rfl (Nat.le_of_ble_eq_true rfl) rfl ?_
    exact (hF.1 c1)
  · refine K_aload_n 0 76 dM_ties_10 rfl rfl ?_
    refine K_getf 12 58 76 (jvR 117) dM_ties_11 pf_M_137 rfl rfl (by decide) rfl rfl ?_
    refine K_iload_n 1 l1 dM_ties_14 rfl rfl ?_
    refine K_iconst 0 dM_ties_15 rfl ?_
    refine K_iast 117 40 dM_ties_16 rfl rfl (by decide) (hF.2 c1).1.1 ?_
    refine K_iinc 1 dM_ties_17 (Nat.le_of_ble_eq_true rfl) rfl (w32_ok (hF.2 c1).1.2) rfl ?_
    refine K_goto 2 dM_ties_20 (by decide) ?_
    exact (hF.2 c1).2
set_option maxHeartbeats 8000000 in
theorem vM_ties_25 {E : jE} {μ : jMu} {Q : Option AV → jMu → Prop} {l1 : Int} (hF : (((μ 76 44) ≤ l1 → (Q none μ)) ∧ (¬ ((μ 76 44) ≤ l1) → ((0 ≤ l1 ∧ l1 < 40)) ∧ (K 121 E mM_ties 42 [some (jvR 76), some (jvI l1), some (jvI 0)] [] (j_up μ 116 l1 0) Q)))) : K 121 E mM_ties 25 [some (jvR 76), some (jvI l1), none] [] μ Q := by
  refine K_iload_n 1 l1 dM_ties_25 rfl rfl ?_
  refine K_aload_n 0 76 dM_ties_26 rfl rfl ?_
  refine K_getf 12 44 76 (jvI (μ 76 44)) dM_ties_27 pf_M_331 rfl rfl (by decide) rfl rfl ?_
  refine K_icmp_ge 102 dM_ties_30 (by decide) (fun c1 => ?_) (fun c1 => ?_)
  · exact K_vret dM_ties_102 rfl (hF.1 c1)
  · refine K_aload_n 0 76 dM_ties_33 rfl rfl ?_
    refine K_getf 12 57 76 (jvR 116) dM_ties_34 pf_M_134 rfl rfl (by decide) rfl rfl ?_
    refine K_iload_n 1 l1 dM_ties_37 rfl rfl ?_
    refine K_iconst 0 dM_ties_38 rfl ?_
    refine K_iast 116 40 dM_ties_39 rfl rfl (by decide) (hF.2 c1).1 ?_
    refine K_iconst 0 dM_ties_40 rfl ?_
    refine K_istore_n 2 dM_ties_41 rfl (Nat.le_of_ble_eq_true rfl) rfl ?_
    exact (hF.2 c1).2
set_option maxHeartbeats 8000000 in
theorem vM_ties_42 {E : jE} {μ : jMu} {Q : Option AV → jMu → Prop} {l1 l2 : Int} (hF : ((0 ≤ l1 ∧ l1 < 40)) ∧ (Ci E mM_namesMany [jvR 76, jvI (μ 105 l1)] μ (fun r4 μ1 => ((r4 ≤ l2 → ((-2147483648 ≤ (l1 + 1) ∧ (l1 + 1) < 2147483648)) ∧ (K 121 E mM_ties 25 [some (jvR 76), some (jvI (l1 + 1)), none] [] μ1 Q)) ∧ (¬ (r4 ≤ l2) → ((0 ≤ l1 ∧ l1 < 40)) ∧ (Ci E mM_leansTo [jvR 76, jvI l1, jvI l2] μ1 (fun r10 μ7 => ((0 ≤ l1 ∧ l1 < 40)) ∧ (Ci E mM_leansTo [jvR 76, jvI l1, jvI l2] (j_up μ7 116 l1 (ior32 (μ1 116 l1) (ishl32 1 r10))) (fun r14 μ11 => ((0 ≤ r14 ∧ r14 < 40) ∧ (0 ≤ r14 ∧ r14 < 40) ∧ (-2147483648 ≤ (l2 + 1) ∧ (l2 + 1) < 2147483648)) ∧ (K 121 E mM_ties 42 [some (jvR 76), some (jvI l1), some (jvI (l2 + 1))] [] (j_up μ11 117 r14 (ior32 (μ11 117 r14) (ishl32 1 l1))) Q)))))))))) : K 121 E mM_ties 42 [some (jvR 76), some (jvI l1), some (jvI l2)] [] μ Q := by
  refine K_iload_n 2 l2 dM_ties_42 rfl rfl ?_
  refine K_aload_n 0 76 dM_ties_43 rfl rfl ?_
  refine K_aload_n 0 76 dM_ties_44 rfl rfl ?_
  refine K_getf 12 42 76 (jvR 105) dM_ties_45 pf_M_100 rfl rfl (by decide) rfl rfl ?_
  refine K_iload_n 1 l1 dM_ties_48 rfl rfl ?_
  refine K_iald 105 40 dM_ties_49 rfl rfl (by decide) hF.1 ?_
  refine K_callVi mM_namesMany 12 76 [jvI (μ 105 l1)] dM_ties_50 pm_M_328 ⟨_, rfl, rfl⟩ ⟨(Nat.le_of_ble_eq_true rfl), (Nat.le_of_ble_eq_true rfl)⟩ rfl rfl (by decide) (Nat.le_of_ble_eq_true rfl) rfl (Nat.le_of_ble_eq_true rfl) (by decide) (Ci_mono hF.2 (fun r4 μ1 h2 => ?_))
  refine K_icmp_ge 96 dM_ties_53 (by decide) (fun c5 => ?_) (fun c5 => ?_)
  · refine K_iinc 1 dM_ties_96 (Nat.le_of_ble_eq_true rfl) rfl (w32_ok (h2.1 c5).1) rfl ?_
    refine K_goto 25 dM_ties_99 (by decide) ?_
    exact K_forget [true, true, false] (h2.1 c5).2
  · refine K_aload_n 0 76 dM_ties_56 rfl rfl ?_
    refine K_getf 12 57 76 (jvR 116) dM_ties_57 pf_M_134 rfl rfl (by decide) rfl rfl ?_
    refine K_iload_n 1 l1 dM_ties_60 rfl rfl ?_
    refine K_dup2 dM_ties_61 (fun _ h => by cases h) (fun _ h => by cases h) ?_
    refine K_iald 116 40 dM_ties_62 rfl rfl (by decide) (h2.2 c5).1 ?_
    refine K_iconst 1 dM_ties_63 rfl ?_
    refine K_aload_n 0 76 dM_ties_64 rfl rfl ?_
    refine K_iload_n 1 l1 dM_ties_65 rfl rfl ?_
    refine K_iload_n 2 l2 dM_ties_66 rfl rfl ?_
    refine K_callVi mM_leansTo 12 76 [jvI l1, jvI l2] dM_ties_67 pm_M_377 ⟨_, rfl, rfl⟩ ⟨(Nat.le_of_ble_eq_true rfl), (Nat.le_of_ble_eq_true rfl)⟩ rfl rfl (by decide) (Nat.le_of_ble_eq_true rfl) rfl (Nat.le_of_ble_eq_true rfl) (by decide) (Ci_mono (h2.2 c5).2 (fun r10 μ7 h8 => ?_))
    refine K_ishl dM_ties_70 rfl ?_
    refine K_ior dM_ties_71 rfl ?_
    refine K_iast 116 40 dM_ties_72 rfl rfl (by decide) h8.1 ?_
    refine K_aload_n 0 76 dM_ties_73 rfl rfl ?_
    refine K_getf 12 58 76 (jvR 117) dM_ties_74 pf_M_137 rfl rfl (by decide) rfl rfl ?_
    refine K_aload_n 0 76 dM_ties_77 rfl rfl ?_
    refine K_iload_n 1 l1 dM_ties_78 rfl rfl ?_
    refine K_iload_n 2 l2 dM_ties_79 rfl rfl ?_
    refine K_callVi mM_leansTo 12 76 [jvI l1, jvI l2] dM_ties_80 pm_M_377 ⟨_, rfl, rfl⟩ ⟨(Nat.le_of_ble_eq_true rfl), (Nat.le_of_ble_eq_true rfl)⟩ rfl rfl (by decide) (Nat.le_of_ble_eq_true rfl) rfl (Nat.le_of_ble_eq_true rfl) (by decide) (Ci_mono h8.2 (fun r14 μ11 h12 => ?_))
    refine K_dup2 dM_ties_83 (fun _ h => by cases h) (fun _ h => by cases h) ?_
    refine K_iald 117 40 dM_ties_84 rfl rfl (by decide) h12.1.1 ?_
    refine K_iconst 1 dM_ties_85 rfl ?_
    refine K_iload_n 1 l1 dM_ties_86 rfl rfl ?_
    refine K_ishl dM_ties_87 rfl ?_
    refine K_ior dM_ties_88 rfl ?_
    refine K_iast 117 40 dM_ties_89 rfl rfl (by decide) h12.1.2.1 ?_
    refine K_iinc 2 dM_ties_90 (Nat.le_of_ble_eq_true rfl) rfl (w32_ok h12.1.2.2) rfl ?_
    refine K_goto 42 dM_ties_93 (by decide) ?_
    exact h12.2
set_option maxHeartbeats 8000000 in
theorem vM_heldBy_0 {E : jE} {μ : jMu} {Q : Option AV → jMu → Prop} {a0 a1 : Int} (hF : (((iand32 (ishr32 a0 a1) 1) = 1 → (Q (some (jvI 100)) μ)) ∧ (¬ ((iand32 (ishr32 a0 a1) 1) = 1) → ((0 ≤ a1 ∧ a1 < 40)) ∧ (((iand32 (μ 116 a1) (ixor32 a0 (-1))) = 0 → (Ci E mM_heldNow [jvR 76, jvI (ior32 a0 (ishl32 1 a1))] μ (fun r9 μ6 => ((0 ≤ (ior32 a0 (ishl32 1 a1)) ∧ (ior32 a0 (ishl32 1 a1)) < 16384)) ∧ ((r9 ≤ (μ6 115 (ior32 a0 (ishl32 1 a1))) → (Q (some (jvI (μ6 115 (ior32 a0 (ishl32 1 a1))))) μ6)) ∧ (¬ (r9 ≤ (μ6 115 (ior32 a0 (ishl32 1 a1)))) → (Q (some (jvI r9)) μ6)))))) ∧ (¬ ((iand32 (μ 116 a1) (ixor32 a0 (-1))) = 0) → (Q (some (jvI 100)) μ)))))) : K 121 E mM_heldBy 0 [some (jvR 76), some (jvI a0), some (jvI a1), none, none] [] μ Q := by
  refine K_iload_n 1 a0 dM_heldBy_0 rfl rfl ?_
  refine K_iload_n 2 a1 dM_heldBy_1 rfl rfl ?_
  refine K_ishr dM_heldBy_2 rfl ?_
  refine K_iconst 1 dM_heldBy_3 rfl ?_
  refine K_iand dM_heldBy_4 rfl ?_
  refine K_iconst 1 dM_heldBy_5 rfl ?_
  refine K_icmp_eq 22 dM_heldBy_6 (by decide) (fun c1 => ?_) (fun c1 => ?_)
  · refine K_bipush 100 dM_heldBy_22 rfl ?_
    exact K_iret dM_heldBy_24 (Or.inl rfl) (hF.1 c1)
  · refine K_aload_n 0 76 dM_heldBy_9 rfl rfl ?_
    refine K_getf 12 57 76 (jvR 116) dM_heldBy_10 pf_M_134 rfl rfl (by decide) rfl rfl ?_
    refine K_iload_n 2 a1 dM_heldBy_13 rfl rfl ?_
    refine K_iald 116 40 dM_heldBy_14 rfl rfl (by decide) (hF.2 c1).1 ?_
    refine K_iload_n 1 a0 dM_heldBy_15 rfl rfl ?_
    refine K_iconst (-1) dM_heldBy_16 rfl ?_
    refine K_ixor dM_heldBy_17 rfl ?_
    refine K_iand dM_heldBy_18 rfl ?_
    refine K_if_eq 25 dM_heldBy_19 (by decide) (fun c4 => ?_) (fun c4 => ?_)
    · refine K_aload_n 0 76 dM_heldBy_25 rfl rfl ?_
      refine K_iload_n 1 a0 dM_heldBy_26 rfl rfl ?_
      refine K_iconst 1 dM_heldBy_27 rfl ?_
      refine K_iload_n 2 a1 dM_heldBy_28 rfl rfl ?_
      refine K_ishl dM_heldBy_29 rfl ?_
      refine K_ior dM_heldBy_30 rfl ?_
      refine K_callVi mM_heldNow 12 76 [jvI (ior32 a0 (ishl32 1 a1))] dM_heldBy_31 pm_M_420 ⟨_, rfl, rfl⟩ ⟨(Nat.le_of_ble_eq_true rfl), (Nat.le_of_ble_eq_true rfl)⟩ rfl rfl (by decide) (Nat.le_of_ble_eq_true rfl) rfl (Nat.le_of_ble_eq_true rfl) (by decide) (Ci_mono ((hF.2 c1).2.1 c4) (fun r9 μ6 h7 => ?_))
      refine K_istore_n 3 dM_heldBy_34 rfl (Nat.le_of_ble_eq_true rfl) rfl ?_
      refine K_aload_n 0 76 dM_heldBy_35 rfl rfl ?_
      refine K_getf 12 56 76 (jvR 115) dM_heldBy_36 pf_M_131 rfl rfl (by decide) rfl rfl ?_
      refine K_iload_n 1 a0 dM_heldBy_39 rfl rfl ?_
      refine K_iconst 1 dM_heldBy_40 rfl ?_
      refine K_iload_n 2 a1 dM_heldBy_41 rfl rfl ?_
      refine K_ishl dM_heldBy_42 rfl ?_
      refine K_ior dM_heldBy_43 rfl ?_
      refine K_iald 115 16384 dM_heldBy_44 rfl rfl (by decide) h7.1 ?_
      refine K_istore 4 dM_heldBy_45 (Nat.le_of_ble_eq_true rfl) rfl ?_
      refine K_iload_n 3 r9 dM_heldBy_47 rfl rfl ?_
      refine K_iload 4 (μ6 115 (ior32 a0 (ishl32 1 a1))) dM_heldBy_48 rfl ?_
      refine K_icmp_le 57 dM_heldBy_50 (by decide) (fun c10 => ?_) (fun c10 => ?_)
      · refine K_iload 4 (μ6 115 (ior32 a0 (ishl32 1 a1))) dM_heldBy_57 rfl ?_
        exact K_iret dM_heldBy_59 (Or.inl rfl) (h7.2.1 c10)
      · refine K_iload_n 3 r9 dM_heldBy_53 rfl rfl ?_
        refine K_goto 59 dM_heldBy_54 (by decide) ?_
        exact K_iret dM_heldBy_59 (Or.inl rfl) (h7.2.2 c10)
    · refine K_bipush 100 dM_heldBy_22 rfl ?_
      exact K_iret dM_heldBy_24 (Or.inl rfl) ((hF.2 c1).2.2 c4)
set_option maxHeartbeats 8000000 in
theorem vM_heldNow_0 {E : jE} {μ : jMu} {Q : Option AV → jMu → Prop} {a0 : Int} (hF : (K 121 E mM_heldNow 4 [some (jvR 76), some (jvI a0), some (jvI 0), some (jvI 0)] [] μ Q)) : K 121 E mM_heldNow 0 [some (jvR 76), some (jvI a0), none, none] [] μ Q := by
  refine K_iconst 0 dM_heldNow_0 rfl ?_
  refine K_istore_n 2 dM_heldNow_1 rfl (Nat.le_of_ble_eq_true rfl) rfl ?_
  refine K_iconst 0 dM_heldNow_2 rfl ?_
  refine K_istore_n 3 dM_heldNow_3 rfl (Nat.le_of_ble_eq_true rfl) rfl ?_
  exact hF
set_option maxHeartbeats 8000000 in
theorem vM_heldNow_4 {E : jE} {μ : jMu} {Q : Option AV → jMu → Prop} {l1 l2 l3 : Int} (hF : (((μ 76 44) ≤ l3 → (Q (some (jvI l2)) μ)) ∧ (¬ ((μ 76 44) ≤ l3) → ((¬ (iand32 (ishr32 l1 l3) 1) = 1 → ((-2147483648 ≤ (l3 + 1) ∧ (l3 + 1) < 2147483648)) ∧ (K 121 E mM_heldNow 4 [some (jvR 76), some (jvI l1), some (jvI l2), some (jvI (l3 + 1))] [] μ Q)) ∧ ((iand32 (ishr32 l1 l3) 1) = 1 → ((-2147483648 ≤ ((μ 76 44) - 1) ∧ ((μ 76 44) - 1) < 2147483648)) ∧ ((l3 = ((μ 76 44) - 1) → ((-2147483648 ≤ (l2 + 1) ∧ (l2 + 1) < 2147483648) ∧ (-2147483648 ≤ (l3 + 1) ∧ (l3 + 1) < 2147483648)) ∧ (K 121 E mM_heldNow 4 [some (jvR 76), some (jvI l1), some (jvI (l2 + 1)), some (jvI (l3 + 1))] [] μ Q)) ∧ (¬ (l3 = ((μ 76 44) - 1)) → ((0 ≤ l3 ∧ l3 < 40)) ∧ (((iand32 (μ 117 l3) (ixor32 l1 (-1))) = 0 → ((-2147483648 ≤ (l3 + 1) ∧ (l3 + 1) < 2147483648)) ∧ (K 121 E mM_heldNow 4 [some (jvR 76), some (jvI l1), some (jvI l2), some (jvI (l3 + 1))] [] μ Q)) ∧ (¬ ((iand32 (μ 117 l3) (ixor32 l1 (-1))) = 0) → ((-2147483648 ≤ (l2 + 1) ∧ (l2 + 1) < 2147483648) ∧ (-2147483648 ≤ (l3 + 1) ∧ (l3 + 1) < 2147483648)) ∧ (K 121 E mM_heldNow 4 [some (jvR 76), some (jvI l1), some (jvI (l2 + 1)), some (jvI (l3 + 1))] [] μ Q)))))))))) : K 121 E mM_heldNow 4 [some (jvR 76), some (jvI l1), some (jvI l2), some (jvI l3)] [] μ Q := by
  refine K_iload_n 3 l3 dM_heldNow_4 rfl rfl ?_
  refine K_aload_n 0 76 dM_heldNow_5 rfl rfl ?_
  refine K_getf 12 44 76 (jvI (μ 76 44)) dM_heldNow_6 pf_M_331 rfl rfl (by decide) rfl rfl ?_
  refine K_icmp_ge 53 dM_heldNow_9 (by decide) (fun c1 => ?_) (fun c1 => ?_)
  · refine K_iload_n 2 l2 dM_heldNow_53 rfl rfl ?_
    exact K_iret dM_heldNow_54 (Or.inl rfl) (hF.1 c1)
  · refine K_iload_n 1 l1 dM_heldNow_12 rfl rfl ?_
    refine K_iload_n 3 l3 dM_heldNow_13 rfl rfl ?_
    refine K_ishr dM_heldNow_14 rfl ?_
    refine K_iconst 1 dM_heldNow_15 rfl ?_
    refine K_iand dM_heldNow_16 rfl ?_
    refine K_iconst 1 dM_heldNow_17 rfl ?_
    refine K_icmp_ne 47 dM_heldNow_18 (by decide) (fun c4 => ?_) (fun c4 => ?_)
    · refine K_iinc 3 dM_heldNow_47 (Nat.le_of_ble_eq_true rfl) rfl (w32_ok ((hF.2 c1).1 c4).1) rfl ?_
      refine K_goto 4 dM_heldNow_50 (by decide) ?_
      exact ((hF.2 c1).1 c4).2
    · refine K_iload_n 3 l3 dM_heldNow_21 rfl rfl ?_
      refine K_aload_n 0 76 dM_heldNow_22 rfl rfl ?_
      refine K_getf 12 44 76 (jvI (μ 76 44)) dM_heldNow_23 pf_M_331 rfl rfl (by decide) rfl rfl ?_
      refine K_iconst 1 dM_heldNow_26 rfl ?_
      refine K_isub dM_heldNow_27 (w32_id ((hF.2 c1).2 c4).1) ?_
      refine K_icmp_eq 44 dM_heldNow_28 (by decide) (fun c6 => ?_) (fun c6 => ?_)
      · refine K_iinc 2 dM_heldNow_44 (Nat.le_of_ble_eq_true rfl) rfl (w32_ok (((hF.2 c1).2 c4).2.1 c6).1.1) rfl ?_
        refine K_iinc 3 dM_heldNow_47 (Nat.le_of_ble_eq_true rfl) rfl (w32_ok (((hF.2 c1).2 c4).2.1 c6).1.2) rfl ?_
        refine K_goto 4 dM_heldNow_50 (by decide) ?_
        exact (((hF.2 c1).2 c4).2.1 c6).2
      · refine K_aload_n 0 76 dM_heldNow_31 rfl rfl ?_
        refine K_getf 12 58 76 (jvR 117) dM_heldNow_32 pf_M_137 rfl rfl (by decide) rfl rfl ?_
        refine K_iload_n 3 l3 dM_heldNow_35 rfl rfl ?_
        refine K_iald 117 40 dM_heldNow_36 rfl rfl (by decide) (((hF.2 c1).2 c4).2.2 c6).1 ?_
        refine K_iload_n 1 l1 dM_heldNow_37 rfl rfl ?_
        refine K_iconst (-1) dM_heldNow_38 rfl ?_
        refine K_ixor dM_heldNow_39 rfl ?_
        refine K_iand dM_heldNow_40 rfl ?_
        refine K_if_eq 47 dM_heldNow_41 (by decide) (fun c8 => ?_) (fun c8 => ?_)
        · refine K_iinc 3 dM_heldNow_47 (Nat.le_of_ble_eq_true rfl) rfl (w32_ok ((((hF.2 c1).2 c4).2.2 c6).2.1 c8).1) rfl ?_
          refine K_goto 4 dM_heldNow_50 (by decide) ?_
          exact ((((hF.2 c1).2 c4).2.2 c6).2.1 c8).2
        · refine K_iinc 2 dM_heldNow_44 (Nat.le_of_ble_eq_true rfl) rfl (w32_ok ((((hF.2 c1).2 c4).2.2 c6).2.2 c8).1.1) rfl ?_
          refine K_iinc 3 dM_heldNow_47 (Nat.le_of_ble_eq_true rfl) rfl (w32_ok ((((hF.2 c1).2 c4).2.2 c6).2.2 c8).1.2) rfl ?_
          refine K_goto 4 dM_heldNow_50 (by decide) ?_
          exact ((((hF.2 c1).2 c4).2.2 c6).2.2 c8).2
set_option maxHeartbeats 8000000 in
theorem vM_held_0 {E : jE} {μ : jMu} {Q : Option AV → jMu → Prop} (hF : ((¬ (μ 76 44) = 0 → (K 121 E mM_held 13 [some (jvR 76), some (jvI 0), some (jvI 1), none, none, none, none, none] [] μ Q)) ∧ ((μ 76 44) = 0 → (Q (some (jvI (-1))) μ)))) : K 121 E mM_held 0 [some (jvR 76), none, none, none, none, none, none, none] [] μ Q := by
  refine K_aload_n 0 76 dM_held_0 rfl rfl ?_
  refine K_getf 12 44 76 (jvI (μ 76 44)) dM_held_1 pf_M_331 rfl rfl (by decide) rfl rfl ?_
  refine K_if_ne 9 dM_held_4 (by decide) (fun c1 => ?_) (fun c1 => ?_)
  · refine K_iconst 0 dM_held_9 rfl ?_
    refine K_istore_n 1 dM_held_10 rfl (Nat.le_of_ble_eq_true rfl) rfl ?_
    refine K_iconst 1 dM_held_11 rfl ?_
    refine K_istore_n 2 dM_held_12 rfl (Nat.le_of_ble_eq_true rfl) rfl ?_
    exact (hF.1 c1)
  · refine K_iconst (-1) dM_held_7 rfl ?_
    exact K_iret dM_held_8 (Or.inl rfl) (hF.2 c1)
set_option maxHeartbeats 8000000 in
theorem vM_held_13 {E : jE} {μ : jMu} {Q : Option AV → jMu → Prop} {l1 l2 : Int} (hF : (((μ 76 44) < l2 → (Q (some (jvI l1)) μ)) ∧ (¬ ((μ 76 44) < l2) → (K 121 E mM_held 26 [some (jvR 76), some (jvI l1), some (jvI l2), some (jvI 0), some (jvI 0), none, none, none] [] μ Q)))) : K 121 E mM_held 13 [some (jvR 76), some (jvI l1), some (jvI l2), none, none, none, none, none] [] μ Q := by
  refine K_iload_n 2 l2 dM_held_13 rfl rfl ?_
  refine K_aload_n 0 76 dM_held_14 rfl rfl ?_
  refine K_getf 12 44 76 (jvI (μ 76 44)) dM_held_15 pf_M_331 rfl rfl (by decide) rfl rfl ?_
  refine K_icmp_gt 149 dM_held_18 (by decide) (fun c1 => ?_) (fun c1 => ?_)
  · refine K_iload_n 1 l1 dM_held_149 rfl rfl ?_
    exact K_iret dM_held_150 (Or.inl rfl) (hF.1 c1)
  · refine K_iconst 0 dM_held_21 rfl ?_
    refine K_istore_n 3 dM_held_22 rfl (Nat.le_of_ble_eq_true rfl) rfl ?_
    refine K_iconst 0 dM_held_23 rfl ?_
    refine K_istore 4 dM_held_24 (Nat.le_of_ble_eq_true rfl) rfl ?_
    exact (hF.2 c1)
set_option maxHeartbeats 8000000 in
theorem vM_held_26 {E : jE} {μ : jMu} {Q : Option AV → jMu → Prop} {l1 l2 l3 l4 : Int} (hF : ((l2 ≤ l4 → ((l3 ≤ l1 → ((-2147483648 ≤ (l2 + 1) ∧ (l2 + 1) < 2147483648)) ∧ (K 121 E mM_held 13 [some (jvR 76), some (jvI l1), some (jvI (l2 + 1)), none, none, none, none, none] [] μ Q)) ∧ (¬ (l3 ≤ l1) → ((-2147483648 ≤ (l2 + 1) ∧ (l2 + 1) < 2147483648)) ∧ (K 121 E mM_held 13 [some (jvR 76), some (jvI l3), some (jvI (l2 + 1)), none, none, none, none, none] [] μ Q)))) ∧ (¬ (l2 ≤ l4) → ((-2147483648 ≤ ((μ 76 44) - 1) ∧ ((μ 76 44) - 1) < 2147483648)) ∧ ((¬ l4 = ((μ 76 44) - 1) → (K 121 E mM_held 53 [some (jvR 76), some (jvI l1), some (jvI l2), some (jvI l3), some (jvI l4), some (jvI 0), some (jvI l2), none] [] μ Q)) ∧ (l4 = ((μ 76 44) - 1) → (K 121 E mM_held 53 [some (jvR 76), some (jvI l1), some (jvI l2), some (jvI l3), some (jvI l4), some (jvI 1), some (jvI l2), none] [] μ Q)))))) : K 121 E mM_held 26 [some (jvR 76), some (jvI l1), some (jvI l2), some (jvI l3), some (jvI l4), none, none, none] [] μ Q := by
  refine K_iload 4 l4 dM_held_26 rfl ?_
  refine K_iload_n 2 l2 dM_held_28 rfl rfl ?_
  refine K_icmp_ge 132 dM_held_29 (by decide) (fun c1 => ?_) (fun c1 => ?_)
  · refine K_iload_n 3 l3 dM_held_132 rfl rfl ?_
    refine K_iload_n 1 l1 dM_held_133 rfl rfl ?_
    refine K_icmp_le 141 dM_held_134 (by decide) (fun c3 => ?_) (fun c3 => ?_)
    · refine K_iload_n 1 l1 dM_held_141 rfl rfl ?_
      refine K_istore_n 1 dM_held_142 rfl (Nat.le_of_ble_eq_true rfl) rfl ?_
      refine K_iinc 2 dM_held_143 (Nat.le_of_ble_eq_true rfl) rfl (w32_ok ((hF.1 c1).1 c3).1) rfl ?_
      refine K_goto 13 dM_held_146 (by decide) ?_
      exact K_forget [true, true, true, false, false, true, true, true] ((hF.1 c1).1 c3).2
    · refine K_iload_n 3 l3 dM_held_137 rfl rfl ?_
      refine K_goto 142 dM_held_138 (by decide) ?_
      refine K_istore_n 1 dM_held_142 rfl (Nat.le_of_ble_eq_true rfl) rfl ?_
      refine K_iinc 2 dM_held_143 (Nat.le_of_ble_eq_true rfl) rfl (w32_ok ((hF.1 c1).2 c3).1) rfl ?_
      refine K_goto 13 dM_held_146 (by decide) ?_
      exact K_forget [true, true, true, false, false, true, true, true] ((hF.1 c1).2 c3).2
  · refine K_iload 4 l4 dM_held_32 rfl ?_
    refine K_aload_n 0 76 dM_held_34 rfl rfl ?_
    refine K_getf 12 44 76 (jvI (μ 76 44)) dM_held_35 pf_M_331 rfl rfl (by decide) rfl rfl ?_
    refine K_iconst 1 dM_held_38 rfl ?_
    refine K_isub dM_held_39 (w32_id (hF.2 c1).1) ?_
    refine K_icmp_ne 47 dM_held_40 (by decide) (fun c5 => ?_) (fun c5 => ?_)
    · refine K_iconst 0 dM_held_47 rfl ?_
      refine K_istore 5 dM_held_48 (Nat.le_of_ble_eq_true rfl) rfl ?_
      refine K_iload_n 2 l2 dM_held_50 rfl rfl ?_
      refine K_istore 6 dM_held_51 (Nat.le_of_ble_eq_true rfl) rfl ?_
      exact ((hF.2 c1).2.1 c5)
    · refine K_iconst 1 dM_held_43 rfl ?_
      refine K_goto 48 dM_held_44 (by decide) ?_
      refine K_istore 5 dM_held_48 (Nat.le_of_ble_eq_true rfl) rfl ?_
      refine K_iload_n 2 l2 dM_held_50 rfl rfl ?_
      refine K_istore 6 dM_held_51 (Nat.le_of_ble_eq_true rfl) rfl ?_
      exact ((hF.2 c1).2.2 c5)
set_option maxHeartbeats 8000000 in
theorem vM_held_53 {E : jE} {μ : jMu} {Q : Option AV → jMu → Prop} {l1 l2 l3 l4 l5 l6 : Int} (hF : (((μ 76 44) ≤ l6 → ((l5 = 0 → ((-2147483648 ≤ (l4 + 1) ∧ (l4 + 1) < 2147483648)) ∧ (K 121 E mM_held 26 [some (jvR 76), some (jvI l1), some (jvI l2), some (jvI l3), some (jvI (l4 + 1)), none, none, none] [] μ Q)) ∧ (¬ (l5 = 0) → ((-2147483648 ≤ (l3 + 1) ∧ (l3 + 1) < 2147483648) ∧ (-2147483648 ≤ (l4 + 1) ∧ (l4 + 1) < 2147483648)) ∧ (K 121 E mM_held 26 [some (jvR 76), some (jvI l1), some (jvI l2), some (jvI (l3 + 1)), some (jvI (l4 + 1)), none, none, none] [] μ Q)))) ∧ (¬ ((μ 76 44) ≤ l6) → (K 121 E mM_held 65 [some (jvR 76), some (jvI l1), some (jvI l2), some (jvI l3), some (jvI l4), some (jvI l5), some (jvI l6), some (jvI 0)] [] μ Q)))) : K 121 E mM_held 53 [some (jvR 76), some (jvI l1), some (jvI l2), some (jvI l3), some (jvI l4), some (jvI l5), some (jvI l6), none] [] μ Q := by
  refine K_iload 6 l6 dM_held_53 rfl ?_
  refine K_aload_n 0 76 dM_held_55 rfl rfl ?_
  refine K_getf 12 44 76 (jvI (μ 76 44)) dM_held_56 pf_M_331 rfl rfl (by decide) rfl rfl ?_
  refine K_icmp_ge 118 dM_held_59 (by decide) (fun c1 => ?_) (fun c1 => ?_)
  · refine K_iload 5 l5 dM_held_118 rfl ?_
    refine K_if_eq 126 dM_held_120 (by decide) (fun c3 => ?_) (fun c3 => ?_)
    · refine K_iinc 4 dM_held_126 (Nat.le_of_ble_eq_true rfl) rfl (w32_ok ((hF.1 c1).1 c3).1) rfl ?_
      refine K_goto 26 dM_held_129 (by decide) ?_
      exact K_forget [true, true, true, true, true, false, false, true] ((hF.1 c1).1 c3).2
    · refine K_iinc 3 dM_held_123 (Nat.le_of_ble_eq_true rfl) rfl (w32_ok ((hF.1 c1).2 c3).1.1) rfl ?_
      refine K_iinc 4 dM_held_126 (Nat.le_of_ble_eq_true rfl) rfl (w32_ok ((hF.1 c1).2 c3).1.2) rfl ?_
      refine K_goto 26 dM_held_129 (by decide) ?_
      exact K_forget [true, true, true, true, true, false, false, true] ((hF.1 c1).2 c3).2
  · refine K_iconst 0 dM_held_62 rfl ?_
    refine K_istore 7 dM_held_63 (Nat.le_of_ble_eq_true rfl) rfl ?_
    exact (hF.2 c1)
set_option maxHeartbeats 8000000 in
theorem vM_held_65 {E : jE} {μ : jMu} {Q : Option AV → jMu → Prop} {l1 l2 l3 l4 l5 l6 l7 : Int} (hF : ((0 ≤ l6 ∧ l6 < 40)) ∧ (Ci E mM_namesMany [jvR 76, jvI (μ 105 l6)] μ (fun r4 μ1 => ((r4 ≤ l7 → ((-2147483648 ≤ (l6 + 1) ∧ (l6 + 1) < 2147483648)) ∧ (K 121 E mM_held 53 [some (jvR 76), some (jvI l1), some (jvI l2), some (jvI l3), some (jvI l4), some (jvI l5), some (jvI (l6 + 1)), none] [] μ1 Q)) ∧ (¬ (r4 ≤ l7) → ((¬ l5 = 0 → ((-2147483648 ≤ (l7 + 1) ∧ (l7 + 1) < 2147483648)) ∧ (K 121 E mM_held 65 [some (jvR 76), some (jvI l1), some (jvI l2), some (jvI l3), some (jvI l4), some (jvI 1), some (jvI l6), some (jvI (l7 + 1))] [] μ1 Q)) ∧ (l5 = 0 → (Ci E mM_leansTo [jvR 76, jvI l6, jvI l7] μ1 (fun r12 μ9 => ((¬ r12 = l4 → ((-2147483648 ≤ (l7 + 1) ∧ (l7 + 1) < 2147483648)) ∧ (K 121 E mM_held 65 [some (jvR 76), some (jvI l1), some (jvI l2), some (jvI l3), some (jvI l4), some (jvI 0), some (jvI l6), some (jvI (l7 + 1))] [] μ9 Q)) ∧ (r12 = l4 → ((-2147483648 ≤ (l7 + 1) ∧ (l7 + 1) < 2147483648)) ∧ (K 121 E mM_held 65 [some (jvR 76), some (jvI l1), some (jvI l2), some (jvI l3), some (jvI l4), some (jvI 1), some (jvI l6), some (jvI (l7 + 1))] [] μ9 Q)))))))))))) : K 121 E mM_held 65 [some (jvR 76), some (jvI l1), some (jvI l2), some (jvI l3), some (jvI l4), some (jvI l5), some (jvI l6), some (jvI l7)] [] μ Q := by
  refine K_iload 7 l7 dM_held_65 rfl ?_
  refine K_aload_n 0 76 dM_held_67 rfl rfl ?_
  refine K_aload_n 0 76 dM_held_68 rfl rfl ?_
  refine K_getf 12 42 76 (jvR 105) dM_held_69 pf_M_100 rfl rfl (by decide) rfl rfl ?_
  refine K_iload 6 l6 dM_held_72 rfl ?_
  refine K_iald 105 40 dM_held_74 rfl rfl (by decide) hF.1 ?_
  refine K_callVi mM_namesMany 12 76 [jvI (μ 105 l6)] dM_held_75 pm_M_328 ⟨_, rfl, rfl⟩ ⟨(Nat.le_of_ble_eq_true rfl), (Nat.le_of_ble_eq_true rfl)⟩ rfl rfl (by decide) (Nat.le_of_ble_eq_true rfl) rfl (Nat.le_of_ble_eq_true rfl) (by decide) (Ci_mono hF.2 (fun r4 μ1 h2 => ?_))
  refine K_icmp_ge 112 dM_held_78 (by decide) (fun c5 => ?_) (fun c5 => ?_)
  · refine K_iinc 6 dM_held_112 (Nat.le_of_ble_eq_true rfl) rfl (w32_ok (h2.1 c5).1) rfl ?_
    refine K_goto 53 dM_held_115 (by decide) ?_
    exact K_forget [true, true, true, true, true, true, true, false] (h2.1 c5).2
  · refine K_iload 5 l5 dM_held_81 rfl ?_
    refine K_if_ne 99 dM_held_83 (by decide) (fun c7 => ?_) (fun c7 => ?_)
    · refine K_iconst 1 dM_held_99 rfl ?_
      refine K_goto 104 dM_held_100 (by decide) ?_
      refine K_istore 5 dM_held_104 (Nat.le_of_ble_eq_true rfl) rfl ?_
      refine K_iinc 7 dM_held_106 (Nat.le_of_ble_eq_true rfl) rfl (w32_ok ((h2.2 c5).1 c7).1) rfl ?_
      refine K_goto 65 dM_held_109 (by decide) ?_
      exact ((h2.2 c5).1 c7).2
    · refine K_aload_n 0 76 dM_held_86 rfl rfl ?_
      refine K_iload 6 l6 dM_held_87 rfl ?_
      refine K_iload 7 l7 dM_held_89 rfl ?_
      refine K_callVi mM_leansTo 12 76 [jvI l6, jvI l7] dM_held_91 pm_M_377 ⟨_, rfl, rfl⟩ ⟨(Nat.le_of_ble_eq_true rfl), (Nat.le_of_ble_eq_true rfl)⟩ rfl rfl (by decide) (Nat.le_of_ble_eq_true rfl) rfl (Nat.le_of_ble_eq_true rfl) (by decide) (Ci_mono ((h2.2 c5).2 c7) (fun r12 μ9 h10 => ?_))
      refine K_iload 4 l4 dM_held_94 rfl ?_
      refine K_icmp_ne 103 dM_held_96 (by decide) (fun c13 => ?_) (fun c13 => ?_)
      · refine K_iconst 0 dM_held_103 rfl ?_
        refine K_istore 5 dM_held_104 (Nat.le_of_ble_eq_true rfl) rfl ?_
        refine K_iinc 7 dM_held_106 (Nat.le_of_ble_eq_true rfl) rfl (w32_ok (h10.1 c13).1) rfl ?_
        refine K_goto 65 dM_held_109 (by decide) ?_
        exact (h10.1 c13).2
      · refine K_iconst 1 dM_held_99 rfl ?_
        refine K_goto 104 dM_held_100 (by decide) ?_
        refine K_istore 5 dM_held_104 (Nat.le_of_ble_eq_true rfl) rfl ?_
        refine K_iinc 7 dM_held_106 (Nat.le_of_ble_eq_true rfl) rfl (w32_ok (h10.2 c13).1) rfl ?_
        refine K_goto 65 dM_held_109 (by decide) ?_
        exact (h10.2 c13).2
set_option maxHeartbeats 8000000 in
theorem vM_pages_0 {E : jE} {μ : jMu} {Q : Option AV → jMu → Prop} {a0 a1 : Int} (hF : (Ci E mM_isIn [jvL a0, jvL 1, jvL 40] μ (fun r4 μ1 => ((r4 = 0 → (Q (some (jvI (-1))) μ1)) ∧ (¬ (r4 = 0) → ((a1 < 0 → (Q (some (jvI (-1))) μ1)) ∧ (¬ (a1 < 0) → ((¬ (μ1 76 44) = 0 → ((-2147483648 ≤ ((μ1 76 44) + a0) ∧ ((μ1 76 44) + a0) < 2147483648) ∧ (-2147483648 ≤ (((μ1 76 44) + a0) - 1) ∧ (((μ1 76 44) + a0) - 1) < 2147483648) ∧ a0 ≠ 0 ∧ (-2147483648 ≤ (Int.tdiv (((μ1 76 44) + a0) - 1) a0) ∧ (Int.tdiv (((μ1 76 44) + a0) - 1) a0) < 2147483648)) ∧ ((¬ a1 = 0 → ((-2147483648 ≤ (1 + (Int.tdiv (((μ1 76 44) + a0) - 1) a0)) ∧ (1 + (Int.tdiv (((μ1 76 44) + a0) - 1) a0)) < 2147483648)) ∧ ((a1 ≤ (1 + (Int.tdiv (((μ1 76 44) + a0) - 1) a0)) → (Cv E mM_pagesOf [jvR 76, jvI a0, jvI (Int.tdiv (((μ1 76 44) + a0) - 1) a0)] μ1 (fun μ17 => ((¬ a1 = 1 → (K 121 E mM_pages 75 [some (jvR 76), some (jvI a0), some (jvI a1), some (jvI (Int.tdiv (((μ1 76 44) + a0) - 1) a0)), some (jvI 0), some (jvI 0), none] [] μ17 Q)) ∧ (a1 = 1 → ((0 ≤ (Int.tdiv (((μ1 76 44) + a0) - 1) a0) ∧ (Int.tdiv (((μ1 76 44) + a0) - 1) a0) < 1722)) ∧ (Q (some (jvI (μ17 118 (Int.tdiv (((μ1 76 44) + a0) - 1) a0)))) μ17)))))) ∧ (¬ (a1 ≤ (1 + (Int.tdiv (((μ1 76 44) + a0) - 1) a0))) → (Q (some (jvI (-1))) μ1)))) ∧ (a1 = 0 → (Q (some (jvI (Int.tdiv (((μ1 76 44) + a0) - 1) a0))) μ1)))) ∧ ((μ1 76 44) = 0 → (Q (some (jvI (-1))) μ1)))))))))) : K 121 E mM_pages 0 [some (jvR 76), some (jvI a0), some (jvI a1), none, none, none, none] [] μ Q := by
  refine K_iload_n 1 a0 dM_pages_0 rfl rfl ?_
  refine K_i2l dM_pages_1 rfl ?_
  refine K_lconst 1 dM_pages_2 rfl ?_
  refine K_ldc2 40 dM_pages_3 pc_M_439 rfl ?_
  refine K_callSi mM_isIn [jvL a0, jvL 1, jvL 40] dM_pages_6 pm_M_196 ⟨(Nat.le_of_ble_eq_true rfl), (Nat.le_of_ble_eq_true rfl)⟩ (Nat.le_of_ble_eq_true rfl) rfl (Nat.le_of_ble_eq_true rfl) (by decide) (Ci_mono hF (fun r4 μ1 h2 => ?_))
  refine K_if_eq 23 dM_pages_9 (by decide) (fun c5 => ?_) (fun c5 => ?_)
  · refine K_iconst (-1) dM_pages_23 rfl ?_
    exact K_iret dM_pages_24 (Or.inl rfl) (h2.1 c5)
  · refine K_iload_n 2 a1 dM_pages_12 rfl rfl ?_
    refine K_if_lt 23 dM_pages_13 (by decide) (fun c8 => ?_) (fun c8 => ?_)
    · refine K_iconst (-1) dM_pages_23 rfl ?_
      exact K_iret dM_pages_24 (Or.inl rfl) ((h2.2 c5).1 c8)
    · refine K_aload_n 0 76 dM_pages_16 rfl rfl ?_
      refine K_getf 12 44 76 (jvI (μ1 76 44)) dM_pages_17 pf_M_331 rfl rfl (by decide) rfl rfl ?_
      refine K_if_ne 25 dM_pages_20 (by decide) (fun c11 => ?_) (fun c11 => ?_)
      · refine K_aload_n 0 76 dM_pages_25 rfl rfl ?_
        refine K_getf 12 44 76 (jvI (μ1 76 44)) dM_pages_26 pf_M_331 rfl rfl (by decide) rfl rfl ?_
        refine K_iload_n 1 a0 dM_pages_29 rfl rfl ?_
        refine K_iadd dM_pages_30 (w32_id (((h2.2 c5).2 c8).1 c11).1.1) ?_
        refine K_iconst 1 dM_pages_31 rfl ?_
        refine K_isub dM_pages_32 (w32_id (((h2.2 c5).2 c8).1 c11).1.2.1) ?_
        refine K_iload_n 1 a0 dM_pages_33 rfl rfl ?_
        refine K_idiv dM_pages_34 (((h2.2 c5).2 c8).1 c11).1.2.2.1 (w32_id (((h2.2 c5).2 c8).1 c11).1.2.2.2) ?_
        refine K_istore_n 3 dM_pages_35 rfl (Nat.le_of_ble_eq_true rfl) rfl ?_
        refine K_iload_n 2 a1 dM_pages_36 rfl rfl ?_
        refine K_if_ne 42 dM_pages_37 (by decide) (fun c13 => ?_) (fun c13 => ?_)
        · refine K_iload_n 2 a1 dM_pages_42 rfl rfl ?_
          refine K_iconst 1 dM_pages_43 rfl ?_
          refine K_iload_n 3 (Int.tdiv (((μ1 76 44) + a0) - 1) a0) dM_pages_44 rfl rfl ?_
          refine K_iadd dM_pages_45 (w32_id ((((h2.2 c5).2 c8).1 c11).2.1 c13).1) ?_
          refine K_icmp_le 51 dM_pages_46 (by decide) (fun c15 => ?_) (fun c15 => ?_)
          · refine K_aload_n 0 76 dM_pages_51 rfl rfl ?_
            refine K_iload_n 1 a0 dM_pages_52 rfl rfl ?_
            refine K_iload_n 3 (Int.tdiv (((μ1 76 44) + a0) - 1) a0) dM_pages_53 rfl rfl ?_
            refine K_callVv mM_pagesOf 12 76 [jvI a0, jvI (Int.tdiv (((μ1 76 44) + a0) - 1) a0)] dM_pages_54 pm_M_441 ⟨_, rfl, rfl⟩ ⟨(Nat.le_of_ble_eq_true rfl), (Nat.le_of_ble_eq_true rfl)⟩ rfl rfl (by decide) (Nat.le_of_ble_eq_true rfl) rfl (Nat.le_of_ble_eq_true rfl) (by decide) (Cv_mono (((((h2.2 c5).2 c8).1 c11).2.1 c13).2.1 c15) (fun μ17 h18 => ?_))
            refine K_iload_n 2 a1 dM_pages_57 rfl rfl ?_
            refine K_iconst 1 dM_pages_58 rfl ?_
            refine K_icmp_ne 69 dM_pages_59 (by decide) (fun c20 => ?_) (fun c20 => ?_)
            · refine K_iconst 0 dM_pages_69 rfl ?_
              refine K_istore 4 dM_pages_70 (Nat.le_of_ble_eq_true rfl) rfl ?_
              refine K_iconst 0 dM_pages_72 rfl ?_
              refine K_istore 5 dM_pages_73 (Nat.le_of_ble_eq_true rfl) rfl ?_
              exact (h18.1 c20)
            · refine K_aload_n 0 76 dM_pages_62 rfl rfl ?_
              refine K_getf 12 59 76 (jvR 118) dM_pages_63 pf_M_140 rfl rfl (by decide) rfl rfl ?_
              refine K_iload_n 3 (Int.tdiv (((μ1 76 44) + a0) - 1) a0) dM_pages_66 rfl rfl ?_
              refine K_iald 118 1722 dM_pages_67 rfl rfl (by decide) (h18.2 c20).1 ?_
              exact K_iret dM_pages_68 (Or.inl rfl) (h18.2 c20).2
          · refine K_iconst (-1) dM_pages_49 rfl ?_
            exact K_iret dM_pages_50 (Or.inl rfl) (((((h2.2 c5).2 c8).1 c11).2.1 c13).2.2 c15)
        · refine K_iload_n 3 (Int.tdiv (((μ1 76 44) + a0) - 1) a0) dM_pages_40 rfl rfl ?_
          exact K_iret dM_pages_41 (Or.inl rfl) ((((h2.2 c5).2 c8).1 c11).2.2 c13)
      · refine K_iconst (-1) dM_pages_23 rfl ?_
        exact K_iret dM_pages_24 (Or.inl rfl) (((h2.2 c5).2 c8).2 c11)
set_option maxHeartbeats 8000000 in
theorem vM_pages_75 {E : jE} {μ : jMu} {Q : Option AV → jMu → Prop} {l1 l2 l3 l4 l5 : Int} (hF : ((-2147483648 ≤ (l2 - 2) ∧ (l2 - 2) < 2147483648)) ∧ (((l2 - 2) ≤ l5 → (Q (some (jvI l4)) μ)) ∧ (¬ ((l2 - 2) ≤ l5) → ((-2147483648 ≤ (l4 + 1) ∧ (l4 + 1) < 2147483648)) ∧ (K 121 E mM_pages 89 [some (jvR 76), some (jvI l1), some (jvI l2), some (jvI l3), some (jvI l4), some (jvI l5), some (jvI (l4 + 1))] [] μ Q)))) : K 121 E mM_pages 75 [some (jvR 76), some (jvI l1), some (jvI l2), some (jvI l3), some (jvI l4), some (jvI l5), none] [] μ Q := by
  refine K_iload 5 l5 dM_pages_75 rfl ?_
  refine K_iload_n 2 l2 dM_pages_77 rfl rfl ?_
  refine K_iconst 2 dM_pages_78 rfl ?_
  refine K_isub dM_pages_79 (w32_id hF.1) ?_
  refine K_icmp_ge 135 dM_pages_80 (by decide) (fun c1 => ?_) (fun c1 => ?_)
  · refine K_iload 4 l4 dM_pages_135 rfl ?_
    exact K_iret dM_pages_137 (Or.inl rfl) (hF.2.1 c1)
  · refine K_iload 4 l4 dM_pages_83 rfl ?_
    refine K_iconst 1 dM_pages_85 rfl ?_
    refine K_iadd dM_pages_86 (w32_id (hF.2.2 c1).1) ?_
    refine K_istore 6 dM_pages_87 (Nat.le_of_ble_eq_true rfl) rfl ?_
    exact (hF.2.2 c1).2
set_option maxHeartbeats 8000000 in
theorem vM_pages_89 {E : jE} {μ : jMu} {Q : Option AV → jMu → Prop} {l1 l2 l3 l4 l5 l6 : Int} (hF : ((-2147483648 ≤ (l3 - l5) ∧ (l3 - l5) < 2147483648)) ∧ (Ci E mM_looksBy [jvR 76, jvI l4, jvI l6, jvI (l3 - l5)] μ (fun r4 μ1 => ((-2147483648 ≤ (42 * l4) ∧ (42 * l4) < 2147483648) ∧ (-2147483648 ≤ ((42 * l4) + l3) ∧ ((42 * l4) + l3) < 2147483648) ∧ (-2147483648 ≤ (((42 * l4) + l3) - l5) ∧ (((42 * l4) + l3) - l5) < 2147483648) ∧ (0 ≤ (((42 * l4) + l3) - l5) ∧ (((42 * l4) + l3) - l5) < 1722)) ∧ ((r4 = (μ1 118 (((42 * l4) + l3) - l5)) → ((-2147483648 ≤ (l5 + 1) ∧ (l5 + 1) < 2147483648)) ∧ (K 121 E mM_pages 75 [some (jvR 76), some (jvI l1), some (jvI l2), some (jvI l3), some (jvI l6), some (jvI (l5 + 1)), none] [] μ1 Q)) ∧ (¬ (r4 = (μ1 118 (((42 * l4) + l3) - l5))) → ((-2147483648 ≤ (l6 + 1) ∧ (l6 + 1) < 2147483648)) ∧ (K 121 E mM_pages 89 [some (jvR 76), some (jvI l1), some (jvI l2), some (jvI l3), some (jvI l4), some (jvI l5), some (jvI (l6 + 1))] [] μ1 Q)))))) : K 121 E mM_pages 89 [some (jvR 76), some (jvI l1), some (jvI l2), some (jvI l3), some (jvI l4), some (jvI l5), some (jvI l6)] [] μ Q := by
  refine K_aload_n 0 76 dM_pages_89 rfl rfl ?_
  refine K_iload 4 l4 dM_pages_90 rfl ?_
  refine K_iload 6 l6 dM_pages_92 rfl ?_
  refine K_iload_n 3 l3 dM_pages_94 rfl rfl ?_
  refine K_iload 5 l5 dM_pages_95 rfl ?_
  refine K_isub dM_pages_97 (w32_id hF.1) ?_
  refine K_callVi mM_looksBy 12 76 [jvI l4, jvI l6, jvI (l3 - l5)] dM_pages_98 pm_M_435 ⟨_, rfl, rfl⟩ ⟨(Nat.le_of_ble_eq_true rfl), (Nat.le_of_ble_eq_true rfl)⟩ rfl rfl (by decide) (Nat.le_of_ble_eq_true rfl) rfl (Nat.le_of_ble_eq_true rfl) (by decide) (Ci_mono hF.2 (fun r4 μ1 h2 => ?_))
  refine K_aload_n 0 76 dM_pages_101 rfl rfl ?_
  refine K_getf 12 59 76 (jvR 118) dM_pages_102 pf_M_140 rfl rfl (by decide) rfl rfl ?_
  refine K_bipush 42 dM_pages_105 rfl ?_
  refine K_iload 4 l4 dM_pages_107 rfl ?_
  refine K_imul dM_pages_109 (w32_id h2.1.1) ?_
  refine K_iload_n 3 l3 dM_pages_110 rfl rfl ?_
  refine K_iadd dM_pages_111 (w32_id h2.1.2.1) ?_
  refine K_iload 5 l5 dM_pages_112 rfl ?_
  refine K_isub dM_pages_114 (w32_id h2.1.2.2.1) ?_
  refine K_iald 118 1722 dM_pages_115 rfl rfl (by decide) h2.1.2.2.2 ?_
  refine K_icmp_eq 125 dM_pages_116 (by decide) (fun c5 => ?_) (fun c5 => ?_)
  · refine K_iload 6 l6 dM_pages_125 rfl ?_
    refine K_istore 4 dM_pages_127 (Nat.le_of_ble_eq_true rfl) rfl ?_
    refine K_iinc 5 dM_pages_129 (Nat.le_of_ble_eq_true rfl) rfl (w32_ok (h2.2.1 c5).1) rfl ?_
    refine K_goto 75 dM_pages_132 (by decide) ?_
    exact K_forget [true, true, true, true, true, true, false] (h2.2.1 c5).2
  · refine K_iinc 6 dM_pages_119 (Nat.le_of_ble_eq_true rfl) rfl (w32_ok (h2.2.2 c5).1) rfl ?_
    refine K_goto 89 dM_pages_122 (by decide) ?_
    exact (h2.2.2 c5).2
set_option maxHeartbeats 8000000 in
theorem vM_pagesOf_0 {E : jE} {μ : jMu} {Q : Option AV → jMu → Prop} {a0 a1 : Int} (hF : (K 121 E mM_pagesOf 5 [some (jvR 76), some (jvI a0), some (jvI a1), some (jvI (μ 76 44)), none, none, none] [] μ Q)) : K 121 E mM_pagesOf 0 [some (jvR 76), some (jvI a0), some (jvI a1), none, none, none, none] [] μ Q := by
  refine K_aload_n 0 76 dM_pagesOf_0 rfl rfl ?_
  refine K_getf 12 44 76 (jvI (μ 76 44)) dM_pagesOf_1 pf_M_331 rfl rfl (by decide) rfl rfl ?_
  refine K_istore_n 3 dM_pagesOf_4 rfl (Nat.le_of_ble_eq_true rfl) rfl ?_
  exact hF
set_option maxHeartbeats 8000000 in
theorem vM_pagesOf_5 {E : jE} {μ : jMu} {Q : Option AV → jMu → Prop} {l1 l2 l3 : Int} (hF : ((l3 < 0 → (Q none μ)) ∧ (¬ (l3 < 0) → (K 121 E mM_pagesOf 12 [some (jvR 76), some (jvI l1), some (jvI l2), some (jvI l3), some (jvI 0), none, none] [] μ Q)))) : K 121 E mM_pagesOf 5 [some (jvR 76), some (jvI l1), some (jvI l2), some (jvI l3), none, none, none] [] μ Q := by
  refine K_iload_n 3 l3 dM_pagesOf_5 rfl rfl ?_
  refine K_if_lt 124 dM_pagesOf_6 (by decide) (fun c1 => ?_) (fun c1 => ?_)
  · exact K_vret dM_pagesOf_124 rfl (hF.1 c1)
  · refine K_iconst 0 dM_pagesOf_9 rfl ?_
    refine K_istore 4 dM_pagesOf_10 (Nat.le_of_ble_eq_true rfl) rfl ?_
    exact (hF.2 c1)
set_option maxHeartbeats 8000000 in
theorem vM_pagesOf_12 {E : jE} {μ : jMu} {Q : Option AV → jMu → Prop} {l1 l2 l3 l4 : Int} (hF : ((l2 < l4 → ((-2147483648 ≤ (l3 - 1) ∧ (l3 - 1) < 2147483648)) ∧ (K 121 E mM_pagesOf 5 [some (jvR 76), some (jvI l1), some (jvI l2), some (jvI (l3 - 1)), none, none, none] [] μ Q)) ∧ (¬ (l2 < l4) → ((¬ l3 = (μ 76 44) → ((-2147483648 ≤ (l3 + 1) ∧ (l3 + 1) < 2147483648)) ∧ (K 121 E mM_pagesOf 45 [some (jvR 76), some (jvI l1), some (jvI l2), some (jvI l3), some (jvI l4), some (jvI 10000), some (jvI (l3 + 1))] [] μ Q)) ∧ (l3 = (μ 76 44) → ((¬ l4 = 0 → ((-2147483648 ≤ (l3 + 1) ∧ (l3 + 1) < 2147483648)) ∧ (K 121 E mM_pagesOf 45 [some (jvR 76), some (jvI l1), some (jvI l2), some (jvI l3), some (jvI l4), some (jvI 10000), some (jvI (l3 + 1))] [] μ Q)) ∧ (l4 = 0 → ((-2147483648 ≤ (l3 + 1) ∧ (l3 + 1) < 2147483648)) ∧ (K 121 E mM_pagesOf 45 [some (jvR 76), some (jvI l1), some (jvI l2), some (jvI l3), some (jvI l4), some (jvI 0), some (jvI (l3 + 1))] [] μ Q)))))))) : K 121 E mM_pagesOf 12 [some (jvR 76), some (jvI l1), some (jvI l2), some (jvI l3), some (jvI l4), none, none] [] μ Q := by
  refine K_iload 4 l4 dM_pagesOf_12 rfl ?_
  refine K_iload_n 2 l2 dM_pagesOf_14 rfl rfl ?_
  refine K_icmp_gt 118 dM_pagesOf_15 (by decide) (fun c1 => ?_) (fun c1 => ?_)
  · refine K_iinc 3 dM_pagesOf_118 (Nat.le_of_ble_eq_true rfl) rfl (w32_okn (hF.1 c1).1) rfl ?_
    refine K_goto 5 dM_pagesOf_121 (by decide) ?_
    exact K_forget [true, true, true, true, false, true, true] (hF.1 c1).2
  · refine K_iload_n 3 l3 dM_pagesOf_18 rfl rfl ?_
    refine K_aload_n 0 76 dM_pagesOf_19 rfl rfl ?_
    refine K_getf 12 44 76 (jvI (μ 76 44)) dM_pagesOf_20 pf_M_331 rfl rfl (by decide) rfl rfl ?_
    refine K_icmp_ne 35 dM_pagesOf_23 (by decide) (fun c3 => ?_) (fun c3 => ?_)
    · refine K_sipush 10000 dM_pagesOf_35 rfl ?_
      refine K_istore 5 dM_pagesOf_38 (Nat.le_of_ble_eq_true rfl) rfl ?_
      refine K_iload_n 3 l3 dM_pagesOf_40 rfl rfl ?_
      refine K_iconst 1 dM_pagesOf_41 rfl ?_
      refine K_iadd dM_pagesOf_42 (w32_id ((hF.2 c1).1 c3).1) ?_
      refine K_istore 6 dM_pagesOf_43 (Nat.le_of_ble_eq_true rfl) rfl ?_
      exact ((hF.2 c1).1 c3).2
    · refine K_iload 4 l4 dM_pagesOf_26 rfl ?_
      refine K_if_ne 35 dM_pagesOf_28 (by decide) (fun c5 => ?_) (fun c5 => ?_)
      · refine K_sipush 10000 dM_pagesOf_35 rfl ?_
        refine K_istore 5 dM_pagesOf_38 (Nat.le_of_ble_eq_true rfl) rfl ?_
        refine K_iload_n 3 l3 dM_pagesOf_40 rfl rfl ?_
        refine K_iconst 1 dM_pagesOf_41 rfl ?_
        refine K_iadd dM_pagesOf_42 (w32_id (((hF.2 c1).2 c3).1 c5).1) ?_
        refine K_istore 6 dM_pagesOf_43 (Nat.le_of_ble_eq_true rfl) rfl ?_
        exact (((hF.2 c1).2 c3).1 c5).2
      · refine K_iconst 0 dM_pagesOf_31 rfl ?_
        refine K_goto 38 dM_pagesOf_32 (by decide) ?_
        refine K_istore 5 dM_pagesOf_38 (Nat.le_of_ble_eq_true rfl) rfl ?_
        refine K_iload_n 3 l3 dM_pagesOf_40 rfl rfl ?_
        refine K_iconst 1 dM_pagesOf_41 rfl ?_
        refine K_iadd dM_pagesOf_42 (w32_id (((hF.2 c1).2 c3).2 c5).1) ?_
        refine K_istore 6 dM_pagesOf_43 (Nat.le_of_ble_eq_true rfl) rfl ?_
        exact (((hF.2 c1).2 c3).2 c5).2
set_option maxHeartbeats 8000000 in
theorem vM_pagesOf_45 {E : jE} {μ : jMu} {Q : Option AV → jMu → Prop} {l1 l2 l3 l4 l5 l6 : Int} (hF : ((-2147483648 ≤ (l3 + l1) ∧ (l3 + l1) < 2147483648)) ∧ (((l3 + l1) < l6 → ((-2147483648 ≤ (42 * l3) ∧ (42 * l3) < 2147483648) ∧ (-2147483648 ≤ ((42 * l3) + l4) ∧ ((42 * l3) + l4) < 2147483648) ∧ (0 ≤ ((42 * l3) + l4) ∧ ((42 * l3) + l4) < 1722) ∧ (-2147483648 ≤ (l4 + 1) ∧ (l4 + 1) < 2147483648)) ∧ (K 121 E mM_pagesOf 12 [some (jvR 76), some (jvI l1), some (jvI l2), some (jvI l3), some (jvI (l4 + 1)), none, none] [] (j_up μ 118 ((42 * l3) + l4) l5) Q)) ∧ (¬ ((l3 + l1) < l6) → (((μ 76 44) < l6 → ((-2147483648 ≤ (42 * l3) ∧ (42 * l3) < 2147483648) ∧ (-2147483648 ≤ ((42 * l3) + l4) ∧ ((42 * l3) + l4) < 2147483648) ∧ (0 ≤ ((42 * l3) + l4) ∧ ((42 * l3) + l4) < 1722) ∧ (-2147483648 ≤ (l4 + 1) ∧ (l4 + 1) < 2147483648)) ∧ (K 121 E mM_pagesOf 12 [some (jvR 76), some (jvI l1), some (jvI l2), some (jvI l3), some (jvI (l4 + 1)), none, none] [] (j_up μ 118 ((42 * l3) + l4) l5) Q)) ∧ (¬ ((μ 76 44) < l6) → ((l4 ≤ 0 → ((-2147483648 ≤ (42 * l3) ∧ (42 * l3) < 2147483648) ∧ (-2147483648 ≤ ((42 * l3) + l4) ∧ ((42 * l3) + l4) < 2147483648) ∧ (0 ≤ ((42 * l3) + l4) ∧ ((42 * l3) + l4) < 1722) ∧ (-2147483648 ≤ (l4 + 1) ∧ (l4 + 1) < 2147483648)) ∧ (K 121 E mM_pagesOf 12 [some (jvR 76), some (jvI l1), some (jvI l2), some (jvI l3), some (jvI (l4 + 1)), none, none] [] (j_up μ 118 ((42 * l3) + l4) l5) Q)) ∧ (¬ (l4 ≤ 0) → (Ci E mM_looksBy [jvR 76, jvI l3, jvI l6, jvI l4] μ (fun r10 μ7 => ((l5 ≤ r10 → ((-2147483648 ≤ (l6 + 1) ∧ (l6 + 1) < 2147483648)) ∧ (K 121 E mM_pagesOf 45 [some (jvR 76), some (jvI l1), some (jvI l2), some (jvI l3), some (jvI l4), some (jvI l5), some (jvI (l6 + 1))] [] μ7 Q)) ∧ (¬ (l5 ≤ r10) → (Ci E mM_looksBy [jvR 76, jvI l3, jvI l6, jvI l4] μ7 (fun r16 μ13 => ((-2147483648 ≤ (l6 + 1) ∧ (l6 + 1) < 2147483648)) ∧ (K 121 E mM_pagesOf 45 [some (jvR 76), some (jvI l1), some (jvI l2), some (jvI l3), some (jvI l4), some (jvI r16), some (jvI (l6 + 1))] [] μ13 Q)))))))))))))) : K 121 E mM_pagesOf 45 [some (jvR 76), some (jvI l1), some (jvI l2), some (jvI l3), some (jvI l4), some (jvI l5), some (jvI l6)] [] μ Q := by
  refine K_iload 6 l6 dM_pagesOf_45 rfl ?_
  refine K_iload_n 3 l3 dM_pagesOf_47 rfl rfl ?_
  refine K_iload_n 1 l1 dM_pagesOf_48 rfl rfl ?_
  refine K_iadd dM_pagesOf_49 (w32_id hF.1) ?_
  refine K_icmp_gt 98 dM_pagesOf_50 (by decide) (fun c1 => ?_) (fun c1 => ?_)
  · refine K_aload_n 0 76 dM_pagesOf_98 rfl rfl ?_
    refine K_getf 12 59 76 (jvR 118) dM_pagesOf_99 pf_M_140 rfl rfl (by decide) rfl rfl ?_
    refine K_bipush 42 dM_pagesOf_102 rfl ?_
    refine K_iload_n 3 l3 dM_pagesOf_104 rfl rfl ?_
    refine K_imul dM_pagesOf_105 (w32_id (hF.2.1 c1).1.1) ?_
    refine K_iload 4 l4 dM_pagesOf_106 rfl ?_
    refine K_iadd dM_pagesOf_108 (w32_id (hF.2.1 c1).1.2.1) ?_
    refine K_iload 5 l5 dM_pagesOf_109 rfl ?_
    refine K_iast 118 1722 dM_pagesOf_111 rfl rfl (by decide) (hF.2.1 c1).1.2.2.1 ?_
    refine K_iinc 4 dM_pagesOf_112 (Nat.le_of_ble_eq_true rfl) rfl (w32_ok (hF.2.1 c1).1.2.2.2) rfl ?_
    refine K_goto 12 dM_pagesOf_115 (by decide) ?_
    exact K_forget [true, true, true, true, true, false, false] (hF.2.1 c1).2
  · refine K_iload 6 l6 dM_pagesOf_53 rfl ?_
    refine K_aload_n 0 76 dM_pagesOf_55 rfl rfl ?_
    refine K_getf 12 44 76 (jvI (μ 76 44)) dM_pagesOf_56 pf_M_331 rfl rfl (by decide) rfl rfl ?_
    refine K_icmp_gt 98 dM_pagesOf_59 (by decide) (fun c3 => ?_) (fun c3 => ?_)
    · refine K_aload_n 0 76 dM_pagesOf_98 rfl rfl ?_
      refine K_getf 12 59 76 (jvR 118) dM_pagesOf_99 pf_M_140 rfl rfl (by decide) rfl rfl ?_
      refine K_bipush 42 dM_pagesOf_102 rfl ?_
      refine K_iload_n 3 l3 dM_pagesOf_104 rfl rfl ?_
      refine K_imul dM_pagesOf_105 (w32_id ((hF.2.2 c1).1 c3).1.1) ?_
      refine K_iload 4 l4 dM_pagesOf_106 rfl ?_
      refine K_iadd dM_pagesOf_108 (w32_id ((hF.2.2 c1).1 c3).1.2.1) ?_
      refine K_iload 5 l5 dM_pagesOf_109 rfl ?_
      refine K_iast 118 1722 dM_pagesOf_111 rfl rfl (by decide) ((hF.2.2 c1).1 c3).1.2.2.1 ?_
      refine K_iinc 4 dM_pagesOf_112 (Nat.le_of_ble_eq_true rfl) rfl (w32_ok ((hF.2.2 c1).1 c3).1.2.2.2) rfl ?_
      refine K_goto 12 dM_pagesOf_115 (by decide) ?_
      exact K_forget [true, true, true, true, true, false, false] ((hF.2.2 c1).1 c3).2
    · refine K_iload 4 l4 dM_pagesOf_62 rfl ?_
      refine K_if_le 98 dM_pagesOf_64 (by decide) (fun c5 => ?_) (fun c5 => ?_)
      · refine K_aload_n 0 76 dM_pagesOf_98 rfl rfl ?_
        refine K_getf 12 59 76 (jvR 118) dM_pagesOf_99 pf_M_140 rfl rfl (by decide) rfl rfl ?_
        refine K_bipush 42 dM_pagesOf_102 rfl ?_
        refine K_iload_n 3 l3 dM_pagesOf_104 rfl rfl ?_
        refine K_imul dM_pagesOf_105 (w32_id (((hF.2.2 c1).2 c3).1 c5).1.1) ?_
        refine K_iload 4 l4 dM_pagesOf_106 rfl ?_
        refine K_iadd dM_pagesOf_108 (w32_id (((hF.2.2 c1).2 c3).1 c5).1.2.1) ?_
        refine K_iload 5 l5 dM_pagesOf_109 rfl ?_
        refine K_iast 118 1722 dM_pagesOf_111 rfl rfl (by decide) (((hF.2.2 c1).2 c3).1 c5).1.2.2.1 ?_
        refine K_iinc 4 dM_pagesOf_112 (Nat.le_of_ble_eq_true rfl) rfl (w32_ok (((hF.2.2 c1).2 c3).1 c5).1.2.2.2) rfl ?_
        refine K_goto 12 dM_pagesOf_115 (by decide) ?_
        exact K_forget [true, true, true, true, true, false, false] (((hF.2.2 c1).2 c3).1 c5).2
      · refine K_aload_n 0 76 dM_pagesOf_67 rfl rfl ?_
        refine K_iload_n 3 l3 dM_pagesOf_68 rfl rfl ?_
        refine K_iload 6 l6 dM_pagesOf_69 rfl ?_
        refine K_iload 4 l4 dM_pagesOf_71 rfl ?_
        refine K_callVi mM_looksBy 12 76 [jvI l3, jvI l6, jvI l4] dM_pagesOf_73 pm_M_435 ⟨_, rfl, rfl⟩ ⟨(Nat.le_of_ble_eq_true rfl), (Nat.le_of_ble_eq_true rfl)⟩ rfl rfl (by decide) (Nat.le_of_ble_eq_true rfl) rfl (Nat.le_of_ble_eq_true rfl) (by decide) (Ci_mono (((hF.2.2 c1).2 c3).2 c5) (fun r10 μ7 h8 => ?_))
        refine K_iload 5 l5 dM_pagesOf_76 rfl ?_
        refine K_icmp_ge 92 dM_pagesOf_78 (by decide) (fun c11 => ?_) (fun c11 => ?_)
        · refine K_iinc 6 dM_pagesOf_92 (Nat.le_of_ble_eq_true rfl) rfl (w32_ok (h8.1 c11).1) rfl ?_
          refine K_goto 45 dM_pagesOf_95 (by decide) ?_
          exact (h8.1 c11).2
        · refine K_aload_n 0 76 dM_pagesOf_81 rfl rfl ?_
          refine K_iload_n 3 l3 dM_pagesOf_82 rfl rfl ?_
          refine K_iload 6 l6 dM_pagesOf_83 rfl ?_
          refine K_iload 4 l4 dM_pagesOf_85 rfl ?_
          refine K_callVi mM_looksBy 12 76 [jvI l3, jvI l6, jvI l4] dM_pagesOf_87 pm_M_435 ⟨_, rfl, rfl⟩ ⟨(Nat.le_of_ble_eq_true rfl), (Nat.le_of_ble_eq_true rfl)⟩ rfl rfl (by decide) (Nat.le_of_ble_eq_true rfl) rfl (Nat.le_of_ble_eq_true rfl) (by decide) (Ci_mono (h8.2 c11) (fun r16 μ13 h14 => ?_))
          refine K_istore 5 dM_pagesOf_90 (Nat.le_of_ble_eq_true rfl) rfl ?_
          refine K_iinc 6 dM_pagesOf_92 (Nat.le_of_ble_eq_true rfl) rfl (w32_ok h14.1) rfl ?_
          refine K_goto 45 dM_pagesOf_95 (by decide) ?_
          exact h14.2
set_option maxHeartbeats 8000000 in
theorem vM_looksBy_0 {E : jE} {μ : jMu} {Q : Option AV → jMu → Prop} {a0 a1 a2 : Int} (hF : ((-2147483648 ≤ (42 * a1) ∧ (42 * a1) < 2147483648) ∧ (-2147483648 ≤ ((42 * a1) + a2) ∧ ((42 * a1) + a2) < 2147483648) ∧ (-2147483648 ≤ (((42 * a1) + a2) - 1) ∧ (((42 * a1) + a2) - 1) < 2147483648) ∧ (0 ≤ (((42 * a1) + a2) - 1) ∧ (((42 * a1) + a2) - 1) < 1722)) ∧ ((¬ (μ 118 (((42 * a1) + a2) - 1)) = 10000 → (Ci E mM_looksOf [jvR 76, jvI a0, jvI a1] μ (fun r6 μ3 => ((-2147483648 ≤ (42 * a1) ∧ (42 * a1) < 2147483648) ∧ (-2147483648 ≤ ((42 * a1) + a2) ∧ ((42 * a1) + a2) < 2147483648) ∧ (-2147483648 ≤ (((42 * a1) + a2) - 1) ∧ (((42 * a1) + a2) - 1) < 2147483648) ∧ (0 ≤ (((42 * a1) + a2) - 1) ∧ (((42 * a1) + a2) - 1) < 1722) ∧ (-2147483648 ≤ (r6 + (μ3 118 (((42 * a1) + a2) - 1))) ∧ (r6 + (μ3 118 (((42 * a1) + a2) - 1))) < 2147483648)) ∧ (Q (some (jvI (r6 + (μ3 118 (((42 * a1) + a2) - 1))))) μ3)))) ∧ ((μ 118 (((42 * a1) + a2) - 1)) = 10000 → (Q (some (jvI 10000)) μ)))) : K 121 E mM_looksBy 0 [some (jvR 76), some (jvI a0), some (jvI a1), some (jvI a2)] [] μ Q := by
  refine K_aload_n 0 76 dM_looksBy_0 rfl rfl ?_
  refine K_getf 12 59 76 (jvR 118) dM_looksBy_1 pf_M_140 rfl rfl (by decide) rfl rfl ?_
  refine K_bipush 42 dM_looksBy_4 rfl ?_
  refine K_iload_n 2 a1 dM_looksBy_6 rfl rfl ?_
  refine K_imul dM_looksBy_7 (w32_id hF.1.1) ?_
  refine K_iload_n 3 a2 dM_looksBy_8 rfl rfl ?_
  refine K_iadd dM_looksBy_9 (w32_id hF.1.2.1) ?_
  refine K_iconst 1 dM_looksBy_10 rfl ?_
  refine K_isub dM_looksBy_11 (w32_id hF.1.2.2.1) ?_
  refine K_iald 118 1722 dM_looksBy_12 rfl rfl (by decide) hF.1.2.2.2 ?_
  refine K_sipush 10000 dM_looksBy_13 rfl ?_
  refine K_icmp_ne 25 dM_looksBy_16 (by decide) (fun c1 => ?_) (fun c1 => ?_)
  · refine K_aload_n 0 76 dM_looksBy_25 rfl rfl ?_
    refine K_iload_n 1 a0 dM_looksBy_26 rfl rfl ?_
    refine K_iload_n 2 a1 dM_looksBy_27 rfl rfl ?_
    refine K_callVi mM_looksOf 12 76 [jvI a0, jvI a1] dM_looksBy_28 pm_M_432 ⟨_, rfl, rfl⟩ ⟨(Nat.le_of_ble_eq_true rfl), (Nat.le_of_ble_eq_true rfl)⟩ rfl rfl (by decide) (Nat.le_of_ble_eq_true rfl) rfl (Nat.le_of_ble_eq_true rfl) (by decide) (Ci_mono (hF.2.1 c1) (fun r6 μ3 h4 => ?_))
    refine K_aload_n 0 76 dM_looksBy_31 rfl rfl ?_
    refine K_getf 12 59 76 (jvR 118) dM_looksBy_32 pf_M_140 rfl rfl (by decide) rfl rfl ?_
    refine K_bipush 42 dM_looksBy_35 rfl ?_
    refine K_iload_n 2 a1 dM_looksBy_37 rfl rfl ?_
    refine K_imul dM_looksBy_38 (w32_id h4.1.1) ?_
    refine K_iload_n 3 a2 dM_looksBy_39 rfl rfl ?_
    refine K_iadd dM_looksBy_40 (w32_id h4.1.2.1) ?_
    refine K_iconst 1 dM_looksBy_41 rfl ?_
    refine K_isub dM_looksBy_42 (w32_id h4.1.2.2.1) ?_
    refine K_iald 118 1722 dM_looksBy_43 rfl rfl (by decide) h4.1.2.2.2.1 ?_
    refine K_iadd dM_looksBy_44 (w32_id h4.1.2.2.2.2) ?_
    exact K_iret dM_looksBy_45 (Or.inl rfl) h4.2
  · refine K_sipush 10000 dM_looksBy_19 rfl ?_
    refine K_goto 45 dM_looksBy_22 (by decide) ?_
    exact K_iret dM_looksBy_45 (Or.inl rfl) (hF.2.2 c1)
set_option maxHeartbeats 8000000 in
theorem vM_looksOf_0 {E : jE} {μ : jMu} {Q : Option AV → jMu → Prop} {a0 a1 : Int} (hF : (K 121 E mM_looksOf 5 [some (jvR 76), some (jvI a0), some (jvI a1), some (jvI 0), some (jvI a0), none] [] μ Q)) : K 121 E mM_looksOf 0 [some (jvR 76), some (jvI a0), some (jvI a1), none, none, none] [] μ Q := by
  refine K_iconst 0 dM_looksOf_0 rfl ?_
  refine K_istore_n 3 dM_looksOf_1 rfl (Nat.le_of_ble_eq_true rfl) rfl ?_
  refine K_iload_n 1 a0 dM_looksOf_2 rfl rfl ?_
  refine K_istore 4 dM_looksOf_3 (Nat.le_of_ble_eq_true rfl) rfl ?_
  exact hF
set_option maxHeartbeats 8000000 in
theorem vM_looksOf_5 {E : jE} {μ : jMu} {Q : Option AV → jMu → Prop} {l1 l2 l3 l4 : Int} (hF : ((l2 ≤ l4 → (Q (some (jvI l3)) μ)) ∧ (¬ (l2 ≤ l4) → (K 121 E mM_looksOf 14 [some (jvR 76), some (jvI l1), some (jvI l2), some (jvI l3), some (jvI l4), some (jvI 0)] [] μ Q)))) : K 121 E mM_looksOf 5 [some (jvR 76), some (jvI l1), some (jvI l2), some (jvI l3), some (jvI l4), none] [] μ Q := by
  refine K_iload 4 l4 dM_looksOf_5 rfl ?_
  refine K_iload_n 2 l2 dM_looksOf_7 rfl rfl ?_
  refine K_icmp_ge 57 dM_looksOf_8 (by decide) (fun c1 => ?_) (fun c1 => ?_)
  · refine K_iload_n 3 l3 dM_looksOf_57 rfl rfl ?_
    exact K_iret dM_looksOf_58 (Or.inl rfl) (hF.1 c1)
  · refine K_iconst 0 dM_looksOf_11 rfl ?_
    refine K_istore 5 dM_looksOf_12 (Nat.le_of_ble_eq_true rfl) rfl ?_
    exact (hF.2 c1)
set_option maxHeartbeats 8000000 in
theorem vM_looksOf_14 {E : jE} {μ : jMu} {Q : Option AV → jMu → Prop} {l1 l2 l3 l4 l5 : Int} (hF : ((0 ≤ l4 ∧ l4 < 40)) ∧ (Ci E mM_namesMany [jvR 76, jvI (μ 105 l4)] μ (fun r4 μ1 => ((r4 ≤ l5 → ((-2147483648 ≤ (l4 + 1) ∧ (l4 + 1) < 2147483648)) ∧ (K 121 E mM_looksOf 5 [some (jvR 76), some (jvI l1), some (jvI l2), some (jvI l3), some (jvI (l4 + 1)), none] [] μ1 Q)) ∧ (¬ (r4 ≤ l5) → (Ci E mM_leansTo [jvR 76, jvI l4, jvI l5] μ1 (fun r10 μ7 => ((l1 ≤ r10 → ((-2147483648 ≤ (l5 + 1) ∧ (l5 + 1) < 2147483648)) ∧ (K 121 E mM_looksOf 14 [some (jvR 76), some (jvI l1), some (jvI l2), some (jvI l3), some (jvI l4), some (jvI (l5 + 1))] [] μ7 Q)) ∧ (¬ (l1 ≤ r10) → ((-2147483648 ≤ (l3 + 1) ∧ (l3 + 1) < 2147483648) ∧ (-2147483648 ≤ (l5 + 1) ∧ (l5 + 1) < 2147483648)) ∧ (K 121 E mM_looksOf 14 [some (jvR 76), some (jvI l1), some (jvI l2), some (jvI (l3 + 1)), some (jvI l4), some (jvI (l5 + 1))] [] μ7 Q)))))))))) : K 121 E mM_looksOf 14 [some (jvR 76), some (jvI l1), some (jvI l2), some (jvI l3), some (jvI l4), some (jvI l5)] [] μ Q := by
  refine K_iload 5 l5 dM_looksOf_14 rfl ?_
  refine K_aload_n 0 76 dM_looksOf_16 rfl rfl ?_
  refine K_aload_n 0 76 dM_looksOf_17 rfl rfl ?_
  refine K_getf 12 42 76 (jvR 105) dM_looksOf_18 pf_M_100 rfl rfl (by decide) rfl rfl ?_
  refine K_iload 4 l4 dM_looksOf_21 rfl ?_
  refine K_iald 105 40 dM_looksOf_23 rfl rfl (by decide) hF.1 ?_
  refine K_callVi mM_namesMany 12 76 [jvI (μ 105 l4)] dM_looksOf_24 pm_M_328 ⟨_, rfl, rfl⟩ ⟨(Nat.le_of_ble_eq_true rfl), (Nat.le_of_ble_eq_true rfl)⟩ rfl rfl (by decide) (Nat.le_of_ble_eq_true rfl) rfl (Nat.le_of_ble_eq_true rfl) (by decide) (Ci_mono hF.2 (fun r4 μ1 h2 => ?_))
  refine K_icmp_ge 51 dM_looksOf_27 (by decide) (fun c5 => ?_) (fun c5 => ?_)
  · refine K_iinc 4 dM_looksOf_51 (Nat.le_of_ble_eq_true rfl) rfl (w32_ok (h2.1 c5).1) rfl ?_
    refine K_goto 5 dM_looksOf_54 (by decide) ?_
    exact K_forget [true, true, true, true, true, false] (h2.1 c5).2
  · refine K_aload_n 0 76 dM_looksOf_30 rfl rfl ?_
    refine K_iload 4 l4 dM_looksOf_31 rfl ?_
    refine K_iload 5 l5 dM_looksOf_33 rfl ?_
    refine K_callVi mM_leansTo 12 76 [jvI l4, jvI l5] dM_looksOf_35 pm_M_377 ⟨_, rfl, rfl⟩ ⟨(Nat.le_of_ble_eq_true rfl), (Nat.le_of_ble_eq_true rfl)⟩ rfl rfl (by decide) (Nat.le_of_ble_eq_true rfl) rfl (Nat.le_of_ble_eq_true rfl) (by decide) (Ci_mono (h2.2 c5) (fun r10 μ7 h8 => ?_))
    refine K_iload_n 1 l1 dM_looksOf_38 rfl rfl ?_
    refine K_icmp_ge 45 dM_looksOf_39 (by decide) (fun c11 => ?_) (fun c11 => ?_)
    · refine K_iinc 5 dM_looksOf_45 (Nat.le_of_ble_eq_true rfl) rfl (w32_ok (h8.1 c11).1) rfl ?_
      refine K_goto 14 dM_looksOf_48 (by decide) ?_
      exact (h8.1 c11).2
    · refine K_iinc 3 dM_looksOf_42 (Nat.le_of_ble_eq_true rfl) rfl (w32_ok (h8.2 c11).1.1) rfl ?_
      refine K_iinc 5 dM_looksOf_45 (Nat.le_of_ble_eq_true rfl) rfl (w32_ok (h8.2 c11).1.2) rfl ?_
      refine K_goto 14 dM_looksOf_48 (by decide) ?_
      exact (h8.2 c11).2
set_option maxHeartbeats 8000000 in
theorem vM_blame_0 {E : jE} {μ : jMu} {Q : Option AV → jMu → Prop} {a0 a1 : Int} (hF : (Ci E mM_isRule [jvR 76, jvI a0] μ (fun r4 μ1 => ((¬ r4 = 0 → ((0 ≤ a0 ∧ a0 < 12) ∧ (a1 = 0 ∨ a1 = 1)) ∧ (Ci E mM_falls [jvR 76] (j_up μ1 107 a0 a1) (fun r10 μ7 => (Q (some (jvI r10)) μ7)))) ∧ (r4 = 0 → (Q (some (jvI (-1))) μ1)))))) : K 121 E mM_blame 0 [some (jvR 76), some (jvI a0), some (jvI a1)] [] μ Q := by
  refine K_aload_n 0 76 dM_blame_0 rfl rfl ?_
  refine K_iload_n 1 a0 dM_blame_1 rfl rfl ?_
  refine K_callVi mM_isRule 12 76 [jvI a0] dM_blame_2 pm_M_362 ⟨_, rfl, rfl⟩ ⟨(Nat.le_of_ble_eq_true rfl), (Nat.le_of_ble_eq_true rfl)⟩ rfl rfl (by decide) (Nat.le_of_ble_eq_true rfl) rfl (Nat.le_of_ble_eq_true rfl) (by decide) (Ci_mono hF (fun r4 μ1 h2 => ?_))
  refine K_if_ne 10 dM_blame_5 (by decide) (fun c5 => ?_) (fun c5 => ?_)
  · refine K_aload_n 0 76 dM_blame_10 rfl rfl ?_
    refine K_getf 12 45 76 (jvR 107) dM_blame_11 pf_M_106 rfl rfl (by decide) rfl rfl ?_
    refine K_iload_n 1 a0 dM_blame_14 rfl rfl ?_
    refine K_iload_n 2 a1 dM_blame_15 rfl rfl ?_
    refine K_zast 107 12 dM_blame_16 rfl rfl (by decide) (h2.1 c5).1.1 (h2.1 c5).1.2 ?_
    refine K_aload_n 0 76 dM_blame_17 rfl rfl ?_
    refine K_callVi mM_falls 12 76 [] dM_blame_18 pm_M_352 ⟨_, rfl, rfl⟩ ⟨(Nat.le_of_ble_eq_true rfl), (Nat.le_of_ble_eq_true rfl)⟩ rfl rfl (by decide) (Nat.le_of_ble_eq_true rfl) rfl (Nat.le_of_ble_eq_true rfl) (by decide) (Ci_mono (h2.1 c5).2 (fun r10 μ7 h8 => ?_))
    exact K_iret dM_blame_21 (Or.inl rfl) h8
  · refine K_iconst (-1) dM_blame_8 rfl ?_
    exact K_iret dM_blame_9 (Or.inl rfl) (h2.2 c5)
set_option maxHeartbeats 8000000 in
theorem vM_stands_0 {E : jE} {μ : jMu} {Q : Option AV → jMu → Prop} (hF : (Ci E mM_steps [jvR 76] μ (fun r4 μ1 => ((¬ r4 = 0 → (Ci E mM_falls [jvR 76] μ1 (fun r10 μ7 => (K 121 E mM_stands 16 [some (jvR 76), some (jvI r10), some (jvI 0)] [] μ7 Q)))) ∧ (r4 = 0 → (Q (some (jvI (-1))) μ1)))))) : K 121 E mM_stands 0 [some (jvR 76), none, none] [] μ Q := by
  refine K_aload_n 0 76 dM_stands_0 rfl rfl ?_
  refine K_callVi mM_steps 12 76 [] dM_stands_1 pm_M_294 ⟨_, rfl, rfl⟩ ⟨(Nat.le_of_ble_eq_true rfl), (Nat.le_of_ble_eq_true rfl)⟩ rfl rfl (by decide) (Nat.le_of_ble_eq_true rfl) rfl (Nat.le_of_ble_eq_true rfl) (by decide) (Ci_mono hF (fun r4 μ1 h2 => ?_))
  refine K_if_ne 9 dM_stands_4 (by decide) (fun c5 => ?_) (fun c5 => ?_)
  · refine K_aload_n 0 76 dM_stands_9 rfl rfl ?_
    refine K_callVi mM_falls 12 76 [] dM_stands_10 pm_M_352 ⟨_, rfl, rfl⟩ ⟨(Nat.le_of_ble_eq_true rfl), (Nat.le_of_ble_eq_true rfl)⟩ rfl rfl (by decide) (Nat.le_of_ble_eq_true rfl) rfl (Nat.le_of_ble_eq_true rfl) (by decide) (Ci_mono (h2.1 c5) (fun r10 μ7 h8 => ?_))
    refine K_istore_n 1 dM_stands_13 rfl (Nat.le_of_ble_eq_true rfl) rfl ?_
    refine K_iconst 0 dM_stands_14 rfl ?_
    refine K_istore_n 2 dM_stands_15 rfl (Nat.le_of_ble_eq_true rfl) rfl ?_
    exact h8
  · refine K_iconst (-1) dM_stands_7 rfl ?_
    exact K_iret dM_stands_8 (Or.inl rfl) (h2.2 c5)
set_option maxHeartbeats 8000000 in
theorem vM_stands_16 {E : jE} {μ : jMu} {Q : Option AV → jMu → Prop} {l1 l2 : Int} (hF : (Ci E mM_steps [jvR 76] μ (fun r4 μ1 => ((r4 ≤ l2 → (Q (some (jvI 0)) μ1)) ∧ (¬ (r4 ≤ l2) → ((0 ≤ l2 ∧ l2 < 40) ∧ (0 ≤ (μ1 76 33) ∧ (μ1 76 33) < 40)) ∧ ((¬ (μ1 103 l2) = (μ1 103 (μ1 76 33)) → ((-2147483648 ≤ (l2 + 1) ∧ (l2 + 1) < 2147483648)) ∧ (K 121 E mM_stands 16 [some (jvR 76), some (jvI l1), some (jvI (l2 + 1))] [] μ1 Q)) ∧ ((μ1 103 l2) = (μ1 103 (μ1 76 33)) → ((0 ≤ l2 ∧ l2 < 40)) ∧ ((¬ (μ1 108 l2) = 0 → ((-2147483648 ≤ (l2 + 1) ∧ (l2 + 1) < 2147483648)) ∧ (K 121 E mM_stands 16 [some (jvR 76), some (jvI l1), some (jvI (l2 + 1))] [] μ1 Q)) ∧ ((μ1 108 l2) = 0 → (Q (some (jvI 1)) μ1)))))))))) : K 121 E mM_stands 16 [some (jvR 76), some (jvI l1), some (jvI l2)] [] μ Q := by
  refine K_iload_n 2 l2 dM_stands_16 rfl rfl ?_
  refine K_aload_n 0 76 dM_stands_17 rfl rfl ?_
  refine K_callVi mM_steps 12 76 [] dM_stands_18 pm_M_294 ⟨_, rfl, rfl⟩ ⟨(Nat.le_of_ble_eq_true rfl), (Nat.le_of_ble_eq_true rfl)⟩ rfl rfl (by decide) (Nat.le_of_ble_eq_true rfl) rfl (Nat.le_of_ble_eq_true rfl) (by decide) (Ci_mono hF (fun r4 μ1 h2 => ?_))
  refine K_icmp_ge 59 dM_stands_21 (by decide) (fun c5 => ?_) (fun c5 => ?_)
  · refine K_iconst 0 dM_stands_59 rfl ?_
    exact K_iret dM_stands_60 (Or.inl rfl) (h2.1 c5)
  · refine K_aload_n 0 76 dM_stands_24 rfl rfl ?_
    refine K_getf 12 40 76 (jvR 103) dM_stands_25 pf_M_94 rfl rfl (by decide) rfl rfl ?_
    refine K_iload_n 2 l2 dM_stands_28 rfl rfl ?_
    refine K_iald 103 40 dM_stands_29 rfl rfl (by decide) (h2.2 c5).1.1 ?_
    refine K_aload_n 0 76 dM_stands_30 rfl rfl ?_
    refine K_getf 12 40 76 (jvR 103) dM_stands_31 pf_M_94 rfl rfl (by decide) rfl rfl ?_
    refine K_aload_n 0 76 dM_stands_34 rfl rfl ?_
    refine K_getf 12 33 76 (jvI (μ1 76 33)) dM_stands_35 pf_M_288 rfl rfl (by decide) rfl rfl ?_
    refine K_iald 103 40 dM_stands_38 rfl rfl (by decide) (h2.2 c5).1.2 ?_
    refine K_icmp_ne 53 dM_stands_39 (by decide) (fun c8 => ?_) (fun c8 => ?_)
    · refine K_iinc 2 dM_stands_53 (Nat.le_of_ble_eq_true rfl) rfl (w32_ok ((h2.2 c5).2.1 c8).1) rfl ?_
      refine K_goto 16 dM_stands_56 (by decide) ?_
      exact ((h2.2 c5).2.1 c8).2
    · refine K_aload_n 0 76 dM_stands_42 rfl rfl ?_
      refine K_getf 12 46 76 (jvR 108) dM_stands_43 pf_M_110 rfl rfl (by decide) rfl rfl ?_
      refine K_iload_n 2 l2 dM_stands_46 rfl rfl ?_
      refine K_zald 108 40 dM_stands_47 rfl rfl (by decide) ((h2.2 c5).2.2 c8).1 ?_
      refine K_if_ne 53 dM_stands_48 (by decide) (fun c10 => ?_) (fun c10 => ?_)
      · refine K_iinc 2 dM_stands_53 (Nat.le_of_ble_eq_true rfl) rfl (w32_ok (((h2.2 c5).2.2 c8).2.1 c10).1) rfl ?_
        refine K_goto 16 dM_stands_56 (by decide) ?_
        exact (((h2.2 c5).2.2 c8).2.1 c10).2
      · refine K_iconst 1 dM_stands_51 rfl ?_
        exact K_iret dM_stands_52 (Or.inl rfl) (((h2.2 c5).2.2 c8).2.2 c10)
set_option maxHeartbeats 8000000 in
theorem vM_fewest_0 {E : jE} {μ : jMu} {Q : Option AV → jMu → Prop} {a0 : Int} (hF : (Ci E mM_steps [jvR 76] μ (fun r4 μ1 => ((r4 = 0 → (Q (some (jvI (-1))) μ1)) ∧ (¬ (r4 = 0) → ((a0 < (-1) → (Q (some (jvI (-1))) μ1)) ∧ (¬ (a0 < (-1)) → (Ci E mM_waysMany [jvR 76] μ1 (fun r14 μ11 => ((r14 ≤ 4096 → (Cl E mM_fewestOf [jvR 76] μ11 (fun r20 μ17 => ((¬ r20 = 0 → ((¬ a0 = (-1) → (K 121 E mM_fewest 53 [some (jvR 76), some (jvI a0), some (jvL r20), none, some (jvI 0), some (jvI 0)] [] μ17 Q)) ∧ (a0 = (-1) → (Ci E mM_bitsOf [jvL r20] μ17 (fun r28 μ25 => (Q (some (jvI r28)) μ25)))))) ∧ (r20 = 0 → (Q (some (jvI (-1))) μ17)))))) ∧ (¬ (r14 ≤ 4096) → (Q (some (jvI (-1))) μ11)))))))))))) : K 121 E mM_fewest 0 [some (jvR 76), some (jvI a0), none, none, none, none] [] μ Q := by
  refine K_aload_n 0 76 dM_fewest_0 rfl rfl ?_
  refine K_callVi mM_steps 12 76 [] dM_fewest_1 pm_M_294 ⟨_, rfl, rfl⟩ ⟨(Nat.le_of_ble_eq_true rfl), (Nat.le_of_ble_eq_true rfl)⟩ rfl rfl (by decide) (Nat.le_of_ble_eq_true rfl) rfl (Nat.le_of_ble_eq_true rfl) (by decide) (Ci_mono hF (fun r4 μ1 h2 => ?_))
  refine K_if_eq 22 dM_fewest_4 (by decide) (fun c5 => ?_) (fun c5 => ?_)
  · refine K_iconst (-1) dM_fewest_22 rfl ?_
    exact K_iret dM_fewest_23 (Or.inl rfl) (h2.1 c5)
  · refine K_iload_n 1 a0 dM_fewest_7 rfl rfl ?_
    refine K_iconst (-1) dM_fewest_8 rfl ?_
    refine K_icmp_lt 22 dM_fewest_9 (by decide) (fun c8 => ?_) (fun c8 => ?_)
    · refine K_iconst (-1) dM_fewest_22 rfl ?_
      exact K_iret dM_fewest_23 (Or.inl rfl) ((h2.2 c5).1 c8)
    · refine K_aload_n 0 76 dM_fewest_12 rfl rfl ?_
      refine K_callVi mM_waysMany 12 76 [] dM_fewest_13 pm_M_457 ⟨_, rfl, rfl⟩ ⟨(Nat.le_of_ble_eq_true rfl), (Nat.le_of_ble_eq_true rfl)⟩ rfl rfl (by decide) (Nat.le_of_ble_eq_true rfl) rfl (Nat.le_of_ble_eq_true rfl) (by decide) (Ci_mono ((h2.2 c5).2 c8) (fun r14 μ11 h12 => ?_))
      refine K_sipush 4096 dM_fewest_16 rfl ?_
      refine K_icmp_le 24 dM_fewest_19 (by decide) (fun c15 => ?_) (fun c15 => ?_)
      · refine K_aload_n 0 76 dM_fewest_24 rfl rfl ?_
        refine K_callVl mM_fewestOf 12 76 [] dM_fewest_25 pm_M_460 ⟨_, rfl, rfl⟩ ⟨(Nat.le_of_ble_eq_true rfl), (Nat.le_of_ble_eq_true rfl)⟩ rfl rfl (by decide) (Nat.le_of_ble_eq_true rfl) rfl (Nat.le_of_ble_eq_true rfl) (by decide) (Cl_mono (h12.1 c15) (fun r20 μ17 h18 => ?_))
        refine K_lstore_n 2 dM_fewest_28 rfl (Nat.le_of_ble_eq_true rfl) rfl ?_
        refine K_lload_n 2 r20 dM_fewest_29 rfl rfl ?_
        refine K_lconst 0 dM_fewest_30 rfl ?_
        refine K_lcmp_ne 37 dM_fewest_31 dM_fewest_32 (by decide) (fun c21 => ?_) (fun c21 => ?_)
        · refine K_iload_n 1 a0 dM_fewest_37 rfl rfl ?_
          refine K_iconst (-1) dM_fewest_38 rfl ?_
          refine K_icmp_ne 47 dM_fewest_39 (by decide) (fun c23 => ?_) (fun c23 => ?_)
          · refine K_iconst 0 dM_fewest_47 rfl ?_
            refine K_istore 4 dM_fewest_48 (Nat.le_of_ble_eq_true rfl) rfl ?_
            refine K_iconst 0 dM_fewest_50 rfl ?_
            refine K_istore 5 dM_fewest_51 (Nat.le_of_ble_eq_true rfl) rfl ?_
            exact ((h18.1 c21).1 c23)
          · refine K_lload_n 2 r20 dM_fewest_42 rfl rfl ?_
            refine K_callSi mM_bitsOf [jvL r20] dM_fewest_43 pm_M_450 ⟨(Nat.le_of_ble_eq_true rfl), (Nat.le_of_ble_eq_true rfl)⟩ (Nat.le_of_ble_eq_true rfl) rfl (Nat.le_of_ble_eq_true rfl) (by decide) (Ci_mono ((h18.1 c21).2 c23) (fun r28 μ25 h26 => ?_))
            exact K_iret dM_fewest_46 (Or.inl rfl) h26
        · refine K_iconst (-1) dM_fewest_35 rfl ?_
          exact K_iret dM_fewest_36 (Or.inl rfl) (h18.2 c21)
      · refine K_iconst (-1) dM_fewest_22 rfl ?_
        exact K_iret dM_fewest_23 (Or.inl rfl) (h12.2 c15)
set_option maxHeartbeats 8000000 in
theorem vM_fewest_53 {E : jE} {μ : jMu} {Q : Option AV → jMu → Prop} {l1 l2 l4 l5 : Int} (hF : (Ci E mM_steps [jvR 76] μ (fun r4 μ1 => ((r4 ≤ l5 → (Q (some (jvI (-1))) μ1)) ∧ (¬ (r4 ≤ l5) → ((¬ (iand64 (ishr64 l2 l5) 1) = 0 → ((¬ l4 = l1 → ((-2147483648 ≤ (l4 + 1) ∧ (l4 + 1) < 2147483648) ∧ (-2147483648 ≤ (l5 + 1) ∧ (l5 + 1) < 2147483648)) ∧ (K 121 E mM_fewest 53 [some (jvR 76), some (jvI l1), some (jvL l2), none, some (jvI (l4 + 1)), some (jvI (l5 + 1))] [] μ1 Q)) ∧ (l4 = l1 → (Q (some (jvI l5)) μ1)))) ∧ ((iand64 (ishr64 l2 l5) 1) = 0 → ((-2147483648 ≤ (l5 + 1) ∧ (l5 + 1) < 2147483648)) ∧ (K 121 E mM_fewest 53 [some (jvR 76), some (jvI l1), some (jvL l2), none, some (jvI l4), some (jvI (l5 + 1))] [] μ1 Q)))))))) : K 121 E mM_fewest 53 [some (jvR 76), some (jvI l1), some (jvL l2), none, some (jvI l4), some (jvI l5)] [] μ Q := by
  refine K_iload 5 l5 dM_fewest_53 rfl ?_
  refine K_aload_n 0 76 dM_fewest_55 rfl rfl ?_
  refine K_callVi mM_steps 12 76 [] dM_fewest_56 pm_M_294 ⟨_, rfl, rfl⟩ ⟨(Nat.le_of_ble_eq_true rfl), (Nat.le_of_ble_eq_true rfl)⟩ rfl rfl (by decide) (Nat.le_of_ble_eq_true rfl) rfl (Nat.le_of_ble_eq_true rfl) (by decide) (Ci_mono hF (fun r4 μ1 h2 => ?_))
  refine K_icmp_ge 94 dM_fewest_59 (by decide) (fun c5 => ?_) (fun c5 => ?_)
  · refine K_iconst (-1) dM_fewest_94 rfl ?_
    exact K_iret dM_fewest_95 (Or.inl rfl) (h2.1 c5)
  · refine K_lload_n 2 l2 dM_fewest_62 rfl rfl ?_
    refine K_iload 5 l5 dM_fewest_63 rfl ?_
    refine K_lshr dM_fewest_65 rfl ?_
    refine K_lconst 1 dM_fewest_66 rfl ?_
    refine K_land dM_fewest_67 rfl ?_
    refine K_lconst 0 dM_fewest_68 rfl ?_
    refine K_lcmp_ne 76 dM_fewest_69 dM_fewest_70 (by decide) (fun c8 => ?_) (fun c8 => ?_)
    · refine K_iload 4 l4 dM_fewest_76 rfl ?_
      refine K_iload_n 1 l1 dM_fewest_78 rfl rfl ?_
      refine K_icmp_ne 85 dM_fewest_79 (by decide) (fun c10 => ?_) (fun c10 => ?_)
      · refine K_iinc 4 dM_fewest_85 (Nat.le_of_ble_eq_true rfl) rfl (w32_ok (((h2.2 c5).1 c8).1 c10).1.1) rfl ?_
        refine K_iinc 5 dM_fewest_88 (Nat.le_of_ble_eq_true rfl) rfl (w32_ok (((h2.2 c5).1 c8).1 c10).1.2) rfl ?_
        refine K_goto 53 dM_fewest_91 (by decide) ?_
        exact (((h2.2 c5).1 c8).1 c10).2
      · refine K_iload 5 l5 dM_fewest_82 rfl ?_
        exact K_iret dM_fewest_84 (Or.inl rfl) (((h2.2 c5).1 c8).2 c10)
    · refine K_goto 88 dM_fewest_73 (by decide) ?_
      refine K_iinc 5 dM_fewest_88 (Nat.le_of_ble_eq_true rfl) rfl (w32_ok ((h2.2 c5).2 c8).1) rfl ?_
      refine K_goto 53 dM_fewest_91 (by decide) ?_
      exact ((h2.2 c5).2 c8).2
set_option maxHeartbeats 8000000 in
theorem vM_waysMany_0 {E : jE} {μ : jMu} {Q : Option AV → jMu → Prop} (hF : (K 121 E mM_waysMany 4 [some (jvR 76), some (jvI 1), some (jvI 0), none, none] [] μ Q)) : K 121 E mM_waysMany 0 [some (jvR 76), none, none, none, none] [] μ Q := by
  refine K_iconst 1 dM_waysMany_0 rfl ?_
  refine K_istore_n 1 dM_waysMany_1 rfl (Nat.le_of_ble_eq_true rfl) rfl ?_
  refine K_iconst 0 dM_waysMany_2 rfl ?_
  refine K_istore_n 2 dM_waysMany_3 rfl (Nat.le_of_ble_eq_true rfl) rfl ?_
  exact hF
set_option maxHeartbeats 8000000 in
theorem vM_waysMany_4 {E : jE} {μ : jMu} {Q : Option AV → jMu → Prop} {l1 l2 : Int} (hF : (Ci E mM_steps [jvR 76] μ (fun r4 μ1 => ((r4 ≤ l2 → (Q (some (jvI l1)) μ1)) ∧ (¬ (r4 ≤ l2) → (K 121 E mM_waysMany 17 [some (jvR 76), some (jvI l1), some (jvI l2), some (jvI 0), some (jvI l2)] [] μ1 Q)))))) : K 121 E mM_waysMany 4 [some (jvR 76), some (jvI l1), some (jvI l2), none, none] [] μ Q := by
  refine K_iload_n 2 l2 dM_waysMany_4 rfl rfl ?_
  refine K_aload_n 0 76 dM_waysMany_5 rfl rfl ?_
  refine K_callVi mM_steps 12 76 [] dM_waysMany_6 pm_M_294 ⟨_, rfl, rfl⟩ ⟨(Nat.le_of_ble_eq_true rfl), (Nat.le_of_ble_eq_true rfl)⟩ rfl rfl (by decide) (Nat.le_of_ble_eq_true rfl) rfl (Nat.le_of_ble_eq_true rfl) (by decide) (Ci_mono hF (fun r4 μ1 h2 => ?_))
  refine K_icmp_ge 85 dM_waysMany_9 (by decide) (fun c5 => ?_) (fun c5 => ?_)
  · refine K_iload_n 1 l1 dM_waysMany_85 rfl rfl ?_
    exact K_iret dM_waysMany_86 (Or.inl rfl) (h2.1 c5)
  · refine K_iconst 0 dM_waysMany_12 rfl ?_
    refine K_istore_n 3 dM_waysMany_13 rfl (Nat.le_of_ble_eq_true rfl) rfl ?_
    refine K_iload_n 2 l2 dM_waysMany_14 rfl rfl ?_
    refine K_istore 4 dM_waysMany_15 (Nat.le_of_ble_eq_true rfl) rfl ?_
    exact (h2.2 c5)
set_option maxHeartbeats 8000000 in
theorem vM_waysMany_17 {E : jE} {μ : jMu} {Q : Option AV → jMu → Prop} {l1 l2 l3 l4 : Int} (hF : (Ci E mM_steps [jvR 76] μ (fun r4 μ1 => ((r4 ≤ l4 → ((l3 ≤ 0 → ((-2147483648 ≤ (l2 + 1) ∧ (l2 + 1) < 2147483648)) ∧ (K 121 E mM_waysMany 4 [some (jvR 76), some (jvI l1), some (jvI (l2 + 1)), none, none] [] μ1 Q)) ∧ (¬ (l3 ≤ 0) → ((l1 ≤ 4096 → ((-2147483648 ≤ (l1 * l3) ∧ (l1 * l3) < 2147483648) ∧ (-2147483648 ≤ (l2 + 1) ∧ (l2 + 1) < 2147483648)) ∧ (K 121 E mM_waysMany 4 [some (jvR 76), some (jvI (l1 * l3)), some (jvI (l2 + 1)), none, none] [] μ1 Q)) ∧ (¬ (l1 ≤ 4096) → ((-2147483648 ≤ (l2 + 1) ∧ (l2 + 1) < 2147483648)) ∧ (K 121 E mM_waysMany 4 [some (jvR 76), some (jvI l1), some (jvI (l2 + 1)), none, none] [] μ1 Q)))))) ∧ (¬ (r4 ≤ l4) → ((0 ≤ l4 ∧ l4 < 40)) ∧ ((¬ (μ1 103 l4) = l2 → ((-2147483648 ≤ (l4 + 1) ∧ (l4 + 1) < 2147483648)) ∧ (K 121 E mM_waysMany 17 [some (jvR 76), some (jvI l1), some (jvI l2), some (jvI l3), some (jvI (l4 + 1))] [] μ1 Q)) ∧ ((μ1 103 l4) = l2 → (Ci E mM_ruleBy [jvR 76, jvI l4] μ1 (fun r16 μ13 => ((0 ≤ r16 ∧ r16 < 12)) ∧ ((¬ (μ13 107 r16) = 0 → ((-2147483648 ≤ (l4 + 1) ∧ (l4 + 1) < 2147483648)) ∧ (K 121 E mM_waysMany 17 [some (jvR 76), some (jvI l1), some (jvI l2), some (jvI l3), some (jvI (l4 + 1))] [] μ13 Q)) ∧ ((μ13 107 r16) = 0 → ((-2147483648 ≤ (l3 + 1) ∧ (l3 + 1) < 2147483648) ∧ (-2147483648 ≤ (l4 + 1) ∧ (l4 + 1) < 2147483648)) ∧ (K 121 E mM_waysMany 17 [some (jvR 76), some (jvI l1), some (jvI l2), some (jvI (l3 + 1)), some (jvI (l4 + 1))] [] μ13 Q)))))))))))) : K 121 E mM_waysMany 17 [some (jvR 76), some (jvI l1), some (jvI l2), some (jvI l3), some (jvI l4)] [] μ Q := by
  refine K_iload 4 l4 dM_waysMany_17 rfl ?_
  refine K_aload_n 0 76 dM_waysMany_19 rfl rfl ?_
  refine K_callVi mM_steps 12 76 [] dM_waysMany_20 pm_M_294 ⟨_, rfl, rfl⟩ ⟨(Nat.le_of_ble_eq_true rfl), (Nat.le_of_ble_eq_true rfl)⟩ rfl rfl (by decide) (Nat.le_of_ble_eq_true rfl) rfl (Nat.le_of_ble_eq_true rfl) (by decide) (Ci_mono hF (fun r4 μ1 h2 => ?_))
  refine K_icmp_ge 60 dM_waysMany_23 (by decide) (fun c5 => ?_) (fun c5 => ?_)
  · refine K_iload_n 3 l3 dM_waysMany_60 rfl rfl ?_
    refine K_if_le 79 dM_waysMany_61 (by decide) (fun c7 => ?_) (fun c7 => ?_)
    · refine K_iinc 2 dM_waysMany_79 (Nat.le_of_ble_eq_true rfl) rfl (w32_ok ((h2.1 c5).1 c7).1) rfl ?_
      refine K_goto 4 dM_waysMany_82 (by decide) ?_
      exact K_forget [true, true, true, false, false] ((h2.1 c5).1 c7).2
    · refine K_iload_n 1 l1 dM_waysMany_64 rfl rfl ?_
      refine K_sipush 4096 dM_waysMany_65 rfl ?_
      refine K_icmp_le 75 dM_waysMany_68 (by decide) (fun c9 => ?_) (fun c9 => ?_)
      · refine K_iload_n 1 l1 dM_waysMany_75 rfl rfl ?_
        refine K_iload_n 3 l3 dM_waysMany_76 rfl rfl ?_
        refine K_imul dM_waysMany_77 (w32_id (((h2.1 c5).2 c7).1 c9).1.1) ?_
        refine K_istore_n 1 dM_waysMany_78 rfl (Nat.le_of_ble_eq_true rfl) rfl ?_
        refine K_iinc 2 dM_waysMany_79 (Nat.le_of_ble_eq_true rfl) rfl (w32_ok (((h2.1 c5).2 c7).1 c9).1.2) rfl ?_
        refine K_goto 4 dM_waysMany_82 (by decide) ?_
        exact K_forget [true, true, true, false, false] (((h2.1 c5).2 c7).1 c9).2
      · refine K_iload_n 1 l1 dM_waysMany_71 rfl rfl ?_
        refine K_goto 78 dM_waysMany_72 (by decide) ?_
        refine K_istore_n 1 dM_waysMany_78 rfl (Nat.le_of_ble_eq_true rfl) rfl ?_
        refine K_iinc 2 dM_waysMany_79 (Nat.le_of_ble_eq_true rfl) rfl (w32_ok (((h2.1 c5).2 c7).2 c9).1) rfl ?_
        refine K_goto 4 dM_waysMany_82 (by decide) ?_
        exact K_forget [true, true, true, false, false] (((h2.1 c5).2 c7).2 c9).2
  · refine K_aload_n 0 76 dM_waysMany_26 rfl rfl ?_
    refine K_getf 12 40 76 (jvR 103) dM_waysMany_27 pf_M_94 rfl rfl (by decide) rfl rfl ?_
    refine K_iload 4 l4 dM_waysMany_30 rfl ?_
    refine K_iald 103 40 dM_waysMany_32 rfl rfl (by decide) (h2.2 c5).1 ?_
    refine K_iload_n 2 l2 dM_waysMany_33 rfl rfl ?_
    refine K_icmp_ne 54 dM_waysMany_34 (by decide) (fun c11 => ?_) (fun c11 => ?_)
    · refine K_iinc 4 dM_waysMany_54 (Nat.le_of_ble_eq_true rfl) rfl (w32_ok ((h2.2 c5).2.1 c11).1) rfl ?_
      refine K_goto 17 dM_waysMany_57 (by decide) ?_
      exact ((h2.2 c5).2.1 c11).2
    · refine K_aload_n 0 76 dM_waysMany_37 rfl rfl ?_
      refine K_getf 12 45 76 (jvR 107) dM_waysMany_38 pf_M_106 rfl rfl (by decide) rfl rfl ?_
      refine K_aload_n 0 76 dM_waysMany_41 rfl rfl ?_
      refine K_iload 4 l4 dM_waysMany_42 rfl ?_
      refine K_callVi mM_ruleBy 12 76 [jvI l4] dM_waysMany_44 pm_M_300 ⟨_, rfl, rfl⟩ ⟨(Nat.le_of_ble_eq_true rfl), (Nat.le_of_ble_eq_true rfl)⟩ rfl rfl (by decide) (Nat.le_of_ble_eq_true rfl) rfl (Nat.le_of_ble_eq_true rfl) (by decide) (Ci_mono ((h2.2 c5).2.2 c11) (fun r16 μ13 h14 => ?_))
      refine K_zald 107 12 dM_waysMany_47 rfl rfl (by decide) h14.1 ?_
      refine K_if_ne 54 dM_waysMany_48 (by decide) (fun c17 => ?_) (fun c17 => ?_)
      · refine K_iinc 4 dM_waysMany_54 (Nat.le_of_ble_eq_true rfl) rfl (w32_ok (h14.2.1 c17).1) rfl ?_
        refine K_goto 17 dM_waysMany_57 (by decide) ?_
        exact (h14.2.1 c17).2
      · refine K_iinc 3 dM_waysMany_51 (Nat.le_of_ble_eq_true rfl) rfl (w32_ok (h14.2.2 c17).1.1) rfl ?_
        refine K_iinc 4 dM_waysMany_54 (Nat.le_of_ble_eq_true rfl) rfl (w32_ok (h14.2.2 c17).1.2) rfl ?_
        refine K_goto 17 dM_waysMany_57 (by decide) ?_
        exact (h14.2.2 c17).2
set_option maxHeartbeats 8000000 in
theorem vM_fewestOf_0 {E : jE} {μ : jMu} {Q : Option AV → jMu → Prop} (hF : (K 121 E mM_fewestOf 4 [some (jvR 76), some (jvL 0), none, some (jvI 0), none, none, none] [] μ Q)) : K 121 E mM_fewestOf 0 [some (jvR 76), none, none, none, none, none, none] [] μ Q := by
  refine K_lconst 0 dM_fewestOf_0 rfl ?_
  refine K_lstore_n 1 dM_fewestOf_1 rfl (Nat.le_of_ble_eq_true rfl) rfl ?_
  refine K_iconst 0 dM_fewestOf_2 rfl ?_
  refine K_istore_n 3 dM_fewestOf_3 rfl (Nat.le_of_ble_eq_true rfl) rfl ?_
  exact hF
set_option maxHeartbeats 8000000 in
theorem vM_fewestOf_4 {E : jE} {μ : jMu} {Q : Option AV → jMu → Prop} {l1 l3 : Int} (hF : (Ci E mM_steps [jvR 76] μ (fun r4 μ1 => ((r4 ≤ l3 → (K 121 E mM_fewestOf 48 [some (jvR 76), some (jvL l1), none, some (jvI 1), none, none, none] [] μ1 Q)) ∧ (¬ (r4 ≤ l3) → ((0 ≤ l3 ∧ l3 < 40)) ∧ ((¬ (μ1 103 l3) = l3 → ((0 ≤ l3 ∧ l3 < 40) ∧ (-2147483648 ≤ (l3 + 1) ∧ (l3 + 1) < 2147483648)) ∧ (K 121 E mM_fewestOf 4 [some (jvR 76), some (jvL l1), none, some (jvI (l3 + 1)), none, none, none] [] (j_up μ1 119 l3 (-1)) Q)) ∧ ((μ1 103 l3) = l3 → ((-2147483648 ≤ (l3 - 1) ∧ (l3 - 1) < 2147483648)) ∧ (Ci E mM_nextOf [jvR 76, jvI l3, jvI (l3 - 1)] μ1 (fun r12 μ9 => ((0 ≤ l3 ∧ l3 < 40) ∧ (-2147483648 ≤ (l3 + 1) ∧ (l3 + 1) < 2147483648)) ∧ (K 121 E mM_fewestOf 4 [some (jvR 76), some (jvL l1), none, some (jvI (l3 + 1)), none, none, none] [] (j_up μ9 119 l3 r12) Q)))))))))) : K 121 E mM_fewestOf 4 [some (jvR 76), some (jvL l1), none, some (jvI l3), none, none, none] [] μ Q := by
  refine K_iload_n 3 l3 dM_fewestOf_4 rfl rfl ?_
  refine K_aload_n 0 76 dM_fewestOf_5 rfl rfl ?_
  refine K_callVi mM_steps 12 76 [] dM_fewestOf_6 pm_M_294 ⟨_, rfl, rfl⟩ ⟨(Nat.le_of_ble_eq_true rfl), (Nat.le_of_ble_eq_true rfl)⟩ rfl rfl (by decide) (Nat.le_of_ble_eq_true rfl) rfl (Nat.le_of_ble_eq_true rfl) (by decide) (Ci_mono hF (fun r4 μ1 h2 => ?_))
  refine K_icmp_ge 46 dM_fewestOf_9 (by decide) (fun c5 => ?_) (fun c5 => ?_)
  · refine K_iconst 1 dM_fewestOf_46 rfl ?_
    refine K_istore_n 3 dM_fewestOf_47 rfl (Nat.le_of_ble_eq_true rfl) rfl ?_
    exact (h2.1 c5)
  · refine K_aload_n 0 76 dM_fewestOf_12 rfl rfl ?_
    refine K_getf 12 60 76 (jvR 119) dM_fewestOf_13 pf_M_143 rfl rfl (by decide) rfl rfl ?_
    refine K_iload_n 3 l3 dM_fewestOf_16 rfl rfl ?_
    refine K_aload_n 0 76 dM_fewestOf_17 rfl rfl ?_
    refine K_getf 12 40 76 (jvR 103) dM_fewestOf_18 pf_M_94 rfl rfl (by decide) rfl rfl ?_
    refine K_iload_n 3 l3 dM_fewestOf_21 rfl rfl ?_
    refine K_iald 103 40 dM_fewestOf_22 rfl rfl (by decide) (h2.2 c5).1 ?_
    refine K_iload_n 3 l3 dM_fewestOf_23 rfl rfl ?_
    refine K_icmp_ne 38 dM_fewestOf_24 (by decide) (fun c7 => ?_) (fun c7 => ?_)
    · refine K_iconst (-1) dM_fewestOf_38 rfl ?_
      refine K_iast 119 40 dM_fewestOf_39 rfl rfl (by decide) ((h2.2 c5).2.1 c7).1.1 ?_
      refine K_iinc 3 dM_fewestOf_40 (Nat.le_of_ble_eq_true rfl) rfl (w32_ok ((h2.2 c5).2.1 c7).1.2) rfl ?_
      refine K_goto 4 dM_fewestOf_43 (by decide) ?_
      exact ((h2.2 c5).2.1 c7).2
    · refine K_aload_n 0 76 dM_fewestOf_27 rfl rfl ?_
      refine K_iload_n 3 l3 dM_fewestOf_28 rfl rfl ?_
      refine K_iload_n 3 l3 dM_fewestOf_29 rfl rfl ?_
      refine K_iconst 1 dM_fewestOf_30 rfl ?_
      refine K_isub dM_fewestOf_31 (w32_id ((h2.2 c5).2.2 c7).1) ?_
      refine K_callVi mM_nextOf 12 76 [jvI l3, jvI (l3 - 1)] dM_fewestOf_32 pm_M_444 ⟨_, rfl, rfl⟩ ⟨(Nat.le_of_ble_eq_true rfl), (Nat.le_of_ble_eq_true rfl)⟩ rfl rfl (by decide) (Nat.le_of_ble_eq_true rfl) rfl (Nat.le_of_ble_eq_true rfl) (by decide) (Ci_mono ((h2.2 c5).2.2 c7).2 (fun r12 μ9 h10 => ?_))
      refine K_goto 39 dM_fewestOf_35 (by decide) ?_
      refine K_iast 119 40 dM_fewestOf_39 rfl rfl (by decide) h10.1.1 ?_
      refine K_iinc 3 dM_fewestOf_40 (Nat.le_of_ble_eq_true rfl) rfl (w32_ok h10.1.2) rfl ?_
      refine K_goto 4 dM_fewestOf_43 (by decide) ?_
      exact h10.2
set_option maxHeartbeats 8000000 in
theorem vM_fewestOf_48 {E : jE} {μ : jMu} {Q : Option AV → jMu → Prop} {l1 l3 : Int} (hF : ((l3 = 0 → (Q (some (jvL l1)) μ)) ∧ (¬ (l3 = 0) → (Cl E mM_heldUp [jvR 76] μ (fun r7 μ4 => ((¬ l1 = 0 → (Ci E mM_bitsOf [jvL r7] μ4 (fun r13 μ10 => (Ci E mM_bitsOf [jvL l1] μ10 (fun r17 μ14 => ((-2147483648 ≤ (r13 - r17) ∧ (r13 - r17) < 2147483648)) ∧ ((r7 = 0 → (Ci E mM_isNextWay [jvR 76] μ14 (fun r23 μ20 => (K 121 E mM_fewestOf 48 [some (jvR 76), some (jvL l1), none, some (jvI r23), none, none, none] [] μ20 Q)))) ∧ (¬ (r7 = 0) → (((r13 - r17) < 0 → (Ci E mM_isNextWay [jvR 76] μ14 (fun r29 μ26 => (K 121 E mM_fewestOf 48 [some (jvR 76), some (jvL r7), none, some (jvI r29), none, none, none] [] μ26 Q)))) ∧ (¬ ((r13 - r17) < 0) → ((¬ (r13 - r17) = 0 → (Ci E mM_isNextWay [jvR 76] μ14 (fun r35 μ32 => (K 121 E mM_fewestOf 48 [some (jvR 76), some (jvL l1), none, some (jvI r35), none, none, none] [] μ32 Q)))) ∧ ((r13 - r17) = 0 → ((l1 ≤ r7 → (Ci E mM_isNextWay [jvR 76] μ14 (fun r41 μ38 => (K 121 E mM_fewestOf 48 [some (jvR 76), some (jvL l1), none, some (jvI r41), none, none, none] [] μ38 Q)))) ∧ (¬ (l1 ≤ r7) → (Ci E mM_isNextWay [jvR 76] μ14 (fun r45 μ42 => (K 121 E mM_fewestOf 48 [some (jvR 76), some (jvL r7), none, some (jvI r45), none, none, none] [] μ42 Q)))))))))))))))) ∧ (l1 = 0 → ((r7 = 0 → (Ci E mM_isNextWay [jvR 76] μ4 (fun r51 μ48 => (K 121 E mM_fewestOf 48 [some (jvR 76), some (jvL l1), none, some (jvI r51), none, none, none] [] μ48 Q)))) ∧ (¬ (r7 = 0) → (Ci E mM_isNextWay [jvR 76] μ4 (fun r57 μ54 => (K 121 E mM_fewestOf 48 [some (jvR 76), some (jvL r7), none, some (jvI r57), none, none, none] [] μ54 Q)))))))))))) : K 121 E mM_fewestOf 48 [some (jvR 76), some (jvL l1), none, some (jvI l3), none, none, none] [] μ Q := by
  refine K_iload_n 3 l3 dM_fewestOf_48 rfl rfl ?_
  refine K_if_eq 115 dM_fewestOf_49 (by decide) (fun c1 => ?_) (fun c1 => ?_)
  · refine K_lload_n 1 l1 dM_fewestOf_115 rfl rfl ?_
    exact K_lret dM_fewestOf_116 rfl (hF.1 c1)
  · refine K_aload_n 0 76 dM_fewestOf_52 rfl rfl ?_
    refine K_callVl mM_heldUp 12 76 [] dM_fewestOf_53 pm_M_447 ⟨_, rfl, rfl⟩ ⟨(Nat.le_of_ble_eq_true rfl), (Nat.le_of_ble_eq_true rfl)⟩ rfl rfl (by decide) (Nat.le_of_ble_eq_true rfl) rfl (Nat.le_of_ble_eq_true rfl) (by decide) (Cl_mono (hF.2 c1) (fun r7 μ4 h5 => ?_))
    refine K_lstore 4 dM_fewestOf_56 (Nat.le_of_ble_eq_true rfl) rfl ?_
    refine K_lload_n 1 l1 dM_fewestOf_58 rfl rfl ?_
    refine K_lconst 0 dM_fewestOf_59 rfl ?_
    refine K_lcmp_ne 68 dM_fewestOf_60 dM_fewestOf_61 (by decide) (fun c8 => ?_) (fun c8 => ?_)
    · refine K_lload 4 r7 dM_fewestOf_68 rfl ?_
      refine K_callSi mM_bitsOf [jvL r7] dM_fewestOf_70 pm_M_450 ⟨(Nat.le_of_ble_eq_true rfl), (Nat.le_of_ble_eq_true rfl)⟩ (Nat.le_of_ble_eq_true rfl) rfl (Nat.le_of_ble_eq_true rfl) (by decide) (Ci_mono (h5.1 c8) (fun r13 μ10 h11 => ?_))
      refine K_lload_n 1 l1 dM_fewestOf_73 rfl rfl ?_
      refine K_callSi mM_bitsOf [jvL l1] dM_fewestOf_74 pm_M_450 ⟨(Nat.le_of_ble_eq_true rfl), (Nat.le_of_ble_eq_true rfl)⟩ (Nat.le_of_ble_eq_true rfl) rfl (Nat.le_of_ble_eq_true rfl) (by decide) (Ci_mono h11 (fun r17 μ14 h15 => ?_))
      refine K_isub dM_fewestOf_77 (w32_id h15.1) ?_
      refine K_istore 6 dM_fewestOf_78 (Nat.le_of_ble_eq_true rfl) rfl ?_
      refine K_lload 4 r7 dM_fewestOf_80 rfl ?_
      refine K_lconst 0 dM_fewestOf_82 rfl ?_
      refine K_lcmp_eq 107 dM_fewestOf_83 dM_fewestOf_84 (by decide) (fun c18 => ?_) (fun c18 => ?_)
      · refine K_aload_n 0 76 dM_fewestOf_107 rfl rfl ?_
        refine K_callVi mM_isNextWay 12 76 [] dM_fewestOf_108 pm_M_454 ⟨_, rfl, rfl⟩ ⟨(Nat.le_of_ble_eq_true rfl), (Nat.le_of_ble_eq_true rfl)⟩ rfl rfl (by decide) (Nat.le_of_ble_eq_true rfl) rfl (Nat.le_of_ble_eq_true rfl) (by decide) (Ci_mono (h15.2.1 c18) (fun r23 μ20 h21 => ?_))
        refine K_istore_n 3 dM_fewestOf_111 rfl (Nat.le_of_ble_eq_true rfl) rfl ?_
        refine K_goto 48 dM_fewestOf_112 (by decide) ?_
        exact K_forget [true, true, true, true, false, true, false] h21
      · refine K_iload 6 (r13 - r17) dM_fewestOf_87 rfl ?_
        refine K_if_lt 104 dM_fewestOf_89 (by decide) (fun c24 => ?_) (fun c24 => ?_)
        · refine K_lload 4 r7 dM_fewestOf_104 rfl ?_
          refine K_lstore_n 1 dM_fewestOf_106 rfl (Nat.le_of_ble_eq_true rfl) rfl ?_
          refine K_aload_n 0 76 dM_fewestOf_107 rfl rfl ?_
          refine K_callVi mM_isNextWay 12 76 [] dM_fewestOf_108 pm_M_454 ⟨_, rfl, rfl⟩ ⟨(Nat.le_of_ble_eq_true rfl), (Nat.le_of_ble_eq_true rfl)⟩ rfl rfl (by decide) (Nat.le_of_ble_eq_true rfl) rfl (Nat.le_of_ble_eq_true rfl) (by decide) (Ci_mono ((h15.2.2 c18).1 c24) (fun r29 μ26 h27 => ?_))
          refine K_istore_n 3 dM_fewestOf_111 rfl (Nat.le_of_ble_eq_true rfl) rfl ?_
          refine K_goto 48 dM_fewestOf_112 (by decide) ?_
          exact K_forget [true, true, true, true, false, true, false] h27
        · refine K_iload 6 (r13 - r17) dM_fewestOf_92 rfl ?_
          refine K_if_ne 107 dM_fewestOf_94 (by decide) (fun c30 => ?_) (fun c30 => ?_)
          · refine K_aload_n 0 76 dM_fewestOf_107 rfl rfl ?_
            refine K_callVi mM_isNextWay 12 76 [] dM_fewestOf_108 pm_M_454 ⟨_, rfl, rfl⟩ ⟨(Nat.le_of_ble_eq_true rfl), (Nat.le_of_ble_eq_true rfl)⟩ rfl rfl (by decide) (Nat.le_of_ble_eq_true rfl) rfl (Nat.le_of_ble_eq_true rfl) (by decide) (Ci_mono (((h15.2.2 c18).2 c24).1 c30) (fun r35 μ32 h33 => ?_))
            refine K_istore_n 3 dM_fewestOf_111 rfl (Nat.le_of_ble_eq_true rfl) rfl ?_
            refine K_goto 48 dM_fewestOf_112 (by decide) ?_
            exact K_forget [true, true, true, true, false, true, false] h33
          · refine K_lload 4 r7 dM_fewestOf_97 rfl ?_
            refine K_lload_n 1 l1 dM_fewestOf_99 rfl rfl ?_
            refine K_lcmp_ge 107 dM_fewestOf_100 dM_fewestOf_101 (by decide) (fun c36 => ?_) (fun c36 => ?_)
            · refine K_aload_n 0 76 dM_fewestOf_107 rfl rfl ?_
              refine K_callVi mM_isNextWay 12 76 [] dM_fewestOf_108 pm_M_454 ⟨_, rfl, rfl⟩ ⟨(Nat.le_of_ble_eq_true rfl), (Nat.le_of_ble_eq_true rfl)⟩ rfl rfl (by decide) (Nat.le_of_ble_eq_true rfl) rfl (Nat.le_of_ble_eq_true rfl) (by decide) (Ci_mono ((((h15.2.2 c18).2 c24).2 c30).1 c36) (fun r41 μ38 h39 => ?_))
              refine K_istore_n 3 dM_fewestOf_111 rfl (Nat.le_of_ble_eq_true rfl) rfl ?_
              refine K_goto 48 dM_fewestOf_112 (by decide) ?_
              exact K_forget [true, true, true, true, false, true, false] h39
            · refine K_lload 4 r7 dM_fewestOf_104 rfl ?_
              refine K_lstore_n 1 dM_fewestOf_106 rfl (Nat.le_of_ble_eq_true rfl) rfl ?_
              refine K_aload_n 0 76 dM_fewestOf_107 rfl rfl ?_
              refine K_callVi mM_isNextWay 12 76 [] dM_fewestOf_108 pm_M_454 ⟨_, rfl, rfl⟩ ⟨(Nat.le_of_ble_eq_true rfl), (Nat.le_of_ble_eq_true rfl)⟩ rfl rfl (by decide) (Nat.le_of_ble_eq_true rfl) rfl (Nat.le_of_ble_eq_true rfl) (by decide) (Ci_mono ((((h15.2.2 c18).2 c24).2 c30).2 c36) (fun r45 μ42 h43 => ?_))
              refine K_istore_n 3 dM_fewestOf_111 rfl (Nat.le_of_ble_eq_true rfl) rfl ?_
              refine K_goto 48 dM_fewestOf_112 (by decide) ?_
              exact K_forget [true, true, true, true, false, true, false] h43
    · refine K_iconst (-1) dM_fewestOf_64 rfl ?_
      refine K_goto 78 dM_fewestOf_65 (by decide) ?_
      refine K_istore 6 dM_fewestOf_78 (Nat.le_of_ble_eq_true rfl) rfl ?_
      refine K_lload 4 r7 dM_fewestOf_80 rfl ?_
      refine K_lconst 0 dM_fewestOf_82 rfl ?_
      refine K_lcmp_eq 107 dM_fewestOf_83 dM_fewestOf_84 (by decide) (fun c46 => ?_) (fun c46 => ?_)
      · refine K_aload_n 0 76 dM_fewestOf_107 rfl rfl ?_
        refine K_callVi mM_isNextWay 12 76 [] dM_fewestOf_108 pm_M_454 ⟨_, rfl, rfl⟩ ⟨(Nat.le_of_ble_eq_true rfl), (Nat.le_of_ble_eq_true rfl)⟩ rfl rfl (by decide) (Nat.le_of_ble_eq_true rfl) rfl (Nat.le_of_ble_eq_true rfl) (by decide) (Ci_mono ((h5.2 c8).1 c46) (fun r51 μ48 h49 => ?_))
        refine K_istore_n 3 dM_fewestOf_111 rfl (Nat.le_of_ble_eq_true rfl) rfl ?_
        refine K_goto 48 dM_fewestOf_112 (by decide) ?_
        exact K_forget [true, true, true, true, false, true, false] h49
      · refine K_iload 6 (-1) dM_fewestOf_87 rfl ?_
        refine K_if_lt 104 dM_fewestOf_89 (by decide) (fun c52 => ?_) (fun c52 => absurd c52 (by decide))
        refine K_lload 4 r7 dM_fewestOf_104 rfl ?_
        refine K_lstore_n 1 dM_fewestOf_106 rfl (Nat.le_of_ble_eq_true rfl) rfl ?_
        refine K_aload_n 0 76 dM_fewestOf_107 rfl rfl ?_
        refine K_callVi mM_isNextWay 12 76 [] dM_fewestOf_108 pm_M_454 ⟨_, rfl, rfl⟩ ⟨(Nat.le_of_ble_eq_true rfl), (Nat.le_of_ble_eq_true rfl)⟩ rfl rfl (by decide) (Nat.le_of_ble_eq_true rfl) rfl (Nat.le_of_ble_eq_true rfl) (by decide) (Ci_mono ((h5.2 c8).2 c46) (fun r57 μ54 h55 => ?_))
        refine K_istore_n 3 dM_fewestOf_111 rfl (Nat.le_of_ble_eq_true rfl) rfl ?_
        refine K_goto 48 dM_fewestOf_112 (by decide) ?_
        exact K_forget [true, true, true, true, false, true, false] h55
set_option maxHeartbeats 8000000 in
theorem vM_nextOf_0 {E : jE} {μ : jMu} {Q : Option AV → jMu → Prop} {a0 a1 : Int} (hF : ((-2147483648 ≤ (a1 + 1) ∧ (a1 + 1) < 2147483648)) ∧ (K 121 E mM_nextOf 4 [some (jvR 76), some (jvI a0), some (jvI a1), some (jvI (a1 + 1))] [] μ Q)) : K 121 E mM_nextOf 0 [some (jvR 76), some (jvI a0), some (jvI a1), none] [] μ Q := by
  refine K_iload_n 2 a1 dM_nextOf_0 rfl rfl ?_
  refine K_iconst 1 dM_nextOf_1 rfl ?_
  refine K_iadd dM_nextOf_2 (w32_id hF.1) ?_
  refine K_istore_n 3 dM_nextOf_3 rfl (Nat.le_of_ble_eq_true rfl) rfl ?_
  exact hF.2
set_option maxHeartbeats 8000000 in
theorem vM_nextOf_4 {E : jE} {μ : jMu} {Q : Option AV → jMu → Prop} {l1 l2 l3 : Int} (hF : (Ci E mM_steps [jvR 76] μ (fun r4 μ1 => ((r4 ≤ l3 → (Q (some (jvI (-1))) μ1)) ∧ (¬ (r4 ≤ l3) → ((0 ≤ l3 ∧ l3 < 40)) ∧ ((¬ (μ1 103 l3) = l1 → ((-2147483648 ≤ (l3 + 1) ∧ (l3 + 1) < 2147483648)) ∧ (K 121 E mM_nextOf 4 [some (jvR 76), some (jvI l1), some (jvI l2), some (jvI (l3 + 1))] [] μ1 Q)) ∧ ((μ1 103 l3) = l1 → (Ci E mM_ruleBy [jvR 76, jvI l3] μ1 (fun r13 μ10 => ((0 ≤ r13 ∧ r13 < 12)) ∧ ((¬ (μ10 107 r13) = 0 → ((-2147483648 ≤ (l3 + 1) ∧ (l3 + 1) < 2147483648)) ∧ (K 121 E mM_nextOf 4 [some (jvR 76), some (jvI l1), some (jvI l2), some (jvI (l3 + 1))] [] μ10 Q)) ∧ ((μ10 107 r13) = 0 → (Q (some (jvI l3)) μ10)))))))))))) : K 121 E mM_nextOf 4 [some (jvR 76), some (jvI l1), some (jvI l2), some (jvI l3)] [] μ Q := by
  refine K_iload_n 3 l3 dM_nextOf_4 rfl rfl ?_
  refine K_aload_n 0 76 dM_nextOf_5 rfl rfl ?_
  refine K_callVi mM_steps 12 76 [] dM_nextOf_6 pm_M_294 ⟨_, rfl, rfl⟩ ⟨(Nat.le_of_ble_eq_true rfl), (Nat.le_of_ble_eq_true rfl)⟩ rfl rfl (by decide) (Nat.le_of_ble_eq_true rfl) rfl (Nat.le_of_ble_eq_true rfl) (by decide) (Ci_mono hF (fun r4 μ1 h2 => ?_))
  refine K_icmp_ge 43 dM_nextOf_9 (by decide) (fun c5 => ?_) (fun c5 => ?_)
  · refine K_iconst (-1) dM_nextOf_43 rfl ?_
    exact K_iret dM_nextOf_44 (Or.inl rfl) (h2.1 c5)
  · refine K_aload_n 0 76 dM_nextOf_12 rfl rfl ?_
    refine K_getf 12 40 76 (jvR 103) dM_nextOf_13 pf_M_94 rfl rfl (by decide) rfl rfl ?_
    refine K_iload_n 3 l3 dM_nextOf_16 rfl rfl ?_
    refine K_iald 103 40 dM_nextOf_17 rfl rfl (by decide) (h2.2 c5).1 ?_
    refine K_iload_n 1 l1 dM_nextOf_18 rfl rfl ?_
    refine K_icmp_ne 37 dM_nextOf_19 (by decide) (fun c8 => ?_) (fun c8 => ?_)
    · refine K_iinc 3 dM_nextOf_37 (Nat.le_of_ble_eq_true rfl) rfl (w32_ok ((h2.2 c5).2.1 c8).1) rfl ?_
      refine K_goto 4 dM_nextOf_40 (by decide) ?_
      exact ((h2.2 c5).2.1 c8).2
    · refine K_aload_n 0 76 dM_nextOf_22 rfl rfl ?_
      refine K_getf 12 45 76 (jvR 107) dM_nextOf_23 pf_M_106 rfl rfl (by decide) rfl rfl ?_
      refine K_aload_n 0 76 dM_nextOf_26 rfl rfl ?_
      refine K_iload_n 3 l3 dM_nextOf_27 rfl rfl ?_
      refine K_callVi mM_ruleBy 12 76 [jvI l3] dM_nextOf_28 pm_M_300 ⟨_, rfl, rfl⟩ ⟨(Nat.le_of_ble_eq_true rfl), (Nat.le_of_ble_eq_true rfl)⟩ rfl rfl (by decide) (Nat.le_of_ble_eq_true rfl) rfl (Nat.le_of_ble_eq_true rfl) (by decide) (Ci_mono ((h2.2 c5).2.2 c8) (fun r13 μ10 h11 => ?_))
      refine K_zald 107 12 dM_nextOf_31 rfl rfl (by decide) h11.1 ?_
      refine K_if_ne 37 dM_nextOf_32 (by decide) (fun c14 => ?_) (fun c14 => ?_)
      · refine K_iinc 3 dM_nextOf_37 (Nat.le_of_ble_eq_true rfl) rfl (w32_ok (h11.2.1 c14).1) rfl ?_
        refine K_goto 4 dM_nextOf_40 (by decide) ?_
        exact (h11.2.1 c14).2
      · refine K_iload_n 3 l3 dM_nextOf_35 rfl rfl ?_
        exact K_iret dM_nextOf_36 (Or.inl rfl) (h11.2.2 c14)
set_option maxHeartbeats 8000000 in
theorem vM_heldUp_0 {E : jE} {μ : jMu} {Q : Option AV → jMu → Prop} (hF : ((0 ≤ (μ 76 33) ∧ (μ 76 33) < 40) ∧ (0 ≤ (μ 103 (μ 76 33)) ∧ (μ 103 (μ 76 33)) < 40)) ∧ ((¬ (μ 119 (μ 103 (μ 76 33))) = (-1) → ((0 ≤ (μ 76 33) ∧ (μ 76 33) < 40) ∧ (0 ≤ (μ 103 (μ 76 33)) ∧ (μ 103 (μ 76 33)) < 40)) ∧ (Ci E mM_steps [jvR 76] μ (fun r6 μ3 => ((-2147483648 ≤ (r6 - 1) ∧ (r6 - 1) < 2147483648)) ∧ (K 121 E mM_heldUp 44 [some (jvR 76), some (jvL (ishl64 1 (μ 119 (μ 103 (μ 76 33))))), none, some (jvI (r6 - 1)), none, none] [] μ3 Q)))) ∧ ((μ 119 (μ 103 (μ 76 33))) = (-1) → (Q (some (jvL 0)) μ)))) : K 121 E mM_heldUp 0 [some (jvR 76), none, none, none, none, none] [] μ Q := by
  refine K_aload_n 0 76 dM_heldUp_0 rfl rfl ?_
  refine K_getf 12 60 76 (jvR 119) dM_heldUp_1 pf_M_143 rfl rfl (by decide) rfl rfl ?_
  refine K_aload_n 0 76 dM_heldUp_4 rfl rfl ?_
  refine K_getf 12 40 76 (jvR 103) dM_heldUp_5 pf_M_94 rfl rfl (by decide) rfl rfl ?_
  refine K_aload_n 0 76 dM_heldUp_8 rfl rfl ?_
  refine K_getf 12 33 76 (jvI (μ 76 33)) dM_heldUp_9 pf_M_288 rfl rfl (by decide) rfl rfl ?_
  refine K_iald 103 40 dM_heldUp_12 rfl rfl (by decide) hF.1.1 ?_
  refine K_iald 119 40 dM_heldUp_13 rfl rfl (by decide) hF.1.2 ?_
  refine K_iconst (-1) dM_heldUp_14 rfl ?_
  refine K_icmp_ne 20 dM_heldUp_15 (by decide) (fun c1 => ?_) (fun c1 => ?_)
  · refine K_lconst 1 dM_heldUp_20 rfl ?_
    refine K_aload_n 0 76 dM_heldUp_21 rfl rfl ?_
    refine K_getf 12 60 76 (jvR 119) dM_heldUp_22 pf_M_143 rfl rfl (by decide) rfl rfl ?_
    refine K_aload_n 0 76 dM_heldUp_25 rfl rfl ?_
    refine K_getf 12 40 76 (jvR 103) dM_heldUp_26 pf_M_94 rfl rfl (by decide) rfl rfl ?_
    refine K_aload_n 0 76 dM_heldUp_29 rfl rfl ?_
    refine K_getf 12 33 76 (jvI (μ 76 33)) dM_heldUp_30 pf_M_288 rfl rfl (by decide) rfl rfl ?_
    refine K_iald 103 40 dM_heldUp_33 rfl rfl (by decide) (hF.2.1 c1).1.1 ?_
    refine K_iald 119 40 dM_heldUp_34 rfl rfl (by decide) (hF.2.1 c1).1.2 ?_
    refine K_lshl dM_heldUp_35 rfl ?_
    refine K_lstore_n 1 dM_heldUp_36 rfl (Nat.le_of_ble_eq_true rfl) rfl ?_
    refine K_aload_n 0 76 dM_heldUp_37 rfl rfl ?_
    refine K_callVi mM_steps 12 76 [] dM_heldUp_38 pm_M_294 ⟨_, rfl, rfl⟩ ⟨(Nat.le_of_ble_eq_true rfl), (Nat.le_of_ble_eq_true rfl)⟩ rfl rfl (by decide) (Nat.le_of_ble_eq_true rfl) rfl (Nat.le_of_ble_eq_true rfl) (by decide) (Ci_mono (hF.2.1 c1).2 (fun r6 μ3 h4 => ?_))
    refine K_iconst 1 dM_heldUp_41 rfl ?_
    refine K_isub dM_heldUp_42 (w32_id h4.1) ?_
    refine K_istore_n 3 dM_heldUp_43 rfl (Nat.le_of_ble_eq_true rfl) rfl ?_
    exact h4.2
  · refine K_lconst 0 dM_heldUp_18 rfl ?_
    exact K_lret dM_heldUp_19 rfl (hF.2.2 c1)
set_option maxHeartbeats 8000000 in
theorem vM_heldUp_44 {E : jE} {μ : jMu} {Q : Option AV → jMu → Prop} {l1 l3 : Int} (hF : ((l3 < 0 → (Q (some (jvL l1)) μ)) ∧ (¬ (l3 < 0) → ((¬ (iand64 (ishr64 l1 l3) 1) = 0 → (K 121 E mM_heldUp 64 [some (jvR 76), some (jvL l1), none, some (jvI l3), some (jvI 0), none] [] μ Q)) ∧ ((iand64 (ishr64 l1 l3) 1) = 0 → ((-2147483648 ≤ (l3 - 1) ∧ (l3 - 1) < 2147483648)) ∧ (K 121 E mM_heldUp 44 [some (jvR 76), some (jvL l1), none, some (jvI (l3 - 1)), none, none] [] μ Q)))))) : K 121 E mM_heldUp 44 [some (jvR 76), some (jvL l1), none, some (jvI l3), none, none] [] μ Q := by
  refine K_iload_n 3 l3 dM_heldUp_44 rfl rfl ?_
  refine K_if_lt 126 dM_heldUp_45 (by decide) (fun c1 => ?_) (fun c1 => ?_)
  · refine K_lload_n 1 l1 dM_heldUp_126 rfl rfl ?_
    exact K_lret dM_heldUp_127 rfl (hF.1 c1)
  · refine K_lload_n 1 l1 dM_heldUp_48 rfl rfl ?_
    refine K_iload_n 3 l3 dM_heldUp_49 rfl rfl ?_
    refine K_lshr dM_heldUp_50 rfl ?_
    refine K_lconst 1 dM_heldUp_51 rfl ?_
    refine K_land dM_heldUp_52 rfl ?_
    refine K_lconst 0 dM_heldUp_53 rfl ?_
    refine K_lcmp_ne 61 dM_heldUp_54 dM_heldUp_55 (by decide) (fun c4 => ?_) (fun c4 => ?_)
    · refine K_iconst 0 dM_heldUp_61 rfl ?_
      refine K_istore 4 dM_heldUp_62 (Nat.le_of_ble_eq_true rfl) rfl ?_
      exact ((hF.2 c1).1 c4)
    · refine K_goto 120 dM_heldUp_58 (by decide) ?_
      refine K_iinc 3 dM_heldUp_120 (Nat.le_of_ble_eq_true rfl) rfl (w32_okn ((hF.2 c1).2 c4).1) rfl ?_
      refine K_goto 44 dM_heldUp_123 (by decide) ?_
      exact ((hF.2 c1).2 c4).2
set_option maxHeartbeats 8000000 in
theorem vM_heldUp_64 {E : jE} {μ : jMu} {Q : Option AV → jMu → Prop} {l1 l3 l4 : Int} (hF : (Ci E mM_namesMany [jvR 76, jvI l3] μ (fun r4 μ1 => ((r4 ≤ l4 → ((-2147483648 ≤ (l3 - 1) ∧ (l3 - 1) < 2147483648)) ∧ (K 121 E mM_heldUp 44 [some (jvR 76), some (jvL l1), none, some (jvI (l3 - 1)), none, none] [] μ1 Q)) ∧ (¬ (r4 ≤ l4) → (Ci E mM_namedBy [jvR 76, jvI l3, jvI l4] μ1 (fun r10 μ7 => ((0 ≤ r10 ∧ r10 < 40) ∧ (0 ≤ (μ7 103 r10) ∧ (μ7 103 r10) < 40)) ∧ (((μ7 119 (μ7 103 r10)) = (-1) → (Q (some (jvL 0)) μ7)) ∧ (¬ ((μ7 119 (μ7 103 r10)) = (-1)) → (((μ7 119 (μ7 103 r10)) < l3 → ((-2147483648 ≤ (l4 + 1) ∧ (l4 + 1) < 2147483648)) ∧ (K 121 E mM_heldUp 64 [some (jvR 76), some (jvL (ior64 l1 (ishl64 1 (μ7 119 (μ7 103 r10))))), none, some (jvI l3), some (jvI (l4 + 1)), none] [] μ7 Q)) ∧ (¬ ((μ7 119 (μ7 103 r10)) < l3) → (Q (some (jvL 0)) μ7)))))))))))) : K 121 E mM_heldUp 64 [some (jvR 76), some (jvL l1), none, some (jvI l3), some (jvI l4), none] [] μ Q := by
  refine K_iload 4 l4 dM_heldUp_64 rfl ?_
  refine K_aload_n 0 76 dM_heldUp_66 rfl rfl ?_
  refine K_iload_n 3 l3 dM_heldUp_67 rfl rfl ?_
  refine K_callVi mM_namesMany 12 76 [jvI l3] dM_heldUp_68 pm_M_328 ⟨_, rfl, rfl⟩ ⟨(Nat.le_of_ble_eq_true rfl), (Nat.le_of_ble_eq_true rfl)⟩ rfl rfl (by decide) (Nat.le_of_ble_eq_true rfl) rfl (Nat.le_of_ble_eq_true rfl) (by decide) (Ci_mono hF (fun r4 μ1 h2 => ?_))
  refine K_icmp_ge 120 dM_heldUp_71 (by decide) (fun c5 => ?_) (fun c5 => ?_)
  · refine K_iinc 3 dM_heldUp_120 (Nat.le_of_ble_eq_true rfl) rfl (w32_okn (h2.1 c5).1) rfl ?_
    refine K_goto 44 dM_heldUp_123 (by decide) ?_
    exact K_forget [true, true, true, true, false, true] (h2.1 c5).2
  · refine K_aload_n 0 76 dM_heldUp_74 rfl rfl ?_
    refine K_getf 12 60 76 (jvR 119) dM_heldUp_75 pf_M_143 rfl rfl (by decide) rfl rfl ?_
    refine K_aload_n 0 76 dM_heldUp_78 rfl rfl ?_
    refine K_getf 12 40 76 (jvR 103) dM_heldUp_79 pf_M_94 rfl rfl (by decide) rfl rfl ?_
    refine K_aload_n 0 76 dM_heldUp_82 rfl rfl ?_
    refine K_iload_n 3 l3 dM_heldUp_83 rfl rfl ?_
    refine K_iload 4 l4 dM_heldUp_84 rfl ?_
    refine K_callVi mM_namedBy 12 76 [jvI l3, jvI l4] dM_heldUp_86 pm_M_319 ⟨_, rfl, rfl⟩ ⟨(Nat.le_of_ble_eq_true rfl), (Nat.le_of_ble_eq_true rfl)⟩ rfl rfl (by decide) (Nat.le_of_ble_eq_true rfl) rfl (Nat.le_of_ble_eq_true rfl) (by decide) (Ci_mono (h2.2 c5) (fun r10 μ7 h8 => ?_))
    refine K_iald 103 40 dM_heldUp_89 rfl rfl (by decide) h8.1.1 ?_
    refine K_iald 119 40 dM_heldUp_90 rfl rfl (by decide) h8.1.2 ?_
    refine K_istore 5 dM_heldUp_91 (Nat.le_of_ble_eq_true rfl) rfl ?_
    refine K_iload 5 (μ7 119 (μ7 103 r10)) dM_heldUp_93 rfl ?_
    refine K_iconst (-1) dM_heldUp_95 rfl ?_
    refine K_icmp_eq 105 dM_heldUp_96 (by decide) (fun c11 => ?_) (fun c11 => ?_)
    · refine K_lconst 0 dM_heldUp_105 rfl ?_
      exact K_lret dM_heldUp_106 rfl (h8.2.1 c11)
    · refine K_iload 5 (μ7 119 (μ7 103 r10)) dM_heldUp_99 rfl ?_
      refine K_iload_n 3 l3 dM_heldUp_101 rfl rfl ?_
      refine K_icmp_lt 107 dM_heldUp_102 (by decide) (fun c14 => ?_) (fun c14 => ?_)
      · refine K_lload_n 1 l1 dM_heldUp_107 rfl rfl ?_
        refine K_lconst 1 dM_heldUp_108 rfl ?_
        refine K_iload 5 (μ7 119 (μ7 103 r10)) dM_heldUp_109 rfl ?_
        refine K_lshl dM_heldUp_111 rfl ?_
        refine K_lor dM_heldUp_112 rfl ?_
        refine K_lstore_n 1 dM_heldUp_113 rfl (Nat.le_of_ble_eq_true rfl) rfl ?_
        refine K_iinc 4 dM_heldUp_114 (Nat.le_of_ble_eq_true rfl) rfl (w32_ok ((h8.2.2 c11).1 c14).1) rfl ?_
        refine K_goto 64 dM_heldUp_117 (by decide) ?_
        exact K_forget [true, true, true, true, true, false] ((h8.2.2 c11).1 c14).2
      · refine K_lconst 0 dM_heldUp_105 rfl ?_
        exact K_lret dM_heldUp_106 rfl ((h8.2.2 c11).2 c14)
set_option maxHeartbeats 8000000 in
theorem vM_bitsOf_0 {E : jE} {μ : jMu} {Q : Option AV → jMu → Prop} {a0 : Int} (hF : (K 121 E mM_bitsOf 4 [some (jvL a0), none, some (jvI 0), some (jvL a0), none] [] μ Q)) : K 121 E mM_bitsOf 0 [some (jvL a0), none, none, none, none] [] μ Q := by
  refine K_iconst 0 dM_bitsOf_0 rfl ?_
  refine K_istore_n 2 dM_bitsOf_1 rfl (Nat.le_of_ble_eq_true rfl) rfl ?_
  refine K_lload_n 0 a0 dM_bitsOf_2 rfl rfl ?_
  refine K_lstore_n 3 dM_bitsOf_3 rfl (Nat.le_of_ble_eq_true rfl) rfl ?_
  exact hF
set_option maxHeartbeats 8000000 in
theorem vM_bitsOf_4 {E : jE} {μ : jMu} {Q : Option AV → jMu → Prop} {l0 l2 l3 : Int} (hF : ((l3 = 0 → (Q (some (jvI l2)) μ)) ∧ (¬ (l3 = 0) → ((-2147483648 ≤ (l2 + 1) ∧ (l2 + 1) < 2147483648) ∧ (-9223372036854775808 ≤ (l3 - 1) ∧ (l3 - 1) < 9223372036854775808)) ∧ (K 121 E mM_bitsOf 4 [some (jvL l0), none, some (jvI (l2 + 1)), some (jvL (iand64 l3 (l3 - 1))), none] [] μ Q)))) : K 121 E mM_bitsOf 4 [some (jvL l0), none, some (jvI l2), some (jvL l3), none] [] μ Q := by
  refine K_lload_n 3 l3 dM_bitsOf_4 rfl rfl ?_
  refine K_lconst 0 dM_bitsOf_5 rfl ?_
  refine K_lcmp_eq 22 dM_bitsOf_6 dM_bitsOf_7 (by decide) (fun c1 => ?_) (fun c1 => ?_)
  · refine K_iload_n 2 l2 dM_bitsOf_22 rfl rfl ?_
    exact K_iret dM_bitsOf_23 (Or.inl rfl) (hF.1 c1)
  · refine K_iinc 2 dM_bitsOf_10 (Nat.le_of_ble_eq_true rfl) rfl (w32_ok (hF.2 c1).1.1) rfl ?_
    refine K_lload_n 3 l3 dM_bitsOf_13 rfl rfl ?_
    refine K_lload_n 3 l3 dM_bitsOf_14 rfl rfl ?_
    refine K_lconst 1 dM_bitsOf_15 rfl ?_
    refine K_lsub dM_bitsOf_16 (w64_id (hF.2 c1).1.2) ?_
    refine K_land dM_bitsOf_17 rfl ?_
    refine K_lstore_n 3 dM_bitsOf_18 rfl (Nat.le_of_ble_eq_true rfl) rfl ?_
    refine K_goto 4 dM_bitsOf_19 (by decide) ?_
    exact (hF.2 c1).2
set_option maxHeartbeats 8000000 in
theorem vM_isNextWay_0 {E : jE} {μ : jMu} {Q : Option AV → jMu → Prop} (hF : (K 121 E mM_isNextWay 2 [some (jvR 76), some (jvI 0), none] [] μ Q)) : K 121 E mM_isNextWay 0 [some (jvR 76), none, none] [] μ Q := by
  refine K_iconst 0 dM_isNextWay_0 rfl ?_
  refine K_istore_n 1 dM_isNextWay_1 rfl (Nat.le_of_ble_eq_true rfl) rfl ?_
  exact hF
set_option maxHeartbeats 8000000 in
theorem vM_isNextWay_2 {E : jE} {μ : jMu} {Q : Option AV → jMu → Prop} {l1 : Int} (hF : (Ci E mM_steps [jvR 76] μ (fun r4 μ1 => ((r4 ≤ l1 → (Q (some (jvI 0)) μ1)) ∧ (¬ (r4 ≤ l1) → ((0 ≤ l1 ∧ l1 < 40)) ∧ ((¬ (μ1 103 l1) = l1 → ((-2147483648 ≤ (l1 + 1) ∧ (l1 + 1) < 2147483648)) ∧ (K 121 E mM_isNextWay 2 [some (jvR 76), some (jvI (l1 + 1)), none] [] μ1 Q)) ∧ ((μ1 103 l1) = l1 → ((0 ≤ l1 ∧ l1 < 40)) ∧ ((¬ (μ1 119 l1) = (-1) → ((0 ≤ l1 ∧ l1 < 40)) ∧ (Ci E mM_nextOf [jvR 76, jvI l1, jvI (μ1 119 l1)] μ1 (fun r15 μ12 => ((r15 = (-1) → ((-2147483648 ≤ (l1 - 1) ∧ (l1 - 1) < 2147483648)) ∧ (Ci E mM_nextOf [jvR 76, jvI l1, jvI (l1 - 1)] μ12 (fun r21 μ18 => ((0 ≤ l1 ∧ l1 < 40) ∧ (-2147483648 ≤ (l1 + 1) ∧ (l1 + 1) < 2147483648)) ∧ (K 121 E mM_isNextWay 2 [some (jvR 76), some (jvI (l1 + 1)), none] [] (j_up μ18 119 l1 r21) Q)))) ∧ (¬ (r15 = (-1)) → ((0 ≤ l1 ∧ l1 < 40)) ∧ (Q (some (jvI 1)) (j_up μ12 119 l1 r15))))))) ∧ ((μ1 119 l1) = (-1) → ((-2147483648 ≤ (l1 + 1) ∧ (l1 + 1) < 2147483648)) ∧ (K 121 E mM_isNextWay 2 [some (jvR 76), some (jvI (l1 + 1)), none] [] μ1 Q)))))))))) : K 121 E mM_isNextWay 2 [some (jvR 76), some (jvI l1), none] [] μ Q := by
  refine K_iload_n 1 l1 dM_isNextWay_2 rfl rfl ?_
  refine K_aload_n 0 76 dM_isNextWay_3 rfl rfl ?_
  refine K_callVi mM_steps 12 76 [] dM_isNextWay_4 pm_M_294 ⟨_, rfl, rfl⟩ ⟨(Nat.le_of_ble_eq_true rfl), (Nat.le_of_ble_eq_true rfl)⟩ rfl rfl (by decide) (Nat.le_of_ble_eq_true rfl) rfl (Nat.le_of_ble_eq_true rfl) (by decide) (Ci_mono hF (fun r4 μ1 h2 => ?_))
  refine K_icmp_ge 79 dM_isNextWay_7 (by decide) (fun c5 => ?_) (fun c5 => ?_)
  · refine K_iconst 0 dM_isNextWay_79 rfl ?_
    exact K_iret dM_isNextWay_80 (Or.inr ⟨rfl, (by decide)⟩) (h2.1 c5)
  · refine K_aload_n 0 76 dM_isNextWay_10 rfl rfl ?_
    refine K_getf 12 40 76 (jvR 103) dM_isNextWay_11 pf_M_94 rfl rfl (by decide) rfl rfl ?_
    refine K_iload_n 1 l1 dM_isNextWay_14 rfl rfl ?_
    refine K_iald 103 40 dM_isNextWay_15 rfl rfl (by decide) (h2.2 c5).1 ?_
    refine K_iload_n 1 l1 dM_isNextWay_16 rfl rfl ?_
    refine K_icmp_ne 73 dM_isNextWay_17 (by decide) (fun c8 => ?_) (fun c8 => ?_)
    · refine K_iinc 1 dM_isNextWay_73 (Nat.le_of_ble_eq_true rfl) rfl (w32_ok ((h2.2 c5).2.1 c8).1) rfl ?_
      refine K_goto 2 dM_isNextWay_76 (by decide) ?_
      exact ((h2.2 c5).2.1 c8).2
    · refine K_aload_n 0 76 dM_isNextWay_20 rfl rfl ?_
      refine K_getf 12 60 76 (jvR 119) dM_isNextWay_21 pf_M_143 rfl rfl (by decide) rfl rfl ?_
      refine K_iload_n 1 l1 dM_isNextWay_24 rfl rfl ?_
      refine K_iald 119 40 dM_isNextWay_25 rfl rfl (by decide) ((h2.2 c5).2.2 c8).1 ?_
      refine K_iconst (-1) dM_isNextWay_26 rfl ?_
      refine K_icmp_ne 33 dM_isNextWay_27 (by decide) (fun c10 => ?_) (fun c10 => ?_)
      · refine K_aload_n 0 76 dM_isNextWay_33 rfl rfl ?_
        refine K_iload_n 1 l1 dM_isNextWay_34 rfl rfl ?_
        refine K_aload_n 0 76 dM_isNextWay_35 rfl rfl ?_
        refine K_getf 12 60 76 (jvR 119) dM_isNextWay_36 pf_M_143 rfl rfl (by decide) rfl rfl ?_
        refine K_iload_n 1 l1 dM_isNextWay_39 rfl rfl ?_
        refine K_iald 119 40 dM_isNextWay_40 rfl rfl (by decide) (((h2.2 c5).2.2 c8).2.1 c10).1 ?_
        refine K_callVi mM_nextOf 12 76 [jvI l1, jvI (μ1 119 l1)] dM_isNextWay_41 pm_M_444 ⟨_, rfl, rfl⟩ ⟨(Nat.le_of_ble_eq_true rfl), (Nat.le_of_ble_eq_true rfl)⟩ rfl rfl (by decide) (Nat.le_of_ble_eq_true rfl) rfl (Nat.le_of_ble_eq_true rfl) (by decide) (Ci_mono (((h2.2 c5).2.2 c8).2.1 c10).2 (fun r15 μ12 h13 => ?_))
        refine K_istore_n 2 dM_isNextWay_44 rfl (Nat.le_of_ble_eq_true rfl) rfl ?_
        refine K_iload_n 2 r15 dM_isNextWay_45 rfl rfl ?_
        refine K_iconst (-1) dM_isNextWay_46 rfl ?_
        refine K_icmp_eq 59 dM_isNextWay_47 (by decide) (fun c16 => ?_) (fun c16 => ?_)
        · refine K_aload_n 0 76 dM_isNextWay_59 rfl rfl ?_
          refine K_getf 12 60 76 (jvR 119) dM_isNextWay_60 pf_M_143 rfl rfl (by decide) rfl rfl ?_
          refine K_iload_n 1 l1 dM_isNextWay_63 rfl rfl ?_
          refine K_aload_n 0 76 dM_isNextWay_64 rfl rfl ?_
          refine K_iload_n 1 l1 dM_isNextWay_65 rfl rfl ?_
          refine K_iload_n 1 l1 dM_isNextWay_66 rfl rfl ?_
          refine K_iconst 1 dM_isNextWay_67 rfl ?_
          refine K_isub dM_isNextWay_68 (w32_id (h13.1 c16).1) ?_
          refine K_callVi mM_nextOf 12 76 [jvI l1, jvI (l1 - 1)] dM_isNextWay_69 pm_M_444 ⟨_, rfl, rfl⟩ ⟨(Nat.le_of_ble_eq_true rfl), (Nat.le_of_ble_eq_true rfl)⟩ rfl rfl (by decide) (Nat.le_of_ble_eq_true rfl) rfl (Nat.le_of_ble_eq_true rfl) (by decide) (Ci_mono (h13.1 c16).2 (fun r21 μ18 h19 => ?_))
          refine K_iast 119 40 dM_isNextWay_72 rfl rfl (by decide) h19.1.1 ?_
          refine K_iinc 1 dM_isNextWay_73 (Nat.le_of_ble_eq_true rfl) rfl (w32_ok h19.1.2) rfl ?_
          refine K_goto 2 dM_isNextWay_76 (by decide) ?_
          exact K_forget [true, true, false] h19.2
        · refine K_aload_n 0 76 dM_isNextWay_50 rfl rfl ?_
          refine K_getf 12 60 76 (jvR 119) dM_isNextWay_51 pf_M_143 rfl rfl (by decide) rfl rfl ?_
          refine K_iload_n 1 l1 dM_isNextWay_54 rfl rfl ?_
          refine K_iload_n 2 r15 dM_isNextWay_55 rfl rfl ?_
          refine K_iast 119 40 dM_isNextWay_56 rfl rfl (by decide) (h13.2 c16).1 ?_
          refine K_iconst 1 dM_isNextWay_57 rfl ?_
          exact K_iret dM_isNextWay_58 (Or.inr ⟨rfl, (by decide)⟩) (h13.2 c16).2
      · refine K_goto 73 dM_isNextWay_30 (by decide) ?_
        refine K_iinc 1 dM_isNextWay_73 (Nat.le_of_ble_eq_true rfl) rfl (w32_ok (((h2.2 c5).2.2 c8).2.2 c10).1) rfl ?_
        refine K_goto 2 dM_isNextWay_76 (by decide) ?_
        exact (((h2.2 c5).2.2 c8).2.2 c10).2
set_option maxHeartbeats 8000000 in
theorem vM_ask_0 {E : jE} {μ : jMu} {Q : Option AV → jMu → Prop} {a0 a1 : Int} (hF : (Ci E mM_isReader [jvR 76, jvI a0] μ (fun r4 μ1 => ((¬ r4 = 0 → ((0 ≤ a0 ∧ a0 < 6) ∧ (a1 = 0 ∨ a1 = 1)) ∧ (Ci E mM_askedMany [jvR 76] (j_up μ1 109 a0 a1) (fun r10 μ7 => (Q (some (jvI r10)) μ7)))) ∧ (r4 = 0 → (Q (some (jvI (-1))) μ1)))))) : K 121 E mM_ask 0 [some (jvR 76), some (jvI a0), some (jvI a1)] [] μ Q := by
  refine K_aload_n 0 76 dM_ask_0 rfl rfl ?_
  refine K_iload_n 1 a0 dM_ask_1 rfl rfl ?_
  refine K_callVi mM_isReader 12 76 [jvI a0] dM_ask_2 pm_M_466 ⟨_, rfl, rfl⟩ ⟨(Nat.le_of_ble_eq_true rfl), (Nat.le_of_ble_eq_true rfl)⟩ rfl rfl (by decide) (Nat.le_of_ble_eq_true rfl) rfl (Nat.le_of_ble_eq_true rfl) (by decide) (Ci_mono hF (fun r4 μ1 h2 => ?_))
  refine K_if_ne 10 dM_ask_5 (by decide) (fun c5 => ?_) (fun c5 => ?_)
  · refine K_aload_n 0 76 dM_ask_10 rfl rfl ?_
    refine K_getf 12 47 76 (jvR 109) dM_ask_11 pf_M_113 rfl rfl (by decide) rfl rfl ?_
    refine K_iload_n 1 a0 dM_ask_14 rfl rfl ?_
    refine K_iload_n 2 a1 dM_ask_15 rfl rfl ?_
    refine K_zast 109 6 dM_ask_16 rfl rfl (by decide) (h2.1 c5).1.1 (h2.1 c5).1.2 ?_
    refine K_aload_n 0 76 dM_ask_17 rfl rfl ?_
    refine K_callVi mM_askedMany 12 76 [] dM_ask_18 pm_M_355 ⟨_, rfl, rfl⟩ ⟨(Nat.le_of_ble_eq_true rfl), (Nat.le_of_ble_eq_true rfl)⟩ rfl rfl (by decide) (Nat.le_of_ble_eq_true rfl) rfl (Nat.le_of_ble_eq_true rfl) (by decide) (Ci_mono (h2.1 c5).2 (fun r10 μ7 h8 => ?_))
    exact K_iret dM_ask_21 (Or.inl rfl) h8
  · refine K_iconst (-1) dM_ask_8 rfl ?_
    exact K_iret dM_ask_9 (Or.inl rfl) (h2.2 c5)
set_option maxHeartbeats 8000000 in
theorem vM_isReader_0 {E : jE} {μ : jMu} {Q : Option AV → jMu → Prop} {a0 : Int} (hF : (Ci E mM_readers [jvR 76] μ (fun r4 μ1 => ((-2147483648 ≤ (r4 - 1) ∧ (r4 - 1) < 2147483648)) ∧ (Ci E mM_isIn [jvL a0, jvL 0, jvL (r4 - 1)] μ1 (fun r8 μ5 => ((r8 = 0 ∨ r8 = 1)) ∧ (Q (some (jvI r8)) μ5)))))) : K 121 E mM_isReader 0 [some (jvR 76), some (jvI a0)] [] μ Q := by
  refine K_iload_n 1 a0 dM_isReader_0 rfl rfl ?_
  refine K_i2l dM_isReader_1 rfl ?_
  refine K_lconst 0 dM_isReader_2 rfl ?_
  refine K_aload_n 0 76 dM_isReader_3 rfl rfl ?_
  refine K_callVi mM_readers 12 76 [] dM_isReader_4 pm_M_334 ⟨_, rfl, rfl⟩ ⟨(Nat.le_of_ble_eq_true rfl), (Nat.le_of_ble_eq_true rfl)⟩ rfl rfl (by decide) (Nat.le_of_ble_eq_true rfl) rfl (Nat.le_of_ble_eq_true rfl) (by decide) (Ci_mono hF (fun r4 μ1 h2 => ?_))
  refine K_iconst 1 dM_isReader_7 rfl ?_
  refine K_isub dM_isReader_8 (w32_id h2.1) ?_
  refine K_i2l dM_isReader_9 rfl ?_
  refine K_callSi mM_isIn [jvL a0, jvL 0, jvL (r4 - 1)] dM_isReader_10 pm_M_196 ⟨(Nat.le_of_ble_eq_true rfl), (Nat.le_of_ble_eq_true rfl)⟩ (Nat.le_of_ble_eq_true rfl) rfl (Nat.le_of_ble_eq_true rfl) (by decide) (Ci_mono h2.2 (fun r8 μ5 h6 => ?_))
  exact K_iret dM_isReader_13 (Or.inr ⟨rfl, h6.1⟩) h6.2
set_option maxHeartbeats 8000000 in
theorem vM_least_0 {E : jE} {μ : jMu} {Q : Option AV → jMu → Prop} {a0 : Int} (hF : (Ci E mM_steps [jvR 76] μ (fun r4 μ1 => ((r4 = 0 → (Q (some (jvI (-1))) μ1)) ∧ (¬ (r4 = 0) → (Ci E mM_isIn [jvL a0, jvL 0, jvL 1] μ1 (fun r11 μ8 => ((¬ r11 = 0 → (Ci E mM_leastBy [jvR 76, jvI (-1)] μ8 (fun r17 μ14 => ((¬ a0 = 0 → (Q (some (jvI r17)) μ14)) ∧ (a0 = 0 → (Ci E mM_seenOf [jvR 76, jvI r17, jvI (-1)] μ14 (fun r24 μ21 => (Q (some (jvI r24)) μ21)))))))) ∧ (r11 = 0 → (Q (some (jvI (-1))) μ8)))))))))) : K 121 E mM_least 0 [some (jvR 76), some (jvI a0), none] [] μ Q := by
  refine K_aload_n 0 76 dM_least_0 rfl rfl ?_
  refine K_callVi mM_steps 12 76 [] dM_least_1 pm_M_294 ⟨_, rfl, rfl⟩ ⟨(Nat.le_of_ble_eq_true rfl), (Nat.le_of_ble_eq_true rfl)⟩ rfl rfl (by decide) (Nat.le_of_ble_eq_true rfl) rfl (Nat.le_of_ble_eq_true rfl) (by decide) (Ci_mono hF (fun r4 μ1 h2 => ?_))
  refine K_if_eq 17 dM_least_4 (by decide) (fun c5 => ?_) (fun c5 => ?_)
  · refine K_iconst (-1) dM_least_17 rfl ?_
    exact K_iret dM_least_18 (Or.inl rfl) (h2.1 c5)
  · refine K_iload_n 1 a0 dM_least_7 rfl rfl ?_
    refine K_i2l dM_least_8 rfl ?_
    refine K_lconst 0 dM_least_9 rfl ?_
    refine K_lconst 1 dM_least_10 rfl ?_
    refine K_callSi mM_isIn [jvL a0, jvL 0, jvL 1] dM_least_11 pm_M_196 ⟨(Nat.le_of_ble_eq_true rfl), (Nat.le_of_ble_eq_true rfl)⟩ (Nat.le_of_ble_eq_true rfl) rfl (Nat.le_of_ble_eq_true rfl) (by decide) (Ci_mono (h2.2 c5) (fun r11 μ8 h9 => ?_))
    refine K_if_ne 19 dM_least_14 (by decide) (fun c12 => ?_) (fun c12 => ?_)
    · refine K_aload_n 0 76 dM_least_19 rfl rfl ?_
      refine K_iconst (-1) dM_least_20 rfl ?_
      refine K_callVi mM_leastBy 12 76 [jvI (-1)] dM_least_21 pm_M_469 ⟨_, rfl, rfl⟩ ⟨(Nat.le_of_ble_eq_true rfl), (Nat.le_of_ble_eq_true rfl)⟩ rfl rfl (by decide) (Nat.le_of_ble_eq_true rfl) rfl (Nat.le_of_ble_eq_true rfl) (by decide) (Ci_mono (h9.1 c12) (fun r17 μ14 h15 => ?_))
      refine K_istore_n 2 dM_least_24 rfl (Nat.le_of_ble_eq_true rfl) rfl ?_
      refine K_iload_n 1 a0 dM_least_25 rfl rfl ?_
      refine K_if_ne 38 dM_least_26 (by decide) (fun c18 => ?_) (fun c18 => ?_)
      · refine K_iload_n 2 r17 dM_least_38 rfl rfl ?_
        exact K_iret dM_least_39 (Or.inl rfl) (h15.1 c18)
      · refine K_aload_n 0 76 dM_least_29 rfl rfl ?_
        refine K_iload_n 2 r17 dM_least_30 rfl rfl ?_
        refine K_iconst (-1) dM_least_31 rfl ?_
        refine K_callVi mM_seenOf 12 76 [jvI r17, jvI (-1)] dM_least_32 pm_M_374 ⟨_, rfl, rfl⟩ ⟨(Nat.le_of_ble_eq_true rfl), (Nat.le_of_ble_eq_true rfl)⟩ rfl rfl (by decide) (Nat.le_of_ble_eq_true rfl) rfl (Nat.le_of_ble_eq_true rfl) (by decide) (Ci_mono (h15.2 c18) (fun r24 μ21 h22 => ?_))
        refine K_goto 39 dM_least_35 (by decide) ?_
        exact K_iret dM_least_39 (Or.inl rfl) h22
    · refine K_iconst (-1) dM_least_17 rfl ?_
      exact K_iret dM_least_18 (Or.inl rfl) (h9.2 c12)
set_option maxHeartbeats 8000000 in
theorem vM_leastBy_0 {E : jE} {μ : jMu} {Q : Option AV → jMu → Prop} {a0 : Int} (hF : (K 121 E mM_leastBy 4 [some (jvR 76), some (jvI a0), some (jvI (-1)), some (jvI 0)] [] μ Q)) : K 121 E mM_leastBy 0 [some (jvR 76), some (jvI a0), none, none] [] μ Q := by
  refine K_iconst (-1) dM_leastBy_0 rfl ?_
  refine K_istore_n 2 dM_leastBy_1 rfl (Nat.le_of_ble_eq_true rfl) rfl ?_
  refine K_iconst 0 dM_leastBy_2 rfl ?_
  refine K_istore_n 3 dM_leastBy_3 rfl (Nat.le_of_ble_eq_true rfl) rfl ?_
  exact hF
set_option maxHeartbeats 8000000 in
theorem vM_leastBy_4 {E : jE} {μ : jMu} {Q : Option AV → jMu → Prop} {l1 l2 l3 : Int} (hF : (Ci E mM_steps [jvR 76] μ (fun r4 μ1 => ((r4 ≤ l3 → (Q (some (jvI l2)) μ1)) ∧ (¬ (r4 ≤ l3) → (Ci E mM_isNeeded [jvR 76, jvI l3] μ1 (fun r11 μ8 => ((r11 = 0 → ((-2147483648 ≤ (l3 + 1) ∧ (l3 + 1) < 2147483648)) ∧ (K 121 E mM_leastBy 4 [some (jvR 76), some (jvI l1), some (jvI l2), some (jvI (l3 + 1))] [] μ8 Q)) ∧ (¬ (r11 = 0) → ((l2 = (-1) → ((-2147483648 ≤ (l3 + 1) ∧ (l3 + 1) < 2147483648)) ∧ (K 121 E mM_leastBy 4 [some (jvR 76), some (jvI l1), some (jvI l3), some (jvI (l3 + 1))] [] μ8 Q)) ∧ (¬ (l2 = (-1)) → (Ci E mM_seenOf [jvR 76, jvI l3, jvI l1] μ8 (fun r19 μ16 => (Ci E mM_seenOf [jvR 76, jvI l2, jvI l1] μ16 (fun r23 μ20 => ((r23 ≤ r19 → ((-2147483648 ≤ (l3 + 1) ∧ (l3 + 1) < 2147483648)) ∧ (K 121 E mM_leastBy 4 [some (jvR 76), some (jvI l1), some (jvI l2), some (jvI (l3 + 1))] [] μ20 Q)) ∧ (¬ (r23 ≤ r19) → ((-2147483648 ≤ (l3 + 1) ∧ (l3 + 1) < 2147483648)) ∧ (K 121 E mM_leastBy 4 [some (jvR 76), some (jvI l1), some (jvI l3), some (jvI (l3 + 1))] [] μ20 Q)))))))))))))))))) : K 121 E mM_leastBy 4 [some (jvR 76), some (jvI l1), some (jvI l2), some (jvI l3)] [] μ Q := by
  refine K_iload_n 3 l3 dM_leastBy_4 rfl rfl ?_
  refine K_aload_n 0 76 dM_leastBy_5 rfl rfl ?_
  refine K_callVi mM_steps 12 76 [] dM_leastBy_6 pm_M_294 ⟨_, rfl, rfl⟩ ⟨(Nat.le_of_ble_eq_true rfl), (Nat.le_of_ble_eq_true rfl)⟩ rfl rfl (by decide) (Nat.le_of_ble_eq_true rfl) rfl (Nat.le_of_ble_eq_true rfl) (by decide) (Ci_mono hF (fun r4 μ1 h2 => ?_))
  refine K_icmp_ge 48 dM_leastBy_9 (by decide) (fun c5 => ?_) (fun c5 => ?_)
  · refine K_iload_n 2 l2 dM_leastBy_48 rfl rfl ?_
    exact K_iret dM_leastBy_49 (Or.inl rfl) (h2.1 c5)
  · refine K_aload_n 0 76 dM_leastBy_12 rfl rfl ?_
    refine K_iload_n 3 l3 dM_leastBy_13 rfl rfl ?_
    refine K_callVi mM_isNeeded 12 76 [jvI l3] dM_leastBy_14 pm_M_340 ⟨_, rfl, rfl⟩ ⟨(Nat.le_of_ble_eq_true rfl), (Nat.le_of_ble_eq_true rfl)⟩ rfl rfl (by decide) (Nat.le_of_ble_eq_true rfl) rfl (Nat.le_of_ble_eq_true rfl) (by decide) (Ci_mono (h2.2 c5) (fun r11 μ8 h9 => ?_))
    refine K_if_eq 42 dM_leastBy_17 (by decide) (fun c12 => ?_) (fun c12 => ?_)
    · refine K_iinc 3 dM_leastBy_42 (Nat.le_of_ble_eq_true rfl) rfl (w32_ok (h9.1 c12).1) rfl ?_
      refine K_goto 4 dM_leastBy_45 (by decide) ?_
      exact (h9.1 c12).2
    · refine K_iload_n 2 l2 dM_leastBy_20 rfl rfl ?_
      refine K_iconst (-1) dM_leastBy_21 rfl ?_
      refine K_icmp_eq 40 dM_leastBy_22 (by decide) (fun c14 => ?_) (fun c14 => ?_)
      · refine K_iload_n 3 l3 dM_leastBy_40 rfl rfl ?_
        refine K_istore_n 2 dM_leastBy_41 rfl (Nat.le_of_ble_eq_true rfl) rfl ?_
        refine K_iinc 3 dM_leastBy_42 (Nat.le_of_ble_eq_true rfl) rfl (w32_ok ((h9.2 c12).1 c14).1) rfl ?_
        refine K_goto 4 dM_leastBy_45 (by decide) ?_
        exact ((h9.2 c12).1 c14).2
      · refine K_aload_n 0 76 dM_leastBy_25 rfl rfl ?_
        refine K_iload_n 3 l3 dM_leastBy_26 rfl rfl ?_
        refine K_iload_n 1 l1 dM_leastBy_27 rfl rfl ?_
        refine K_callVi mM_seenOf 12 76 [jvI l3, jvI l1] dM_leastBy_28 pm_M_374 ⟨_, rfl, rfl⟩ ⟨(Nat.le_of_ble_eq_true rfl), (Nat.le_of_ble_eq_true rfl)⟩ rfl rfl (by decide) (Nat.le_of_ble_eq_true rfl) rfl (Nat.le_of_ble_eq_true rfl) (by decide) (Ci_mono ((h9.2 c12).2 c14) (fun r19 μ16 h17 => ?_))
        refine K_aload_n 0 76 dM_leastBy_31 rfl rfl ?_
        refine K_iload_n 2 l2 dM_leastBy_32 rfl rfl ?_
        refine K_iload_n 1 l1 dM_leastBy_33 rfl rfl ?_
        refine K_callVi mM_seenOf 12 76 [jvI l2, jvI l1] dM_leastBy_34 pm_M_374 ⟨_, rfl, rfl⟩ ⟨(Nat.le_of_ble_eq_true rfl), (Nat.le_of_ble_eq_true rfl)⟩ rfl rfl (by decide) (Nat.le_of_ble_eq_true rfl) rfl (Nat.le_of_ble_eq_true rfl) (by decide) (Ci_mono h17 (fun r23 μ20 h21 => ?_))
        refine K_icmp_ge 42 dM_leastBy_37 (by decide) (fun c24 => ?_) (fun c24 => ?_)
        · refine K_iinc 3 dM_leastBy_42 (Nat.le_of_ble_eq_true rfl) rfl (w32_ok (h21.1 c24).1) rfl ?_
          refine K_goto 4 dM_leastBy_45 (by decide) ?_
          exact (h21.1 c24).2
        · refine K_iload_n 3 l3 dM_leastBy_40 rfl rfl ?_
          refine K_istore_n 2 dM_leastBy_41 rfl (Nat.le_of_ble_eq_true rfl) rfl ?_
          refine K_iinc 3 dM_leastBy_42 (Nat.le_of_ble_eq_true rfl) rfl (w32_ok (h21.2 c24).1) rfl ?_
          refine K_goto 4 dM_leastBy_45 (by decide) ?_
          exact (h21.2 c24).2
set_option maxHeartbeats 8000000 in
theorem vM_whom_0 {E : jE} {μ : jMu} {Q : Option AV → jMu → Prop} (hF : (Ci E mM_steps [jvR 76] μ (fun r4 μ1 => ((¬ r4 = 0 → (K 121 E mM_whom 15 [some (jvR 76), some (jvI (-1)), some (jvI (-1)), some (jvI 0), none] [] μ1 Q)) ∧ (r4 = 0 → (Q (some (jvI (-1))) μ1)))))) : K 121 E mM_whom 0 [some (jvR 76), none, none, none, none] [] μ Q := by
  refine K_aload_n 0 76 dM_whom_0 rfl rfl ?_
  refine K_callVi mM_steps 12 76 [] dM_whom_1 pm_M_294 ⟨_, rfl, rfl⟩ ⟨(Nat.le_of_ble_eq_true rfl), (Nat.le_of_ble_eq_true rfl)⟩ rfl rfl (by decide) (Nat.le_of_ble_eq_true rfl) rfl (Nat.le_of_ble_eq_true rfl) (by decide) (Ci_mono hF (fun r4 μ1 h2 => ?_))
  refine K_if_ne 9 dM_whom_4 (by decide) (fun c5 => ?_) (fun c5 => ?_)
  · refine K_iconst (-1) dM_whom_9 rfl ?_
    refine K_istore_n 1 dM_whom_10 rfl (Nat.le_of_ble_eq_true rfl) rfl ?_
    refine K_iconst (-1) dM_whom_11 rfl ?_
    refine K_istore_n 2 dM_whom_12 rfl (Nat.le_of_ble_eq_true rfl) rfl ?_
    refine K_iconst 0 dM_whom_13 rfl ?_
    refine K_istore_n 3 dM_whom_14 rfl (Nat.le_of_ble_eq_true rfl) rfl ?_
    exact (h2.1 c5)
  · refine K_iconst (-1) dM_whom_7 rfl ?_
    exact K_iret dM_whom_8 (Or.inl rfl) (h2.2 c5)
set_option maxHeartbeats 8000000 in
theorem vM_whom_15 {E : jE} {μ : jMu} {Q : Option AV → jMu → Prop} {l1 l2 l3 : Int} (hF : (Ci E mM_readers [jvR 76] μ (fun r4 μ1 => ((r4 ≤ l3 → (Q (some (jvI l1)) μ1)) ∧ (¬ (r4 ≤ l3) → ((0 ≤ l3 ∧ l3 < 6)) ∧ (((μ1 109 l3) = 0 → (Ci E mM_leastBy [jvR 76, jvI l3] μ1 (fun r13 μ10 => (Ci E mM_seenOf [jvR 76, jvI r13, jvI l3] μ10 (fun r17 μ14 => ((l2 < r17 → ((-2147483648 ≤ (l3 + 1) ∧ (l3 + 1) < 2147483648)) ∧ (K 121 E mM_whom 15 [some (jvR 76), some (jvI l3), some (jvI r17), some (jvI (l3 + 1)), none] [] μ14 Q)) ∧ (¬ (l2 < r17) → ((-2147483648 ≤ (l3 + 1) ∧ (l3 + 1) < 2147483648)) ∧ (K 121 E mM_whom 15 [some (jvR 76), some (jvI l1), some (jvI l2), some (jvI (l3 + 1)), none] [] μ14 Q)))))))) ∧ (¬ ((μ1 109 l3) = 0) → ((-2147483648 ≤ (l3 + 1) ∧ (l3 + 1) < 2147483648)) ∧ (K 121 E mM_whom 15 [some (jvR 76), some (jvI l1), some (jvI l2), some (jvI (l3 + 1)), none] [] μ1 Q)))))))) : K 121 E mM_whom 15 [some (jvR 76), some (jvI l1), some (jvI l2), some (jvI l3), none] [] μ Q := by
  refine K_iload_n 3 l3 dM_whom_15 rfl rfl ?_
  refine K_aload_n 0 76 dM_whom_16 rfl rfl ?_
  refine K_callVi mM_readers 12 76 [] dM_whom_17 pm_M_334 ⟨_, rfl, rfl⟩ ⟨(Nat.le_of_ble_eq_true rfl), (Nat.le_of_ble_eq_true rfl)⟩ rfl rfl (by decide) (Nat.le_of_ble_eq_true rfl) rfl (Nat.le_of_ble_eq_true rfl) (by decide) (Ci_mono hF (fun r4 μ1 h2 => ?_))
  refine K_icmp_ge 67 dM_whom_20 (by decide) (fun c5 => ?_) (fun c5 => ?_)
  · refine K_iload_n 1 l1 dM_whom_67 rfl rfl ?_
    exact K_iret dM_whom_68 (Or.inl rfl) (h2.1 c5)
  · refine K_aload_n 0 76 dM_whom_23 rfl rfl ?_
    refine K_getf 12 47 76 (jvR 109) dM_whom_24 pf_M_113 rfl rfl (by decide) rfl rfl ?_
    refine K_iload_n 3 l3 dM_whom_27 rfl rfl ?_
    refine K_zald 109 6 dM_whom_28 rfl rfl (by decide) (h2.2 c5).1 ?_
    refine K_if_eq 35 dM_whom_29 (by decide) (fun c8 => ?_) (fun c8 => ?_)
    · refine K_aload_n 0 76 dM_whom_35 rfl rfl ?_
      refine K_aload_n 0 76 dM_whom_36 rfl rfl ?_
      refine K_iload_n 3 l3 dM_whom_37 rfl rfl ?_
      refine K_callVi mM_leastBy 12 76 [jvI l3] dM_whom_38 pm_M_469 ⟨_, rfl, rfl⟩ ⟨(Nat.le_of_ble_eq_true rfl), (Nat.le_of_ble_eq_true rfl)⟩ rfl rfl (by decide) (Nat.le_of_ble_eq_true rfl) rfl (Nat.le_of_ble_eq_true rfl) (by decide) (Ci_mono ((h2.2 c5).2.1 c8) (fun r13 μ10 h11 => ?_))
      refine K_iload_n 3 l3 dM_whom_41 rfl rfl ?_
      refine K_callVi mM_seenOf 12 76 [jvI r13, jvI l3] dM_whom_42 pm_M_374 ⟨_, rfl, rfl⟩ ⟨(Nat.le_of_ble_eq_true rfl), (Nat.le_of_ble_eq_true rfl)⟩ rfl rfl (by decide) (Nat.le_of_ble_eq_true rfl) rfl (Nat.le_of_ble_eq_true rfl) (by decide) (Ci_mono h11 (fun r17 μ14 h15 => ?_))
      refine K_istore 4 dM_whom_45 (Nat.le_of_ble_eq_true rfl) rfl ?_
      refine K_iload 4 r17 dM_whom_47 rfl ?_
      refine K_iload_n 2 l2 dM_whom_49 rfl rfl ?_
      refine K_icmp_gt 56 dM_whom_50 (by decide) (fun c18 => ?_) (fun c18 => ?_)
      · refine K_iload_n 3 l3 dM_whom_56 rfl rfl ?_
        refine K_istore_n 1 dM_whom_57 rfl (Nat.le_of_ble_eq_true rfl) rfl ?_
        refine K_iload 4 r17 dM_whom_58 rfl ?_
        refine K_istore_n 2 dM_whom_60 rfl (Nat.le_of_ble_eq_true rfl) rfl ?_
        refine K_iinc 3 dM_whom_61 (Nat.le_of_ble_eq_true rfl) rfl (w32_ok (h15.1 c18).1) rfl ?_
        refine K_goto 15 dM_whom_64 (by decide) ?_
        exact K_forget [true, true, true, true, false] (h15.1 c18).2
      · refine K_goto 61 dM_whom_53 (by decide) ?_
        refine K_iinc 3 dM_whom_61 (Nat.le_of_ble_eq_true rfl) rfl (w32_ok (h15.2 c18).1) rfl ?_
        refine K_goto 15 dM_whom_64 (by decide) ?_
        exact K_forget [true, true, true, true, false] (h15.2 c18).2
    · refine K_goto 61 dM_whom_32 (by decide) ?_
      refine K_iinc 3 dM_whom_61 (Nat.le_of_ble_eq_true rfl) rfl (w32_ok ((h2.2 c5).2.2 c8).1) rfl ?_
      refine K_goto 15 dM_whom_64 (by decide) ?_
      exact ((h2.2 c5).2.2 c8).2
set_option maxHeartbeats 8000000 in
theorem vM_seed_0 {E : jE} {μ : jMu} {Q : Option AV → jMu → Prop} {a0 : Int} (hF : ((0 ≤ a0 → (Q (some (jvI 1)) (j_up μ 76 61 a0))) ∧ (¬ (0 ≤ a0) → (Q (some (jvI 0)) μ)))) : K 121 E mM_seed 0 [some (jvR 76), some (jvI a0)] [] μ Q := by
  refine K_iload_n 1 a0 dM_seed_0 rfl rfl ?_
  refine K_if_ge 6 dM_seed_1 (by decide) (fun c1 => ?_) (fun c1 => ?_)
  · refine K_aload_n 0 76 dM_seed_6 rfl rfl ?_
    refine K_iload_n 1 a0 dM_seed_7 rfl rfl ?_
    refine K_i2l dM_seed_8 rfl ?_
    refine K_putf 12 61 76 (x := a0) dM_seed_9 pf_M_146 rfl rfl (by decide) rfl rfl rfl rfl trivial ?_
    refine K_iconst 1 dM_seed_12 rfl ?_
    exact K_iret dM_seed_13 (Or.inr ⟨rfl, (by decide)⟩) (hF.1 c1)
  · refine K_iconst 0 dM_seed_4 rfl ?_
    exact K_iret dM_seed_5 (Or.inr ⟨rfl, (by decide)⟩) (hF.2 c1)
set_option maxHeartbeats 8000000 in
theorem vM_trials_0 {E : jE} {μ : jMu} {Q : Option AV → jMu → Prop} {a0 a1 : Int} (hF : (Ci E mM_isStep [jvR 76, jvI a0] μ (fun r4 μ1 => ((r4 = 0 → (Q (some (jvI (-1))) μ1)) ∧ (¬ (r4 = 0) → (Ci E mM_isIn [jvL a1, jvL 1, jvL 1000] μ1 (fun r11 μ8 => ((¬ r11 = 0 → (K 121 E mM_trials 27 [some (jvR 76), some (jvI a0), some (jvI a1), some (jvI 0), some (jvI 0), none, none] [] μ8 Q)) ∧ (r11 = 0 → (Q (some (jvI (-1))) μ8)))))))))) : K 121 E mM_trials 0 [some (jvR 76), some (jvI a0), some (jvI a1), none, none, none, none] [] μ Q := by
  refine K_aload_n 0 76 dM_trials_0 rfl rfl ?_
  refine K_iload_n 1 a0 dM_trials_1 rfl rfl ?_
  refine K_callVi mM_isStep 12 76 [jvI a0] dM_trials_2 pm_M_368 ⟨_, rfl, rfl⟩ ⟨(Nat.le_of_ble_eq_true rfl), (Nat.le_of_ble_eq_true rfl)⟩ rfl rfl (by decide) (Nat.le_of_ble_eq_true rfl) rfl (Nat.le_of_ble_eq_true rfl) (by decide) (Ci_mono hF (fun r4 μ1 h2 => ?_))
  refine K_if_eq 20 dM_trials_5 (by decide) (fun c5 => ?_) (fun c5 => ?_)
  · refine K_iconst (-1) dM_trials_20 rfl ?_
    exact K_iret dM_trials_21 (Or.inl rfl) (h2.1 c5)
  · refine K_iload_n 2 a1 dM_trials_8 rfl rfl ?_
    refine K_i2l dM_trials_9 rfl ?_
    refine K_lconst 1 dM_trials_10 rfl ?_
    refine K_ldc2 1000 dM_trials_11 pc_M_480 rfl ?_
    refine K_callSi mM_isIn [jvL a1, jvL 1, jvL 1000] dM_trials_14 pm_M_196 ⟨(Nat.le_of_ble_eq_true rfl), (Nat.le_of_ble_eq_true rfl)⟩ (Nat.le_of_ble_eq_true rfl) rfl (Nat.le_of_ble_eq_true rfl) (by decide) (Ci_mono (h2.2 c5) (fun r11 μ8 h9 => ?_))
    refine K_if_ne 22 dM_trials_17 (by decide) (fun c12 => ?_) (fun c12 => ?_)
    · refine K_iconst 0 dM_trials_22 rfl ?_
      refine K_istore_n 3 dM_trials_23 rfl (Nat.le_of_ble_eq_true rfl) rfl ?_
      refine K_iconst 0 dM_trials_24 rfl ?_
      refine K_istore 4 dM_trials_25 (Nat.le_of_ble_eq_true rfl) rfl ?_
      exact (h9.1 c12)
    · refine K_iconst (-1) dM_trials_20 rfl ?_
      exact K_iret dM_trials_21 (Or.inl rfl) (h9.2 c12)
set_option maxHeartbeats 8000000 in
theorem vM_trials_27 {E : jE} {μ : jMu} {Q : Option AV → jMu → Prop} {l1 l2 l3 l4 : Int} (hF : ((l2 ≤ l4 → (Q (some (jvI l3)) μ)) ∧ (¬ (l2 ≤ l4) → (K 121 E mM_trials 39 [some (jvR 76), some (jvI l1), some (jvI l2), some (jvI l3), some (jvI l4), some (jvI 0), some (jvI 0)] [] μ Q)))) : K 121 E mM_trials 27 [some (jvR 76), some (jvI l1), some (jvI l2), some (jvI l3), some (jvI l4), none, none] [] μ Q := by
  refine K_iload 4 l4 dM_trials_27 rfl ?_
  refine K_iload_n 2 l2 dM_trials_29 rfl rfl ?_
  refine K_icmp_ge 110 dM_trials_30 (by decide) (fun c1 => ?_) (fun c1 => ?_)
  · refine K_iload_n 3 l3 dM_trials_110 rfl rfl ?_
    exact K_iret dM_trials_111 (Or.inl rfl) (hF.1 c1)
  · refine K_iconst 0 dM_trials_33 rfl ?_
    refine K_istore 5 dM_trials_34 (Nat.le_of_ble_eq_true rfl) rfl ?_
    refine K_iconst 0 dM_trials_36 rfl ?_
    refine K_istore 6 dM_trials_37 (Nat.le_of_ble_eq_true rfl) rfl ?_
    exact (hF.2 c1)
set_option maxHeartbeats 8000000 in
theorem vM_trials_39 {E : jE} {μ : jMu} {Q : Option AV → jMu → Prop} {l1 l2 l3 l4 l5 l6 : Int} (hF : (Ci E mM_readers [jvR 76] μ (fun r4 μ1 => ((r4 ≤ l6 → ((l5 = 0 → ((-2147483648 ≤ (l4 + 1) ∧ (l4 + 1) < 2147483648)) ∧ (K 121 E mM_trials 27 [some (jvR 76), some (jvI l1), some (jvI l2), some (jvI l3), some (jvI (l4 + 1)), none, none] [] μ1 Q)) ∧ (¬ (l5 = 0) → ((-2147483648 ≤ (l3 + 1) ∧ (l3 + 1) < 2147483648) ∧ (-2147483648 ≤ (l4 + 1) ∧ (l4 + 1) < 2147483648)) ∧ (K 121 E mM_trials 27 [some (jvR 76), some (jvI l1), some (jvI l2), some (jvI (l3 + 1)), some (jvI (l4 + 1)), none, none] [] μ1 Q)))) ∧ (¬ (r4 ≤ l6) → ((0 ≤ l6 ∧ l6 < 6)) ∧ (((μ1 109 l6) = 0 → ((-2147483648 ≤ (l6 + 1) ∧ (l6 + 1) < 2147483648)) ∧ (K 121 E mM_trials 39 [some (jvR 76), some (jvI l1), some (jvI l2), some (jvI l3), some (jvI l4), some (jvI l5), some (jvI (l6 + 1))] [] μ1 Q)) ∧ (¬ ((μ1 109 l6) = 0) → (Ci E mM_reads [jvR 76, jvI l6, jvI l1] μ1 (fun r14 μ11 => ((r14 = 0 → ((-2147483648 ≤ (l6 + 1) ∧ (l6 + 1) < 2147483648)) ∧ (K 121 E mM_trials 39 [some (jvR 76), some (jvI l1), some (jvI l2), some (jvI l3), some (jvI l4), some (jvI l5), some (jvI (l6 + 1))] [] μ11 Q)) ∧ (¬ (r14 = 0) → (Ci E mM_drawOf [jvR 76, jvI 100] μ11 (fun r20 μ17 => ((-2147483648 ≤ (6 + l6) ∧ (6 + l6) < 2147483648) ∧ (0 ≤ (6 + l6) ∧ (6 + l6) < 12)) ∧ (((μ17 96 (6 + l6)) ≤ r20 → ((-2147483648 ≤ (l6 + 1) ∧ (l6 + 1) < 2147483648)) ∧ (K 121 E mM_trials 39 [some (jvR 76), some (jvI l1), some (jvI l2), some (jvI l3), some (jvI l4), some (jvI l5), some (jvI (l6 + 1))] [] μ17 Q)) ∧ (¬ ((μ17 96 (6 + l6)) ≤ r20) → ((-2147483648 ≤ (l6 + 1) ∧ (l6 + 1) < 2147483648)) ∧ (K 121 E mM_trials 39 [some (jvR 76), some (jvI l1), some (jvI l2), some (jvI l3), some (jvI l4), some (jvI 1), some (jvI (l6 + 1))] [] μ17 Q)))))))))))))))) : K 121 E mM_trials 39 [some (jvR 76), some (jvI l1), some (jvI l2), some (jvI l3), some (jvI l4), some (jvI l5), some (jvI l6)] [] μ Q := by
  refine K_iload 6 l6 dM_trials_39 rfl ?_
  refine K_aload_n 0 76 dM_trials_41 rfl rfl ?_
  refine K_callVi mM_readers 12 76 [] dM_trials_42 pm_M_334 ⟨_, rfl, rfl⟩ ⟨(Nat.le_of_ble_eq_true rfl), (Nat.le_of_ble_eq_true rfl)⟩ rfl rfl (by decide) (Nat.le_of_ble_eq_true rfl) rfl (Nat.le_of_ble_eq_true rfl) (by decide) (Ci_mono hF (fun r4 μ1 h2 => ?_))
  refine K_icmp_ge 96 dM_trials_45 (by decide) (fun c5 => ?_) (fun c5 => ?_)
  · refine K_iload 5 l5 dM_trials_96 rfl ?_
    refine K_if_eq 104 dM_trials_98 (by decide) (fun c7 => ?_) (fun c7 => ?_)
    · refine K_iinc 4 dM_trials_104 (Nat.le_of_ble_eq_true rfl) rfl (w32_ok ((h2.1 c5).1 c7).1) rfl ?_
      refine K_goto 27 dM_trials_107 (by decide) ?_
      exact K_forget [true, true, true, true, true, false, false] ((h2.1 c5).1 c7).2
    · refine K_iinc 3 dM_trials_101 (Nat.le_of_ble_eq_true rfl) rfl (w32_ok ((h2.1 c5).2 c7).1.1) rfl ?_
      refine K_iinc 4 dM_trials_104 (Nat.le_of_ble_eq_true rfl) rfl (w32_ok ((h2.1 c5).2 c7).1.2) rfl ?_
      refine K_goto 27 dM_trials_107 (by decide) ?_
      exact K_forget [true, true, true, true, true, false, false] ((h2.1 c5).2 c7).2
  · refine K_aload_n 0 76 dM_trials_48 rfl rfl ?_
    refine K_getf 12 47 76 (jvR 109) dM_trials_49 pf_M_113 rfl rfl (by decide) rfl rfl ?_
    refine K_iload 6 l6 dM_trials_52 rfl ?_
    refine K_zald 109 6 dM_trials_54 rfl rfl (by decide) (h2.2 c5).1 ?_
    refine K_if_eq 90 dM_trials_55 (by decide) (fun c9 => ?_) (fun c9 => ?_)
    · refine K_iinc 6 dM_trials_90 (Nat.le_of_ble_eq_true rfl) rfl (w32_ok ((h2.2 c5).2.1 c9).1) rfl ?_
      refine K_goto 39 dM_trials_93 (by decide) ?_
      exact ((h2.2 c5).2.1 c9).2
    · refine K_aload_n 0 76 dM_trials_58 rfl rfl ?_
      refine K_iload 6 l6 dM_trials_59 rfl ?_
      refine K_iload_n 1 l1 dM_trials_61 rfl rfl ?_
      refine K_callVi mM_reads 12 76 [jvI l6, jvI l1] dM_trials_62 pm_M_463 ⟨_, rfl, rfl⟩ ⟨(Nat.le_of_ble_eq_true rfl), (Nat.le_of_ble_eq_true rfl)⟩ rfl rfl (by decide) (Nat.le_of_ble_eq_true rfl) rfl (Nat.le_of_ble_eq_true rfl) (by decide) (Ci_mono ((h2.2 c5).2.2 c9) (fun r14 μ11 h12 => ?_))
      refine K_if_eq 90 dM_trials_65 (by decide) (fun c15 => ?_) (fun c15 => ?_)
      · refine K_iinc 6 dM_trials_90 (Nat.le_of_ble_eq_true rfl) rfl (w32_ok (h12.1 c15).1) rfl ?_
        refine K_goto 39 dM_trials_93 (by decide) ?_
        exact (h12.1 c15).2
      · refine K_aload_n 0 76 dM_trials_68 rfl rfl ?_
        refine K_bipush 100 dM_trials_69 rfl ?_
        refine K_callVi mM_drawOf 12 76 [jvI 100] dM_trials_71 pm_M_482 ⟨_, rfl, rfl⟩ ⟨(Nat.le_of_ble_eq_true rfl), (Nat.le_of_ble_eq_true rfl)⟩ rfl rfl (by decide) (Nat.le_of_ble_eq_true rfl) rfl (Nat.le_of_ble_eq_true rfl) (by decide) (Ci_mono (h12.2 c15) (fun r20 μ17 h18 => ?_))
        refine K_aload_n 0 76 dM_trials_74 rfl rfl ?_
        refine K_getf 12 29 76 (jvR 96) dM_trials_75 pf_M_73 rfl rfl (by decide) rfl rfl ?_
        refine K_bipush 6 dM_trials_78 rfl ?_
        refine K_iload 6 l6 dM_trials_80 rfl ?_
        refine K_iadd dM_trials_82 (w32_id h18.1.1) ?_
        refine K_iald 96 12 dM_trials_83 rfl rfl (by decide) h18.1.2 ?_
        refine K_icmp_ge 90 dM_trials_84 (by decide) (fun c21 => ?_) (fun c21 => ?_)
        · refine K_iinc 6 dM_trials_90 (Nat.le_of_ble_eq_true rfl) rfl (w32_ok (h18.2.1 c21).1) rfl ?_
          refine K_goto 39 dM_trials_93 (by decide) ?_
          exact (h18.2.1 c21).2
        · refine K_iconst 1 dM_trials_87 rfl ?_
          refine K_istore 5 dM_trials_88 (Nat.le_of_ble_eq_true rfl) rfl ?_
          refine K_iinc 6 dM_trials_90 (Nat.le_of_ble_eq_true rfl) rfl (w32_ok (h18.2.2 c21).1) rfl ?_
          refine K_goto 39 dM_trials_93 (by decide) ?_
          exact (h18.2.2 c21).2
set_option maxHeartbeats 8000000 in
theorem vM_drawOf_0 {E : jE} {μ : jMu} {Q : Option AV → jMu → Prop} {a0 : Int} (hF : ((-9223372036854775808 ≤ (1103515245 * (μ 76 61)) ∧ (1103515245 * (μ 76 61)) < 9223372036854775808) ∧ (-9223372036854775808 ≤ ((1103515245 * (μ 76 61)) + 12345) ∧ ((1103515245 * (μ 76 61)) + 12345) < 9223372036854775808) ∧ (-9223372036854775808 ≤ (Int.tdiv (Int.tmod ((1103515245 * (μ 76 61)) + 12345) 2147483648) 64) ∧ (Int.tdiv (Int.tmod ((1103515245 * (μ 76 61)) + 12345) 2147483648) 64) < 9223372036854775808) ∧ a0 ≠ 0 ∧ (-2147483648 ≤ (Int.tmod (Int.tdiv (Int.tmod ((1103515245 * (μ 76 61)) + 12345) 2147483648) 64) a0) ∧ (Int.tmod (Int.tdiv (Int.tmod ((1103515245 * (μ 76 61)) + 12345) 2147483648) 64) a0) < 2147483648)) ∧ (Q (some (jvI (Int.tmod (Int.tdiv (Int.tmod ((1103515245 * (μ 76 61)) + 12345) 2147483648) 64) a0))) (j_up μ 76 61 (Int.tmod ((1103515245 * (μ 76 61)) + 12345) 2147483648)))) : K 121 E mM_drawOf 0 [some (jvR 76), some (jvI a0)] [] μ Q := by
  refine K_aload_n 0 76 dM_drawOf_0 rfl rfl ?_
  refine K_ldc2 1103515245 dM_drawOf_1 pc_M_472 rfl ?_
  refine K_aload_n 0 76 dM_drawOf_4 rfl rfl ?_
  refine K_getf 12 61 76 (jvL (μ 76 61)) dM_drawOf_5 pf_M_146 rfl rfl (by decide) rfl rfl ?_
  refine K_lmul dM_drawOf_8 (w64_id hF.1.1) ?_
  refine K_ldc2 12345 dM_drawOf_9 pc_M_474 rfl ?_
  refine K_ladd dM_drawOf_12 (w64_id hF.1.2.1) ?_
  refine K_ldc2 2147483648 dM_drawOf_13 pc_M_476 rfl ?_
  refine K_lrem dM_drawOf_16 (by decide) rfl ?_
  refine K_putf 12 61 76 (x := (Int.tmod ((1103515245 * (μ 76 61)) + 12345) 2147483648)) dM_drawOf_17 pf_M_146 rfl rfl (by decide) rfl rfl rfl rfl trivial ?_
  refine K_aload_n 0 76 dM_drawOf_20 rfl rfl ?_
  refine K_getf 12 61 76 (jvL (Int.tmod ((1103515245 * (μ 76 61)) + 12345) 2147483648)) dM_drawOf_21 pf_M_146 rfl rfl (by decide) rfl rfl ?_
  refine K_ldc2 64 dM_drawOf_24 pc_M_478 rfl ?_
  refine K_ldiv dM_drawOf_27 (by decide) (w64_id hF.1.2.2.1) ?_
  refine K_iload_n 1 a0 dM_drawOf_28 rfl rfl ?_
  refine K_i2l dM_drawOf_29 rfl ?_
  refine K_lrem dM_drawOf_30 hF.1.2.2.2.1 rfl ?_
  refine K_l2i dM_drawOf_31 (w32_id hF.1.2.2.2.2) ?_
  exact K_iret dM_drawOf_32 (Or.inl rfl) hF.2
set_option maxHeartbeats 8000000 in
theorem vM_image_0 {E : jE} {μ : jMu} {Q : Option AV → jMu → Prop} (hF : (K 121 E mM_image 4 [some (jvR 76), some (jvI 0), some (jvI 0)] [] μ Q)) : K 121 E mM_image 0 [some (jvR 76), none, none] [] μ Q := by
  refine K_iconst 0 dM_image_0 rfl ?_
  refine K_istore_n 1 dM_image_1 rfl (Nat.le_of_ble_eq_true rfl) rfl ?_
  refine K_iconst 0 dM_image_2 rfl ?_
  refine K_istore_n 2 dM_image_3 rfl (Nat.le_of_ble_eq_true rfl) rfl ?_
  exact hF
set_option maxHeartbeats 8000000 in
theorem vM_image_4 {E : jE} {μ : jMu} {Q : Option AV → jMu → Prop} {l1 l2 : Int} (hF : (Ci E mM_readers [jvR 76] μ (fun r4 μ1 => ((r4 ≤ l2 → (Ci E mM_wrongBits [jvR 76] μ1 (fun r10 μ7 => ((-2147483648 ≤ (Int.tdiv r10 256) ∧ (Int.tdiv r10 256) < 2147483648)) ∧ (Ci E mM_wrongBits [jvR 76] (j_up μ7 120 0 (Int.tdiv r10 256)) (fun r14 μ11 => (Ci E mM_checked [jvI (μ11 120 0), jvI (Int.tmod r14 256), jvI l1] (j_up (j_up μ11 120 1 (Int.tmod r14 256)) 120 2 l1) (fun r18 μ15 => (Q (some (jvI 4)) (j_up (j_up μ15 120 3 r18) 76 63 4))))))))) ∧ (¬ (r4 ≤ l2) → ((0 ≤ l2 ∧ l2 < 6)) ∧ (((μ1 109 l2) = 0 → ((-2147483648 ≤ (l2 + 1) ∧ (l2 + 1) < 2147483648)) ∧ (K 121 E mM_image 4 [some (jvR 76), some (jvI l1), some (jvI (l2 + 1))] [] μ1 Q)) ∧ (¬ ((μ1 109 l2) = 0) → ((-2147483648 ≤ (l2 + 1) ∧ (l2 + 1) < 2147483648)) ∧ (K 121 E mM_image 4 [some (jvR 76), some (jvI (ior32 l1 (ishl32 1 l2))), some (jvI (l2 + 1))] [] μ1 Q)))))))) : K 121 E mM_image 4 [some (jvR 76), some (jvI l1), some (jvI l2)] [] μ Q := by
  refine K_iload_n 2 l2 dM_image_4 rfl rfl ?_
  refine K_aload_n 0 76 dM_image_5 rfl rfl ?_
  refine K_callVi mM_readers 12 76 [] dM_image_6 pm_M_334 ⟨_, rfl, rfl⟩ ⟨(Nat.le_of_ble_eq_true rfl), (Nat.le_of_ble_eq_true rfl)⟩ rfl rfl (by decide) (Nat.le_of_ble_eq_true rfl) rfl (Nat.le_of_ble_eq_true rfl) (by decide) (Ci_mono hF (fun r4 μ1 h2 => ?_))
  refine K_icmp_ge 33 dM_image_9 (by decide) (fun c5 => ?_) (fun c5 => ?_)
  · refine K_aload_n 0 76 dM_image_33 rfl rfl ?_
    refine K_getf 12 62 76 (jvR 120) dM_image_34 pf_M_150 rfl rfl (by decide) rfl rfl ?_
    refine K_iconst 0 dM_image_37 rfl ?_
    refine K_aload_n 0 76 dM_image_38 rfl rfl ?_
    refine K_callVi mM_wrongBits 12 76 [] dM_image_39 pm_M_485 ⟨_, rfl, rfl⟩ ⟨(Nat.le_of_ble_eq_true rfl), (Nat.le_of_ble_eq_true rfl)⟩ rfl rfl (by decide) (Nat.le_of_ble_eq_true rfl) rfl (Nat.le_of_ble_eq_true rfl) (by decide) (Ci_mono (h2.1 c5) (fun r10 μ7 h8 => ?_))
    refine K_sipush 256 dM_image_42 rfl ?_
    refine K_idiv dM_image_45 (by decide) (w32_id h8.1) ?_
    refine K_iast 120 4 dM_image_46 rfl rfl (by decide) (by decide) ?_
    refine K_aload_n 0 76 dM_image_47 rfl rfl ?_
    refine K_getf 12 62 76 (jvR 120) dM_image_48 pf_M_150 rfl rfl (by decide) rfl rfl ?_
    refine K_iconst 1 dM_image_51 rfl ?_
    refine K_aload_n 0 76 dM_image_52 rfl rfl ?_
    refine K_callVi mM_wrongBits 12 76 [] dM_image_53 pm_M_485 ⟨_, rfl, rfl⟩ ⟨(Nat.le_of_ble_eq_true rfl), (Nat.le_of_ble_eq_true rfl)⟩ rfl rfl (by decide) (Nat.le_of_ble_eq_true rfl) rfl (Nat.le_of_ble_eq_true rfl) (by decide) (Ci_mono h8.2 (fun r14 μ11 h12 => ?_))
    refine K_sipush 256 dM_image_56 rfl ?_
    refine K_irem dM_image_59 (by decide) rfl ?_
    refine K_iast 120 4 dM_image_60 rfl rfl (by decide) (by decide) ?_
    refine K_aload_n 0 76 dM_image_61 rfl rfl ?_
    refine K_getf 12 62 76 (jvR 120) dM_image_62 pf_M_150 rfl rfl (by decide) rfl rfl ?_
    refine K_iconst 2 dM_image_65 rfl ?_
    refine K_iload_n 1 l1 dM_image_66 rfl rfl ?_
    refine K_iast 120 4 dM_image_67 rfl rfl (by decide) (by decide) ?_
    refine K_aload_n 0 76 dM_image_68 rfl rfl ?_
    refine K_getf 12 62 76 (jvR 120) dM_image_69 pf_M_150 rfl rfl (by decide) rfl rfl ?_
    refine K_iconst 3 dM_image_72 rfl ?_
    refine K_aload_n 0 76 dM_image_73 rfl rfl ?_
    refine K_getf 12 62 76 (jvR 120) dM_image_74 pf_M_150 rfl rfl (by decide) rfl rfl ?_
    refine K_iconst 0 dM_image_77 rfl ?_
    refine K_iald 120 4 dM_image_78 rfl rfl (by decide) (by decide) ?_
    refine K_aload_n 0 76 dM_image_79 rfl rfl ?_
    refine K_getf 12 62 76 (jvR 120) dM_image_80 pf_M_150 rfl rfl (by decide) rfl rfl ?_
    refine K_iconst 1 dM_image_83 rfl ?_
    refine K_iald 120 4 dM_image_84 rfl rfl (by decide) (by decide) ?_
    refine K_aload_n 0 76 dM_image_85 rfl rfl ?_
    refine K_getf 12 62 76 (jvR 120) dM_image_86 pf_M_150 rfl rfl (by decide) rfl rfl ?_
    refine K_iconst 2 dM_image_89 rfl ?_
    refine K_iald 120 4 dM_image_90 rfl rfl (by decide) (by decide) ?_
    refine K_callSi mM_checked [jvI (μ11 120 0), jvI (Int.tmod r14 256), jvI l1] dM_image_91 pm_M_488 ⟨(Nat.le_of_ble_eq_true rfl), (Nat.le_of_ble_eq_true rfl)⟩ (Nat.le_of_ble_eq_true rfl) rfl (Nat.le_of_ble_eq_true rfl) (by decide) (Ci_mono h12 (fun r18 μ15 h16 => ?_))
    refine K_iast 120 4 dM_image_94 rfl rfl (by decide) (by decide) ?_
    refine K_aload_n 0 76 dM_image_95 rfl rfl ?_
    refine K_iconst 4 dM_image_96 rfl ?_
    refine K_putf 12 63 76 (x := 4) dM_image_97 pf_M_491 rfl rfl (by decide) rfl rfl rfl rfl trivial ?_
    refine K_aload_n 0 76 dM_image_100 rfl rfl ?_
    refine K_getf 12 63 76 (jvI 4) dM_image_101 pf_M_491 rfl rfl (by decide) rfl rfl ?_
    exact K_iret dM_image_104 (Or.inl rfl) h16
  · refine K_aload_n 0 76 dM_image_12 rfl rfl ?_
    refine K_getf 12 47 76 (jvR 109) dM_image_13 pf_M_113 rfl rfl (by decide) rfl rfl ?_
    refine K_iload_n 2 l2 dM_image_16 rfl rfl ?_
    refine K_zald 109 6 dM_image_17 rfl rfl (by decide) (h2.2 c5).1 ?_
    refine K_if_eq 27 dM_image_18 (by decide) (fun c20 => ?_) (fun c20 => ?_)
    · refine K_iinc 2 dM_image_27 (Nat.le_of_ble_eq_true rfl) rfl (w32_ok ((h2.2 c5).2.1 c20).1) rfl ?_
      refine K_goto 4 dM_image_30 (by decide) ?_
      exact ((h2.2 c5).2.1 c20).2
    · refine K_iload_n 1 l1 dM_image_21 rfl rfl ?_
      refine K_iconst 1 dM_image_22 rfl ?_
      refine K_iload_n 2 l2 dM_image_23 rfl rfl ?_
      refine K_ishl dM_image_24 rfl ?_
      refine K_ior dM_image_25 rfl ?_
      refine K_istore_n 1 dM_image_26 rfl (Nat.le_of_ble_eq_true rfl) rfl ?_
      refine K_iinc 2 dM_image_27 (Nat.le_of_ble_eq_true rfl) rfl (w32_ok ((h2.2 c5).2.2 c20).1) rfl ?_
      refine K_goto 4 dM_image_30 (by decide) ?_
      exact ((h2.2 c5).2.2 c20).2
set_option maxHeartbeats 8000000 in
theorem vM_wrongBits_0 {E : jE} {μ : jMu} {Q : Option AV → jMu → Prop} (hF : (K 121 E mM_wrongBits 4 [some (jvR 76), some (jvI 0), some (jvI 0)] [] μ Q)) : K 121 E mM_wrongBits 0 [some (jvR 76), none, none] [] μ Q := by
  refine K_iconst 0 dM_wrongBits_0 rfl ?_
  refine K_istore_n 1 dM_wrongBits_1 rfl (Nat.le_of_ble_eq_true rfl) rfl ?_
  refine K_iconst 0 dM_wrongBits_2 rfl ?_
  refine K_istore_n 2 dM_wrongBits_3 rfl (Nat.le_of_ble_eq_true rfl) rfl ?_
  exact hF
set_option maxHeartbeats 8000000 in
theorem vM_wrongBits_4 {E : jE} {μ : jMu} {Q : Option AV → jMu → Prop} {l1 l2 : Int} (hF : (Ci E mM_rules [jvR 76] μ (fun r4 μ1 => ((r4 ≤ l2 → (Q (some (jvI l1)) μ1)) ∧ (¬ (r4 ≤ l2) → ((0 ≤ l2 ∧ l2 < 12)) ∧ (((μ1 107 l2) = 0 → ((-2147483648 ≤ (l2 + 1) ∧ (l2 + 1) < 2147483648)) ∧ (K 121 E mM_wrongBits 4 [some (jvR 76), some (jvI l1), some (jvI (l2 + 1))] [] μ1 Q)) ∧ (¬ ((μ1 107 l2) = 0) → ((-2147483648 ≤ (l2 + 1) ∧ (l2 + 1) < 2147483648)) ∧ (K 121 E mM_wrongBits 4 [some (jvR 76), some (jvI (ior32 l1 (ishl32 1 l2))), some (jvI (l2 + 1))] [] μ1 Q)))))))) : K 121 E mM_wrongBits 4 [some (jvR 76), some (jvI l1), some (jvI l2)] [] μ Q := by
  refine K_iload_n 2 l2 dM_wrongBits_4 rfl rfl ?_
  refine K_aload_n 0 76 dM_wrongBits_5 rfl rfl ?_
  refine K_callVi mM_rules 12 76 [] dM_wrongBits_6 pm_M_297 ⟨_, rfl, rfl⟩ ⟨(Nat.le_of_ble_eq_true rfl), (Nat.le_of_ble_eq_true rfl)⟩ rfl rfl (by decide) (Nat.le_of_ble_eq_true rfl) rfl (Nat.le_of_ble_eq_true rfl) (by decide) (Ci_mono hF (fun r4 μ1 h2 => ?_))
  refine K_icmp_ge 33 dM_wrongBits_9 (by decide) (fun c5 => ?_) (fun c5 => ?_)
  · refine K_iload_n 1 l1 dM_wrongBits_33 rfl rfl ?_
    exact K_iret dM_wrongBits_34 (Or.inl rfl) (h2.1 c5)
  · refine K_aload_n 0 76 dM_wrongBits_12 rfl rfl ?_
    refine K_getf 12 45 76 (jvR 107) dM_wrongBits_13 pf_M_106 rfl rfl (by decide) rfl rfl ?_
    refine K_iload_n 2 l2 dM_wrongBits_16 rfl rfl ?_
    refine K_zald 107 12 dM_wrongBits_17 rfl rfl (by decide) (h2.2 c5).1 ?_
    refine K_if_eq 27 dM_wrongBits_18 (by decide) (fun c8 => ?_) (fun c8 => ?_)
    · refine K_iinc 2 dM_wrongBits_27 (Nat.le_of_ble_eq_true rfl) rfl (w32_ok ((h2.2 c5).2.1 c8).1) rfl ?_
      refine K_goto 4 dM_wrongBits_30 (by decide) ?_
      exact ((h2.2 c5).2.1 c8).2
    · refine K_iload_n 1 l1 dM_wrongBits_21 rfl rfl ?_
      refine K_iconst 1 dM_wrongBits_22 rfl ?_
      refine K_iload_n 2 l2 dM_wrongBits_23 rfl rfl ?_
      refine K_ishl dM_wrongBits_24 rfl ?_
      refine K_ior dM_wrongBits_25 rfl ?_
      refine K_istore_n 1 dM_wrongBits_26 rfl (Nat.le_of_ble_eq_true rfl) rfl ?_
      refine K_iinc 2 dM_wrongBits_27 (Nat.le_of_ble_eq_true rfl) rfl (w32_ok ((h2.2 c5).2.2 c8).1) rfl ?_
      refine K_goto 4 dM_wrongBits_30 (by decide) ?_
      exact ((h2.2 c5).2.2 c8).2
set_option maxHeartbeats 8000000 in
theorem vM_checked_0 {E : jE} {μ : jMu} {Q : Option AV → jMu → Prop} {a0 a1 a2 : Int} (hF : ((-2147483648 ≤ (427 + a0) ∧ (427 + a0) < 2147483648) ∧ (-2147483648 ≤ (7 * (Int.tmod (427 + a0) 247)) ∧ (7 * (Int.tmod (427 + a0) 247)) < 2147483648) ∧ (-2147483648 ≤ ((7 * (Int.tmod (427 + a0) 247)) + a1) ∧ ((7 * (Int.tmod (427 + a0) 247)) + a1) < 2147483648) ∧ (-2147483648 ≤ (7 * (Int.tmod ((7 * (Int.tmod (427 + a0) 247)) + a1) 247)) ∧ (7 * (Int.tmod ((7 * (Int.tmod (427 + a0) 247)) + a1) 247)) < 2147483648) ∧ (-2147483648 ≤ ((7 * (Int.tmod ((7 * (Int.tmod (427 + a0) 247)) + a1) 247)) + a2) ∧ ((7 * (Int.tmod ((7 * (Int.tmod (427 + a0) 247)) + a1) 247)) + a2) < 2147483648)) ∧ (Q (some (jvI (Int.tmod ((7 * (Int.tmod ((7 * (Int.tmod (427 + a0) 247)) + a1) 247)) + a2) 247))) μ)) : K 121 E mM_checked 0 [some (jvI a0), some (jvI a1), some (jvI a2), none] [] μ Q := by
  refine K_sipush 427 dM_checked_0 rfl ?_
  refine K_iload_n 0 a0 dM_checked_3 rfl rfl ?_
  refine K_iadd dM_checked_4 (w32_id hF.1.1) ?_
  refine K_sipush 247 dM_checked_5 rfl ?_
  refine K_irem dM_checked_8 (by decide) rfl ?_
  refine K_istore_n 3 dM_checked_9 rfl (Nat.le_of_ble_eq_true rfl) rfl ?_
  refine K_bipush 7 dM_checked_10 rfl ?_
  refine K_iload_n 3 (Int.tmod (427 + a0) 247) dM_checked_12 rfl rfl ?_
  refine K_imul dM_checked_13 (w32_id hF.1.2.1) ?_
  refine K_iload_n 1 a1 dM_checked_14 rfl rfl ?_
  refine K_iadd dM_checked_15 (w32_id hF.1.2.2.1) ?_
  refine K_sipush 247 dM_checked_16 rfl ?_
  refine K_irem dM_checked_19 (by decide) rfl ?_
  refine K_istore_n 3 dM_checked_20 rfl (Nat.le_of_ble_eq_true rfl) rfl ?_
  refine K_bipush 7 dM_checked_21 rfl ?_
  refine K_iload_n 3 (Int.tmod ((7 * (Int.tmod (427 + a0) 247)) + a1) 247) dM_checked_23 rfl rfl ?_
  refine K_imul dM_checked_24 (w32_id hF.1.2.2.2.1) ?_
  refine K_iload_n 2 a2 dM_checked_25 rfl rfl ?_
  refine K_iadd dM_checked_26 (w32_id hF.1.2.2.2.2) ?_
  refine K_sipush 247 dM_checked_27 rfl ?_
  refine K_irem dM_checked_30 (by decide) rfl ?_
  exact K_iret dM_checked_31 (Or.inl rfl) hF.2
set_option maxHeartbeats 8000000 in
theorem vM_octet_0 {E : jE} {μ : jMu} {Q : Option AV → jMu → Prop} {a0 : Int} (hF : ((a0 < 0 → (Q (some (jvI (-1))) μ)) ∧ (¬ (a0 < 0) → (((μ 76 63) ≤ a0 → (Q (some (jvI (-1))) μ)) ∧ (¬ ((μ 76 63) ≤ a0) → ((0 ≤ a0 ∧ a0 < 4)) ∧ (Q (some (jvI (μ 120 a0))) μ)))))) : K 121 E mM_octet 0 [some (jvR 76), some (jvI a0)] [] μ Q := by
  refine K_iload_n 1 a0 dM_octet_0 rfl rfl ?_
  refine K_if_lt 21 dM_octet_1 (by decide) (fun c1 => ?_) (fun c1 => ?_)
  · refine K_iconst (-1) dM_octet_21 rfl ?_
    exact K_iret dM_octet_22 (Or.inl rfl) (hF.1 c1)
  · refine K_iload_n 1 a0 dM_octet_4 rfl rfl ?_
    refine K_aload_n 0 76 dM_octet_5 rfl rfl ?_
    refine K_getf 12 63 76 (jvI (μ 76 63)) dM_octet_6 pf_M_491 rfl rfl (by decide) rfl rfl ?_
    refine K_icmp_ge 21 dM_octet_9 (by decide) (fun c4 => ?_) (fun c4 => ?_)
    · refine K_iconst (-1) dM_octet_21 rfl ?_
      exact K_iret dM_octet_22 (Or.inl rfl) ((hF.2 c1).1 c4)
    · refine K_aload_n 0 76 dM_octet_12 rfl rfl ?_
      refine K_getf 12 62 76 (jvR 120) dM_octet_13 pf_M_150 rfl rfl (by decide) rfl rfl ?_
      refine K_iload_n 1 a0 dM_octet_16 rfl rfl ?_
      refine K_iald 120 4 dM_octet_17 rfl rfl (by decide) ((hF.2 c1).2 c4).1 ?_
      refine K_goto 22 dM_octet_18 (by decide) ?_
      exact K_iret dM_octet_22 (Or.inl rfl) ((hF.2 c1).2 c4).2
set_option maxHeartbeats 8000000 in
theorem vM_on_0 {E : jE} {μ : jMu} {Q : Option AV → jMu → Prop} (hF : ((¬ (μ 76 1) = 4 → (Q (some (jvI 0)) (j_up μ 76 1 0))) ∧ ((μ 76 1) = 4 → (Ci E mM_checked [jvI (μ 77 0), jvI (μ 77 1), jvI (μ 77 2)] (j_up μ 76 1 0) (fun r7 μ4 => (((μ 77 3) = r7 → ((-2147483648 ≤ (256 * (μ4 77 0)) ∧ (256 * (μ4 77 0)) < 2147483648) ∧ (-2147483648 ≤ ((256 * (μ4 77 0)) + (μ4 77 1)) ∧ ((256 * (μ4 77 0)) + (μ4 77 1)) < 2147483648)) ∧ (Ci E mM_rules [jvR 76] μ4 (fun r13 μ10 => ((¬ (ishr32 ((256 * (μ4 77 0)) + (μ4 77 1)) r13) = 0 → (Q (some (jvI 0)) μ10)) ∧ ((ishr32 ((256 * (μ4 77 0)) + (μ4 77 1)) r13) = 0 → (Ci E mM_readers [jvR 76] μ10 (fun r20 μ17 => (((ishr32 (μ10 77 2) r20) = 0 → (K 121 E mM_on 92 [some (jvR 76), some (jvI (μ 76 1)), some (jvI ((256 * (μ4 77 0)) + (μ4 77 1))), some (jvI 0)] [] μ17 Q)) ∧ (¬ ((ishr32 (μ10 77 2) r20) = 0) → (Q (some (jvI 0)) μ17)))))))))) ∧ (¬ ((μ 77 3) = r7) → (Q (some (jvI 0)) μ4)))))))) : K 121 E mM_on 0 [some (jvR 76), none, none, none] [] μ Q := by
  refine K_aload_n 0 76 dM_on_0 rfl rfl ?_
  refine K_getf 12 1 76 (jvI (μ 76 1)) dM_on_1 pf_M_153 rfl rfl (by decide) rfl rfl ?_
  refine K_istore_n 1 dM_on_4 rfl (Nat.le_of_ble_eq_true rfl) rfl ?_
  refine K_aload_n 0 76 dM_on_5 rfl rfl ?_
  refine K_iconst 0 dM_on_6 rfl ?_
  refine K_putf 12 1 76 (x := 0) dM_on_7 pf_M_153 rfl rfl (by decide) rfl rfl rfl rfl trivial ?_
  refine K_iload_n 1 (μ 76 1) dM_on_10 rfl rfl ?_
  refine K_iconst 4 dM_on_11 rfl ?_
  refine K_icmp_ne 45 dM_on_12 (by decide) (fun c1 => ?_) (fun c1 => ?_)
  · refine K_iconst 0 dM_on_45 rfl ?_
    exact K_iret dM_on_46 (Or.inr ⟨rfl, (by decide)⟩) (hF.1 c1)
  · refine K_aload_n 0 76 dM_on_15 rfl rfl ?_
    refine K_getf 12 0 76 (jvR 77) dM_on_16 pf_M_7 rfl rfl (by decide) rfl rfl ?_
    refine K_iconst 3 dM_on_19 rfl ?_
    refine K_iald 77 1600 dM_on_20 rfl rfl (by decide) (by decide) ?_
    refine K_aload_n 0 76 dM_on_21 rfl rfl ?_
    refine K_getf 12 0 76 (jvR 77) dM_on_22 pf_M_7 rfl rfl (by decide) rfl rfl ?_
    refine K_iconst 0 dM_on_25 rfl ?_
    refine K_iald 77 1600 dM_on_26 rfl rfl (by decide) (by decide) ?_
    refine K_aload_n 0 76 dM_on_27 rfl rfl ?_
    refine K_getf 12 0 76 (jvR 77) dM_on_28 pf_M_7 rfl rfl (by decide) rfl rfl ?_
    refine K_iconst 1 dM_on_31 rfl ?_
    refine K_iald 77 1600 dM_on_32 rfl rfl (by decide) (by decide) ?_
    refine K_aload_n 0 76 dM_on_33 rfl rfl ?_
    refine K_getf 12 0 76 (jvR 77) dM_on_34 pf_M_7 rfl rfl (by decide) rfl rfl ?_
    refine K_iconst 2 dM_on_37 rfl ?_
    refine K_iald 77 1600 dM_on_38 rfl rfl (by decide) (by decide) ?_
    refine K_callSi mM_checked [jvI (μ 77 0), jvI (μ 77 1), jvI (μ 77 2)] dM_on_39 pm_M_488 ⟨(Nat.le_of_ble_eq_true rfl), (Nat.le_of_ble_eq_true rfl)⟩ (Nat.le_of_ble_eq_true rfl) rfl (Nat.le_of_ble_eq_true rfl) (by decide) (Ci_mono (hF.2 c1) (fun r7 μ4 h5 => ?_))
    refine K_icmp_eq 47 dM_on_42 (by decide) (fun c8 => ?_) (fun c8 => ?_)
    · refine K_sipush 256 dM_on_47 rfl ?_
      refine K_aload_n 0 76 dM_on_50 rfl rfl ?_
      refine K_getf 12 0 76 (jvR 77) dM_on_51 pf_M_7 rfl rfl (by decide) rfl rfl ?_
      refine K_iconst 0 dM_on_54 rfl ?_
      refine K_iald 77 1600 dM_on_55 rfl rfl (by decide) (by decide) ?_
      refine K_imul dM_on_56 (w32_id (h5.1 c8).1.1) ?_
      refine K_aload_n 0 76 dM_on_57 rfl rfl ?_
      refine K_getf 12 0 76 (jvR 77) dM_on_58 pf_M_7 rfl rfl (by decide) rfl rfl ?_
      refine K_iconst 1 dM_on_61 rfl ?_
      refine K_iald 77 1600 dM_on_62 rfl rfl (by decide) (by decide) ?_
      refine K_iadd dM_on_63 (w32_id (h5.1 c8).1.2) ?_
      refine K_istore_n 2 dM_on_64 rfl (Nat.le_of_ble_eq_true rfl) rfl ?_
      refine K_iload_n 2 ((256 * (μ4 77 0)) + (μ4 77 1)) dM_on_65 rfl rfl ?_
      refine K_aload_n 0 76 dM_on_66 rfl rfl ?_
      refine K_callVi mM_rules 12 76 [] dM_on_67 pm_M_297 ⟨_, rfl, rfl⟩ ⟨(Nat.le_of_ble_eq_true rfl), (Nat.le_of_ble_eq_true rfl)⟩ rfl rfl (by decide) (Nat.le_of_ble_eq_true rfl) rfl (Nat.le_of_ble_eq_true rfl) (by decide) (Ci_mono (h5.1 c8).2 (fun r13 μ10 h11 => ?_))
      refine K_ishr dM_on_70 rfl ?_
      refine K_if_ne 88 dM_on_71 (by decide) (fun c14 => ?_) (fun c14 => ?_)
      · refine K_iconst 0 dM_on_88 rfl ?_
        exact K_iret dM_on_89 (Or.inr ⟨rfl, (by decide)⟩) (h11.1 c14)
      · refine K_aload_n 0 76 dM_on_74 rfl rfl ?_
        refine K_getf 12 0 76 (jvR 77) dM_on_75 pf_M_7 rfl rfl (by decide) rfl rfl ?_
        refine K_iconst 2 dM_on_78 rfl ?_
        refine K_iald 77 1600 dM_on_79 rfl rfl (by decide) (by decide) ?_
        refine K_aload_n 0 76 dM_on_80 rfl rfl ?_
        refine K_callVi mM_readers 12 76 [] dM_on_81 pm_M_334 ⟨_, rfl, rfl⟩ ⟨(Nat.le_of_ble_eq_true rfl), (Nat.le_of_ble_eq_true rfl)⟩ rfl rfl (by decide) (Nat.le_of_ble_eq_true rfl) rfl (Nat.le_of_ble_eq_true rfl) (by decide) (Ci_mono (h11.2 c14) (fun r20 μ17 h18 => ?_))
        refine K_ishr dM_on_84 rfl ?_
        refine K_if_eq 90 dM_on_85 (by decide) (fun c21 => ?_) (fun c21 => ?_)
        · refine K_iconst 0 dM_on_90 rfl ?_
          refine K_istore_n 3 dM_on_91 rfl (Nat.le_of_ble_eq_true rfl) rfl ?_
          exact (h18.1 c21)
        · refine K_iconst 0 dM_on_88 rfl ?_
          exact K_iret dM_on_89 (Or.inr ⟨rfl, (by decide)⟩) (h18.2 c21)
    · refine K_iconst 0 dM_on_45 rfl ?_
      exact K_iret dM_on_46 (Or.inr ⟨rfl, (by decide)⟩) (h5.2 c8)
set_option maxHeartbeats 8000000 in
theorem vM_on_92 {E : jE} {μ : jMu} {Q : Option AV → jMu → Prop} {l1 l2 l3 : Int} (hF : ((12 ≤ l3 → (K 121 E mM_on 126 [some (jvR 76), some (jvI l1), some (jvI l2), some (jvI 0)] [] μ Q)) ∧ (¬ (12 ≤ l3) → ((¬ (iand32 (ishr32 l2 l3) 1) = 1 → ((0 ≤ l3 ∧ l3 < 12) ∧ (-2147483648 ≤ (l3 + 1) ∧ (l3 + 1) < 2147483648)) ∧ (K 121 E mM_on 92 [some (jvR 76), some (jvI l1), some (jvI l2), some (jvI (l3 + 1))] [] (j_up μ 107 l3 0) Q)) ∧ ((iand32 (ishr32 l2 l3) 1) = 1 → ((0 ≤ l3 ∧ l3 < 12) ∧ (-2147483648 ≤ (l3 + 1) ∧ (l3 + 1) < 2147483648)) ∧ (K 121 E mM_on 92 [some (jvR 76), some (jvI l1), some (jvI l2), some (jvI (l3 + 1))] [] (j_up μ 107 l3 1) Q)))))) : K 121 E mM_on 92 [some (jvR 76), some (jvI l1), some (jvI l2), some (jvI l3)] [] μ Q := by
  refine K_iload_n 3 l3 dM_on_92 rfl rfl ?_
  refine K_bipush 12 dM_on_93 rfl ?_
  refine K_icmp_ge 124 dM_on_95 (by decide) (fun c1 => ?_) (fun c1 => ?_)
  · refine K_iconst 0 dM_on_124 rfl ?_
    refine K_istore_n 3 dM_on_125 rfl (Nat.le_of_ble_eq_true rfl) rfl ?_
    exact (hF.1 c1)
  · refine K_aload_n 0 76 dM_on_98 rfl rfl ?_
    refine K_getf 12 45 76 (jvR 107) dM_on_99 pf_M_106 rfl rfl (by decide) rfl rfl ?_
    refine K_iload_n 3 l3 dM_on_102 rfl rfl ?_
    refine K_iload_n 2 l2 dM_on_103 rfl rfl ?_
    refine K_iload_n 3 l3 dM_on_104 rfl rfl ?_
    refine K_ishr dM_on_105 rfl ?_
    refine K_iconst 1 dM_on_106 rfl ?_
    refine K_iand dM_on_107 rfl ?_
    refine K_iconst 1 dM_on_108 rfl ?_
    refine K_icmp_ne 116 dM_on_109 (by decide) (fun c3 => ?_) (fun c3 => ?_)
    · refine K_iconst 0 dM_on_116 rfl ?_
      refine K_zast 107 12 dM_on_117 rfl rfl (by decide) ((hF.2 c1).1 c3).1.1 (by decide) ?_
      refine K_iinc 3 dM_on_118 (Nat.le_of_ble_eq_true rfl) rfl (w32_ok ((hF.2 c1).1 c3).1.2) rfl ?_
      refine K_goto 92 dM_on_121 (by decide) ?_
      exact ((hF.2 c1).1 c3).2
    · refine K_iconst 1 dM_on_112 rfl ?_
      refine K_goto 117 dM_on_113 (by decide) ?_
      refine K_zast 107 12 dM_on_117 rfl rfl (by decide) ((hF.2 c1).2 c3).1.1 (by decide) ?_
      refine K_iinc 3 dM_on_118 (Nat.le_of_ble_eq_true rfl) rfl (w32_ok ((hF.2 c1).2 c3).1.2) rfl ?_
      refine K_goto 92 dM_on_121 (by decide) ?_
      exact ((hF.2 c1).2 c3).2
set_option maxHeartbeats 8000000 in
theorem vM_on_126 {E : jE} {μ : jMu} {Q : Option AV → jMu → Prop} {l1 l2 l3 : Int} (hF : ((6 ≤ l3 → (Q (some (jvI 1)) μ)) ∧ (¬ (6 ≤ l3) → ((¬ (iand32 (ishr32 (μ 77 2) l3) 1) = 1 → ((0 ≤ l3 ∧ l3 < 6) ∧ (-2147483648 ≤ (l3 + 1) ∧ (l3 + 1) < 2147483648)) ∧ (K 121 E mM_on 126 [some (jvR 76), some (jvI l1), some (jvI l2), some (jvI (l3 + 1))] [] (j_up μ 109 l3 0) Q)) ∧ ((iand32 (ishr32 (μ 77 2) l3) 1) = 1 → ((0 ≤ l3 ∧ l3 < 6) ∧ (-2147483648 ≤ (l3 + 1) ∧ (l3 + 1) < 2147483648)) ∧ (K 121 E mM_on 126 [some (jvR 76), some (jvI l1), some (jvI l2), some (jvI (l3 + 1))] [] (j_up μ 109 l3 1) Q)))))) : K 121 E mM_on 126 [some (jvR 76), some (jvI l1), some (jvI l2), some (jvI l3)] [] μ Q := by
  refine K_iload_n 3 l3 dM_on_126 rfl rfl ?_
  refine K_bipush 6 dM_on_127 rfl ?_
  refine K_icmp_ge 163 dM_on_129 (by decide) (fun c1 => ?_) (fun c1 => ?_)
  · refine K_iconst 1 dM_on_163 rfl ?_
    exact K_iret dM_on_164 (Or.inr ⟨rfl, (by decide)⟩) (hF.1 c1)
  · refine K_aload_n 0 76 dM_on_132 rfl rfl ?_
    refine K_getf 12 47 76 (jvR 109) dM_on_133 pf_M_113 rfl rfl (by decide) rfl rfl ?_
    refine K_iload_n 3 l3 dM_on_136 rfl rfl ?_
    refine K_aload_n 0 76 dM_on_137 rfl rfl ?_
    refine K_getf 12 0 76 (jvR 77) dM_on_138 pf_M_7 rfl rfl (by decide) rfl rfl ?_
    refine K_iconst 2 dM_on_141 rfl ?_
    refine K_iald 77 1600 dM_on_142 rfl rfl (by decide) (by decide) ?_
    refine K_iload_n 3 l3 dM_on_143 rfl rfl ?_
    refine K_ishr dM_on_144 rfl ?_
    refine K_iconst 1 dM_on_145 rfl ?_
    refine K_iand dM_on_146 rfl ?_
    refine K_iconst 1 dM_on_147 rfl ?_
    refine K_icmp_ne 155 dM_on_148 (by decide) (fun c4 => ?_) (fun c4 => ?_)
    · refine K_iconst 0 dM_on_155 rfl ?_
      refine K_zast 109 6 dM_on_156 rfl rfl (by decide) ((hF.2 c1).1 c4).1.1 (by decide) ?_
      refine K_iinc 3 dM_on_157 (Nat.le_of_ble_eq_true rfl) rfl (w32_ok ((hF.2 c1).1 c4).1.2) rfl ?_
      refine K_goto 126 dM_on_160 (by decide) ?_
      exact ((hF.2 c1).1 c4).2
    · refine K_iconst 1 dM_on_151 rfl ?_
      refine K_goto 156 dM_on_152 (by decide) ?_
      refine K_zast 109 6 dM_on_156 rfl rfl (by decide) ((hF.2 c1).2 c4).1.1 (by decide) ?_
      refine K_iinc 3 dM_on_157 (Nat.le_of_ble_eq_true rfl) rfl (w32_ok ((hF.2 c1).2 c4).1.2) rfl ?_
      refine K_goto 126 dM_on_160 (by decide) ?_
      exact ((hF.2 c1).2 c4).2
