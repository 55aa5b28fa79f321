set_option maxHeartbeats 8000000 in
theorem vWa_seen_0 {E : jE} {μ : jMu} {Q : Option AV → jMu → Prop} {b : Nat} (hb : isB b) {a1 a2 : Int} (hF : (K 121 E mWa_seen 8 [some (jvR 74), some (jvR ((b : Nat) : Int)), some (jvI a1), some (jvI a2), some (jvI 1000), some (jvI 0)] [] μ Q)) : K 121 E mWa_seen 0 [some (jvR 74), some (jvR ((b : Nat) : Int)), some (jvI a1), some (jvI a2), none, none] [] μ Q := by
  refine K_sipush 1000 dWa_seen_0 rfl ?_
  refine K_istore 4 dWa_seen_3 (Nat.le_of_ble_eq_true rfl) rfl ?_
  refine K_iconst 0 dWa_seen_5 rfl ?_
  refine K_istore 5 dWa_seen_6 (Nat.le_of_ble_eq_true rfl) rfl ?_
  exact hF
set_option maxHeartbeats 8000000 in
theorem vWa_seen_8 {E : jE} {μ : jMu} {Q : Option AV → jMu → Prop} {b : Nat} (hb : isB b) {l2 l3 l4 l5 : Int} (hF : (((μ b 14) ≤ l5 → ((-2147483648 ≤ (1000 - l4) ∧ (1000 - l4) < 2147483648)) ∧ (Q (some (jvI (1000 - l4))) μ)) ∧ (¬ ((μ b 14) ≤ l5) → (((iand32 (ishr32 l3 l5) 1) = 0 → ((-2147483648 ≤ (l5 + 1) ∧ (l5 + 1) < 2147483648)) ∧ (K 121 E mWa_seen 8 [some (jvR 74), some (jvR ((b : Nat) : Int)), some (jvI l2), some (jvI l3), some (jvI l4), some (jvI (l5 + 1))] [] μ Q)) ∧ (¬ ((iand32 (ishr32 l3 l5) 1) = 0) → (Ci E mWa_looksAt [jvR ((b : Nat) : Int), jvI l5, jvI l2] μ (fun r9 μ6 => ((r9 = 0 → ((-2147483648 ≤ (l5 + 1) ∧ (l5 + 1) < 2147483648)) ∧ (K 121 E mWa_seen 8 [some (jvR 74), some (jvR ((b : Nat) : Int)), some (jvI l2), some (jvI l3), some (jvI l4), some (jvI (l5 + 1))] [] μ6 Q)) ∧ (¬ (r9 = 0) → ((0 ≤ l5 ∧ l5 < 6) ∧ (-2147483648 ≤ (100 - (μ6 (b + 16) l5)) ∧ (100 - (μ6 (b + 16) l5)) < 2147483648) ∧ (-2147483648 ≤ (l4 * (100 - (μ6 (b + 16) l5))) ∧ (l4 * (100 - (μ6 (b + 16) l5))) < 2147483648) ∧ (-2147483648 ≤ (Int.tdiv (l4 * (100 - (μ6 (b + 16) l5))) 100) ∧ (Int.tdiv (l4 * (100 - (μ6 (b + 16) l5))) 100) < 2147483648) ∧ (-2147483648 ≤ (l5 + 1) ∧ (l5 + 1) < 2147483648)) ∧ (K 121 E mWa_seen 8 [some (jvR 74), some (jvR ((b : Nat) : Int)), some (jvI l2), some (jvI l3), some (jvI (Int.tdiv (l4 * (100 - (μ6 (b + 16) l5))) 100)), some (jvI (l5 + 1))] [] μ6 Q)))))))))) : K 121 E mWa_seen 8 [some (jvR 74), some (jvR ((b : Nat) : Int)), some (jvI l2), some (jvI l3), some (jvI l4), some (jvI l5)] [] μ Q := by
  refine K_iload 5 l5 dWa_seen_8 rfl ?_
  refine K_aload_n 1 ((b : Nat) : Int) dWa_seen_10 rfl rfl ?_
  refine K_getf 2 14 b (jvI (μ b 14)) dWa_seen_11 pf_Wa_24 rfl (isB_c0 hb) (isB_n 0 (by decide) hb) rfl (isB_f0_14 hb) ?_
  refine K_icmp_ge 60 dWa_seen_14 (by decide) (fun c1 => ?_) (fun c1 => ?_)
  · refine K_sipush 1000 dWa_seen_60 rfl ?_
    refine K_iload 4 l4 dWa_seen_63 rfl ?_
    refine K_isub dWa_seen_65 (w32_id (hF.1 c1).1) ?_
    exact K_iret dWa_seen_66 (Or.inl rfl) (hF.1 c1).2
  · refine K_iload_n 3 l3 dWa_seen_17 rfl rfl ?_
    refine K_iload 5 l5 dWa_seen_18 rfl ?_
    refine K_ishr dWa_seen_20 rfl ?_
    refine K_iconst 1 dWa_seen_21 rfl ?_
    refine K_iand dWa_seen_22 rfl ?_
    refine K_if_eq 54 dWa_seen_23 (by decide) (fun c4 => ?_) (fun c4 => ?_)
    · refine K_iinc 5 dWa_seen_54 (Nat.le_of_ble_eq_true rfl) rfl (w32_ok ((hF.2 c1).1 c4).1) rfl ?_
      refine K_goto 8 dWa_seen_57 (by decide) ?_
      exact ((hF.2 c1).1 c4).2
    · refine K_aload_n 1 ((b : Nat) : Int) dWa_seen_26 rfl rfl ?_
      refine K_iload 5 l5 dWa_seen_27 rfl ?_
      refine K_iload_n 2 l2 dWa_seen_29 rfl rfl ?_
      refine K_callSi mWa_looksAt [jvR ((b : Nat) : Int), jvI l5, jvI l2] dWa_seen_30 pm_Wa_27 ⟨(Nat.le_of_ble_eq_true rfl), (Nat.le_of_ble_eq_true rfl)⟩ (Nat.le_of_ble_eq_true rfl) rfl (Nat.le_of_ble_eq_true rfl) (by decide) (Ci_mono ((hF.2 c1).2 c4) (fun r9 μ6 h7 => ?_))
      refine K_if_eq 54 dWa_seen_33 (by decide) (fun c10 => ?_) (fun c10 => ?_)
      · refine K_iinc 5 dWa_seen_54 (Nat.le_of_ble_eq_true rfl) rfl (w32_ok (h7.1 c10).1) rfl ?_
        refine K_goto 8 dWa_seen_57 (by decide) ?_
        exact (h7.1 c10).2
      · refine K_iload 4 l4 dWa_seen_36 rfl ?_
        refine K_bipush 100 dWa_seen_38 rfl ?_
        refine K_aload_n 1 ((b : Nat) : Int) dWa_seen_40 rfl rfl ?_
        refine K_getf 2 9 b (jvR ((b + 16 : Nat) : Int)) dWa_seen_41 pf_Wa_31 rfl (isB_c0 hb) (isB_n 0 (by decide) hb) rfl (isB_f0_9 hb) ?_
        refine K_iload 5 l5 dWa_seen_44 rfl ?_
        refine K_iald (b + 16) 6 dWa_seen_46 rfl (isB_c16 hb) (isB_n 16 (by decide) hb) (h7.2 c10).1.1 ?_
        refine K_isub dWa_seen_47 (w32_id (h7.2 c10).1.2.1) ?_
        refine K_imul dWa_seen_48 (w32_id (h7.2 c10).1.2.2.1) ?_
        refine K_bipush 100 dWa_seen_49 rfl ?_
        refine K_idiv dWa_seen_51 (by decide) (w32_id (h7.2 c10).1.2.2.2.1) ?_
        refine K_istore 4 dWa_seen_52 (Nat.le_of_ble_eq_true rfl) rfl ?_
        refine K_iinc 5 dWa_seen_54 (Nat.le_of_ble_eq_true rfl) rfl (w32_ok (h7.2 c10).1.2.2.2.2) rfl ?_
        refine K_goto 8 dWa_seen_57 (by decide) ?_
        exact (h7.2 c10).2
set_option maxHeartbeats 8000000 in
theorem vWa_looksAt_0 {E : jE} {μ : jMu} {Q : Option AV → jMu → Prop} {b : Nat} (hb : isB b) {a1 a2 : Int} (hF : ((0 ≤ a1 ∧ a1 < 6)) ∧ ((a2 < (μ (b + 17) a1) → (Q (some (jvI 0)) μ)) ∧ (¬ (a2 < (μ (b + 17) a1)) → ((0 ≤ a1 ∧ a1 < 6)) ∧ (((μ (b + 18) a1) < a2 → (Q (some (jvI 0)) μ)) ∧ (¬ ((μ (b + 18) a1) < a2) → (Q (some (jvI 1)) μ)))))) : K 121 E mWa_looksAt 0 [some (jvR ((b : Nat) : Int)), some (jvI a1), some (jvI a2)] [] μ Q := by
  refine K_aload_n 0 ((b : Nat) : Int) dWa_looksAt_0 rfl rfl ?_
  refine K_getf 2 10 b (jvR ((b + 17 : Nat) : Int)) dWa_looksAt_1 pf_Wa_15 rfl (isB_c0 hb) (isB_n 0 (by decide) hb) rfl (isB_f0_10 hb) ?_
  refine K_iload_n 1 a1 dWa_looksAt_4 rfl rfl ?_
  refine K_iald (b + 17) 6 dWa_looksAt_5 rfl (isB_c17 hb) (isB_n 17 (by decide) hb) hF.1 ?_
  refine K_iload_n 2 a2 dWa_looksAt_6 rfl rfl ?_
  refine K_icmp_gt 24 dWa_looksAt_7 (by decide) (fun c1 => ?_) (fun c1 => ?_)
  · refine K_iconst 0 dWa_looksAt_24 rfl ?_
    exact K_iret dWa_looksAt_25 (Or.inr ⟨rfl, (by decide)⟩) (hF.2.1 c1)
  · refine K_iload_n 2 a2 dWa_looksAt_10 rfl rfl ?_
    refine K_aload_n 0 ((b : Nat) : Int) dWa_looksAt_11 rfl rfl ?_
    refine K_getf 2 11 b (jvR ((b + 18 : Nat) : Int)) dWa_looksAt_12 pf_Wa_21 rfl (isB_c0 hb) (isB_n 0 (by decide) hb) rfl (isB_f0_11 hb) ?_
    refine K_iload_n 1 a1 dWa_looksAt_15 rfl rfl ?_
    refine K_iald (b + 18) 6 dWa_looksAt_16 rfl (isB_c18 hb) (isB_n 18 (by decide) hb) (hF.2.2 c1).1 ?_
    refine K_icmp_gt 24 dWa_looksAt_17 (by decide) (fun c4 => ?_) (fun c4 => ?_)
    · refine K_iconst 0 dWa_looksAt_24 rfl ?_
      exact K_iret dWa_looksAt_25 (Or.inr ⟨rfl, (by decide)⟩) ((hF.2.2 c1).2.1 c4)
    · refine K_iconst 1 dWa_looksAt_20 rfl ?_
      refine K_goto 25 dWa_looksAt_21 (by decide) ?_
      exact K_iret dWa_looksAt_25 (Or.inr ⟨rfl, (by decide)⟩) ((hF.2.2 c1).2.2 c4)
set_option maxHeartbeats 8000000 in
theorem vX_names_0 {E : jE} {μ : jMu} {Q : Option AV → jMu → Prop} {b : Nat} (hb : isB b) {a0 a1 : Int} (hF : ((μ 0 9) = ((b : Nat) : Int)) ∧ (Ci E mBk_hasStep [jvR ((b : Nat) : Int), jvI a0] μ (fun r4 μ1 => ((r4 = 0 → (Q (some (jvI (-1))) μ1)) ∧ (¬ (r4 = 0) → ((a1 < 0 → (Q (some (jvI (-1))) μ1)) ∧ (¬ (a1 < 0) → ((μ1 0 9) = ((b : Nat) : Int)) ∧ (Ci E mBk_nameCount [jvR ((b : Nat) : Int), jvI a0] μ1 (fun r14 μ11 => ((a1 < r14 → ((μ11 0 9) = ((b : Nat) : Int)) ∧ (Ci E mBk_named [jvR ((b : Nat) : Int), jvI a0, jvI a1] μ11 (fun r20 μ17 => (Q (some (jvI r20)) μ17)))) ∧ (¬ (a1 < r14) → (Q (some (jvI (-1))) μ11)))))))))))) : K 121 E mX_names 0 [some (jvR 0), some (jvI a0), some (jvI a1)] [] μ Q := by
  refine K_aload_n 0 0 dX_names_0 rfl rfl ?_
  refine K_getf 0 9 0 (jvR ((b : Nat) : Int)) dX_names_1 pf_X_26 rfl rfl (by decide) rfl (congrArg jvR hF.1) ?_
  refine K_iload_n 1 a0 dX_names_4 rfl rfl ?_
  refine K_callVi mBk_hasStep 2 b [jvI a0] dX_names_5 pm_X_221 ⟨_, rfl, rfl⟩ ⟨(Nat.le_of_ble_eq_true rfl), (Nat.le_of_ble_eq_true rfl)⟩ rfl (isB_c0 hb) (isB_n 0 (by decide) hb) (Nat.le_of_ble_eq_true rfl) rfl (Nat.le_of_ble_eq_true rfl) (by decide) (Ci_mono hF.2 (fun r4 μ1 h2 => ?_))
  refine K_if_eq 27 dX_names_8 (by decide) (fun c5 => ?_) (fun c5 => ?_)
  · refine K_iconst (-1) dX_names_27 rfl ?_
    exact K_iret dX_names_28 (Or.inl rfl) (h2.1 c5)
  · refine K_iload_n 2 a1 dX_names_11 rfl rfl ?_
    refine K_if_lt 27 dX_names_12 (by decide) (fun c8 => ?_) (fun c8 => ?_)
    · refine K_iconst (-1) dX_names_27 rfl ?_
      exact K_iret dX_names_28 (Or.inl rfl) ((h2.2 c5).1 c8)
    · refine K_iload_n 2 a1 dX_names_15 rfl rfl ?_
      refine K_aload_n 0 0 dX_names_16 rfl rfl ?_
      refine K_getf 0 9 0 (jvR ((b : Nat) : Int)) dX_names_17 pf_X_26 rfl rfl (by decide) rfl (congrArg jvR ((h2.2 c5).2 c8).1) ?_
      refine K_iload_n 1 a0 dX_names_20 rfl rfl ?_
      refine K_callVi mBk_nameCount 2 b [jvI a0] dX_names_21 pm_X_227 ⟨_, rfl, rfl⟩ ⟨(Nat.le_of_ble_eq_true rfl), (Nat.le_of_ble_eq_true rfl)⟩ rfl (isB_c0 hb) (isB_n 0 (by decide) hb) (Nat.le_of_ble_eq_true rfl) rfl (Nat.le_of_ble_eq_true rfl) (by decide) (Ci_mono ((h2.2 c5).2 c8).2 (fun r14 μ11 h12 => ?_))
      refine K_icmp_lt 29 dX_names_24 (by decide) (fun c15 => ?_) (fun c15 => ?_)
      · refine K_aload_n 0 0 dX_names_29 rfl rfl ?_
        refine K_getf 0 9 0 (jvR ((b : Nat) : Int)) dX_names_30 pf_X_26 rfl rfl (by decide) rfl (congrArg jvR (h12.1 c15).1) ?_
        refine K_iload_n 1 a0 dX_names_33 rfl rfl ?_
        refine K_iload_n 2 a1 dX_names_34 rfl rfl ?_
        refine K_callVi mBk_named 2 b [jvI a0, jvI a1] dX_names_35 pm_X_257 ⟨_, rfl, rfl⟩ ⟨(Nat.le_of_ble_eq_true rfl), (Nat.le_of_ble_eq_true rfl)⟩ rfl (isB_c0 hb) (isB_n 0 (by decide) hb) (Nat.le_of_ble_eq_true rfl) rfl (Nat.le_of_ble_eq_true rfl) (by decide) (Ci_mono (h12.1 c15).2 (fun r20 μ17 h18 => ?_))
        exact K_iret dX_names_38 (Or.inl rfl) h18
      · refine K_iconst (-1) dX_names_27 rfl ?_
        exact K_iret dX_names_28 (Or.inl rfl) (h12.2 c15)
set_option maxHeartbeats 8000000 in
theorem vX_term_0 {E : jE} {μ : jMu} {Q : Option AV → jMu → Prop} {b : Nat} (hb : isB b) {a0 a1 : Int} (hF : ((μ 0 9) = ((b : Nat) : Int)) ∧ (Ci E mBk_hasStep [jvR ((b : Nat) : Int), jvI a0] μ (fun r4 μ1 => ((r4 = 0 → (Q (some (jvI (-1))) μ1)) ∧ (¬ (r4 = 0) → ((0 ≤ a1 → ((μ1 0 9) = ((b : Nat) : Int) ∧ (0 ≤ a0 ∧ a0 < 40) ∧ (μ1 0 9) = ((b : Nat) : Int)) ∧ (Ci E mTe_size [jvR ((b + 1 : Nat) : Int), jvI (μ1 (b + 13) a0)] μ1 (fun r13 μ10 => ((r13 ≤ a1 → (Q (some (jvI (-1))) μ10)) ∧ (¬ (r13 ≤ a1) → ((μ10 0 9) = ((b : Nat) : Int) ∧ (-2147483648 ≤ ((μ1 (b + 13) a0) + a1) ∧ ((μ1 (b + 13) a0) + a1) < 2147483648) ∧ (0 ≤ ((μ1 (b + 13) a0) + a1) ∧ ((μ1 (b + 13) a0) + a1) < 400)) ∧ (Q (some (jvI (μ10 (b + 5) ((μ1 (b + 13) a0) + a1)))) μ10)))))) ∧ (¬ (0 ≤ a1) → (Q (some (jvI (-1))) μ1)))))))) : K 121 E mX_term 0 [some (jvR 0), some (jvI a0), some (jvI a1), none] [] μ Q := by
  refine K_aload_n 0 0 dX_term_0 rfl rfl ?_
  refine K_getf 0 9 0 (jvR ((b : Nat) : Int)) dX_term_1 pf_X_26 rfl rfl (by decide) rfl (congrArg jvR hF.1) ?_
  refine K_iload_n 1 a0 dX_term_4 rfl rfl ?_
  refine K_callVi mBk_hasStep 2 b [jvI a0] dX_term_5 pm_X_221 ⟨_, rfl, rfl⟩ ⟨(Nat.le_of_ble_eq_true rfl), (Nat.le_of_ble_eq_true rfl)⟩ rfl (isB_c0 hb) (isB_n 0 (by decide) hb) (Nat.le_of_ble_eq_true rfl) rfl (Nat.le_of_ble_eq_true rfl) (by decide) (Ci_mono hF.2 (fun r4 μ1 h2 => ?_))
  refine K_if_eq 15 dX_term_8 (by decide) (fun c5 => ?_) (fun c5 => ?_)
  · refine K_iconst (-1) dX_term_15 rfl ?_
    exact K_iret dX_term_16 (Or.inl rfl) (h2.1 c5)
  · refine K_iload_n 2 a1 dX_term_11 rfl rfl ?_
    refine K_if_ge 17 dX_term_12 (by decide) (fun c8 => ?_) (fun c8 => ?_)
    · refine K_aload_n 0 0 dX_term_17 rfl rfl ?_
      refine K_getf 0 9 0 (jvR ((b : Nat) : Int)) dX_term_18 pf_X_26 rfl rfl (by decide) rfl (congrArg jvR ((h2.2 c5).1 c8).1.1) ?_
      refine K_getf 2 6 b (jvR ((b + 13 : Nat) : Int)) dX_term_21 pf_X_247 rfl (isB_c0 hb) (isB_n 0 (by decide) hb) rfl (isB_f0_6 hb) ?_
      refine K_iload_n 1 a0 dX_term_24 rfl rfl ?_
      refine K_iald (b + 13) 40 dX_term_25 rfl (isB_c13 hb) (isB_n 13 (by decide) hb) ((h2.2 c5).1 c8).1.2.1 ?_
      refine K_istore_n 3 dX_term_26 rfl (Nat.le_of_ble_eq_true rfl) rfl ?_
      refine K_iload_n 2 a1 dX_term_27 rfl rfl ?_
      refine K_aload_n 0 0 dX_term_28 rfl rfl ?_
      refine K_getf 0 9 0 (jvR ((b : Nat) : Int)) dX_term_29 pf_X_26 rfl rfl (by decide) rfl (congrArg jvR ((h2.2 c5).1 c8).1.2.2) ?_
      refine K_getf 2 0 b (jvR ((b + 1 : Nat) : Int)) dX_term_32 pf_X_142 rfl (isB_c0 hb) (isB_n 0 (by decide) hb) rfl (isB_f0_0 hb) ?_
      refine K_iload_n 3 (μ1 (b + 13) a0) dX_term_35 rfl rfl ?_
      refine K_callVi mTe_size 9 (b + 1) [jvI (μ1 (b + 13) a0)] dX_term_36 pm_X_250 ⟨_, rfl, rfl⟩ ⟨(Nat.le_of_ble_eq_true rfl), (Nat.le_of_ble_eq_true rfl)⟩ rfl (isB_c1 hb) (isB_n 1 (by decide) hb) (Nat.le_of_ble_eq_true rfl) rfl (Nat.le_of_ble_eq_true rfl) (by decide) (Ci_mono ((h2.2 c5).1 c8).2 (fun r13 μ10 h11 => ?_))
      refine K_icmp_ge 59 dX_term_39 (by decide) (fun c14 => ?_) (fun c14 => ?_)
      · refine K_iconst (-1) dX_term_59 rfl ?_
        exact K_iret dX_term_60 (Or.inl rfl) (h11.1 c14)
      · refine K_aload_n 0 0 dX_term_42 rfl rfl ?_
        refine K_getf 0 9 0 (jvR ((b : Nat) : Int)) dX_term_43 pf_X_26 rfl rfl (by decide) rfl (congrArg jvR (h11.2 c14).1.1) ?_
        refine K_getf 2 0 b (jvR ((b + 1 : Nat) : Int)) dX_term_46 pf_X_142 rfl (isB_c0 hb) (isB_n 0 (by decide) hb) rfl (isB_f0_0 hb) ?_
        refine K_getf 9 3 (b + 1) (jvR ((b + 5 : Nat) : Int)) dX_term_49 pf_X_260 rfl (isB_c1 hb) (isB_n 1 (by decide) hb) rfl (isB_f1_3 hb) ?_
        refine K_iload_n 3 (μ1 (b + 13) a0) dX_term_52 rfl rfl ?_
        refine K_iload_n 2 a1 dX_term_53 rfl rfl ?_
        refine K_iadd dX_term_54 (w32_id (h11.2 c14).1.2.1) ?_
        refine K_iald (b + 5) 400 dX_term_55 rfl (isB_c5 hb) (isB_n 5 (by decide) hb) (h11.2 c14).1.2.2 ?_
        refine K_goto 60 dX_term_56 (by decide) ?_
        exact K_iret dX_term_60 (Or.inl rfl) (h11.2 c14).2
    · refine K_iconst (-1) dX_term_15 rfl ?_
      exact K_iret dX_term_16 (Or.inl rfl) ((h2.2 c5).2 c8)
set_option maxHeartbeats 8000000 in
theorem vX_wrong_0 {E : jE} {μ : jMu} {Q : Option AV → jMu → Prop} {b : Nat} (hb : isB b) (hF : ((μ 0 9) = ((b : Nat) : Int)) ∧ (Cl E mBk_all [jvR ((b : Nat) : Int)] μ (fun r4 μ1 => (Ci E mX_kthOf [jvL (iand64 r4 (ixor64 (μ1 45 8) (-1))), jvI 0] μ1 (fun r8 μ5 => (Q (some (jvI r8)) μ5)))))) : K 121 E mX_wrong 0 [some (jvR 0)] [] μ Q := by
  refine K_aload_n 0 0 dX_wrong_0 rfl rfl ?_
  refine K_getf 0 9 0 (jvR ((b : Nat) : Int)) dX_wrong_1 pf_X_26 rfl rfl (by decide) rfl (congrArg jvR hF.1) ?_
  refine K_callVl mBk_all 2 b [] dX_wrong_4 pm_X_263 ⟨_, rfl, rfl⟩ ⟨(Nat.le_of_ble_eq_true rfl), (Nat.le_of_ble_eq_true rfl)⟩ rfl (isB_c0 hb) (isB_n 0 (by decide) hb) (Nat.le_of_ble_eq_true rfl) rfl (Nat.le_of_ble_eq_true rfl) (by decide) (Cl_mono hF.2 (fun r4 μ1 h2 => ?_))
  refine K_aload_n 0 0 dX_wrong_7 rfl rfl ?_
  refine K_getf 0 2 0 (jvR 45) dX_wrong_8 pf_X_38 rfl rfl (by decide) rfl rfl ?_
  refine K_getf 3 8 45 (jvL (μ1 45 8)) dX_wrong_11 pf_X_157 rfl rfl (by decide) rfl rfl ?_
  refine K_ldc2 (-1) dX_wrong_14 pc_X_267 rfl ?_
  refine K_lxor dX_wrong_17 rfl ?_
  refine K_land dX_wrong_18 rfl ?_
  refine K_iconst 0 dX_wrong_19 rfl ?_
  refine K_callSi mX_kthOf [jvL (iand64 r4 (ixor64 (μ1 45 8) (-1))), jvI 0] dX_wrong_20 pm_X_269 ⟨(Nat.le_of_ble_eq_true rfl), (Nat.le_of_ble_eq_true rfl)⟩ (Nat.le_of_ble_eq_true rfl) rfl (Nat.le_of_ble_eq_true rfl) (by decide) (Ci_mono h2 (fun r8 μ5 h6 => ?_))
  exact K_iret dX_wrong_23 (Or.inl rfl) h6
set_option maxHeartbeats 8000000 in
theorem vBk_all_0 {E : jE} {μ : jMu} {Q : Option AV → jMu → Prop} {b : Nat} (hb : isB b) (hF : (Cl E mX_bit [jvI (μ b 13)] μ (fun r4 μ1 => ((-9223372036854775808 ≤ (r4 - 1) ∧ (r4 - 1) < 9223372036854775808)) ∧ (Q (some (jvL (r4 - 1))) μ1)))) : K 121 E mBk_all 0 [some (jvR ((b : Nat) : Int))] [] μ Q := by
  refine K_aload_n 0 ((b : Nat) : Int) dBk_all_0 rfl rfl ?_
  refine K_getf 2 13 b (jvI (μ b 13)) dBk_all_1 pf_Bk_62 rfl (isB_c0 hb) (isB_n 0 (by decide) hb) rfl (isB_f0_13 hb) ?_
  refine K_callNl mX_bit [jvI (μ b 13)] dBk_all_4 pm_Bk_68 ⟨(Nat.le_of_ble_eq_true rfl), (Nat.le_of_ble_eq_true rfl)⟩ (Nat.le_of_ble_eq_true rfl) rfl (Nat.le_of_ble_eq_true rfl) (by decide) (Cl_mono hF (fun r4 μ1 h2 => ?_))
  refine K_lconst 1 dBk_all_7 rfl ?_
  refine K_lsub dBk_all_8 (w64_id h2.1) ?_
  exact K_lret dBk_all_9 rfl h2.2
set_option maxHeartbeats 8000000 in
theorem vX_kthOf_0 {E : jE} {μ : jMu} {Q : Option AV → jMu → Prop} {a0 a1 : Int} (hF : (K 121 E mX_kthOf 5 [some (jvL a0), none, some (jvI a1), some (jvI 0), some (jvI 0)] [] μ Q)) : K 121 E mX_kthOf 0 [some (jvL a0), none, some (jvI a1), none, none] [] μ Q := by
  refine K_iconst 0 dX_kthOf_0 rfl ?_
  refine K_istore_n 3 dX_kthOf_1 rfl (Nat.le_of_ble_eq_true rfl) rfl ?_
  refine K_iconst 0 dX_kthOf_2 rfl ?_
  refine K_istore 4 dX_kthOf_3 (Nat.le_of_ble_eq_true rfl) rfl ?_
  exact hF
set_option maxHeartbeats 8000000 in
theorem vX_kthOf_5 {E : jE} {μ : jMu} {Q : Option AV → jMu → Prop} {l0 l2 l3 l4 : Int} (hF : ((40 ≤ l4 → (Q (some (jvI (-1))) μ)) ∧ (¬ (40 ≤ l4) → (Ci E mX_isIn [jvI l4, jvL l0] μ (fun r7 μ4 => ((r7 = 0 → ((-2147483648 ≤ (l4 + 1) ∧ (l4 + 1) < 2147483648)) ∧ (K 121 E mX_kthOf 5 [some (jvL l0), none, some (jvI l2), some (jvI l3), some (jvI (l4 + 1))] [] μ4 Q)) ∧ (¬ (r7 = 0) → ((¬ l3 = l2 → ((-2147483648 ≤ (l3 + 1) ∧ (l3 + 1) < 2147483648) ∧ (-2147483648 ≤ (l4 + 1) ∧ (l4 + 1) < 2147483648)) ∧ (K 121 E mX_kthOf 5 [some (jvL l0), none, some (jvI l2), some (jvI (l3 + 1)), some (jvI (l4 + 1))] [] μ4 Q)) ∧ (l3 = l2 → (Q (some (jvI l4)) μ4)))))))))) : K 121 E mX_kthOf 5 [some (jvL l0), none, some (jvI l2), some (jvI l3), some (jvI l4)] [] μ Q := by
  refine K_iload 4 l4 dX_kthOf_5 rfl ?_
  refine K_bipush 40 dX_kthOf_7 rfl ?_
  refine K_icmp_ge 38 dX_kthOf_9 (by decide) (fun c1 => ?_) (fun c1 => ?_)
  · refine K_iconst (-1) dX_kthOf_38 rfl ?_
    exact K_iret dX_kthOf_39 (Or.inl rfl) (hF.1 c1)
  · refine K_iload 4 l4 dX_kthOf_12 rfl ?_
    refine K_lload_n 0 l0 dX_kthOf_14 rfl rfl ?_
    refine K_callSi mX_isIn [jvI l4, jvL l0] dX_kthOf_15 pm_X_230 ⟨(Nat.le_of_ble_eq_true rfl), (Nat.le_of_ble_eq_true rfl)⟩ (Nat.le_of_ble_eq_true rfl) rfl (Nat.le_of_ble_eq_true rfl) (by decide) (Ci_mono (hF.2 c1) (fun r7 μ4 h5 => ?_))
    refine K_if_eq 32 dX_kthOf_18 (by decide) (fun c8 => ?_) (fun c8 => ?_)
    · refine K_iinc 4 dX_kthOf_32 (Nat.le_of_ble_eq_true rfl) rfl (w32_ok (h5.1 c8).1) rfl ?_
      refine K_goto 5 dX_kthOf_35 (by decide) ?_
      exact (h5.1 c8).2
    · refine K_iload_n 3 l3 dX_kthOf_21 rfl rfl ?_
      refine K_iload_n 2 l2 dX_kthOf_22 rfl rfl ?_
      refine K_icmp_ne 29 dX_kthOf_23 (by decide) (fun c10 => ?_) (fun c10 => ?_)
      · refine K_iinc 3 dX_kthOf_29 (Nat.le_of_ble_eq_true rfl) rfl (w32_ok ((h5.2 c8).1 c10).1.1) rfl ?_
        refine K_iinc 4 dX_kthOf_32 (Nat.le_of_ble_eq_true rfl) rfl (w32_ok ((h5.2 c8).1 c10).1.2) rfl ?_
        refine K_goto 5 dX_kthOf_35 (by decide) ?_
        exact ((h5.2 c8).1 c10).2
      · refine K_iload 4 l4 dX_kthOf_26 rfl ?_
        exact K_iret dX_kthOf_28 (Or.inl rfl) ((h5.2 c8).2 c10)
set_option maxHeartbeats 8000000 in
theorem vX_rest_0 {E : jE} {μ : jMu} {Q : Option AV → jMu → Prop} {a0 : Int} (hF : ((a0 < 0 → (Q (some (jvI (-1))) μ)) ∧ (¬ (a0 < 0) → (((μ 52 6) ≤ a0 → (Q (some (jvI (-1))) μ)) ∧ (¬ ((μ 52 6) ≤ a0) → ((0 ≤ a0 ∧ a0 < 40)) ∧ (Q (some (jvI (μ 53 a0))) μ)))))) : K 121 E mX_rest 0 [some (jvR 0), some (jvI a0)] [] μ Q := by
  refine K_iload_n 1 a0 dX_rest_0 rfl rfl ?_
  refine K_if_lt 33 dX_rest_1 (by decide) (fun c1 => ?_) (fun c1 => ?_)
  · refine K_iconst (-1) dX_rest_33 rfl ?_
    exact K_iret dX_rest_34 (Or.inl rfl) (hF.1 c1)
  · refine K_iload_n 1 a0 dX_rest_4 rfl rfl ?_
    refine K_aload_n 0 0 dX_rest_5 rfl rfl ?_
    refine K_getf 0 2 0 (jvR 45) dX_rest_6 pf_X_38 rfl rfl (by decide) rfl rfl ?_
    refine K_getf 3 6 45 (jvR 52) dX_rest_9 pf_X_175 rfl rfl (by decide) rfl rfl ?_
    refine K_getf 6 6 52 (jvI (μ 52 6)) dX_rest_12 pf_X_179 rfl rfl (by decide) rfl rfl ?_
    refine K_icmp_ge 33 dX_rest_15 (by decide) (fun c4 => ?_) (fun c4 => ?_)
    · refine K_iconst (-1) dX_rest_33 rfl ?_
      exact K_iret dX_rest_34 (Or.inl rfl) ((hF.2 c1).1 c4)
    · refine K_aload_n 0 0 dX_rest_18 rfl rfl ?_
      refine K_getf 0 2 0 (jvR 45) dX_rest_19 pf_X_38 rfl rfl (by decide) rfl rfl ?_
      refine K_getf 3 6 45 (jvR 52) dX_rest_22 pf_X_175 rfl rfl (by decide) rfl rfl ?_
      refine K_getf 6 0 52 (jvR 53) dX_rest_25 pf_X_273 rfl rfl (by decide) rfl rfl ?_
      refine K_iload_n 1 a0 dX_rest_28 rfl rfl ?_
      refine K_iald 53 40 dX_rest_29 rfl rfl (by decide) ((hF.2 c1).2 c4).1 ?_
      refine K_goto 34 dX_rest_30 (by decide) ?_
      exact K_iret dX_rest_34 (Or.inl rfl) ((hF.2 c1).2 c4).2
set_option maxHeartbeats 8000000 in
theorem vX_leans_0 {E : jE} {μ : jMu} {Q : Option AV → jMu → Prop} {a0 a1 : Int} (hF : ((a0 < 0 → (Q (some (jvI (-1))) μ)) ∧ (¬ (a0 < 0) → (((μ 52 6) ≤ a0 → (Q (some (jvI (-1))) μ)) ∧ (¬ ((μ 52 6) ≤ a0) → ((a1 < 0 → (Q (some (jvI (-1))) μ)) ∧ (¬ (a1 < 0) → ((0 ≤ a0 ∧ a0 < 40)) ∧ ((a1 < (μ 55 a0) → ((-2147483648 ≤ (3 * a0) ∧ (3 * a0) < 2147483648) ∧ (-2147483648 ≤ ((3 * a0) + a1) ∧ ((3 * a0) + a1) < 2147483648) ∧ (0 ≤ ((3 * a0) + a1) ∧ ((3 * a0) + a1) < 120)) ∧ (Q (some (jvI (μ 56 ((3 * a0) + a1)))) μ)) ∧ (¬ (a1 < (μ 55 a0)) → (Q (some (jvI (-1))) μ)))))))))) : K 121 E mX_leans 0 [some (jvR 0), some (jvI a0), some (jvI a1)] [] μ Q := by
  refine K_iload_n 1 a0 dX_leans_0 rfl rfl ?_
  refine K_if_lt 38 dX_leans_1 (by decide) (fun c1 => ?_) (fun c1 => ?_)
  · refine K_iconst (-1) dX_leans_38 rfl ?_
    exact K_iret dX_leans_39 (Or.inl rfl) (hF.1 c1)
  · refine K_iload_n 1 a0 dX_leans_4 rfl rfl ?_
    refine K_aload_n 0 0 dX_leans_5 rfl rfl ?_
    refine K_getf 0 2 0 (jvR 45) dX_leans_6 pf_X_38 rfl rfl (by decide) rfl rfl ?_
    refine K_getf 3 6 45 (jvR 52) dX_leans_9 pf_X_175 rfl rfl (by decide) rfl rfl ?_
    refine K_getf 6 6 52 (jvI (μ 52 6)) dX_leans_12 pf_X_179 rfl rfl (by decide) rfl rfl ?_
    refine K_icmp_ge 38 dX_leans_15 (by decide) (fun c4 => ?_) (fun c4 => ?_)
    · refine K_iconst (-1) dX_leans_38 rfl ?_
      exact K_iret dX_leans_39 (Or.inl rfl) ((hF.2 c1).1 c4)
    · refine K_iload_n 2 a1 dX_leans_18 rfl rfl ?_
      refine K_if_lt 38 dX_leans_19 (by decide) (fun c7 => ?_) (fun c7 => ?_)
      · refine K_iconst (-1) dX_leans_38 rfl ?_
        exact K_iret dX_leans_39 (Or.inl rfl) (((hF.2 c1).2 c4).1 c7)
      · refine K_iload_n 2 a1 dX_leans_22 rfl rfl ?_
        refine K_aload_n 0 0 dX_leans_23 rfl rfl ?_
        refine K_getf 0 2 0 (jvR 45) dX_leans_24 pf_X_38 rfl rfl (by decide) rfl rfl ?_
        refine K_getf 3 6 45 (jvR 52) dX_leans_27 pf_X_175 rfl rfl (by decide) rfl rfl ?_
        refine K_getf 6 2 52 (jvR 55) dX_leans_30 pf_X_276 rfl rfl (by decide) rfl rfl ?_
        refine K_iload_n 1 a0 dX_leans_33 rfl rfl ?_
        refine K_iald 55 40 dX_leans_34 rfl rfl (by decide) (((hF.2 c1).2 c4).2 c7).1 ?_
        refine K_icmp_lt 40 dX_leans_35 (by decide) (fun c10 => ?_) (fun c10 => ?_)
        · refine K_aload_n 0 0 dX_leans_40 rfl rfl ?_
          refine K_getf 0 2 0 (jvR 45) dX_leans_41 pf_X_38 rfl rfl (by decide) rfl rfl ?_
          refine K_getf 3 6 45 (jvR 52) dX_leans_44 pf_X_175 rfl rfl (by decide) rfl rfl ?_
          refine K_getf 6 3 52 (jvR 56) dX_leans_47 pf_X_279 rfl rfl (by decide) rfl rfl ?_
          refine K_iconst 3 dX_leans_50 rfl ?_
          refine K_iload_n 1 a0 dX_leans_51 rfl rfl ?_
          refine K_imul dX_leans_52 (w32_id ((((hF.2 c1).2 c4).2 c7).2.1 c10).1.1) ?_
          refine K_iload_n 2 a1 dX_leans_53 rfl rfl ?_
          refine K_iadd dX_leans_54 (w32_id ((((hF.2 c1).2 c4).2 c7).2.1 c10).1.2.1) ?_
          refine K_iald 56 120 dX_leans_55 rfl rfl (by decide) ((((hF.2 c1).2 c4).2 c7).2.1 c10).1.2.2 ?_
          exact K_iret dX_leans_56 (Or.inl rfl) ((((hF.2 c1).2 c4).2 c7).2.1 c10).2
        · refine K_iconst (-1) dX_leans_38 rfl ?_
          exact K_iret dX_leans_39 (Or.inl rfl) ((((hF.2 c1).2 c4).2 c7).2.2 c10)
set_option maxHeartbeats 8000000 in
theorem vX_upon_0 {E : jE} {μ : jMu} {Q : Option AV → jMu → Prop} {b : Nat} (hb : isB b) {a0 a1 : Int} (hF : ((μ 0 9) = ((b : Nat) : Int)) ∧ (Ci E mBk_hasStep [jvR ((b : Nat) : Int), jvI a0] μ (fun r4 μ1 => ((r4 = 0 → (Q (some (jvI (-1))) μ1)) ∧ (¬ (r4 = 0) → ((μ1 0 9) = ((b : Nat) : Int)) ∧ (Ci E mBk_hasStep [jvR ((b : Nat) : Int), jvI a1] μ1 (fun r11 μ8 => ((¬ r11 = 0 → ((0 ≤ a0 ∧ a0 < 40)) ∧ (Ci E mX_isIn [jvI a1, jvL (μ8 50 a0)] μ8 (fun r17 μ14 => (Ci E mX_flag [jvI r17] μ14 (fun r21 μ18 => (Q (some (jvI r21)) μ18)))))) ∧ (r11 = 0 → (Q (some (jvI (-1))) μ8)))))))))) : K 121 E mX_upon 0 [some (jvR 0), some (jvI a0), some (jvI a1)] [] μ Q := by
  refine K_aload_n 0 0 dX_upon_0 rfl rfl ?_
  refine K_getf 0 9 0 (jvR ((b : Nat) : Int)) dX_upon_1 pf_X_26 rfl rfl (by decide) rfl (congrArg jvR hF.1) ?_
  refine K_iload_n 1 a0 dX_upon_4 rfl rfl ?_
  refine K_callVi mBk_hasStep 2 b [jvI a0] dX_upon_5 pm_X_221 ⟨_, rfl, rfl⟩ ⟨(Nat.le_of_ble_eq_true rfl), (Nat.le_of_ble_eq_true rfl)⟩ rfl (isB_c0 hb) (isB_n 0 (by decide) hb) (Nat.le_of_ble_eq_true rfl) rfl (Nat.le_of_ble_eq_true rfl) (by decide) (Ci_mono hF.2 (fun r4 μ1 h2 => ?_))
  refine K_if_eq 22 dX_upon_8 (by decide) (fun c5 => ?_) (fun c5 => ?_)
  · refine K_iconst (-1) dX_upon_22 rfl ?_
    exact K_iret dX_upon_23 (Or.inl rfl) (h2.1 c5)
  · refine K_aload_n 0 0 dX_upon_11 rfl rfl ?_
    refine K_getf 0 9 0 (jvR ((b : Nat) : Int)) dX_upon_12 pf_X_26 rfl rfl (by decide) rfl (congrArg jvR (h2.2 c5).1) ?_
    refine K_iload_n 2 a1 dX_upon_15 rfl rfl ?_
    refine K_callVi mBk_hasStep 2 b [jvI a1] dX_upon_16 pm_X_221 ⟨_, rfl, rfl⟩ ⟨(Nat.le_of_ble_eq_true rfl), (Nat.le_of_ble_eq_true rfl)⟩ rfl (isB_c0 hb) (isB_n 0 (by decide) hb) (Nat.le_of_ble_eq_true rfl) rfl (Nat.le_of_ble_eq_true rfl) (by decide) (Ci_mono (h2.2 c5).2 (fun r11 μ8 h9 => ?_))
    refine K_if_ne 24 dX_upon_19 (by decide) (fun c12 => ?_) (fun c12 => ?_)
    · refine K_iload_n 2 a1 dX_upon_24 rfl rfl ?_
      refine K_aload_n 0 0 dX_upon_25 rfl rfl ?_
      refine K_getf 0 2 0 (jvR 45) dX_upon_26 pf_X_38 rfl rfl (by decide) rfl rfl ?_
      refine K_getf 3 4 45 (jvR 50) dX_upon_29 pf_X_282 rfl rfl (by decide) rfl rfl ?_
      refine K_iload_n 1 a0 dX_upon_32 rfl rfl ?_
      refine K_lald 50 40 dX_upon_33 rfl rfl (by decide) (h9.1 c12).1 ?_
      refine K_callSi mX_isIn [jvI a1, jvL (μ8 50 a0)] dX_upon_34 pm_X_230 ⟨(Nat.le_of_ble_eq_true rfl), (Nat.le_of_ble_eq_true rfl)⟩ (Nat.le_of_ble_eq_true rfl) rfl (Nat.le_of_ble_eq_true rfl) (by decide) (Ci_mono (h9.1 c12).2 (fun r17 μ14 h15 => ?_))
      refine K_callSi mX_flag [jvI r17] dX_upon_37 pm_X_213 ⟨(Nat.le_of_ble_eq_true rfl), (Nat.le_of_ble_eq_true rfl)⟩ (Nat.le_of_ble_eq_true rfl) rfl (Nat.le_of_ble_eq_true rfl) (by decide) (Ci_mono h15 (fun r21 μ18 h19 => ?_))
      exact K_iret dX_upon_40 (Or.inl rfl) h19
    · refine K_iconst (-1) dX_upon_22 rfl ?_
      exact K_iret dX_upon_23 (Or.inl rfl) (h9.2 c12)
set_option maxHeartbeats 8000000 in
theorem vX_depth_0 {E : jE} {μ : jMu} {Q : Option AV → jMu → Prop} {b : Nat} (hb : isB b) {a0 : Int} (hF : ((μ 0 9) = ((b : Nat) : Int)) ∧ (Ci E mBk_hasStep [jvR ((b : Nat) : Int), jvI a0] μ (fun r4 μ1 => ((r4 = 0 → (Q (some (jvI (-1))) μ1)) ∧ (¬ (r4 = 0) → ((0 ≤ a0 ∧ a0 < 40)) ∧ (Q (some (jvI (μ1 49 a0))) μ1)))))) : K 121 E mX_depth 0 [some (jvR 0), some (jvI a0)] [] μ Q := by
  refine K_aload_n 0 0 dX_depth_0 rfl rfl ?_
  refine K_getf 0 9 0 (jvR ((b : Nat) : Int)) dX_depth_1 pf_X_26 rfl rfl (by decide) rfl (congrArg jvR hF.1) ?_
  refine K_iload_n 1 a0 dX_depth_4 rfl rfl ?_
  refine K_callVi mBk_hasStep 2 b [jvI a0] dX_depth_5 pm_X_221 ⟨_, rfl, rfl⟩ ⟨(Nat.le_of_ble_eq_true rfl), (Nat.le_of_ble_eq_true rfl)⟩ rfl (isB_c0 hb) (isB_n 0 (by decide) hb) (Nat.le_of_ble_eq_true rfl) rfl (Nat.le_of_ble_eq_true rfl) (by decide) (Ci_mono hF.2 (fun r4 μ1 h2 => ?_))
  refine K_if_eq 23 dX_depth_8 (by decide) (fun c5 => ?_) (fun c5 => ?_)
  · refine K_iconst (-1) dX_depth_23 rfl ?_
    exact K_iret dX_depth_24 (Or.inl rfl) (h2.1 c5)
  · refine K_aload_n 0 0 dX_depth_11 rfl rfl ?_
    refine K_getf 0 2 0 (jvR 45) dX_depth_12 pf_X_38 rfl rfl (by decide) rfl rfl ?_
    refine K_getf 3 3 45 (jvR 49) dX_depth_15 pf_X_285 rfl rfl (by decide) rfl rfl ?_
    refine K_iload_n 1 a0 dX_depth_18 rfl rfl ?_
    refine K_iald 49 40 dX_depth_19 rfl rfl (by decide) (h2.2 c5).1 ?_
    refine K_goto 24 dX_depth_20 (by decide) ?_
    exact K_iret dX_depth_24 (Or.inl rfl) (h2.2 c5).2
set_option maxHeartbeats 8000000 in
theorem vX_load_0 {E : jE} {μ : jMu} {Q : Option AV → jMu → Prop} {b : Nat} (hb : isB b) {a0 : Int} (hF : ((μ 0 9) = ((b : Nat) : Int)) ∧ (Ci E mBk_hasStep [jvR ((b : Nat) : Int), jvI a0] μ (fun r4 μ1 => ((r4 = 0 → (Q (some (jvI (-1))) μ1)) ∧ (¬ (r4 = 0) → (Ci E mFa_neededUpon [jvR 45, jvI a0] μ1 (fun r11 μ8 => (Q (some (jvI r11)) μ8)))))))) : K 121 E mX_load 0 [some (jvR 0), some (jvI a0)] [] μ Q := by
  refine K_aload_n 0 0 dX_load_0 rfl rfl ?_
  refine K_getf 0 9 0 (jvR ((b : Nat) : Int)) dX_load_1 pf_X_26 rfl rfl (by decide) rfl (congrArg jvR hF.1) ?_
  refine K_iload_n 1 a0 dX_load_4 rfl rfl ?_
  refine K_callVi mBk_hasStep 2 b [jvI a0] dX_load_5 pm_X_221 ⟨_, rfl, rfl⟩ ⟨(Nat.le_of_ble_eq_true rfl), (Nat.le_of_ble_eq_true rfl)⟩ rfl (isB_c0 hb) (isB_n 0 (by decide) hb) (Nat.le_of_ble_eq_true rfl) rfl (Nat.le_of_ble_eq_true rfl) (by decide) (Ci_mono hF.2 (fun r4 μ1 h2 => ?_))
  refine K_if_eq 22 dX_load_8 (by decide) (fun c5 => ?_) (fun c5 => ?_)
  · refine K_iconst (-1) dX_load_22 rfl ?_
    exact K_iret dX_load_23 (Or.inl rfl) (h2.1 c5)
  · refine K_aload_n 0 0 dX_load_11 rfl rfl ?_
    refine K_getf 0 2 0 (jvR 45) dX_load_12 pf_X_38 rfl rfl (by decide) rfl rfl ?_
    refine K_iload_n 1 a0 dX_load_15 rfl rfl ?_
    refine K_callVi mFa_neededUpon 3 45 [jvI a0] dX_load_16 pm_X_288 ⟨_, rfl, rfl⟩ ⟨(Nat.le_of_ble_eq_true rfl), (Nat.le_of_ble_eq_true rfl)⟩ rfl rfl (by decide) (Nat.le_of_ble_eq_true rfl) rfl (Nat.le_of_ble_eq_true rfl) (by decide) (Ci_mono (h2.2 c5) (fun r11 μ8 h9 => ?_))
    refine K_goto 23 dX_load_19 (by decide) ?_
    exact K_iret dX_load_23 (Or.inl rfl) h9
set_option maxHeartbeats 8000000 in
theorem vFa_neededUpon_0 {E : jE} {μ : jMu} {Q : Option AV → jMu → Prop} {a0 : Int} (hF : ((-2147483648 ≤ (a0 + 1) ∧ (a0 + 1) < 2147483648)) ∧ (K 121 E mFa_neededUpon 6 [some (jvR 45), some (jvI a0), some (jvI 0), some (jvI (a0 + 1))] [] μ Q)) : K 121 E mFa_neededUpon 0 [some (jvR 45), some (jvI a0), none, none] [] μ Q := by
  refine K_iconst 0 dFa_neededUpon_0 rfl ?_
  refine K_istore_n 2 dFa_neededUpon_1 rfl (Nat.le_of_ble_eq_true rfl) rfl ?_
  refine K_iload_n 1 a0 dFa_neededUpon_2 rfl rfl ?_
  refine K_iconst 1 dFa_neededUpon_3 rfl ?_
  refine K_iadd dFa_neededUpon_4 (w32_id hF.1) ?_
  refine K_istore_n 3 dFa_neededUpon_5 rfl (Nat.le_of_ble_eq_true rfl) rfl ?_
  exact hF.2
set_option maxHeartbeats 8000000 in
theorem vFa_neededUpon_6 {E : jE} {μ : jMu} {Q : Option AV → jMu → Prop} {b : Nat} (hb : isB b) {l1 l2 l3 : Int} (hF : ((μ 45 7) = ((b : Nat) : Int)) ∧ (((μ b 13) ≤ l3 → (Q (some (jvI l2)) μ)) ∧ (¬ ((μ b 13) ≤ l3) → (Ci E mX_isIn [jvI l3, jvL (μ 45 9)] μ (fun r7 μ4 => ((r7 = 0 → ((-2147483648 ≤ (l3 + 1) ∧ (l3 + 1) < 2147483648)) ∧ (K 121 E mFa_neededUpon 6 [some (jvR 45), some (jvI l1), some (jvI l2), some (jvI (l3 + 1))] [] μ4 Q)) ∧ (¬ (r7 = 0) → ((0 ≤ l3 ∧ l3 < 40)) ∧ (Ci E mX_isIn [jvI l1, jvL (μ4 50 l3)] μ4 (fun r13 μ10 => ((r13 = 0 → ((-2147483648 ≤ (l3 + 1) ∧ (l3 + 1) < 2147483648)) ∧ (K 121 E mFa_neededUpon 6 [some (jvR 45), some (jvI l1), some (jvI l2), some (jvI (l3 + 1))] [] μ10 Q)) ∧ (¬ (r13 = 0) → ((-2147483648 ≤ (l2 + 1) ∧ (l2 + 1) < 2147483648) ∧ (-2147483648 ≤ (l3 + 1) ∧ (l3 + 1) < 2147483648)) ∧ (K 121 E mFa_neededUpon 6 [some (jvR 45), some (jvI l1), some (jvI (l2 + 1)), some (jvI (l3 + 1))] [] μ10 Q)))))))))))) : K 121 E mFa_neededUpon 6 [some (jvR 45), some (jvI l1), some (jvI l2), some (jvI l3)] [] μ Q := by
  refine K_iload_n 3 l3 dFa_neededUpon_6 rfl rfl ?_
  refine K_aload_n 0 45 dFa_neededUpon_7 rfl rfl ?_
  refine K_getf 3 7 45 (jvR ((b : Nat) : Int)) dFa_neededUpon_8 pf_Fa_40 rfl rfl (by decide) rfl (congrArg jvR hF.1) ?_
  refine K_getf 2 13 b (jvI (μ b 13)) dFa_neededUpon_11 pf_Fa_57 rfl (isB_c0 hb) (isB_n 0 (by decide) hb) rfl (isB_f0_13 hb) ?_
  refine K_icmp_ge 50 dFa_neededUpon_14 (by decide) (fun c1 => ?_) (fun c1 => ?_)
  · refine K_iload_n 2 l2 dFa_neededUpon_50 rfl rfl ?_
    exact K_iret dFa_neededUpon_51 (Or.inl rfl) (hF.2.1 c1)
  · refine K_iload_n 3 l3 dFa_neededUpon_17 rfl rfl ?_
    refine K_aload_n 0 45 dFa_neededUpon_18 rfl rfl ?_
    refine K_getf 3 9 45 (jvL (μ 45 9)) dFa_neededUpon_19 pf_Fa_79 rfl rfl (by decide) rfl rfl ?_
    refine K_callNi mX_isIn [jvI l3, jvL (μ 45 9)] dFa_neededUpon_22 pm_Fa_133 ⟨(Nat.le_of_ble_eq_true rfl), (Nat.le_of_ble_eq_true rfl)⟩ (Nat.le_of_ble_eq_true rfl) rfl (Nat.le_of_ble_eq_true rfl) (by decide) (Ci_mono (hF.2.2 c1) (fun r7 μ4 h5 => ?_))
    refine K_if_eq 44 dFa_neededUpon_25 (by decide) (fun c8 => ?_) (fun c8 => ?_)
    · refine K_iinc 3 dFa_neededUpon_44 (Nat.le_of_ble_eq_true rfl) rfl (w32_ok (h5.1 c8).1) rfl ?_
      refine K_goto 6 dFa_neededUpon_47 (by decide) ?_
      exact (h5.1 c8).2
    · refine K_iload_n 1 l1 dFa_neededUpon_28 rfl rfl ?_
      refine K_aload_n 0 45 dFa_neededUpon_29 rfl rfl ?_
      refine K_getf 3 4 45 (jvR 50) dFa_neededUpon_30 pf_Fa_26 rfl rfl (by decide) rfl rfl ?_
      refine K_iload_n 3 l3 dFa_neededUpon_33 rfl rfl ?_
      refine K_lald 50 40 dFa_neededUpon_34 rfl rfl (by decide) (h5.2 c8).1 ?_
      refine K_callNi mX_isIn [jvI l1, jvL (μ4 50 l3)] dFa_neededUpon_35 pm_Fa_133 ⟨(Nat.le_of_ble_eq_true rfl), (Nat.le_of_ble_eq_true rfl)⟩ (Nat.le_of_ble_eq_true rfl) rfl (Nat.le_of_ble_eq_true rfl) (by decide) (Ci_mono (h5.2 c8).2 (fun r13 μ10 h11 => ?_))
      refine K_if_eq 44 dFa_neededUpon_38 (by decide) (fun c14 => ?_) (fun c14 => ?_)
      · refine K_iinc 3 dFa_neededUpon_44 (Nat.le_of_ble_eq_true rfl) rfl (w32_ok (h11.1 c14).1) rfl ?_
        refine K_goto 6 dFa_neededUpon_47 (by decide) ?_
        exact (h11.1 c14).2
      · refine K_iinc 2 dFa_neededUpon_41 (Nat.le_of_ble_eq_true rfl) rfl (w32_ok (h11.2 c14).1.1) rfl ?_
        refine K_iinc 3 dFa_neededUpon_44 (Nat.le_of_ble_eq_true rfl) rfl (w32_ok (h11.2 c14).1.2) rfl ?_
        refine K_goto 6 dFa_neededUpon_47 (by decide) ?_
        exact (h11.2 c14).2
set_option maxHeartbeats 8000000 in
theorem vX_covers_0 {E : jE} {μ : jMu} {Q : Option AV → jMu → Prop} {b : Nat} (hb : isB b) {a0 : Int} (hF : ((μ 0 9) = ((b : Nat) : Int)) ∧ (Ci E mBk_hasStep [jvR ((b : Nat) : Int), jvI a0] μ (fun r4 μ1 => ((r4 = 0 → (Q (some (jvI (-1))) μ1)) ∧ (¬ (r4 = 0) → ((0 ≤ a0 ∧ a0 < 40)) ∧ (Q (some (jvI (μ1 48 a0))) μ1)))))) : K 121 E mX_covers 0 [some (jvR 0), some (jvI a0)] [] μ Q := by
  refine K_aload_n 0 0 dX_covers_0 rfl rfl ?_
  refine K_getf 0 9 0 (jvR ((b : Nat) : Int)) dX_covers_1 pf_X_26 rfl rfl (by decide) rfl (congrArg jvR hF.1) ?_
  refine K_iload_n 1 a0 dX_covers_4 rfl rfl ?_
  refine K_callVi mBk_hasStep 2 b [jvI a0] dX_covers_5 pm_X_221 ⟨_, rfl, rfl⟩ ⟨(Nat.le_of_ble_eq_true rfl), (Nat.le_of_ble_eq_true rfl)⟩ rfl (isB_c0 hb) (isB_n 0 (by decide) hb) (Nat.le_of_ble_eq_true rfl) rfl (Nat.le_of_ble_eq_true rfl) (by decide) (Ci_mono hF.2 (fun r4 μ1 h2 => ?_))
  refine K_if_eq 23 dX_covers_8 (by decide) (fun c5 => ?_) (fun c5 => ?_)
  · refine K_iconst (-1) dX_covers_23 rfl ?_
    exact K_iret dX_covers_24 (Or.inl rfl) (h2.1 c5)
  · refine K_aload_n 0 0 dX_covers_11 rfl rfl ?_
    refine K_getf 0 2 0 (jvR 45) dX_covers_12 pf_X_38 rfl rfl (by decide) rfl rfl ?_
    refine K_getf 3 2 45 (jvR 48) dX_covers_15 pf_X_291 rfl rfl (by decide) rfl rfl ?_
    refine K_iload_n 1 a0 dX_covers_18 rfl rfl ?_
    refine K_iald 48 40 dX_covers_19 rfl rfl (by decide) (h2.2 c5).1 ?_
    refine K_goto 24 dX_covers_20 (by decide) ?_
    exact K_iret dX_covers_24 (Or.inl rfl) (h2.2 c5).2
set_option maxHeartbeats 8000000 in
theorem vX_vital_0 {E : jE} {μ : jMu} {Q : Option AV → jMu → Prop} {b : Nat} (hb : isB b) {a0 : Int} (hF : ((μ 0 9) = ((b : Nat) : Int)) ∧ (Ci E mBk_hasStep [jvR ((b : Nat) : Int), jvI a0] μ (fun r4 μ1 => ((r4 = 0 → (Q (some (jvI (-1))) μ1)) ∧ (¬ (r4 = 0) → (Ci E mX_isIn [jvI a0, jvL (μ1 45 12)] μ1 (fun r11 μ8 => (Ci E mX_flag [jvI r11] μ8 (fun r15 μ12 => (Q (some (jvI r15)) μ12)))))))))) : K 121 E mX_vital 0 [some (jvR 0), some (jvI a0)] [] μ Q := by
  refine K_aload_n 0 0 dX_vital_0 rfl rfl ?_
  refine K_getf 0 9 0 (jvR ((b : Nat) : Int)) dX_vital_1 pf_X_26 rfl rfl (by decide) rfl (congrArg jvR hF.1) ?_
  refine K_iload_n 1 a0 dX_vital_4 rfl rfl ?_
  refine K_callVi mBk_hasStep 2 b [jvI a0] dX_vital_5 pm_X_221 ⟨_, rfl, rfl⟩ ⟨(Nat.le_of_ble_eq_true rfl), (Nat.le_of_ble_eq_true rfl)⟩ rfl (isB_c0 hb) (isB_n 0 (by decide) hb) (Nat.le_of_ble_eq_true rfl) rfl (Nat.le_of_ble_eq_true rfl) (by decide) (Ci_mono hF.2 (fun r4 μ1 h2 => ?_))
  refine K_if_eq 28 dX_vital_8 (by decide) (fun c5 => ?_) (fun c5 => ?_)
  · refine K_iconst (-1) dX_vital_28 rfl ?_
    exact K_iret dX_vital_29 (Or.inl rfl) (h2.1 c5)
  · refine K_iload_n 1 a0 dX_vital_11 rfl rfl ?_
    refine K_aload_n 0 0 dX_vital_12 rfl rfl ?_
    refine K_getf 0 2 0 (jvR 45) dX_vital_13 pf_X_38 rfl rfl (by decide) rfl rfl ?_
    refine K_getf 3 12 45 (jvL (μ1 45 12)) dX_vital_16 pf_X_294 rfl rfl (by decide) rfl rfl ?_
    refine K_callSi mX_isIn [jvI a0, jvL (μ1 45 12)] dX_vital_19 pm_X_230 ⟨(Nat.le_of_ble_eq_true rfl), (Nat.le_of_ble_eq_true rfl)⟩ (Nat.le_of_ble_eq_true rfl) rfl (Nat.le_of_ble_eq_true rfl) (by decide) (Ci_mono (h2.2 c5) (fun r11 μ8 h9 => ?_))
    refine K_callSi mX_flag [jvI r11] dX_vital_22 pm_X_213 ⟨(Nat.le_of_ble_eq_true rfl), (Nat.le_of_ble_eq_true rfl)⟩ (Nat.le_of_ble_eq_true rfl) rfl (Nat.le_of_ble_eq_true rfl) (by decide) (Ci_mono h9 (fun r15 μ12 h13 => ?_))
    refine K_goto 29 dX_vital_25 (by decide) ?_
    exact K_iret dX_vital_29 (Or.inl rfl) h13
set_option maxHeartbeats 8000000 in
theorem vX_vitals_0 {E : jE} {μ : jMu} {Q : Option AV → jMu → Prop} {a0 : Int} (hF : (Ci E mX_kthOf [jvL (μ 45 12), jvI a0] μ (fun r4 μ1 => (Q (some (jvI r4)) μ1)))) : K 121 E mX_vitals 0 [some (jvR 0), some (jvI a0)] [] μ Q := by
  refine K_aload_n 0 0 dX_vitals_0 rfl rfl ?_
  refine K_getf 0 2 0 (jvR 45) dX_vitals_1 pf_X_38 rfl rfl (by decide) rfl rfl ?_
  refine K_getf 3 12 45 (jvL (μ 45 12)) dX_vitals_4 pf_X_294 rfl rfl (by decide) rfl rfl ?_
  refine K_iload_n 1 a0 dX_vitals_7 rfl rfl ?_
  refine K_callSi mX_kthOf [jvL (μ 45 12), jvI a0] dX_vitals_8 pm_X_269 ⟨(Nat.le_of_ble_eq_true rfl), (Nat.le_of_ble_eq_true rfl)⟩ (Nat.le_of_ble_eq_true rfl) rfl (Nat.le_of_ble_eq_true rfl) (by decide) (Ci_mono hF (fun r4 μ1 h2 => ?_))
  exact K_iret dX_vitals_11 (Or.inl rfl) h2
set_option maxHeartbeats 8000000 in
theorem vX_beside_0 {E : jE} {μ : jMu} {Q : Option AV → jMu → Prop} {b : Nat} (hb : isB b) {a0 a1 a2 : Int} (hF : ((μ 0 9) = ((b : Nat) : Int)) ∧ (Ci E mBk_hasStep [jvR ((b : Nat) : Int), jvI a0] μ (fun r4 μ1 => ((r4 = 0 → (Q (some (jvI (-1))) μ1)) ∧ (¬ (r4 = 0) → ((μ1 0 9) = ((b : Nat) : Int)) ∧ (Ci E mBk_hasStep [jvR ((b : Nat) : Int), jvI a1] μ1 (fun r11 μ8 => ((¬ r11 = 0 → ((μ8 0 9) = ((b : Nat) : Int) ∧ (μ8 0 9) = ((b : Nat) : Int) ∧ (0 ≤ a0 ∧ a0 < 40) ∧ (μ8 0 9) = ((b : Nat) : Int) ∧ (0 ≤ a1 ∧ a1 < 40)) ∧ (Cv E mBe_lay [jvR 59, jvR ((b + 1 : Nat) : Int), jvI (μ8 (b + 13) a0), jvI (μ8 (b + 13) a1)] μ8 (fun μ14 => ((a2 = 0 → (Q (some (jvI (μ14 59 3))) μ14)) ∧ (a2 = 1 → (Q (some (jvI (μ14 59 4))) μ14)) ∧ (a2 = 2 → (Q (some (jvI (μ14 59 5))) μ14)) ∧ ((a2 < 0 ∨ 2 < a2) → (Q (some (jvI (-1))) μ14)))))) ∧ (r11 = 0 → (Q (some (jvI (-1))) μ8)))))))))) : K 121 E mX_beside 0 [some (jvR 0), some (jvI a0), some (jvI a1), some (jvI a2)] [] μ Q := by
  refine K_aload_n 0 0 dX_beside_0 rfl rfl ?_
  refine K_getf 0 9 0 (jvR ((b : Nat) : Int)) dX_beside_1 pf_X_26 rfl rfl (by decide) rfl (congrArg jvR hF.1) ?_
  refine K_iload_n 1 a0 dX_beside_4 rfl rfl ?_
  refine K_callVi mBk_hasStep 2 b [jvI a0] dX_beside_5 pm_X_221 ⟨_, rfl, rfl⟩ ⟨(Nat.le_of_ble_eq_true rfl), (Nat.le_of_ble_eq_true rfl)⟩ rfl (isB_c0 hb) (isB_n 0 (by decide) hb) (Nat.le_of_ble_eq_true rfl) rfl (Nat.le_of_ble_eq_true rfl) (by decide) (Ci_mono hF.2 (fun r4 μ1 h2 => ?_))
  refine K_if_eq 22 dX_beside_8 (by decide) (fun c5 => ?_) (fun c5 => ?_)
  · refine K_iconst (-1) dX_beside_22 rfl ?_
    exact K_iret dX_beside_23 (Or.inl rfl) (h2.1 c5)
  · refine K_aload_n 0 0 dX_beside_11 rfl rfl ?_
    refine K_getf 0 9 0 (jvR ((b : Nat) : Int)) dX_beside_12 pf_X_26 rfl rfl (by decide) rfl (congrArg jvR (h2.2 c5).1) ?_
    refine K_iload_n 2 a1 dX_beside_15 rfl rfl ?_
    refine K_callVi mBk_hasStep 2 b [jvI a1] dX_beside_16 pm_X_221 ⟨_, rfl, rfl⟩ ⟨(Nat.le_of_ble_eq_true rfl), (Nat.le_of_ble_eq_true rfl)⟩ rfl (isB_c0 hb) (isB_n 0 (by decide) hb) (Nat.le_of_ble_eq_true rfl) rfl (Nat.le_of_ble_eq_true rfl) (by decide) (Ci_mono (h2.2 c5).2 (fun r11 μ8 h9 => ?_))
    refine K_if_ne 24 dX_beside_19 (by decide) (fun c12 => ?_) (fun c12 => ?_)
    · refine K_aload_n 0 0 dX_beside_24 rfl rfl ?_
      refine K_getf 0 3 0 (jvR 59) dX_beside_25 pf_X_45 rfl rfl (by decide) rfl rfl ?_
      refine K_aload_n 0 0 dX_beside_28 rfl rfl ?_
      refine K_getf 0 9 0 (jvR ((b : Nat) : Int)) dX_beside_29 pf_X_26 rfl rfl (by decide) rfl (congrArg jvR (h9.1 c12).1.1) ?_
      refine K_getf 2 0 b (jvR ((b + 1 : Nat) : Int)) dX_beside_32 pf_X_142 rfl (isB_c0 hb) (isB_n 0 (by decide) hb) rfl (isB_f0_0 hb) ?_
      refine K_aload_n 0 0 dX_beside_35 rfl rfl ?_
      refine K_getf 0 9 0 (jvR ((b : Nat) : Int)) dX_beside_36 pf_X_26 rfl rfl (by decide) rfl (congrArg jvR (h9.1 c12).1.2.1) ?_
      refine K_getf 2 6 b (jvR ((b + 13 : Nat) : Int)) dX_beside_39 pf_X_247 rfl (isB_c0 hb) (isB_n 0 (by decide) hb) rfl (isB_f0_6 hb) ?_
      refine K_iload_n 1 a0 dX_beside_42 rfl rfl ?_
      refine K_iald (b + 13) 40 dX_beside_43 rfl (isB_c13 hb) (isB_n 13 (by decide) hb) (h9.1 c12).1.2.2.1 ?_
      refine K_aload_n 0 0 dX_beside_44 rfl rfl ?_
      refine K_getf 0 9 0 (jvR ((b : Nat) : Int)) dX_beside_45 pf_X_26 rfl rfl (by decide) rfl (congrArg jvR (h9.1 c12).1.2.2.2.1) ?_
      refine K_getf 2 6 b (jvR ((b + 13 : Nat) : Int)) dX_beside_48 pf_X_247 rfl (isB_c0 hb) (isB_n 0 (by decide) hb) rfl (isB_f0_6 hb) ?_
      refine K_iload_n 2 a1 dX_beside_51 rfl rfl ?_
      refine K_iald (b + 13) 40 dX_beside_52 rfl (isB_c13 hb) (isB_n 13 (by decide) hb) (h9.1 c12).1.2.2.2.2 ?_
      refine K_callVv mBe_lay 1 59 [jvR ((b + 1 : Nat) : Int), jvI (μ8 (b + 13) a0), jvI (μ8 (b + 13) a1)] dX_beside_53 pm_X_297 ⟨_, rfl, rfl⟩ ⟨(Nat.le_of_ble_eq_true rfl), (Nat.le_of_ble_eq_true rfl)⟩ rfl rfl (by decide) (Nat.le_of_ble_eq_true rfl) rfl (Nat.le_of_ble_eq_true rfl) (by decide) (Cv_mono (h9.1 c12).2 (fun μ14 h15 => ?_))
      refine K_iload_n 3 a2 dX_beside_56 rfl rfl ?_
      refine K_table dX_beside_57 (fun i hi9 ha9 => ?_) rfl 108 (by decide) (fun c17 => ?_)
      · match i, hi9, ha9 with
        | 0, _, ha9 =>
          have c17 : a2 = 0 := by omega
          refine ⟨_, 84, rfl, by decide, ?_⟩
          refine K_aload_n 0 0 dX_beside_84 rfl rfl ?_
          refine K_getf 0 3 0 (jvR 59) dX_beside_85 pf_X_45 rfl rfl (by decide) rfl rfl ?_
          refine K_getf 1 3 59 (jvI (μ14 59 3)) dX_beside_88 pf_X_301 rfl rfl (by decide) rfl rfl ?_
          exact K_iret dX_beside_91 (Or.inl rfl) (h15.1 c17)
        | 1, _, ha9 =>
          have c17 : a2 = 1 := by omega
          refine ⟨_, 92, rfl, by decide, ?_⟩
          refine K_aload_n 0 0 dX_beside_92 rfl rfl ?_
          refine K_getf 0 3 0 (jvR 59) dX_beside_93 pf_X_45 rfl rfl (by decide) rfl rfl ?_
          refine K_getf 1 4 59 (jvI (μ14 59 4)) dX_beside_96 pf_X_303 rfl rfl (by decide) rfl rfl ?_
          exact K_iret dX_beside_99 (Or.inl rfl) (h15.2.1 c17)
        | 2, _, ha9 =>
          have c17 : a2 = 2 := by omega
          refine ⟨_, 100, rfl, by decide, ?_⟩
          refine K_aload_n 0 0 dX_beside_100 rfl rfl ?_
          refine K_getf 0 3 0 (jvR 59) dX_beside_101 pf_X_45 rfl rfl (by decide) rfl rfl ?_
          refine K_getf 1 5 59 (jvI (μ14 59 5)) dX_beside_104 pf_X_306 rfl rfl (by decide) rfl rfl ?_
          exact K_iret dX_beside_107 (Or.inl rfl) (h15.2.2.1 c17)
        | i + 3, hi9, _ => exact absurd hi9 (by simp <;> omega)
      · skip
        refine K_iconst (-1) dX_beside_108 rfl ?_
        exact K_iret dX_beside_109 (Or.inl rfl) (h15.2.2.2 c17)
    · refine K_iconst (-1) dX_beside_22 rfl ?_
      exact K_iret dX_beside_23 (Or.inl rfl) (h9.2 c12)
set_option maxHeartbeats 8000000 in
theorem vBe_lay_0 {E : jE} {μ : jMu} {Q : Option AV → jMu → Prop} {b : Nat} (hb : isB b) {a1 a2 : Int} (hF : (K 121 E mBe_lay 21 [some (jvR 59), some (jvR ((b + 1 : Nat) : Int)), some (jvI a1), some (jvI a2), some (jvI a1), some (jvI a2)] [] (j_up (j_up (j_up μ 59 3 0) 59 4 0) 59 5 0) Q)) : K 121 E mBe_lay 0 [some (jvR 59), some (jvR ((b + 1 : Nat) : Int)), some (jvI a1), some (jvI a2), none, none] [] μ Q := by
  refine K_iload_n 2 a1 dBe_lay_0 rfl rfl ?_
  refine K_istore 4 dBe_lay_1 (Nat.le_of_ble_eq_true rfl) rfl ?_
  refine K_iload_n 3 a2 dBe_lay_3 rfl rfl ?_
  refine K_istore 5 dBe_lay_4 (Nat.le_of_ble_eq_true rfl) rfl ?_
  refine K_aload_n 0 59 dBe_lay_6 rfl rfl ?_
  refine K_iconst 0 dBe_lay_7 rfl ?_
  refine K_putf 1 3 59 (x := 0) dBe_lay_8 pf_Be_21 rfl rfl (by decide) rfl rfl rfl rfl trivial ?_
  refine K_aload_n 0 59 dBe_lay_11 rfl rfl ?_
  refine K_iconst 0 dBe_lay_12 rfl ?_
  refine K_putf 1 4 59 (x := 0) dBe_lay_13 pf_Be_25 rfl rfl (by decide) rfl rfl rfl rfl trivial ?_
  refine K_aload_n 0 59 dBe_lay_16 rfl rfl ?_
  refine K_iconst 0 dBe_lay_17 rfl ?_
  refine K_putf 1 5 59 (x := 0) dBe_lay_18 pf_Be_28 rfl rfl (by decide) rfl rfl rfl rfl trivial ?_
  exact hF
set_option maxHeartbeats 8000000 in
theorem vBe_lay_21 {E : jE} {μ : jMu} {Q : Option AV → jMu → Prop} {b : Nat} (hb : isB b) {l2 l3 l4 l5 : Int} (hF : ((24 ≤ (μ 59 3) → (Q none μ)) ∧ (¬ (24 ≤ (μ 59 3)) → ((0 ≤ l2 ∧ l2 < 400)) ∧ (((μ (b + 6) l2) ≤ l4 → (Q none μ)) ∧ (¬ ((μ (b + 6) l2) ≤ l4) → ((0 ≤ l3 ∧ l3 < 400)) ∧ (((μ (b + 6) l3) ≤ l5 → (Q none μ)) ∧ (¬ ((μ (b + 6) l3) ≤ l5) → ((0 ≤ l4 ∧ l4 < 400) ∧ (0 ≤ l5 ∧ l5 < 400)) ∧ ((¬ (μ (b + 5) l4) = (μ (b + 5) l5) → (Ci E mBe_holeFor [jvR 59, jvR ((b + 1 : Nat) : Int), jvI l4, jvI l5] μ (fun r15 μ12 => ((-2147483648 ≤ (200 + r15) ∧ (200 + r15) < 2147483648) ∧ (0 ≤ (μ 59 3) ∧ (μ 59 3) < 24) ∧ (-2147483648 ≤ ((μ12 59 4) + 1) ∧ ((μ12 59 4) + 1) < 2147483648) ∧ (0 ≤ l4 ∧ l4 < 400) ∧ (0 ≤ l5 ∧ l5 < 400) ∧ (-2147483648 ≤ ((μ12 59 3) + 1) ∧ ((μ12 59 3) + 1) < 2147483648)) ∧ (K 121 E mBe_lay 21 [some (jvR 59), some (jvR ((b + 1 : Nat) : Int)), some (jvI l2), some (jvI l3), some (jvI ((j_up (j_up μ12 60 (μ 59 3) (200 + r15)) 59 4 ((μ12 59 4) + 1)) (b + 6) l4)), some (jvI ((j_up (j_up μ12 60 (μ 59 3) (200 + r15)) 59 4 ((μ12 59 4) + 1)) (b + 6) l5))] [] (j_up (j_up (j_up μ12 60 (μ 59 3) (200 + r15)) 59 4 ((μ12 59 4) + 1)) 59 3 ((μ12 59 3) + 1)) Q)))) ∧ ((μ (b + 5) l4) = (μ (b + 5) l5) → ((0 ≤ l4 ∧ l4 < 400) ∧ (0 ≤ (μ 59 3) ∧ (μ 59 3) < 24) ∧ (-2147483648 ≤ (l4 + 1) ∧ (l4 + 1) < 2147483648) ∧ (-2147483648 ≤ (l5 + 1) ∧ (l5 + 1) < 2147483648) ∧ (-2147483648 ≤ ((μ 59 3) + 1) ∧ ((μ 59 3) + 1) < 2147483648)) ∧ (K 121 E mBe_lay 21 [some (jvR 59), some (jvR ((b + 1 : Nat) : Int)), some (jvI l2), some (jvI l3), some (jvI (l4 + 1)), some (jvI (l5 + 1))] [] (j_up (j_up μ 60 (μ 59 3) (μ (b + 5) l4)) 59 3 ((μ 59 3) + 1)) Q)))))))))) : K 121 E mBe_lay 21 [some (jvR 59), some (jvR ((b + 1 : Nat) : Int)), some (jvI l2), some (jvI l3), some (jvI l4), some (jvI l5)] [] μ Q := by
  refine K_aload_n 0 59 dBe_lay_21 rfl rfl ?_
  refine K_getf 1 3 59 (jvI (μ 59 3)) dBe_lay_22 pf_Be_21 rfl rfl (by decide) rfl rfl ?_
  refine K_bipush 24 dBe_lay_25 rfl ?_
  refine K_icmp_ge 157 dBe_lay_27 (by decide) (fun c1 => ?_) (fun c1 => ?_)
  · exact K_vret dBe_lay_157 rfl (hF.1 c1)
  · refine K_iload 4 l4 dBe_lay_30 rfl ?_
    refine K_aload_n 1 ((b + 1 : Nat) : Int) dBe_lay_32 rfl rfl ?_
    refine K_getf 9 4 (b + 1) (jvR ((b + 6 : Nat) : Int)) dBe_lay_33 pf_Be_31 rfl (isB_c1 hb) (isB_n 1 (by decide) hb) rfl (isB_f1_4 hb) ?_
    refine K_iload_n 2 l2 dBe_lay_36 rfl rfl ?_
    refine K_iald (b + 6) 400 dBe_lay_37 rfl (isB_c6 hb) (isB_n 6 (by decide) hb) (hF.2 c1).1 ?_
    refine K_icmp_ge 157 dBe_lay_38 (by decide) (fun c4 => ?_) (fun c4 => ?_)
    · exact K_vret dBe_lay_157 rfl ((hF.2 c1).2.1 c4)
    · refine K_iload 5 l5 dBe_lay_41 rfl ?_
      refine K_aload_n 1 ((b + 1 : Nat) : Int) dBe_lay_43 rfl rfl ?_
      refine K_getf 9 4 (b + 1) (jvR ((b + 6 : Nat) : Int)) dBe_lay_44 pf_Be_31 rfl (isB_c1 hb) (isB_n 1 (by decide) hb) rfl (isB_f1_4 hb) ?_
      refine K_iload_n 3 l3 dBe_lay_47 rfl rfl ?_
      refine K_iald (b + 6) 400 dBe_lay_48 rfl (isB_c6 hb) (isB_n 6 (by decide) hb) ((hF.2 c1).2.2 c4).1 ?_
      refine K_icmp_ge 157 dBe_lay_49 (by decide) (fun c7 => ?_) (fun c7 => ?_)
      · exact K_vret dBe_lay_157 rfl (((hF.2 c1).2.2 c4).2.1 c7)
      · refine K_aload_n 1 ((b + 1 : Nat) : Int) dBe_lay_52 rfl rfl ?_
        refine K_getf 9 3 (b + 1) (jvR ((b + 5 : Nat) : Int)) dBe_lay_53 pf_Be_34 rfl (isB_c1 hb) (isB_n 1 (by decide) hb) rfl (isB_f1_3 hb) ?_
        refine K_iload 4 l4 dBe_lay_56 rfl ?_
        refine K_iald (b + 5) 400 dBe_lay_58 rfl (isB_c5 hb) (isB_n 5 (by decide) hb) (((hF.2 c1).2.2 c4).2.2 c7).1.1 ?_
        refine K_aload_n 1 ((b + 1 : Nat) : Int) dBe_lay_59 rfl rfl ?_
        refine K_getf 9 3 (b + 1) (jvR ((b + 5 : Nat) : Int)) dBe_lay_60 pf_Be_34 rfl (isB_c1 hb) (isB_n 1 (by decide) hb) rfl (isB_f1_3 hb) ?_
        refine K_iload 5 l5 dBe_lay_63 rfl ?_
        refine K_iald (b + 5) 400 dBe_lay_65 rfl (isB_c5 hb) (isB_n 5 (by decide) hb) (((hF.2 c1).2.2 c4).2.2 c7).1.2 ?_
        refine K_icmp_ne 94 dBe_lay_66 (by decide) (fun c10 => ?_) (fun c10 => ?_)
        · refine K_aload_n 0 59 dBe_lay_94 rfl rfl ?_
          refine K_getf 1 0 59 (jvR 60) dBe_lay_95 pf_Be_9 rfl rfl (by decide) rfl rfl ?_
          refine K_aload_n 0 59 dBe_lay_98 rfl rfl ?_
          refine K_getf 1 3 59 (jvI (μ 59 3)) dBe_lay_99 pf_Be_21 rfl rfl (by decide) rfl rfl ?_
          refine K_sipush 200 dBe_lay_102 rfl ?_
          refine K_aload_n 0 59 dBe_lay_105 rfl rfl ?_
          refine K_aload_n 1 ((b + 1 : Nat) : Int) dBe_lay_106 rfl rfl ?_
          refine K_iload 4 l4 dBe_lay_107 rfl ?_
          refine K_iload 5 l5 dBe_lay_109 rfl ?_
          refine K_callVi mBe_holeFor 1 59 [jvR ((b + 1 : Nat) : Int), jvI l4, jvI l5] dBe_lay_111 pm_Be_35 ⟨_, rfl, rfl⟩ ⟨(Nat.le_of_ble_eq_true rfl), (Nat.le_of_ble_eq_true rfl)⟩ rfl rfl (by decide) (Nat.le_of_ble_eq_true rfl) rfl (Nat.le_of_ble_eq_true rfl) (by decide) (Ci_mono ((((hF.2 c1).2.2 c4).2.2 c7).2.1 c10) (fun r15 μ12 h13 => ?_))
          refine K_iadd dBe_lay_114 (w32_id h13.1.1) ?_
          refine K_iast 60 24 dBe_lay_115 rfl rfl (by decide) h13.1.2.1 ?_
          refine K_aload_n 0 59 dBe_lay_116 rfl rfl ?_
          refine K_dup dBe_lay_117 (fun _ h => by cases h) ?_
          refine K_getf 1 4 59 (jvI (μ12 59 4)) dBe_lay_118 pf_Be_25 rfl rfl (by decide) rfl rfl ?_
          refine K_iconst 1 dBe_lay_121 rfl ?_
          refine K_iadd dBe_lay_122 (w32_id h13.1.2.2.1) ?_
          refine K_putf 1 4 59 (x := ((μ12 59 4) + 1)) dBe_lay_123 pf_Be_25 rfl rfl (by decide) rfl rfl rfl rfl trivial ?_
          refine K_aload_n 1 ((b + 1 : Nat) : Int) dBe_lay_126 rfl rfl ?_
          refine K_getf 9 4 (b + 1) (jvR ((b + 6 : Nat) : Int)) dBe_lay_127 pf_Be_31 rfl (isB_c1 hb) (isB_n 1 (by decide) hb) rfl (isB_f1_4 hb) ?_
          refine K_iload 4 l4 dBe_lay_130 rfl ?_
          refine K_iald (b + 6) 400 dBe_lay_132 rfl (isB_c6 hb) (isB_n 6 (by decide) hb) h13.1.2.2.2.1 ?_
          refine K_istore 4 dBe_lay_133 (Nat.le_of_ble_eq_true rfl) rfl ?_
          refine K_aload_n 1 ((b + 1 : Nat) : Int) dBe_lay_135 rfl rfl ?_
          refine K_getf 9 4 (b + 1) (jvR ((b + 6 : Nat) : Int)) dBe_lay_136 pf_Be_31 rfl (isB_c1 hb) (isB_n 1 (by decide) hb) rfl (isB_f1_4 hb) ?_
          refine K_iload 5 l5 dBe_lay_139 rfl ?_
          refine K_iald (b + 6) 400 dBe_lay_141 rfl (isB_c6 hb) (isB_n 6 (by decide) hb) h13.1.2.2.2.2.1 ?_
          refine K_istore 5 dBe_lay_142 (Nat.le_of_ble_eq_true rfl) rfl ?_
          refine K_aload_n 0 59 dBe_lay_144 rfl rfl ?_
          refine K_dup dBe_lay_145 (fun _ h => by cases h) ?_
          refine K_getf 1 3 59 (jvI (μ12 59 3)) dBe_lay_146 pf_Be_21 rfl rfl (by decide) rfl rfl ?_
          refine K_iconst 1 dBe_lay_149 rfl ?_
          refine K_iadd dBe_lay_150 (w32_id h13.1.2.2.2.2.2) ?_
          refine K_putf 1 3 59 (x := ((μ12 59 3) + 1)) dBe_lay_151 pf_Be_21 rfl rfl (by decide) rfl rfl rfl rfl trivial ?_
          refine K_goto 21 dBe_lay_154 (by decide) ?_
          exact h13.2
        · refine K_aload_n 0 59 dBe_lay_69 rfl rfl ?_
          refine K_getf 1 0 59 (jvR 60) dBe_lay_70 pf_Be_9 rfl rfl (by decide) rfl rfl ?_
          refine K_aload_n 0 59 dBe_lay_73 rfl rfl ?_
          refine K_getf 1 3 59 (jvI (μ 59 3)) dBe_lay_74 pf_Be_21 rfl rfl (by decide) rfl rfl ?_
          refine K_aload_n 1 ((b + 1 : Nat) : Int) dBe_lay_77 rfl rfl ?_
          refine K_getf 9 3 (b + 1) (jvR ((b + 5 : Nat) : Int)) dBe_lay_78 pf_Be_34 rfl (isB_c1 hb) (isB_n 1 (by decide) hb) rfl (isB_f1_3 hb) ?_
          refine K_iload 4 l4 dBe_lay_81 rfl ?_
          refine K_iald (b + 5) 400 dBe_lay_83 rfl (isB_c5 hb) (isB_n 5 (by decide) hb) ((((hF.2 c1).2.2 c4).2.2 c7).2.2 c10).1.1 ?_
          refine K_iast 60 24 dBe_lay_84 rfl rfl (by decide) ((((hF.2 c1).2.2 c4).2.2 c7).2.2 c10).1.2.1 ?_
          refine K_iinc 4 dBe_lay_85 (Nat.le_of_ble_eq_true rfl) rfl (w32_ok ((((hF.2 c1).2.2 c4).2.2 c7).2.2 c10).1.2.2.1) rfl ?_
          refine K_iinc 5 dBe_lay_88 (Nat.le_of_ble_eq_true rfl) rfl (w32_ok ((((hF.2 c1).2.2 c4).2.2 c7).2.2 c10).1.2.2.2.1) rfl ?_
          refine K_goto 144 dBe_lay_91 (by decide) ?_
          refine K_aload_n 0 59 dBe_lay_144 rfl rfl ?_
          refine K_dup dBe_lay_145 (fun _ h => by cases h) ?_
          refine K_getf 1 3 59 (jvI (μ 59 3)) dBe_lay_146 pf_Be_21 rfl rfl (by decide) rfl rfl ?_
          refine K_iconst 1 dBe_lay_149 rfl ?_
          refine K_iadd dBe_lay_150 (w32_id ((((hF.2 c1).2.2 c4).2.2 c7).2.2 c10).1.2.2.2.2) ?_
          refine K_putf 1 3 59 (x := ((μ 59 3) + 1)) dBe_lay_151 pf_Be_21 rfl rfl (by decide) rfl rfl rfl rfl trivial ?_
          refine K_goto 21 dBe_lay_154 (by decide) ?_
          exact ((((hF.2 c1).2.2 c4).2.2 c7).2.2 c10).2
set_option maxHeartbeats 8000000 in
theorem vBe_holeFor_0 {E : jE} {μ : jMu} {Q : Option AV → jMu → Prop} {b : Nat} (hb : isB b) {a1 a2 : Int} (hF : (K 121 E mBe_holeFor 3 [some (jvR 59), some (jvR ((b + 1 : Nat) : Int)), some (jvI a1), some (jvI a2), some (jvI 0)] [] μ Q)) : K 121 E mBe_holeFor 0 [some (jvR 59), some (jvR ((b + 1 : Nat) : Int)), some (jvI a1), some (jvI a2), none] [] μ Q := by
  refine K_iconst 0 dBe_holeFor_0 rfl ?_
  refine K_istore 4 dBe_holeFor_1 (Nat.le_of_ble_eq_true rfl) rfl ?_
  exact hF
set_option maxHeartbeats 8000000 in
theorem vBe_holeFor_3 {E : jE} {μ : jMu} {Q : Option AV → jMu → Prop} {b : Nat} (hb : isB b) {l2 l3 l4 : Int} (hF : (((μ 59 5) ≤ l4 → ((0 ≤ (μ 59 5) ∧ (μ 59 5) < 24) ∧ (0 ≤ (μ 59 5) ∧ (μ 59 5) < 24) ∧ (-2147483648 ≤ ((μ 59 5) + 1) ∧ ((μ 59 5) + 1) < 2147483648) ∧ (-2147483648 ≤ (((μ 59 5) + 1) - 1) ∧ (((μ 59 5) + 1) - 1) < 2147483648)) ∧ (Q (some (jvI (((μ 59 5) + 1) - 1))) (j_up (j_up (j_up μ 61 (μ 59 5) l2) 62 (μ 59 5) l3) 59 5 ((μ 59 5) + 1)))) ∧ (¬ ((μ 59 5) ≤ l4) → ((0 ≤ l4 ∧ l4 < 24)) ∧ (Ci E mTe_areSame [jvR ((b + 1 : Nat) : Int), jvI (μ 61 l4), jvI l2] μ (fun r7 μ4 => ((r7 = 0 → ((-2147483648 ≤ (l4 + 1) ∧ (l4 + 1) < 2147483648)) ∧ (K 121 E mBe_holeFor 3 [some (jvR 59), some (jvR ((b + 1 : Nat) : Int)), some (jvI l2), some (jvI l3), some (jvI (l4 + 1))] [] μ4 Q)) ∧ (¬ (r7 = 0) → ((0 ≤ l4 ∧ l4 < 24)) ∧ (Ci E mTe_areSame [jvR ((b + 1 : Nat) : Int), jvI (μ4 62 l4), jvI l3] μ4 (fun r13 μ10 => ((r13 = 0 → ((-2147483648 ≤ (l4 + 1) ∧ (l4 + 1) < 2147483648)) ∧ (K 121 E mBe_holeFor 3 [some (jvR 59), some (jvR ((b + 1 : Nat) : Int)), some (jvI l2), some (jvI l3), some (jvI (l4 + 1))] [] μ10 Q)) ∧ (¬ (r13 = 0) → (Q (some (jvI l4)) μ10)))))))))))) : K 121 E mBe_holeFor 3 [some (jvR 59), some (jvR ((b + 1 : Nat) : Int)), some (jvI l2), some (jvI l3), some (jvI l4)] [] μ Q := by
  refine K_iload 4 l4 dBe_holeFor_3 rfl ?_
  refine K_aload_n 0 59 dBe_holeFor_5 rfl rfl ?_
  refine K_getf 1 5 59 (jvI (μ 59 5)) dBe_holeFor_6 pf_Be_28 rfl rfl (by decide) rfl rfl ?_
  refine K_icmp_ge 51 dBe_holeFor_9 (by decide) (fun c1 => ?_) (fun c1 => ?_)
  · refine K_aload_n 0 59 dBe_holeFor_51 rfl rfl ?_
    refine K_getf 1 1 59 (jvR 61) dBe_holeFor_52 pf_Be_15 rfl rfl (by decide) rfl rfl ?_
    refine K_aload_n 0 59 dBe_holeFor_55 rfl rfl ?_
    refine K_getf 1 5 59 (jvI (μ 59 5)) dBe_holeFor_56 pf_Be_28 rfl rfl (by decide) rfl rfl ?_
    refine K_iload_n 2 l2 dBe_holeFor_59 rfl rfl ?_
    refine K_iast 61 24 dBe_holeFor_60 rfl rfl (by decide) (hF.1 c1).1.1 ?_
    refine K_aload_n 0 59 dBe_holeFor_61 rfl rfl ?_
    refine K_getf 1 2 59 (jvR 62) dBe_holeFor_62 pf_Be_18 rfl rfl (by decide) rfl rfl ?_
    refine K_aload_n 0 59 dBe_holeFor_65 rfl rfl ?_
    refine K_getf 1 5 59 (jvI (μ 59 5)) dBe_holeFor_66 pf_Be_28 rfl rfl (by decide) rfl rfl ?_
    refine K_iload_n 3 l3 dBe_holeFor_69 rfl rfl ?_
    refine K_iast 62 24 dBe_holeFor_70 rfl rfl (by decide) (hF.1 c1).1.2.1 ?_
    refine K_aload_n 0 59 dBe_holeFor_71 rfl rfl ?_
    refine K_dup dBe_holeFor_72 (fun _ h => by cases h) ?_
    refine K_getf 1 5 59 (jvI (μ 59 5)) dBe_holeFor_73 pf_Be_28 rfl rfl (by decide) rfl rfl ?_
    refine K_iconst 1 dBe_holeFor_76 rfl ?_
    refine K_iadd dBe_holeFor_77 (w32_id (hF.1 c1).1.2.2.1) ?_
    refine K_putf 1 5 59 (x := ((μ 59 5) + 1)) dBe_holeFor_78 pf_Be_28 rfl rfl (by decide) rfl rfl rfl rfl trivial ?_
    refine K_aload_n 0 59 dBe_holeFor_81 rfl rfl ?_
    refine K_getf 1 5 59 (jvI ((μ 59 5) + 1)) dBe_holeFor_82 pf_Be_28 rfl rfl (by decide) rfl rfl ?_
    refine K_iconst 1 dBe_holeFor_85 rfl ?_
    refine K_isub dBe_holeFor_86 (w32_id (hF.1 c1).1.2.2.2) ?_
    exact K_iret dBe_holeFor_87 (Or.inl rfl) (hF.1 c1).2
  · refine K_aload_n 1 ((b + 1 : Nat) : Int) dBe_holeFor_12 rfl rfl ?_
    refine K_aload_n 0 59 dBe_holeFor_13 rfl rfl ?_
    refine K_getf 1 1 59 (jvR 61) dBe_holeFor_14 pf_Be_15 rfl rfl (by decide) rfl rfl ?_
    refine K_iload 4 l4 dBe_holeFor_17 rfl ?_
    refine K_iald 61 24 dBe_holeFor_19 rfl rfl (by decide) (hF.2 c1).1 ?_
    refine K_iload_n 2 l2 dBe_holeFor_20 rfl rfl ?_
    refine K_callVi mTe_areSame 9 (b + 1) [jvI (μ 61 l4), jvI l2] dBe_holeFor_21 pm_Be_39 ⟨_, rfl, rfl⟩ ⟨(Nat.le_of_ble_eq_true rfl), (Nat.le_of_ble_eq_true rfl)⟩ rfl (isB_c1 hb) (isB_n 1 (by decide) hb) (Nat.le_of_ble_eq_true rfl) rfl (Nat.le_of_ble_eq_true rfl) (by decide) (Ci_mono (hF.2 c1).2 (fun r7 μ4 h5 => ?_))
    refine K_if_eq 45 dBe_holeFor_24 (by decide) (fun c8 => ?_) (fun c8 => ?_)
    · refine K_iinc 4 dBe_holeFor_45 (Nat.le_of_ble_eq_true rfl) rfl (w32_ok (h5.1 c8).1) rfl ?_
      refine K_goto 3 dBe_holeFor_48 (by decide) ?_
      exact (h5.1 c8).2
    · refine K_aload_n 1 ((b + 1 : Nat) : Int) dBe_holeFor_27 rfl rfl ?_
      refine K_aload_n 0 59 dBe_holeFor_28 rfl rfl ?_
      refine K_getf 1 2 59 (jvR 62) dBe_holeFor_29 pf_Be_18 rfl rfl (by decide) rfl rfl ?_
      refine K_iload 4 l4 dBe_holeFor_32 rfl ?_
      refine K_iald 62 24 dBe_holeFor_34 rfl rfl (by decide) (h5.2 c8).1 ?_
      refine K_iload_n 3 l3 dBe_holeFor_35 rfl rfl ?_
      refine K_callVi mTe_areSame 9 (b + 1) [jvI (μ4 62 l4), jvI l3] dBe_holeFor_36 pm_Be_39 ⟨_, rfl, rfl⟩ ⟨(Nat.le_of_ble_eq_true rfl), (Nat.le_of_ble_eq_true rfl)⟩ rfl (isB_c1 hb) (isB_n 1 (by decide) hb) (Nat.le_of_ble_eq_true rfl) rfl (Nat.le_of_ble_eq_true rfl) (by decide) (Ci_mono (h5.2 c8).2 (fun r13 μ10 h11 => ?_))
      refine K_if_eq 45 dBe_holeFor_39 (by decide) (fun c14 => ?_) (fun c14 => ?_)
      · refine K_iinc 4 dBe_holeFor_45 (Nat.le_of_ble_eq_true rfl) rfl (w32_ok (h11.1 c14).1) rfl ?_
        refine K_goto 3 dBe_holeFor_48 (by decide) ?_
        exact (h11.1 c14).2
      · refine K_iload 4 l4 dBe_holeFor_42 rfl ?_
        exact K_iret dBe_holeFor_44 (Or.inl rfl) (h11.2 c14)
set_option maxHeartbeats 8000000 in
theorem vX_common_0 {E : jE} {μ : jMu} {Q : Option AV → jMu → Prop} {b : Nat} (hb : isB b) {a0 a1 a2 : Int} (hF : ((μ 0 9) = ((b : Nat) : Int)) ∧ (Ci E mBk_hasStep [jvR ((b : Nat) : Int), jvI a0] μ (fun r4 μ1 => ((r4 = 0 → (Q (some (jvI (-1))) μ1)) ∧ (¬ (r4 = 0) → ((μ1 0 9) = ((b : Nat) : Int)) ∧ (Ci E mBk_hasStep [jvR ((b : Nat) : Int), jvI a1] μ1 (fun r11 μ8 => ((r11 = 0 → (Q (some (jvI (-1))) μ8)) ∧ (¬ (r11 = 0) → ((0 ≤ a2 → ((μ8 0 9) = ((b : Nat) : Int) ∧ (μ8 0 9) = ((b : Nat) : Int) ∧ (0 ≤ a0 ∧ a0 < 40) ∧ (μ8 0 9) = ((b : Nat) : Int) ∧ (0 ≤ a1 ∧ a1 < 40)) ∧ (Cv E mBe_lay [jvR 59, jvR ((b + 1 : Nat) : Int), jvI (μ8 (b + 13) a0), jvI (μ8 (b + 13) a1)] μ8 (fun μ17 => (((μ17 59 3) ≤ a2 → (Q (some (jvI (-1))) μ17)) ∧ (¬ ((μ17 59 3) ≤ a2) → ((0 ≤ a2 ∧ a2 < 24)) ∧ (Q (some (jvI (μ17 60 a2))) μ17)))))) ∧ (¬ (0 ≤ a2) → (Q (some (jvI (-1))) μ8)))))))))))) : K 121 E mX_common 0 [some (jvR 0), some (jvI a0), some (jvI a1), some (jvI a2)] [] μ Q := by
  refine K_aload_n 0 0 dX_common_0 rfl rfl ?_
  refine K_getf 0 9 0 (jvR ((b : Nat) : Int)) dX_common_1 pf_X_26 rfl rfl (by decide) rfl (congrArg jvR hF.1) ?_
  refine K_iload_n 1 a0 dX_common_4 rfl rfl ?_
  refine K_callVi mBk_hasStep 2 b [jvI a0] dX_common_5 pm_X_221 ⟨_, rfl, rfl⟩ ⟨(Nat.le_of_ble_eq_true rfl), (Nat.le_of_ble_eq_true rfl)⟩ rfl (isB_c0 hb) (isB_n 0 (by decide) hb) (Nat.le_of_ble_eq_true rfl) rfl (Nat.le_of_ble_eq_true rfl) (by decide) (Ci_mono hF.2 (fun r4 μ1 h2 => ?_))
  refine K_if_eq 26 dX_common_8 (by decide) (fun c5 => ?_) (fun c5 => ?_)
  · refine K_iconst (-1) dX_common_26 rfl ?_
    exact K_iret dX_common_27 (Or.inl rfl) (h2.1 c5)
  · refine K_aload_n 0 0 dX_common_11 rfl rfl ?_
    refine K_getf 0 9 0 (jvR ((b : Nat) : Int)) dX_common_12 pf_X_26 rfl rfl (by decide) rfl (congrArg jvR (h2.2 c5).1) ?_
    refine K_iload_n 2 a1 dX_common_15 rfl rfl ?_
    refine K_callVi mBk_hasStep 2 b [jvI a1] dX_common_16 pm_X_221 ⟨_, rfl, rfl⟩ ⟨(Nat.le_of_ble_eq_true rfl), (Nat.le_of_ble_eq_true rfl)⟩ rfl (isB_c0 hb) (isB_n 0 (by decide) hb) (Nat.le_of_ble_eq_true rfl) rfl (Nat.le_of_ble_eq_true rfl) (by decide) (Ci_mono (h2.2 c5).2 (fun r11 μ8 h9 => ?_))
    refine K_if_eq 26 dX_common_19 (by decide) (fun c12 => ?_) (fun c12 => ?_)
    · refine K_iconst (-1) dX_common_26 rfl ?_
      exact K_iret dX_common_27 (Or.inl rfl) (h9.1 c12)
    · refine K_iload_n 3 a2 dX_common_22 rfl rfl ?_
      refine K_if_ge 28 dX_common_23 (by decide) (fun c15 => ?_) (fun c15 => ?_)
      · refine K_aload_n 0 0 dX_common_28 rfl rfl ?_
        refine K_getf 0 3 0 (jvR 59) dX_common_29 pf_X_45 rfl rfl (by decide) rfl rfl ?_
        refine K_aload_n 0 0 dX_common_32 rfl rfl ?_
        refine K_getf 0 9 0 (jvR ((b : Nat) : Int)) dX_common_33 pf_X_26 rfl rfl (by decide) rfl (congrArg jvR ((h9.2 c12).1 c15).1.1) ?_
        refine K_getf 2 0 b (jvR ((b + 1 : Nat) : Int)) dX_common_36 pf_X_142 rfl (isB_c0 hb) (isB_n 0 (by decide) hb) rfl (isB_f0_0 hb) ?_
        refine K_aload_n 0 0 dX_common_39 rfl rfl ?_
        refine K_getf 0 9 0 (jvR ((b : Nat) : Int)) dX_common_40 pf_X_26 rfl rfl (by decide) rfl (congrArg jvR ((h9.2 c12).1 c15).1.2.1) ?_
        refine K_getf 2 6 b (jvR ((b + 13 : Nat) : Int)) dX_common_43 pf_X_247 rfl (isB_c0 hb) (isB_n 0 (by decide) hb) rfl (isB_f0_6 hb) ?_
        refine K_iload_n 1 a0 dX_common_46 rfl rfl ?_
        refine K_iald (b + 13) 40 dX_common_47 rfl (isB_c13 hb) (isB_n 13 (by decide) hb) ((h9.2 c12).1 c15).1.2.2.1 ?_
        refine K_aload_n 0 0 dX_common_48 rfl rfl ?_
        refine K_getf 0 9 0 (jvR ((b : Nat) : Int)) dX_common_49 pf_X_26 rfl rfl (by decide) rfl (congrArg jvR ((h9.2 c12).1 c15).1.2.2.2.1) ?_
        refine K_getf 2 6 b (jvR ((b + 13 : Nat) : Int)) dX_common_52 pf_X_247 rfl (isB_c0 hb) (isB_n 0 (by decide) hb) rfl (isB_f0_6 hb) ?_
        refine K_iload_n 2 a1 dX_common_55 rfl rfl ?_
        refine K_iald (b + 13) 40 dX_common_56 rfl (isB_c13 hb) (isB_n 13 (by decide) hb) ((h9.2 c12).1 c15).1.2.2.2.2 ?_
        refine K_callVv mBe_lay 1 59 [jvR ((b + 1 : Nat) : Int), jvI (μ8 (b + 13) a0), jvI (μ8 (b + 13) a1)] dX_common_57 pm_X_297 ⟨_, rfl, rfl⟩ ⟨(Nat.le_of_ble_eq_true rfl), (Nat.le_of_ble_eq_true rfl)⟩ rfl rfl (by decide) (Nat.le_of_ble_eq_true rfl) rfl (Nat.le_of_ble_eq_true rfl) (by decide) (Cv_mono ((h9.2 c12).1 c15).2 (fun μ17 h18 => ?_))
        refine K_iload_n 3 a2 dX_common_60 rfl rfl ?_
        refine K_aload_n 0 0 dX_common_61 rfl rfl ?_
        refine K_getf 0 3 0 (jvR 59) dX_common_62 pf_X_45 rfl rfl (by decide) rfl rfl ?_
        refine K_getf 1 3 59 (jvI (μ17 59 3)) dX_common_65 pf_X_301 rfl rfl (by decide) rfl rfl ?_
        refine K_icmp_ge 83 dX_common_68 (by decide) (fun c20 => ?_) (fun c20 => ?_)
        · refine K_iconst (-1) dX_common_83 rfl ?_
          exact K_iret dX_common_84 (Or.inl rfl) (h18.1 c20)
        · refine K_aload_n 0 0 dX_common_71 rfl rfl ?_
          refine K_getf 0 3 0 (jvR 59) dX_common_72 pf_X_45 rfl rfl (by decide) rfl rfl ?_
          refine K_getf 1 0 59 (jvR 60) dX_common_75 pf_X_309 rfl rfl (by decide) rfl rfl ?_
          refine K_iload_n 3 a2 dX_common_78 rfl rfl ?_
          refine K_iald 60 24 dX_common_79 rfl rfl (by decide) (h18.2 c20).1 ?_
          refine K_goto 84 dX_common_80 (by decide) ?_
          exact K_iret dX_common_84 (Or.inl rfl) (h18.2 c20).2
      · refine K_iconst (-1) dX_common_26 rfl ?_
        exact K_iret dX_common_27 (Or.inl rfl) ((h9.2 c12).2 c15)
set_option maxHeartbeats 8000000 in
theorem vX_run_0 {E : jE} {μ : jMu} {Q : Option AV → jMu → Prop} {b : Nat} (hb : isB b) {a0 a1 : Int} (hF : ((μ 0 9) = ((b : Nat) : Int)) ∧ (Ci E mRu_fit [jvR ((b : Nat) : Int), jvI a0, jvI a1] μ (fun r4 μ1 => ((r4 = 0 → (Q (some (jvI (-1))) μ1)) ∧ (¬ (r4 = 0) → (Ci E mRu_isRun [jvR 63, jvR 45, jvI a0, jvI a1] μ1 (fun r11 μ8 => (Ci E mX_flag [jvI r11] μ8 (fun r15 μ12 => (Q (some (jvI r15)) μ12)))))))))) : K 121 E mX_run 0 [some (jvR 0), some (jvI a0), some (jvI a1)] [] μ Q := by
  refine K_aload_n 0 0 dX_run_0 rfl rfl ?_
  refine K_getf 0 9 0 (jvR ((b : Nat) : Int)) dX_run_1 pf_X_26 rfl rfl (by decide) rfl (congrArg jvR hF.1) ?_
  refine K_iload_n 1 a0 dX_run_4 rfl rfl ?_
  refine K_iload_n 2 a1 dX_run_5 rfl rfl ?_
  refine K_callSi mRu_fit [jvR ((b : Nat) : Int), jvI a0, jvI a1] dX_run_6 pm_X_310 ⟨(Nat.le_of_ble_eq_true rfl), (Nat.le_of_ble_eq_true rfl)⟩ (Nat.le_of_ble_eq_true rfl) rfl (Nat.le_of_ble_eq_true rfl) (by decide) (Ci_mono hF.2 (fun r4 μ1 h2 => ?_))
  refine K_if_eq 31 dX_run_9 (by decide) (fun c5 => ?_) (fun c5 => ?_)
  · refine K_iconst (-1) dX_run_31 rfl ?_
    exact K_iret dX_run_32 (Or.inl rfl) (h2.1 c5)
  · refine K_aload_n 0 0 dX_run_12 rfl rfl ?_
    refine K_getf 0 4 0 (jvR 63) dX_run_13 pf_X_52 rfl rfl (by decide) rfl rfl ?_
    refine K_aload_n 0 0 dX_run_16 rfl rfl ?_
    refine K_getf 0 2 0 (jvR 45) dX_run_17 pf_X_38 rfl rfl (by decide) rfl rfl ?_
    refine K_iload_n 1 a0 dX_run_20 rfl rfl ?_
    refine K_iload_n 2 a1 dX_run_21 rfl rfl ?_
    refine K_callVi mRu_isRun 7 63 [jvR 45, jvI a0, jvI a1] dX_run_22 pm_X_314 ⟨_, rfl, rfl⟩ ⟨(Nat.le_of_ble_eq_true rfl), (Nat.le_of_ble_eq_true rfl)⟩ rfl rfl (by decide) (Nat.le_of_ble_eq_true rfl) rfl (Nat.le_of_ble_eq_true rfl) (by decide) (Ci_mono (h2.2 c5) (fun r11 μ8 h9 => ?_))
    refine K_callSi mX_flag [jvI r11] dX_run_25 pm_X_213 ⟨(Nat.le_of_ble_eq_true rfl), (Nat.le_of_ble_eq_true rfl)⟩ (Nat.le_of_ble_eq_true rfl) rfl (Nat.le_of_ble_eq_true rfl) (by decide) (Ci_mono h9 (fun r15 μ12 h13 => ?_))
    refine K_goto 32 dX_run_28 (by decide) ?_
    exact K_iret dX_run_32 (Or.inl rfl) h13
set_option maxHeartbeats 8000000 in
theorem vRu_fit_0 {E : jE} {μ : jMu} {Q : Option AV → jMu → Prop} {b : Nat} (hb : isB b) {a1 a2 : Int} (hF : ((a2 < 2 → (Q (some (jvI 0)) μ)) ∧ (¬ (a2 < 2) → ((8 < a2 → (Q (some (jvI 0)) μ)) ∧ (¬ (8 < a2) → ((a1 < 0 → (Q (some (jvI 0)) μ)) ∧ (¬ (a1 < 0) → ((-2147483648 ≤ ((μ b 13) - a2) ∧ ((μ b 13) - a2) < 2147483648)) ∧ ((((μ b 13) - a2) < a1 → (Q (some (jvI 0)) μ)) ∧ (¬ (((μ b 13) - a2) < a1) → (Q (some (jvI 1)) μ)))))))))) : K 121 E mRu_fit 0 [some (jvR ((b : Nat) : Int)), some (jvI a1), some (jvI a2)] [] μ Q := by
  refine K_iload_n 2 a2 dRu_fit_0 rfl rfl ?_
  refine K_iconst 2 dRu_fit_1 rfl ?_
  refine K_icmp_lt 29 dRu_fit_2 (by decide) (fun c1 => ?_) (fun c1 => ?_)
  · refine K_iconst 0 dRu_fit_29 rfl ?_
    exact K_iret dRu_fit_30 (Or.inr ⟨rfl, (by decide)⟩) (hF.1 c1)
  · refine K_iload_n 2 a2 dRu_fit_5 rfl rfl ?_
    refine K_bipush 8 dRu_fit_6 rfl ?_
    refine K_icmp_gt 29 dRu_fit_8 (by decide) (fun c4 => ?_) (fun c4 => ?_)
    · refine K_iconst 0 dRu_fit_29 rfl ?_
      exact K_iret dRu_fit_30 (Or.inr ⟨rfl, (by decide)⟩) ((hF.2 c1).1 c4)
    · refine K_iload_n 1 a1 dRu_fit_11 rfl rfl ?_
      refine K_if_lt 29 dRu_fit_12 (by decide) (fun c7 => ?_) (fun c7 => ?_)
      · refine K_iconst 0 dRu_fit_29 rfl ?_
        exact K_iret dRu_fit_30 (Or.inr ⟨rfl, (by decide)⟩) (((hF.2 c1).2 c4).1 c7)
      · refine K_iload_n 1 a1 dRu_fit_15 rfl rfl ?_
        refine K_aload_n 0 ((b : Nat) : Int) dRu_fit_16 rfl rfl ?_
        refine K_getf 2 13 b (jvI (μ b 13)) dRu_fit_17 pf_Ru_9 rfl (isB_c0 hb) (isB_n 0 (by decide) hb) rfl (isB_f0_13 hb) ?_
        refine K_iload_n 2 a2 dRu_fit_20 rfl rfl ?_
        refine K_isub dRu_fit_21 (w32_id (((hF.2 c1).2 c4).2 c7).1) ?_
        refine K_icmp_gt 29 dRu_fit_22 (by decide) (fun c10 => ?_) (fun c10 => ?_)
        · refine K_iconst 0 dRu_fit_29 rfl ?_
          exact K_iret dRu_fit_30 (Or.inr ⟨rfl, (by decide)⟩) ((((hF.2 c1).2 c4).2 c7).2.1 c10)
        · refine K_iconst 1 dRu_fit_25 rfl ?_
          refine K_goto 30 dRu_fit_26 (by decide) ?_
          exact K_iret dRu_fit_30 (Or.inr ⟨rfl, (by decide)⟩) ((((hF.2 c1).2 c4).2 c7).2.2 c10)
set_option maxHeartbeats 8000000 in
theorem vRu_isRun_0 {E : jE} {μ : jMu} {Q : Option AV → jMu → Prop} {a1 a2 : Int} (hF : ((-2147483648 ≤ (a1 + a2) ∧ (a1 + a2) < 2147483648)) ∧ (Cl E mX_bit [jvI (a1 + a2)] μ (fun r4 μ1 => (Cl E mX_bit [jvI a1] μ1 (fun r8 μ5 => ((-9223372036854775808 ≤ (r4 - r8) ∧ (r4 - r8) < 9223372036854775808)) ∧ (K 121 E mRu_isRun 16 [some (jvR 63), some (jvR 45), some (jvI a1), some (jvI a2), some (jvL (r4 - r8)), none, some (jvI a1)] [] μ5 Q)))))) : K 121 E mRu_isRun 0 [some (jvR 63), some (jvR 45), some (jvI a1), some (jvI a2), none, none, none] [] μ Q := by
  refine K_iload_n 2 a1 dRu_isRun_0 rfl rfl ?_
  refine K_iload_n 3 a2 dRu_isRun_1 rfl rfl ?_
  refine K_iadd dRu_isRun_2 (w32_id hF.1) ?_
  refine K_callNl mX_bit [jvI (a1 + a2)] dRu_isRun_3 pm_Ru_21 ⟨(Nat.le_of_ble_eq_true rfl), (Nat.le_of_ble_eq_true rfl)⟩ (Nat.le_of_ble_eq_true rfl) rfl (Nat.le_of_ble_eq_true rfl) (by decide) (Cl_mono hF.2 (fun r4 μ1 h2 => ?_))
  refine K_iload_n 2 a1 dRu_isRun_6 rfl rfl ?_
  refine K_callNl mX_bit [jvI a1] dRu_isRun_7 pm_Ru_21 ⟨(Nat.le_of_ble_eq_true rfl), (Nat.le_of_ble_eq_true rfl)⟩ (Nat.le_of_ble_eq_true rfl) rfl (Nat.le_of_ble_eq_true rfl) (by decide) (Cl_mono h2 (fun r8 μ5 h6 => ?_))
  refine K_lsub dRu_isRun_10 (w64_id h6.1) ?_
  refine K_lstore 4 dRu_isRun_11 (Nat.le_of_ble_eq_true rfl) rfl ?_
  refine K_iload_n 2 a1 dRu_isRun_13 rfl rfl ?_
  refine K_istore 6 dRu_isRun_14 (Nat.le_of_ble_eq_true rfl) rfl ?_
  exact h6.2
set_option maxHeartbeats 8000000 in
theorem vRu_isRun_16 {E : jE} {μ : jMu} {Q : Option AV → jMu → Prop} {l2 l3 l4 l6 : Int} (hF : ((-2147483648 ≤ (l2 + l3) ∧ (l2 + l3) < 2147483648) ∧ (-2147483648 ≤ ((l2 + l3) - 1) ∧ ((l2 + l3) - 1) < 2147483648)) ∧ ((((l2 + l3) - 1) ≤ l6 → (Q (some (jvI 1)) μ)) ∧ (¬ (((l2 + l3) - 1) ≤ l6) → ((0 ≤ l6 ∧ l6 < 40)) ∧ (((iand64 (μ 51 l6) (ixor64 l4 (-1))) = 0 → ((-2147483648 ≤ (l6 + 1) ∧ (l6 + 1) < 2147483648)) ∧ (K 121 E mRu_isRun 16 [some (jvR 63), some (jvR 45), some (jvI l2), some (jvI l3), some (jvL l4), none, some (jvI (l6 + 1))] [] μ Q)) ∧ (¬ ((iand64 (μ 51 l6) (ixor64 l4 (-1))) = 0) → (Q (some (jvI 0)) μ)))))) : K 121 E mRu_isRun 16 [some (jvR 63), some (jvR 45), some (jvI l2), some (jvI l3), some (jvL l4), none, some (jvI l6)] [] μ Q := by
  refine K_iload 6 l6 dRu_isRun_16 rfl ?_
  refine K_iload_n 2 l2 dRu_isRun_18 rfl rfl ?_
  refine K_iload_n 3 l3 dRu_isRun_19 rfl rfl ?_
  refine K_iadd dRu_isRun_20 (w32_id hF.1.1) ?_
  refine K_iconst 1 dRu_isRun_21 rfl ?_
  refine K_isub dRu_isRun_22 (w32_id hF.1.2) ?_
  refine K_icmp_ge 53 dRu_isRun_23 (by decide) (fun c1 => ?_) (fun c1 => ?_)
  · refine K_iconst 1 dRu_isRun_53 rfl ?_
    exact K_iret dRu_isRun_54 (Or.inr ⟨rfl, (by decide)⟩) (hF.2.1 c1)
  · refine K_aload_n 1 45 dRu_isRun_26 rfl rfl ?_
    refine K_getf 3 5 45 (jvR 51) dRu_isRun_27 pf_Ru_27 rfl rfl (by decide) rfl rfl ?_
    refine K_iload 6 l6 dRu_isRun_30 rfl ?_
    refine K_lald 51 40 dRu_isRun_32 rfl rfl (by decide) (hF.2.2 c1).1 ?_
    refine K_lload 4 l4 dRu_isRun_33 rfl ?_
    refine K_ldc2 (-1) dRu_isRun_35 pc_Ru_33 rfl ?_
    refine K_lxor dRu_isRun_38 rfl ?_
    refine K_land dRu_isRun_39 rfl ?_
    refine K_lconst 0 dRu_isRun_40 rfl ?_
    refine K_lcmp_eq 47 dRu_isRun_41 dRu_isRun_42 (by decide) (fun c4 => ?_) (fun c4 => ?_)
    · refine K_iinc 6 dRu_isRun_47 (Nat.le_of_ble_eq_true rfl) rfl (w32_ok ((hF.2.2 c1).2.1 c4).1) rfl ?_
      refine K_goto 16 dRu_isRun_50 (by decide) ?_
      exact ((hF.2.2 c1).2.1 c4).2
    · refine K_iconst 0 dRu_isRun_45 rfl ?_
      exact K_iret dRu_isRun_46 (Or.inr ⟨rfl, (by decide)⟩) ((hF.2.2 c1).2.2 c4)
set_option maxHeartbeats 8000000 in
theorem vX_alike_0 {E : jE} {μ : jMu} {Q : Option AV → jMu → Prop} {b : Nat} (hb : isB b) {a0 a1 a2 : Int} (hF : ((μ 0 9) = ((b : Nat) : Int)) ∧ (Ci E mRu_fit [jvR ((b : Nat) : Int), jvI a0, jvI a2] μ (fun r4 μ1 => ((r4 = 0 → (Q (some (jvI (-1))) μ1)) ∧ (¬ (r4 = 0) → ((μ1 0 9) = ((b : Nat) : Int)) ∧ (Ci E mRu_fit [jvR ((b : Nat) : Int), jvI a1, jvI a2] μ1 (fun r11 μ8 => ((r11 = 0 → (Q (some (jvI (-1))) μ8)) ∧ (¬ (r11 = 0) → (Ci E mRu_meet [jvI a0, jvI a1, jvI a2] μ8 (fun r18 μ15 => ((r18 = 0 → (Ci E mRu_isRun [jvR 63, jvR 45, jvI a0, jvI a2] μ15 (fun r24 μ21 => ((r24 = 0 → (Q (some (jvI (-1))) μ21)) ∧ (¬ (r24 = 0) → (Ci E mRu_isRun [jvR 63, jvR 45, jvI a1, jvI a2] μ21 (fun r31 μ28 => ((¬ r31 = 0 → ((μ28 0 9) = ((b : Nat) : Int)) ∧ (Ci E mRu_areAlike [jvR 63, jvR ((b : Nat) : Int), jvI a0, jvI a1, jvI a2] μ28 (fun r37 μ34 => (Ci E mX_flag [jvI r37] μ34 (fun r41 μ38 => (Q (some (jvI r41)) μ38)))))) ∧ (r31 = 0 → (Q (some (jvI (-1))) μ28)))))))))) ∧ (¬ (r18 = 0) → (Q (some (jvI (-1))) μ15)))))))))))))) : K 121 E mX_alike 0 [some (jvR 0), some (jvI a0), some (jvI a1), some (jvI a2)] [] μ Q := by
  refine K_aload_n 0 0 dX_alike_0 rfl rfl ?_
  refine K_getf 0 9 0 (jvR ((b : Nat) : Int)) dX_alike_1 pf_X_26 rfl rfl (by decide) rfl (congrArg jvR hF.1) ?_
  refine K_iload_n 1 a0 dX_alike_4 rfl rfl ?_
  refine K_iload_n 3 a2 dX_alike_5 rfl rfl ?_
  refine K_callSi mRu_fit [jvR ((b : Nat) : Int), jvI a0, jvI a2] dX_alike_6 pm_X_310 ⟨(Nat.le_of_ble_eq_true rfl), (Nat.le_of_ble_eq_true rfl)⟩ (Nat.le_of_ble_eq_true rfl) rfl (Nat.le_of_ble_eq_true rfl) (by decide) (Ci_mono hF.2 (fun r4 μ1 h2 => ?_))
  refine K_if_eq 33 dX_alike_9 (by decide) (fun c5 => ?_) (fun c5 => ?_)
  · refine K_iconst (-1) dX_alike_33 rfl ?_
    exact K_iret dX_alike_34 (Or.inl rfl) (h2.1 c5)
  · refine K_aload_n 0 0 dX_alike_12 rfl rfl ?_
    refine K_getf 0 9 0 (jvR ((b : Nat) : Int)) dX_alike_13 pf_X_26 rfl rfl (by decide) rfl (congrArg jvR (h2.2 c5).1) ?_
    refine K_iload_n 2 a1 dX_alike_16 rfl rfl ?_
    refine K_iload_n 3 a2 dX_alike_17 rfl rfl ?_
    refine K_callSi mRu_fit [jvR ((b : Nat) : Int), jvI a1, jvI a2] dX_alike_18 pm_X_310 ⟨(Nat.le_of_ble_eq_true rfl), (Nat.le_of_ble_eq_true rfl)⟩ (Nat.le_of_ble_eq_true rfl) rfl (Nat.le_of_ble_eq_true rfl) (by decide) (Ci_mono (h2.2 c5).2 (fun r11 μ8 h9 => ?_))
    refine K_if_eq 33 dX_alike_21 (by decide) (fun c12 => ?_) (fun c12 => ?_)
    · refine K_iconst (-1) dX_alike_33 rfl ?_
      exact K_iret dX_alike_34 (Or.inl rfl) (h9.1 c12)
    · refine K_iload_n 1 a0 dX_alike_24 rfl rfl ?_
      refine K_iload_n 2 a1 dX_alike_25 rfl rfl ?_
      refine K_iload_n 3 a2 dX_alike_26 rfl rfl ?_
      refine K_callSi mRu_meet [jvI a0, jvI a1, jvI a2] dX_alike_27 pm_X_318 ⟨(Nat.le_of_ble_eq_true rfl), (Nat.le_of_ble_eq_true rfl)⟩ (Nat.le_of_ble_eq_true rfl) rfl (Nat.le_of_ble_eq_true rfl) (by decide) (Ci_mono (h9.2 c12) (fun r18 μ15 h16 => ?_))
      refine K_if_eq 35 dX_alike_30 (by decide) (fun c19 => ?_) (fun c19 => ?_)
      · refine K_aload_n 0 0 dX_alike_35 rfl rfl ?_
        refine K_getf 0 4 0 (jvR 63) dX_alike_36 pf_X_52 rfl rfl (by decide) rfl rfl ?_
        refine K_aload_n 0 0 dX_alike_39 rfl rfl ?_
        refine K_getf 0 2 0 (jvR 45) dX_alike_40 pf_X_38 rfl rfl (by decide) rfl rfl ?_
        refine K_iload_n 1 a0 dX_alike_43 rfl rfl ?_
        refine K_iload_n 3 a2 dX_alike_44 rfl rfl ?_
        refine K_callVi mRu_isRun 7 63 [jvR 45, jvI a0, jvI a2] dX_alike_45 pm_X_314 ⟨_, rfl, rfl⟩ ⟨(Nat.le_of_ble_eq_true rfl), (Nat.le_of_ble_eq_true rfl)⟩ rfl rfl (by decide) (Nat.le_of_ble_eq_true rfl) rfl (Nat.le_of_ble_eq_true rfl) (by decide) (Ci_mono (h16.1 c19) (fun r24 μ21 h22 => ?_))
        refine K_if_eq 67 dX_alike_48 (by decide) (fun c25 => ?_) (fun c25 => ?_)
        · refine K_iconst (-1) dX_alike_67 rfl ?_
          exact K_iret dX_alike_68 (Or.inl rfl) (h22.1 c25)
        · refine K_aload_n 0 0 dX_alike_51 rfl rfl ?_
          refine K_getf 0 4 0 (jvR 63) dX_alike_52 pf_X_52 rfl rfl (by decide) rfl rfl ?_
          refine K_aload_n 0 0 dX_alike_55 rfl rfl ?_
          refine K_getf 0 2 0 (jvR 45) dX_alike_56 pf_X_38 rfl rfl (by decide) rfl rfl ?_
          refine K_iload_n 2 a1 dX_alike_59 rfl rfl ?_
          refine K_iload_n 3 a2 dX_alike_60 rfl rfl ?_
          refine K_callVi mRu_isRun 7 63 [jvR 45, jvI a1, jvI a2] dX_alike_61 pm_X_314 ⟨_, rfl, rfl⟩ ⟨(Nat.le_of_ble_eq_true rfl), (Nat.le_of_ble_eq_true rfl)⟩ rfl rfl (by decide) (Nat.le_of_ble_eq_true rfl) rfl (Nat.le_of_ble_eq_true rfl) (by decide) (Ci_mono (h22.2 c25) (fun r31 μ28 h29 => ?_))
          refine K_if_ne 69 dX_alike_64 (by decide) (fun c32 => ?_) (fun c32 => ?_)
          · refine K_aload_n 0 0 dX_alike_69 rfl rfl ?_
            refine K_getf 0 4 0 (jvR 63) dX_alike_70 pf_X_52 rfl rfl (by decide) rfl rfl ?_
            refine K_aload_n 0 0 dX_alike_73 rfl rfl ?_
            refine K_getf 0 9 0 (jvR ((b : Nat) : Int)) dX_alike_74 pf_X_26 rfl rfl (by decide) rfl (congrArg jvR (h29.1 c32).1) ?_
            refine K_iload_n 1 a0 dX_alike_77 rfl rfl ?_
            refine K_iload_n 2 a1 dX_alike_78 rfl rfl ?_
            refine K_iload_n 3 a2 dX_alike_79 rfl rfl ?_
            refine K_callVi mRu_areAlike 7 63 [jvR ((b : Nat) : Int), jvI a0, jvI a1, jvI a2] dX_alike_80 pm_X_322 ⟨_, rfl, rfl⟩ ⟨(Nat.le_of_ble_eq_true rfl), (Nat.le_of_ble_eq_true rfl)⟩ rfl rfl (by decide) (Nat.le_of_ble_eq_true rfl) rfl (Nat.le_of_ble_eq_true rfl) (by decide) (Ci_mono (h29.1 c32).2 (fun r37 μ34 h35 => ?_))
            refine K_callSi mX_flag [jvI r37] dX_alike_83 pm_X_213 ⟨(Nat.le_of_ble_eq_true rfl), (Nat.le_of_ble_eq_true rfl)⟩ (Nat.le_of_ble_eq_true rfl) rfl (Nat.le_of_ble_eq_true rfl) (by decide) (Ci_mono h35 (fun r41 μ38 h39 => ?_))
            exact K_iret dX_alike_86 (Or.inl rfl) h39
          · refine K_iconst (-1) dX_alike_67 rfl ?_
            exact K_iret dX_alike_68 (Or.inl rfl) (h29.2 c32)
      · refine K_iconst (-1) dX_alike_33 rfl ?_
        exact K_iret dX_alike_34 (Or.inl rfl) (h16.2 c19)
set_option maxHeartbeats 8000000 in
theorem vRu_meet_0 {E : jE} {μ : jMu} {Q : Option AV → jMu → Prop} {a0 a1 a2 : Int} (hF : ((-2147483648 ≤ (a0 - a1) ∧ (a0 - a1) < 2147483648) ∧ -2147483648 < (a0 - a1)) ∧ ((a2 ≤ (if 0 ≤ (a0 - a1) then (a0 - a1) else -(a0 - a1)) → (Q (some (jvI 0)) μ)) ∧ (¬ (a2 ≤ (if 0 ≤ (a0 - a1) then (a0 - a1) else -(a0 - a1))) → (Q (some (jvI 1)) μ)))) : K 121 E mRu_meet 0 [some (jvI a0), some (jvI a1), some (jvI a2)] [] μ Q := by
  refine K_iload_n 0 a0 dRu_meet_0 rfl rfl ?_
  refine K_iload_n 1 a1 dRu_meet_1 rfl rfl ?_
  refine K_isub dRu_meet_2 (w32_id hF.1.1) ?_
  refine K_mabs dRu_meet_3 pm_Ru_15 (Nat.le_of_ble_eq_true rfl) (Nat.le_of_ble_eq_true rfl) hF.1.2 ?_
  refine K_iload_n 2 a2 dRu_meet_6 rfl rfl ?_
  refine K_icmp_ge 14 dRu_meet_7 (by decide) (fun c1 => ?_) (fun c1 => ?_)
  · refine K_iconst 0 dRu_meet_14 rfl ?_
    exact K_iret dRu_meet_15 (Or.inr ⟨rfl, (by decide)⟩) (hF.2.1 c1)
  · refine K_iconst 1 dRu_meet_10 rfl ?_
    refine K_goto 15 dRu_meet_11 (by decide) ?_
    exact K_iret dRu_meet_15 (Or.inr ⟨rfl, (by decide)⟩) (hF.2.2 c1)
set_option maxHeartbeats 8000000 in
theorem vRu_areAlike_0 {E : jE} {μ : jMu} {Q : Option AV → jMu → Prop} {b : Nat} (hb : isB b) {a1 a2 a3 : Int} (hF : (K 121 E mRu_areAlike 3 [some (jvR 63), some (jvR ((b : Nat) : Int)), some (jvI a1), some (jvI a2), some (jvI a3), some (jvI 0), none, none, none] [] μ Q)) : K 121 E mRu_areAlike 0 [some (jvR 63), some (jvR ((b : Nat) : Int)), some (jvI a1), some (jvI a2), some (jvI a3), none, none, none, none] [] μ Q := by
  refine K_iconst 0 dRu_areAlike_0 rfl ?_
  refine K_istore 5 dRu_areAlike_1 (Nat.le_of_ble_eq_true rfl) rfl ?_
  exact hF
set_option maxHeartbeats 8000000 in
theorem vRu_areAlike_3 {E : jE} {μ : jMu} {Q : Option AV → jMu → Prop} {b : Nat} (hb : isB b) {l2 l3 l4 l5 : Int} (hF : ((l4 ≤ l5 → (Q (some (jvI 1)) μ)) ∧ (¬ (l4 ≤ l5) → ((-2147483648 ≤ (l2 + l5) ∧ (l2 + l5) < 2147483648) ∧ (0 ≤ (l2 + l5) ∧ (l2 + l5) < 40) ∧ (-2147483648 ≤ (l3 + l5) ∧ (l3 + l5) < 2147483648) ∧ (0 ≤ (l3 + l5) ∧ (l3 + l5) < 40)) ∧ (((μ (b + 12) (l2 + l5)) = (μ (b + 12) (l3 + l5)) → (K 121 E mRu_areAlike 36 [some (jvR 63), some (jvR ((b : Nat) : Int)), some (jvI l2), some (jvI l3), some (jvI l4), some (jvI l5), some (jvI 0), none, none] [] μ Q)) ∧ (¬ ((μ (b + 12) (l2 + l5)) = (μ (b + 12) (l3 + l5))) → (Q (some (jvI 0)) μ)))))) : K 121 E mRu_areAlike 3 [some (jvR 63), some (jvR ((b : Nat) : Int)), some (jvI l2), some (jvI l3), some (jvI l4), some (jvI l5), none, none, none] [] μ Q := by
  refine K_iload 5 l5 dRu_areAlike_3 rfl ?_
  refine K_iload 4 l4 dRu_areAlike_5 rfl ?_
  refine K_icmp_ge 111 dRu_areAlike_7 (by decide) (fun c1 => ?_) (fun c1 => ?_)
  · refine K_iconst 1 dRu_areAlike_111 rfl ?_
    exact K_iret dRu_areAlike_112 (Or.inr ⟨rfl, (by decide)⟩) (hF.1 c1)
  · refine K_aload_n 1 ((b : Nat) : Int) dRu_areAlike_10 rfl rfl ?_
    refine K_getf 2 5 b (jvR ((b + 12 : Nat) : Int)) dRu_areAlike_11 pf_Ru_35 rfl (isB_c0 hb) (isB_n 0 (by decide) hb) rfl (isB_f0_5 hb) ?_
    refine K_iload_n 2 l2 dRu_areAlike_14 rfl rfl ?_
    refine K_iload 5 l5 dRu_areAlike_15 rfl ?_
    refine K_iadd dRu_areAlike_17 (w32_id (hF.2 c1).1.1) ?_
    refine K_iald (b + 12) 40 dRu_areAlike_18 rfl (isB_c12 hb) (isB_n 12 (by decide) hb) (hF.2 c1).1.2.1 ?_
    refine K_aload_n 1 ((b : Nat) : Int) dRu_areAlike_19 rfl rfl ?_
    refine K_getf 2 5 b (jvR ((b + 12 : Nat) : Int)) dRu_areAlike_20 pf_Ru_35 rfl (isB_c0 hb) (isB_n 0 (by decide) hb) rfl (isB_f0_5 hb) ?_
    refine K_iload_n 3 l3 dRu_areAlike_23 rfl rfl ?_
    refine K_iload 5 l5 dRu_areAlike_24 rfl ?_
    refine K_iadd dRu_areAlike_26 (w32_id (hF.2 c1).1.2.2.1) ?_
    refine K_iald (b + 12) 40 dRu_areAlike_27 rfl (isB_c12 hb) (isB_n 12 (by decide) hb) (hF.2 c1).1.2.2.2 ?_
    refine K_icmp_eq 33 dRu_areAlike_28 (by decide) (fun c4 => ?_) (fun c4 => ?_)
    · refine K_iconst 0 dRu_areAlike_33 rfl ?_
      refine K_istore 6 dRu_areAlike_34 (Nat.le_of_ble_eq_true rfl) rfl ?_
      exact ((hF.2 c1).2.1 c4)
    · refine K_iconst 0 dRu_areAlike_31 rfl ?_
      exact K_iret dRu_areAlike_32 (Or.inr ⟨rfl, (by decide)⟩) ((hF.2 c1).2.2 c4)
set_option maxHeartbeats 8000000 in
theorem vRu_areAlike_36 {E : jE} {μ : jMu} {Q : Option AV → jMu → Prop} {b : Nat} (hb : isB b) {l2 l3 l4 l5 l6 : Int} (hF : ((-2147483648 ≤ (l2 + l5) ∧ (l2 + l5) < 2147483648)) ∧ (Ci E mBk_nameCount [jvR ((b : Nat) : Int), jvI (l2 + l5)] μ (fun r4 μ1 => ((r4 ≤ l6 → ((-2147483648 ≤ (l5 + 1) ∧ (l5 + 1) < 2147483648)) ∧ (K 121 E mRu_areAlike 3 [some (jvR 63), some (jvR ((b : Nat) : Int)), some (jvI l2), some (jvI l3), some (jvI l4), some (jvI (l5 + 1)), none, none, none] [] μ1 Q)) ∧ (¬ (r4 ≤ l6) → ((-2147483648 ≤ (l2 + l5) ∧ (l2 + l5) < 2147483648)) ∧ (Ci E mBk_named [jvR ((b : Nat) : Int), jvI (l2 + l5), jvI l6] μ1 (fun r10 μ7 => ((-2147483648 ≤ (l3 + l5) ∧ (l3 + l5) < 2147483648)) ∧ (Ci E mBk_named [jvR ((b : Nat) : Int), jvI (l3 + l5), jvI l6] μ7 (fun r14 μ11 => (Ci E mRu_areInSamePlace [jvI r10, jvI l2, jvI r14, jvI l3] μ11 (fun r18 μ15 => ((¬ r18 = 0 → ((-2147483648 ≤ (l6 + 1) ∧ (l6 + 1) < 2147483648)) ∧ (K 121 E mRu_areAlike 36 [some (jvR 63), some (jvR ((b : Nat) : Int)), some (jvI l2), some (jvI l3), some (jvI l4), some (jvI l5), some (jvI (l6 + 1)), none, none] [] μ15 Q)) ∧ (r18 = 0 → (Ci E mRu_areAhead [jvI r10, jvI r14, jvI l2, jvI l3] μ15 (fun r24 μ21 => ((¬ r24 = 0 → ((-2147483648 ≤ (l6 + 1) ∧ (l6 + 1) < 2147483648)) ∧ (K 121 E mRu_areAlike 36 [some (jvR 63), some (jvR ((b : Nat) : Int)), some (jvI l2), some (jvI l3), some (jvI l4), some (jvI l5), some (jvI (l6 + 1)), none, none] [] μ21 Q)) ∧ (r24 = 0 → (Q (some (jvI 0)) μ21)))))))))))))))))) : K 121 E mRu_areAlike 36 [some (jvR 63), some (jvR ((b : Nat) : Int)), some (jvI l2), some (jvI l3), some (jvI l4), some (jvI l5), some (jvI l6), none, none] [] μ Q := by
  refine K_iload 6 l6 dRu_areAlike_36 rfl ?_
  refine K_aload_n 1 ((b : Nat) : Int) dRu_areAlike_38 rfl rfl ?_
  refine K_iload_n 2 l2 dRu_areAlike_39 rfl rfl ?_
  refine K_iload 5 l5 dRu_areAlike_40 rfl ?_
  refine K_iadd dRu_areAlike_42 (w32_id hF.1) ?_
  refine K_callVi mBk_nameCount 2 b [jvI (l2 + l5)] dRu_areAlike_43 pm_Ru_39 ⟨_, rfl, rfl⟩ ⟨(Nat.le_of_ble_eq_true rfl), (Nat.le_of_ble_eq_true rfl)⟩ rfl (isB_c0 hb) (isB_n 0 (by decide) hb) (Nat.le_of_ble_eq_true rfl) rfl (Nat.le_of_ble_eq_true rfl) (by decide) (Ci_mono hF.2 (fun r4 μ1 h2 => ?_))
  refine K_icmp_ge 105 dRu_areAlike_46 (by decide) (fun c5 => ?_) (fun c5 => ?_)
  · refine K_iinc 5 dRu_areAlike_105 (Nat.le_of_ble_eq_true rfl) rfl (w32_ok (h2.1 c5).1) rfl ?_
    refine K_goto 3 dRu_areAlike_108 (by decide) ?_
    exact K_forget [true, true, true, true, true, true, false, true, true] (h2.1 c5).2
  · refine K_aload_n 1 ((b : Nat) : Int) dRu_areAlike_49 rfl rfl ?_
    refine K_iload_n 2 l2 dRu_areAlike_50 rfl rfl ?_
    refine K_iload 5 l5 dRu_areAlike_51 rfl ?_
    refine K_iadd dRu_areAlike_53 (w32_id (h2.2 c5).1) ?_
    refine K_iload 6 l6 dRu_areAlike_54 rfl ?_
    refine K_callVi mBk_named 2 b [jvI (l2 + l5), jvI l6] dRu_areAlike_56 pm_Ru_42 ⟨_, rfl, rfl⟩ ⟨(Nat.le_of_ble_eq_true rfl), (Nat.le_of_ble_eq_true rfl)⟩ rfl (isB_c0 hb) (isB_n 0 (by decide) hb) (Nat.le_of_ble_eq_true rfl) rfl (Nat.le_of_ble_eq_true rfl) (by decide) (Ci_mono (h2.2 c5).2 (fun r10 μ7 h8 => ?_))
    refine K_istore 7 dRu_areAlike_59 (Nat.le_of_ble_eq_true rfl) rfl ?_
    refine K_aload_n 1 ((b : Nat) : Int) dRu_areAlike_61 rfl rfl ?_
    refine K_iload_n 3 l3 dRu_areAlike_62 rfl rfl ?_
    refine K_iload 5 l5 dRu_areAlike_63 rfl ?_
    refine K_iadd dRu_areAlike_65 (w32_id h8.1) ?_
    refine K_iload 6 l6 dRu_areAlike_66 rfl ?_
    refine K_callVi mBk_named 2 b [jvI (l3 + l5), jvI l6] dRu_areAlike_68 pm_Ru_42 ⟨_, rfl, rfl⟩ ⟨(Nat.le_of_ble_eq_true rfl), (Nat.le_of_ble_eq_true rfl)⟩ rfl (isB_c0 hb) (isB_n 0 (by decide) hb) (Nat.le_of_ble_eq_true rfl) rfl (Nat.le_of_ble_eq_true rfl) (by decide) (Ci_mono h8.2 (fun r14 μ11 h12 => ?_))
    refine K_istore 8 dRu_areAlike_71 (Nat.le_of_ble_eq_true rfl) rfl ?_
    refine K_iload 7 r10 dRu_areAlike_73 rfl ?_
    refine K_iload_n 2 l2 dRu_areAlike_75 rfl rfl ?_
    refine K_iload 8 r14 dRu_areAlike_76 rfl ?_
    refine K_iload_n 3 l3 dRu_areAlike_78 rfl rfl ?_
    refine K_callSi mRu_areInSamePlace [jvI r10, jvI l2, jvI r14, jvI l3] dRu_areAlike_79 pm_Ru_46 ⟨(Nat.le_of_ble_eq_true rfl), (Nat.le_of_ble_eq_true rfl)⟩ (Nat.le_of_ble_eq_true rfl) rfl (Nat.le_of_ble_eq_true rfl) (by decide) (Ci_mono h12 (fun r18 μ15 h16 => ?_))
    refine K_if_ne 99 dRu_areAlike_82 (by decide) (fun c19 => ?_) (fun c19 => ?_)
    · refine K_iinc 6 dRu_areAlike_99 (Nat.le_of_ble_eq_true rfl) rfl (w32_ok (h16.1 c19).1) rfl ?_
      refine K_goto 36 dRu_areAlike_102 (by decide) ?_
      exact K_forget [true, true, true, true, true, true, true, false, false] (h16.1 c19).2
    · refine K_iload 7 r10 dRu_areAlike_85 rfl ?_
      refine K_iload 8 r14 dRu_areAlike_87 rfl ?_
      refine K_iload_n 2 l2 dRu_areAlike_89 rfl rfl ?_
      refine K_iload_n 3 l3 dRu_areAlike_90 rfl rfl ?_
      refine K_callSi mRu_areAhead [jvI r10, jvI r14, jvI l2, jvI l3] dRu_areAlike_91 pm_Ru_50 ⟨(Nat.le_of_ble_eq_true rfl), (Nat.le_of_ble_eq_true rfl)⟩ (Nat.le_of_ble_eq_true rfl) rfl (Nat.le_of_ble_eq_true rfl) (by decide) (Ci_mono (h16.2 c19) (fun r24 μ21 h22 => ?_))
      refine K_if_ne 99 dRu_areAlike_94 (by decide) (fun c25 => ?_) (fun c25 => ?_)
      · refine K_iinc 6 dRu_areAlike_99 (Nat.le_of_ble_eq_true rfl) rfl (w32_ok (h22.1 c25).1) rfl ?_
        refine K_goto 36 dRu_areAlike_102 (by decide) ?_
        exact K_forget [true, true, true, true, true, true, true, false, false] (h22.1 c25).2
      · refine K_iconst 0 dRu_areAlike_97 rfl ?_
        exact K_iret dRu_areAlike_98 (Or.inr ⟨rfl, (by decide)⟩) (h22.2 c25)
set_option maxHeartbeats 8000000 in
theorem vRu_areInSamePlace_0 {E : jE} {μ : jMu} {Q : Option AV → jMu → Prop} {a0 a1 a2 a3 : Int} (hF : ((a0 < a1 → (Q (some (jvI 0)) μ)) ∧ (¬ (a0 < a1) → ((-2147483648 ≤ (a0 - a1) ∧ (a0 - a1) < 2147483648) ∧ (-2147483648 ≤ (a2 - a3) ∧ (a2 - a3) < 2147483648)) ∧ ((¬ (a0 - a1) = (a2 - a3) → (Q (some (jvI 0)) μ)) ∧ ((a0 - a1) = (a2 - a3) → (Q (some (jvI 1)) μ)))))) : K 121 E mRu_areInSamePlace 0 [some (jvI a0), some (jvI a1), some (jvI a2), some (jvI a3)] [] μ Q := by
  refine K_iload_n 0 a0 dRu_areInSamePlace_0 rfl rfl ?_
  refine K_iload_n 1 a1 dRu_areInSamePlace_1 rfl rfl ?_
  refine K_icmp_lt 18 dRu_areInSamePlace_2 (by decide) (fun c1 => ?_) (fun c1 => ?_)
  · refine K_iconst 0 dRu_areInSamePlace_18 rfl ?_
    exact K_iret dRu_areInSamePlace_19 (Or.inr ⟨rfl, (by decide)⟩) (hF.1 c1)
  · refine K_iload_n 0 a0 dRu_areInSamePlace_5 rfl rfl ?_
    refine K_iload_n 1 a1 dRu_areInSamePlace_6 rfl rfl ?_
    refine K_isub dRu_areInSamePlace_7 (w32_id (hF.2 c1).1.1) ?_
    refine K_iload_n 2 a2 dRu_areInSamePlace_8 rfl rfl ?_
    refine K_iload_n 3 a3 dRu_areInSamePlace_9 rfl rfl ?_
    refine K_isub dRu_areInSamePlace_10 (w32_id (hF.2 c1).1.2) ?_
    refine K_icmp_ne 18 dRu_areInSamePlace_11 (by decide) (fun c4 => ?_) (fun c4 => ?_)
    · refine K_iconst 0 dRu_areInSamePlace_18 rfl ?_
      exact K_iret dRu_areInSamePlace_19 (Or.inr ⟨rfl, (by decide)⟩) ((hF.2 c1).2.1 c4)
    · refine K_iconst 1 dRu_areInSamePlace_14 rfl ?_
      refine K_goto 19 dRu_areInSamePlace_15 (by decide) ?_
      exact K_iret dRu_areInSamePlace_19 (Or.inr ⟨rfl, (by decide)⟩) ((hF.2 c1).2.2 c4)
set_option maxHeartbeats 8000000 in
theorem vRu_areAhead_0 {E : jE} {μ : jMu} {Q : Option AV → jMu → Prop} {a0 a1 a2 a3 : Int} (hF : (((if a3 < a2 then a3 else a2) ≤ (if a0 < a1 then a1 else a0) → (Q (some (jvI 0)) μ)) ∧ (¬ ((if a3 < a2 then a3 else a2) ≤ (if a0 < a1 then a1 else a0)) → (Q (some (jvI 1)) μ)))) : K 121 E mRu_areAhead 0 [some (jvI a0), some (jvI a1), some (jvI a2), some (jvI a3)] [] μ Q := by
  refine K_iload_n 0 a0 dRu_areAhead_0 rfl rfl ?_
  refine K_iload_n 1 a1 dRu_areAhead_1 rfl rfl ?_
  refine K_mmax dRu_areAhead_2 pm_Ru_53 (Nat.le_of_ble_eq_true rfl) (Nat.le_of_ble_eq_true rfl) ?_
  refine K_iload_n 2 a2 dRu_areAhead_5 rfl rfl ?_
  refine K_iload_n 3 a3 dRu_areAhead_6 rfl rfl ?_
  refine K_mmin dRu_areAhead_7 pm_Ru_56 (Nat.le_of_ble_eq_true rfl) (Nat.le_of_ble_eq_true rfl) ?_
  refine K_icmp_ge 17 dRu_areAhead_10 (by decide) (fun c1 => ?_) (fun c1 => ?_)
  · refine K_iconst 0 dRu_areAhead_17 rfl ?_
    exact K_iret dRu_areAhead_18 (Or.inr ⟨rfl, (by decide)⟩) (hF.1 c1)
  · refine K_iconst 1 dRu_areAhead_13 rfl ?_
    refine K_goto 18 dRu_areAhead_14 (by decide) ?_
    exact K_iret dRu_areAhead_18 (Or.inr ⟨rfl, (by decide)⟩) (hF.2 c1)
set_option maxHeartbeats 8000000 in
theorem vX_worth_0 {E : jE} {μ : jMu} {Q : Option AV → jMu → Prop} {b : Nat} (hb : isB b) {a0 a1 : Int} (hF : ((μ 0 9) = ((b : Nat) : Int)) ∧ (Ci E mRu_fit [jvR ((b : Nat) : Int), jvI a0, jvI a1] μ (fun r4 μ1 => ((r4 = 0 → (Q (some (jvI (-1))) μ1)) ∧ (¬ (r4 = 0) → (Ci E mRu_isRun [jvR 63, jvR 45, jvI a0, jvI a1] μ1 (fun r11 μ8 => ((¬ r11 = 0 → (Ci E mRu_isFirstOfItsKind [jvR 63, jvR 45, jvI a0, jvI a1] μ8 (fun r17 μ14 => ((r17 = 0 → (Q (some (jvI (-1))) μ14)) ∧ (¬ (r17 = 0) → (Ci E mRu_worthOf [jvR 63, jvR 45, jvI a0, jvI a1] μ14 (fun r24 μ21 => (Q (some (jvI r24)) μ21)))))))) ∧ (r11 = 0 → (Q (some (jvI (-1))) μ8)))))))))) : K 121 E mX_worth 0 [some (jvR 0), some (jvI a0), some (jvI a1)] [] μ Q := by
  refine K_aload_n 0 0 dX_worth_0 rfl rfl ?_
  refine K_getf 0 9 0 (jvR ((b : Nat) : Int)) dX_worth_1 pf_X_26 rfl rfl (by decide) rfl (congrArg jvR hF.1) ?_
  refine K_iload_n 1 a0 dX_worth_4 rfl rfl ?_
  refine K_iload_n 2 a1 dX_worth_5 rfl rfl ?_
  refine K_callSi mRu_fit [jvR ((b : Nat) : Int), jvI a0, jvI a1] dX_worth_6 pm_X_310 ⟨(Nat.le_of_ble_eq_true rfl), (Nat.le_of_ble_eq_true rfl)⟩ (Nat.le_of_ble_eq_true rfl) rfl (Nat.le_of_ble_eq_true rfl) (by decide) (Ci_mono hF.2 (fun r4 μ1 h2 => ?_))
  refine K_if_eq 28 dX_worth_9 (by decide) (fun c5 => ?_) (fun c5 => ?_)
  · refine K_iconst (-1) dX_worth_28 rfl ?_
    exact K_iret dX_worth_29 (Or.inl rfl) (h2.1 c5)
  · refine K_aload_n 0 0 dX_worth_12 rfl rfl ?_
    refine K_getf 0 4 0 (jvR 63) dX_worth_13 pf_X_52 rfl rfl (by decide) rfl rfl ?_
    refine K_aload_n 0 0 dX_worth_16 rfl rfl ?_
    refine K_getf 0 2 0 (jvR 45) dX_worth_17 pf_X_38 rfl rfl (by decide) rfl rfl ?_
    refine K_iload_n 1 a0 dX_worth_20 rfl rfl ?_
    refine K_iload_n 2 a1 dX_worth_21 rfl rfl ?_
    refine K_callVi mRu_isRun 7 63 [jvR 45, jvI a0, jvI a1] dX_worth_22 pm_X_314 ⟨_, rfl, rfl⟩ ⟨(Nat.le_of_ble_eq_true rfl), (Nat.le_of_ble_eq_true rfl)⟩ rfl rfl (by decide) (Nat.le_of_ble_eq_true rfl) rfl (Nat.le_of_ble_eq_true rfl) (by decide) (Ci_mono (h2.2 c5) (fun r11 μ8 h9 => ?_))
    refine K_if_ne 30 dX_worth_25 (by decide) (fun c12 => ?_) (fun c12 => ?_)
    · refine K_aload_n 0 0 dX_worth_30 rfl rfl ?_
      refine K_getf 0 4 0 (jvR 63) dX_worth_31 pf_X_52 rfl rfl (by decide) rfl rfl ?_
      refine K_aload_n 0 0 dX_worth_34 rfl rfl ?_
      refine K_getf 0 2 0 (jvR 45) dX_worth_35 pf_X_38 rfl rfl (by decide) rfl rfl ?_
      refine K_iload_n 1 a0 dX_worth_38 rfl rfl ?_
      refine K_iload_n 2 a1 dX_worth_39 rfl rfl ?_
      refine K_callVi mRu_isFirstOfItsKind 7 63 [jvR 45, jvI a0, jvI a1] dX_worth_40 pm_X_326 ⟨_, rfl, rfl⟩ ⟨(Nat.le_of_ble_eq_true rfl), (Nat.le_of_ble_eq_true rfl)⟩ rfl rfl (by decide) (Nat.le_of_ble_eq_true rfl) rfl (Nat.le_of_ble_eq_true rfl) (by decide) (Ci_mono (h9.1 c12) (fun r17 μ14 h15 => ?_))
      refine K_if_eq 62 dX_worth_43 (by decide) (fun c18 => ?_) (fun c18 => ?_)
      · refine K_iconst (-1) dX_worth_62 rfl ?_
        exact K_iret dX_worth_63 (Or.inl rfl) (h15.1 c18)
      · refine K_aload_n 0 0 dX_worth_46 rfl rfl ?_
        refine K_getf 0 4 0 (jvR 63) dX_worth_47 pf_X_52 rfl rfl (by decide) rfl rfl ?_
        refine K_aload_n 0 0 dX_worth_50 rfl rfl ?_
        refine K_getf 0 2 0 (jvR 45) dX_worth_51 pf_X_38 rfl rfl (by decide) rfl rfl ?_
        refine K_iload_n 1 a0 dX_worth_54 rfl rfl ?_
        refine K_iload_n 2 a1 dX_worth_55 rfl rfl ?_
        refine K_callVi mRu_worthOf 7 63 [jvR 45, jvI a0, jvI a1] dX_worth_56 pm_X_329 ⟨_, rfl, rfl⟩ ⟨(Nat.le_of_ble_eq_true rfl), (Nat.le_of_ble_eq_true rfl)⟩ rfl rfl (by decide) (Nat.le_of_ble_eq_true rfl) rfl (Nat.le_of_ble_eq_true rfl) (by decide) (Ci_mono (h15.2 c18) (fun r24 μ21 h22 => ?_))
        refine K_goto 63 dX_worth_59 (by decide) ?_
        exact K_iret dX_worth_63 (Or.inl rfl) h22
    · refine K_iconst (-1) dX_worth_28 rfl ?_
      exact K_iret dX_worth_29 (Or.inl rfl) (h9.2 c12)
set_option maxHeartbeats 8000000 in
theorem vRu_isFirstOfItsKind_0 {E : jE} {μ : jMu} {Q : Option AV → jMu → Prop} {a1 a2 : Int} (hF : (K 121 E mRu_isFirstOfItsKind 3 [some (jvR 63), some (jvR 45), some (jvI a1), some (jvI a2), some (jvI 0)] [] μ Q)) : K 121 E mRu_isFirstOfItsKind 0 [some (jvR 63), some (jvR 45), some (jvI a1), some (jvI a2), none] [] μ Q := by
  refine K_iconst 0 dRu_isFirstOfItsKind_0 rfl ?_
  refine K_istore 4 dRu_isFirstOfItsKind_1 (Nat.le_of_ble_eq_true rfl) rfl ?_
  exact hF
set_option maxHeartbeats 8000000 in
theorem vRu_isFirstOfItsKind_3 {E : jE} {μ : jMu} {Q : Option AV → jMu → Prop} {b : Nat} (hb : isB b) {l2 l3 l4 : Int} (hF : ((-2147483648 ≤ (l2 - l3) ∧ (l2 - l3) < 2147483648)) ∧ (((l2 - l3) < l4 → (Q (some (jvI 1)) μ)) ∧ (¬ ((l2 - l3) < l4) → (Ci E mRu_isRun [jvR 63, jvR 45, jvI l4, jvI l3] μ (fun r7 μ4 => ((r7 = 0 → ((-2147483648 ≤ (l4 + 1) ∧ (l4 + 1) < 2147483648)) ∧ (K 121 E mRu_isFirstOfItsKind 3 [some (jvR 63), some (jvR 45), some (jvI l2), some (jvI l3), some (jvI (l4 + 1))] [] μ4 Q)) ∧ (¬ (r7 = 0) → ((μ4 45 7) = ((b : Nat) : Int)) ∧ (Ci E mRu_areAlike [jvR 63, jvR ((b : Nat) : Int), jvI l4, jvI l2, jvI l3] μ4 (fun r13 μ10 => ((r13 = 0 → ((-2147483648 ≤ (l4 + 1) ∧ (l4 + 1) < 2147483648)) ∧ (K 121 E mRu_isFirstOfItsKind 3 [some (jvR 63), some (jvR 45), some (jvI l2), some (jvI l3), some (jvI (l4 + 1))] [] μ10 Q)) ∧ (¬ (r13 = 0) → (Q (some (jvI 0)) μ10)))))))))))) : K 121 E mRu_isFirstOfItsKind 3 [some (jvR 63), some (jvR 45), some (jvI l2), some (jvI l3), some (jvI l4)] [] μ Q := by
  refine K_iload 4 l4 dRu_isFirstOfItsKind_3 rfl ?_
  refine K_iload_n 2 l2 dRu_isFirstOfItsKind_5 rfl rfl ?_
  refine K_iload_n 3 l3 dRu_isFirstOfItsKind_6 rfl rfl ?_
  refine K_isub dRu_isFirstOfItsKind_7 (w32_id hF.1) ?_
  refine K_icmp_gt 45 dRu_isFirstOfItsKind_8 (by decide) (fun c1 => ?_) (fun c1 => ?_)
  · refine K_iconst 1 dRu_isFirstOfItsKind_45 rfl ?_
    exact K_iret dRu_isFirstOfItsKind_46 (Or.inr ⟨rfl, (by decide)⟩) (hF.2.1 c1)
  · refine K_aload_n 0 63 dRu_isFirstOfItsKind_11 rfl rfl ?_
    refine K_aload_n 1 45 dRu_isFirstOfItsKind_12 rfl rfl ?_
    refine K_iload 4 l4 dRu_isFirstOfItsKind_13 rfl ?_
    refine K_iload_n 3 l3 dRu_isFirstOfItsKind_15 rfl rfl ?_
    refine K_callVi mRu_isRun 7 63 [jvR 45, jvI l4, jvI l3] dRu_isFirstOfItsKind_16 pm_Ru_59 ⟨_, rfl, rfl⟩ ⟨(Nat.le_of_ble_eq_true rfl), (Nat.le_of_ble_eq_true rfl)⟩ rfl rfl (by decide) (Nat.le_of_ble_eq_true rfl) rfl (Nat.le_of_ble_eq_true rfl) (by decide) (Ci_mono (hF.2.2 c1) (fun r7 μ4 h5 => ?_))
    refine K_if_eq 39 dRu_isFirstOfItsKind_19 (by decide) (fun c8 => ?_) (fun c8 => ?_)
    · refine K_iinc 4 dRu_isFirstOfItsKind_39 (Nat.le_of_ble_eq_true rfl) rfl (w32_ok (h5.1 c8).1) rfl ?_
      refine K_goto 3 dRu_isFirstOfItsKind_42 (by decide) ?_
      exact (h5.1 c8).2
    · refine K_aload_n 0 63 dRu_isFirstOfItsKind_22 rfl rfl ?_
      refine K_aload_n 1 45 dRu_isFirstOfItsKind_23 rfl rfl ?_
      refine K_getf 3 7 45 (jvR ((b : Nat) : Int)) dRu_isFirstOfItsKind_24 pf_Ru_63 rfl rfl (by decide) rfl (congrArg jvR (h5.2 c8).1) ?_
      refine K_iload 4 l4 dRu_isFirstOfItsKind_27 rfl ?_
      refine K_iload_n 2 l2 dRu_isFirstOfItsKind_29 rfl rfl ?_
      refine K_iload_n 3 l3 dRu_isFirstOfItsKind_30 rfl rfl ?_
      refine K_callVi mRu_areAlike 7 63 [jvR ((b : Nat) : Int), jvI l4, jvI l2, jvI l3] dRu_isFirstOfItsKind_31 pm_Ru_67 ⟨_, rfl, rfl⟩ ⟨(Nat.le_of_ble_eq_true rfl), (Nat.le_of_ble_eq_true rfl)⟩ rfl rfl (by decide) (Nat.le_of_ble_eq_true rfl) rfl (Nat.le_of_ble_eq_true rfl) (by decide) (Ci_mono (h5.2 c8).2 (fun r13 μ10 h11 => ?_))
      refine K_if_eq 39 dRu_isFirstOfItsKind_34 (by decide) (fun c14 => ?_) (fun c14 => ?_)
      · refine K_iinc 4 dRu_isFirstOfItsKind_39 (Nat.le_of_ble_eq_true rfl) rfl (w32_ok (h11.1 c14).1) rfl ?_
        refine K_goto 3 dRu_isFirstOfItsKind_42 (by decide) ?_
        exact (h11.1 c14).2
      · refine K_iconst 0 dRu_isFirstOfItsKind_37 rfl ?_
        exact K_iret dRu_isFirstOfItsKind_38 (Or.inr ⟨rfl, (by decide)⟩) (h11.2 c14)
set_option maxHeartbeats 8000000 in
theorem vRu_worthOf_0 {E : jE} {μ : jMu} {Q : Option AV → jMu → Prop} {a1 a2 : Int} (hF : ((-2147483648 ≤ (a1 + a2) ∧ (a1 + a2) < 2147483648)) ∧ (K 121 E mRu_worthOf 12 [some (jvR 63), some (jvR 45), some (jvI a1), some (jvI a2), some (jvI 1), some (jvI (a1 + a2)), some (jvI (a1 + a2))] [] μ Q)) : K 121 E mRu_worthOf 0 [some (jvR 63), some (jvR 45), some (jvI a1), some (jvI a2), none, none, none] [] μ Q := by
  refine K_iconst 1 dRu_worthOf_0 rfl ?_
  refine K_istore 4 dRu_worthOf_1 (Nat.le_of_ble_eq_true rfl) rfl ?_
  refine K_iload_n 2 a1 dRu_worthOf_3 rfl rfl ?_
  refine K_iload_n 3 a2 dRu_worthOf_4 rfl rfl ?_
  refine K_iadd dRu_worthOf_5 (w32_id hF.1) ?_
  refine K_istore 5 dRu_worthOf_6 (Nat.le_of_ble_eq_true rfl) rfl ?_
  refine K_iload 5 (a1 + a2) dRu_worthOf_8 rfl ?_
  refine K_istore 6 dRu_worthOf_10 (Nat.le_of_ble_eq_true rfl) rfl ?_
  exact hF.2
set_option maxHeartbeats 8000000 in
theorem vRu_worthOf_12 {E : jE} {μ : jMu} {Q : Option AV → jMu → Prop} {b : Nat} (hb : isB b) {l2 l3 l4 l5 l6 : Int} (hF : ((μ 45 7) = ((b : Nat) : Int) ∧ (-2147483648 ≤ ((μ b 13) - l3) ∧ ((μ b 13) - l3) < 2147483648)) ∧ ((((μ b 13) - l3) < l6 → ((-2147483648 ≤ (l3 - 1) ∧ (l3 - 1) < 2147483648) ∧ (-2147483648 ≤ (l4 * (l3 - 1)) ∧ (l4 * (l3 - 1)) < 2147483648) ∧ (-2147483648 ≤ ((l4 * (l3 - 1)) - l3) ∧ ((l4 * (l3 - 1)) - l3) < 2147483648)) ∧ (Q (some (jvI ((l4 * (l3 - 1)) - l3))) μ)) ∧ (¬ (((μ b 13) - l3) < l6) → ((l6 < l5 → ((-2147483648 ≤ (l6 + 1) ∧ (l6 + 1) < 2147483648)) ∧ (K 121 E mRu_worthOf 12 [some (jvR 63), some (jvR 45), some (jvI l2), some (jvI l3), some (jvI l4), some (jvI l5), some (jvI (l6 + 1))] [] μ Q)) ∧ (¬ (l6 < l5) → (Ci E mRu_isRun [jvR 63, jvR 45, jvI l6, jvI l3] μ (fun r9 μ6 => ((r9 = 0 → ((-2147483648 ≤ (l6 + 1) ∧ (l6 + 1) < 2147483648)) ∧ (K 121 E mRu_worthOf 12 [some (jvR 63), some (jvR 45), some (jvI l2), some (jvI l3), some (jvI l4), some (jvI l5), some (jvI (l6 + 1))] [] μ6 Q)) ∧ (¬ (r9 = 0) → ((μ6 45 7) = ((b : Nat) : Int)) ∧ (Ci E mRu_areAlike [jvR 63, jvR ((b : Nat) : Int), jvI l2, jvI l6, jvI l3] μ6 (fun r15 μ12 => ((r15 = 0 → ((-2147483648 ≤ (l6 + 1) ∧ (l6 + 1) < 2147483648)) ∧ (K 121 E mRu_worthOf 12 [some (jvR 63), some (jvR 45), some (jvI l2), some (jvI l3), some (jvI l4), some (jvI l5), some (jvI (l6 + 1))] [] μ12 Q)) ∧ (¬ (r15 = 0) → ((-2147483648 ≤ (l4 + 1) ∧ (l4 + 1) < 2147483648) ∧ (-2147483648 ≤ (l6 + l3) ∧ (l6 + l3) < 2147483648) ∧ (-2147483648 ≤ (l6 + 1) ∧ (l6 + 1) < 2147483648)) ∧ (K 121 E mRu_worthOf 12 [some (jvR 63), some (jvR 45), some (jvI l2), some (jvI l3), some (jvI (l4 + 1)), some (jvI (l6 + l3)), some (jvI (l6 + 1))] [] μ12 Q)))))))))))))) : K 121 E mRu_worthOf 12 [some (jvR 63), some (jvR 45), some (jvI l2), some (jvI l3), some (jvI l4), some (jvI l5), some (jvI l6)] [] μ Q := by
  refine K_iload 6 l6 dRu_worthOf_12 rfl ?_
  refine K_aload_n 1 45 dRu_worthOf_14 rfl rfl ?_
  refine K_getf 3 7 45 (jvR ((b : Nat) : Int)) dRu_worthOf_15 pf_Ru_63 rfl rfl (by decide) rfl (congrArg jvR hF.1.1) ?_
  refine K_getf 2 13 b (jvI (μ b 13)) dRu_worthOf_18 pf_Ru_9 rfl (isB_c0 hb) (isB_n 0 (by decide) hb) rfl (isB_f0_13 hb) ?_
  refine K_iload_n 3 l3 dRu_worthOf_21 rfl rfl ?_
  refine K_isub dRu_worthOf_22 (w32_id hF.1.2) ?_
  refine K_icmp_gt 74 dRu_worthOf_23 (by decide) (fun c1 => ?_) (fun c1 => ?_)
  · refine K_iload 4 l4 dRu_worthOf_74 rfl ?_
    refine K_iload_n 3 l3 dRu_worthOf_76 rfl rfl ?_
    refine K_iconst 1 dRu_worthOf_77 rfl ?_
    refine K_isub dRu_worthOf_78 (w32_id (hF.2.1 c1).1.1) ?_
    refine K_imul dRu_worthOf_79 (w32_id (hF.2.1 c1).1.2.1) ?_
    refine K_iload_n 3 l3 dRu_worthOf_80 rfl rfl ?_
    refine K_isub dRu_worthOf_81 (w32_id (hF.2.1 c1).1.2.2) ?_
    exact K_iret dRu_worthOf_82 (Or.inl rfl) (hF.2.1 c1).2
  · refine K_iload 6 l6 dRu_worthOf_26 rfl ?_
    refine K_iload 5 l5 dRu_worthOf_28 rfl ?_
    refine K_icmp_lt 68 dRu_worthOf_30 (by decide) (fun c4 => ?_) (fun c4 => ?_)
    · refine K_iinc 6 dRu_worthOf_68 (Nat.le_of_ble_eq_true rfl) rfl (w32_ok ((hF.2.2 c1).1 c4).1) rfl ?_
      refine K_goto 12 dRu_worthOf_71 (by decide) ?_
      exact ((hF.2.2 c1).1 c4).2
    · refine K_aload_n 0 63 dRu_worthOf_33 rfl rfl ?_
      refine K_aload_n 1 45 dRu_worthOf_34 rfl rfl ?_
      refine K_iload 6 l6 dRu_worthOf_35 rfl ?_
      refine K_iload_n 3 l3 dRu_worthOf_37 rfl rfl ?_
      refine K_callVi mRu_isRun 7 63 [jvR 45, jvI l6, jvI l3] dRu_worthOf_38 pm_Ru_59 ⟨_, rfl, rfl⟩ ⟨(Nat.le_of_ble_eq_true rfl), (Nat.le_of_ble_eq_true rfl)⟩ rfl rfl (by decide) (Nat.le_of_ble_eq_true rfl) rfl (Nat.le_of_ble_eq_true rfl) (by decide) (Ci_mono ((hF.2.2 c1).2 c4) (fun r9 μ6 h7 => ?_))
      refine K_if_eq 68 dRu_worthOf_41 (by decide) (fun c10 => ?_) (fun c10 => ?_)
      · refine K_iinc 6 dRu_worthOf_68 (Nat.le_of_ble_eq_true rfl) rfl (w32_ok (h7.1 c10).1) rfl ?_
        refine K_goto 12 dRu_worthOf_71 (by decide) ?_
        exact (h7.1 c10).2
      · refine K_aload_n 0 63 dRu_worthOf_44 rfl rfl ?_
        refine K_aload_n 1 45 dRu_worthOf_45 rfl rfl ?_
        refine K_getf 3 7 45 (jvR ((b : Nat) : Int)) dRu_worthOf_46 pf_Ru_63 rfl rfl (by decide) rfl (congrArg jvR (h7.2 c10).1) ?_
        refine K_iload_n 2 l2 dRu_worthOf_49 rfl rfl ?_
        refine K_iload 6 l6 dRu_worthOf_50 rfl ?_
        refine K_iload_n 3 l3 dRu_worthOf_52 rfl rfl ?_
        refine K_callVi mRu_areAlike 7 63 [jvR ((b : Nat) : Int), jvI l2, jvI l6, jvI l3] dRu_worthOf_53 pm_Ru_67 ⟨_, rfl, rfl⟩ ⟨(Nat.le_of_ble_eq_true rfl), (Nat.le_of_ble_eq_true rfl)⟩ rfl rfl (by decide) (Nat.le_of_ble_eq_true rfl) rfl (Nat.le_of_ble_eq_true rfl) (by decide) (Ci_mono (h7.2 c10).2 (fun r15 μ12 h13 => ?_))
        refine K_if_eq 68 dRu_worthOf_56 (by decide) (fun c16 => ?_) (fun c16 => ?_)
        · refine K_iinc 6 dRu_worthOf_68 (Nat.le_of_ble_eq_true rfl) rfl (w32_ok (h13.1 c16).1) rfl ?_
          refine K_goto 12 dRu_worthOf_71 (by decide) ?_
          exact (h13.1 c16).2
        · refine K_iinc 4 dRu_worthOf_59 (Nat.le_of_ble_eq_true rfl) rfl (w32_ok (h13.2 c16).1.1) rfl ?_
          refine K_iload 6 l6 dRu_worthOf_62 rfl ?_
          refine K_iload_n 3 l3 dRu_worthOf_64 rfl rfl ?_
          refine K_iadd dRu_worthOf_65 (w32_id (h13.2 c16).1.2.1) ?_
          refine K_istore 5 dRu_worthOf_66 (Nat.le_of_ble_eq_true rfl) rfl ?_
          refine K_iinc 6 dRu_worthOf_68 (Nat.le_of_ble_eq_true rfl) rfl (w32_ok (h13.2 c16).1.2.2) rfl ?_
          refine K_goto 12 dRu_worthOf_71 (by decide) ?_
          exact (h13.2 c16).2
set_option maxHeartbeats 8000000 in
theorem vX_lemma_0 {E : jE} {μ : jMu} {Q : Option AV → jMu → Prop} {a0 : Int} (hF : (Cv E mRu_findBest [jvR 63, jvR 45] μ (fun μ1 => ((0 < (μ1 63 3) → ((a0 = 0 → (Q (some (jvI (μ1 63 1))) μ1)) ∧ (a0 = 1 → (Q (some (jvI (μ1 63 2))) μ1)) ∧ (a0 = 2 → (Q (some (jvI (μ1 63 3))) μ1)) ∧ ((a0 < 0 ∨ 2 < a0) → (Q (some (jvI (-1))) μ1)))) ∧ (¬ (0 < (μ1 63 3)) → (Q (some (jvI (-1))) μ1)))))) : K 121 E mX_lemma 0 [some (jvR 0), some (jvI a0)] [] μ Q := by
  refine K_aload_n 0 0 dX_lemma_0 rfl rfl ?_
  refine K_getf 0 4 0 (jvR 63) dX_lemma_1 pf_X_52 rfl rfl (by decide) rfl rfl ?_
  refine K_aload_n 0 0 dX_lemma_4 rfl rfl ?_
  refine K_getf 0 2 0 (jvR 45) dX_lemma_5 pf_X_38 rfl rfl (by decide) rfl rfl ?_
  refine K_callVv mRu_findBest 7 63 [jvR 45] dX_lemma_8 pm_X_333 ⟨_, rfl, rfl⟩ ⟨(Nat.le_of_ble_eq_true rfl), (Nat.le_of_ble_eq_true rfl)⟩ rfl rfl (by decide) (Nat.le_of_ble_eq_true rfl) rfl (Nat.le_of_ble_eq_true rfl) (by decide) (Cv_mono hF (fun μ1 h2 => ?_))
  refine K_aload_n 0 0 dX_lemma_11 rfl rfl ?_
  refine K_getf 0 4 0 (jvR 63) dX_lemma_12 pf_X_52 rfl rfl (by decide) rfl rfl ?_
  refine K_getf 7 3 63 (jvI (μ1 63 3)) dX_lemma_15 pf_X_337 rfl rfl (by decide) rfl rfl ?_
  refine K_if_gt 23 dX_lemma_18 (by decide) (fun c4 => ?_) (fun c4 => ?_)
  · refine K_iload_n 1 a0 dX_lemma_23 rfl rfl ?_
    refine K_table dX_lemma_24 (fun i hi9 ha9 => ?_) rfl 76 (by decide) (fun c6 => ?_)
    · match i, hi9, ha9 with
      | 0, _, ha9 =>
        have c6 : a0 = 0 := by omega
        refine ⟨_, 52, rfl, by decide, ?_⟩
        refine K_aload_n 0 0 dX_lemma_52 rfl rfl ?_
        refine K_getf 0 4 0 (jvR 63) dX_lemma_53 pf_X_52 rfl rfl (by decide) rfl rfl ?_
        refine K_getf 7 1 63 (jvI (μ1 63 1)) dX_lemma_56 pf_X_340 rfl rfl (by decide) rfl rfl ?_
        exact K_iret dX_lemma_59 (Or.inl rfl) ((h2.1 c4).1 c6)
      | 1, _, ha9 =>
        have c6 : a0 = 1 := by omega
        refine ⟨_, 60, rfl, by decide, ?_⟩
        refine K_aload_n 0 0 dX_lemma_60 rfl rfl ?_
        refine K_getf 0 4 0 (jvR 63) dX_lemma_61 pf_X_52 rfl rfl (by decide) rfl rfl ?_
        refine K_getf 7 2 63 (jvI (μ1 63 2)) dX_lemma_64 pf_X_343 rfl rfl (by decide) rfl rfl ?_
        exact K_iret dX_lemma_67 (Or.inl rfl) ((h2.1 c4).2.1 c6)
      | 2, _, ha9 =>
        have c6 : a0 = 2 := by omega
        refine ⟨_, 68, rfl, by decide, ?_⟩
        refine K_aload_n 0 0 dX_lemma_68 rfl rfl ?_
        refine K_getf 0 4 0 (jvR 63) dX_lemma_69 pf_X_52 rfl rfl (by decide) rfl rfl ?_
        refine K_getf 7 3 63 (jvI (μ1 63 3)) dX_lemma_72 pf_X_337 rfl rfl (by decide) rfl rfl ?_
        exact K_iret dX_lemma_75 (Or.inl rfl) ((h2.1 c4).2.2.1 c6)
      | i + 3, hi9, _ => exact absurd hi9 (by simp <;> omega)
    · skip
      refine K_iconst (-1) dX_lemma_76 rfl ?_
      exact K_iret dX_lemma_77 (Or.inl rfl) ((h2.1 c4).2.2.2 c6)
  · refine K_iconst (-1) dX_lemma_21 rfl ?_
    exact K_iret dX_lemma_22 (Or.inl rfl) (h2.2 c4)
set_option maxHeartbeats 8000000 in
theorem vRu_findBest_0 {E : jE} {μ : jMu} {Q : Option AV → jMu → Prop} (hF : (((μ 63 0) = 0 → (K 121 E mRu_findBest 20 [some (jvR 63), some (jvR 45), some (jvI 0), none] [] (j_up (j_up μ 63 0 1) 63 3 0) Q)) ∧ (¬ ((μ 63 0) = 0) → (Q none μ)))) : K 121 E mRu_findBest 0 [some (jvR 63), some (jvR 45), none, none] [] μ Q := by
  refine K_aload_n 0 63 dRu_findBest_0 rfl rfl ?_
  refine K_getf 7 0 63 (jvI (μ 63 0)) dRu_findBest_1 pf_Ru_71 rfl rfl (by decide) rfl rfl ?_
  refine K_if_eq 8 dRu_findBest_4 (by decide) (fun c1 => ?_) (fun c1 => ?_)
  · refine K_aload_n 0 63 dRu_findBest_8 rfl rfl ?_
    refine K_iconst 1 dRu_findBest_9 rfl ?_
    refine K_putf 7 0 63 (x := 1) dRu_findBest_10 pf_Ru_71 rfl rfl (by decide) rfl rfl rfl rfl (Or.inr rfl) ?_
    refine K_aload_n 0 63 dRu_findBest_13 rfl rfl ?_
    refine K_iconst 0 dRu_findBest_14 rfl ?_
    refine K_putf 7 3 63 (x := 0) dRu_findBest_15 pf_Ru_75 rfl rfl (by decide) rfl rfl rfl rfl trivial ?_
    refine K_iconst 0 dRu_findBest_18 rfl ?_
    refine K_istore_n 2 dRu_findBest_19 rfl (Nat.le_of_ble_eq_true rfl) rfl ?_
    exact (hF.1 c1)
  · exact K_vret dRu_findBest_7 rfl (hF.2 c1)
set_option maxHeartbeats 8000000 in
theorem vRu_findBest_20 {E : jE} {μ : jMu} {Q : Option AV → jMu → Prop} {b : Nat} (hb : isB b) {l2 : Int} (hF : ((μ 45 7) = ((b : Nat) : Int)) ∧ (((μ b 13) ≤ l2 → (Q none μ)) ∧ (¬ ((μ b 13) ≤ l2) → (K 121 E mRu_findBest 33 [some (jvR 63), some (jvR 45), some (jvI l2), some (jvI 2)] [] μ Q)))) : K 121 E mRu_findBest 20 [some (jvR 63), some (jvR 45), some (jvI l2), none] [] μ Q := by
  refine K_iload_n 2 l2 dRu_findBest_20 rfl rfl ?_
  refine K_aload_n 1 45 dRu_findBest_21 rfl rfl ?_
  refine K_getf 3 7 45 (jvR ((b : Nat) : Int)) dRu_findBest_22 pf_Ru_63 rfl rfl (by decide) rfl (congrArg jvR hF.1) ?_
  refine K_getf 2 13 b (jvI (μ b 13)) dRu_findBest_25 pf_Ru_9 rfl (isB_c0 hb) (isB_n 0 (by decide) hb) rfl (isB_f0_13 hb) ?_
  refine K_icmp_ge 96 dRu_findBest_28 (by decide) (fun c1 => ?_) (fun c1 => ?_)
  · exact K_vret dRu_findBest_96 rfl (hF.2.1 c1)
  · refine K_iconst 2 dRu_findBest_31 rfl ?_
    refine K_istore_n 3 dRu_findBest_32 rfl (Nat.le_of_ble_eq_true rfl) rfl ?_
    exact (hF.2.2 c1)
set_option maxHeartbeats 8000000 in
theorem vRu_findBest_33 {E : jE} {μ : jMu} {Q : Option AV → jMu → Prop} {b : Nat} (hb : isB b) {l2 l3 : Int} (hF : ((8 < l3 → ((-2147483648 ≤ (l2 + 1) ∧ (l2 + 1) < 2147483648)) ∧ (K 121 E mRu_findBest 20 [some (jvR 63), some (jvR 45), some (jvI (l2 + 1)), none] [] μ Q)) ∧ (¬ (8 < l3) → ((μ 45 7) = ((b : Nat) : Int)) ∧ (Ci E mRu_fit [jvR ((b : Nat) : Int), jvI l2, jvI l3] μ (fun r6 μ3 => ((r6 = 0 → ((-2147483648 ≤ (l2 + 1) ∧ (l2 + 1) < 2147483648)) ∧ (K 121 E mRu_findBest 20 [some (jvR 63), some (jvR 45), some (jvI (l2 + 1)), none] [] μ3 Q)) ∧ (¬ (r6 = 0) → (Ci E mRu_isRun [jvR 63, jvR 45, jvI l2, jvI l3] μ3 (fun r12 μ9 => ((r12 = 0 → ((-2147483648 ≤ (l3 + 1) ∧ (l3 + 1) < 2147483648)) ∧ (K 121 E mRu_findBest 33 [some (jvR 63), some (jvR 45), some (jvI l2), some (jvI (l3 + 1))] [] μ9 Q)) ∧ (¬ (r12 = 0) → (Ci E mRu_isFirstOfItsKind [jvR 63, jvR 45, jvI l2, jvI l3] μ9 (fun r18 μ15 => ((r18 = 0 → ((-2147483648 ≤ (l3 + 1) ∧ (l3 + 1) < 2147483648)) ∧ (K 121 E mRu_findBest 33 [some (jvR 63), some (jvR 45), some (jvI l2), some (jvI (l3 + 1))] [] μ15 Q)) ∧ (¬ (r18 = 0) → (Ci E mRu_worthOf [jvR 63, jvR 45, jvI l2, jvI l3] μ15 (fun r24 μ21 => (Cv E mRu_keepIfBetter [jvR 63, jvI l2, jvI l3, jvI r24] μ21 (fun μ25 => ((-2147483648 ≤ (l3 + 1) ∧ (l3 + 1) < 2147483648)) ∧ (K 121 E mRu_findBest 33 [some (jvR 63), some (jvR 45), some (jvI l2), some (jvI (l3 + 1))] [] μ25 Q)))))))))))))))))))) : K 121 E mRu_findBest 33 [some (jvR 63), some (jvR 45), some (jvI l2), some (jvI l3)] [] μ Q := by
  refine K_iload_n 3 l3 dRu_findBest_33 rfl rfl ?_
  refine K_bipush 8 dRu_findBest_34 rfl ?_
  refine K_icmp_gt 90 dRu_findBest_36 (by decide) (fun c1 => ?_) (fun c1 => ?_)
  · refine K_iinc 2 dRu_findBest_90 (Nat.le_of_ble_eq_true rfl) rfl (w32_ok (hF.1 c1).1) rfl ?_
    refine K_goto 20 dRu_findBest_93 (by decide) ?_
    exact K_forget [true, true, true, false] (hF.1 c1).2
  · refine K_aload_n 1 45 dRu_findBest_39 rfl rfl ?_
    refine K_getf 3 7 45 (jvR ((b : Nat) : Int)) dRu_findBest_40 pf_Ru_63 rfl rfl (by decide) rfl (congrArg jvR (hF.2 c1).1) ?_
    refine K_iload_n 2 l2 dRu_findBest_43 rfl rfl ?_
    refine K_iload_n 3 l3 dRu_findBest_44 rfl rfl ?_
    refine K_callSi mRu_fit [jvR ((b : Nat) : Int), jvI l2, jvI l3] dRu_findBest_45 pm_Ru_78 ⟨(Nat.le_of_ble_eq_true rfl), (Nat.le_of_ble_eq_true rfl)⟩ (Nat.le_of_ble_eq_true rfl) rfl (Nat.le_of_ble_eq_true rfl) (by decide) (Ci_mono (hF.2 c1).2 (fun r6 μ3 h4 => ?_))
    refine K_if_eq 90 dRu_findBest_48 (by decide) (fun c7 => ?_) (fun c7 => ?_)
    · refine K_iinc 2 dRu_findBest_90 (Nat.le_of_ble_eq_true rfl) rfl (w32_ok (h4.1 c7).1) rfl ?_
      refine K_goto 20 dRu_findBest_93 (by decide) ?_
      exact K_forget [true, true, true, false] (h4.1 c7).2
    · refine K_aload_n 0 63 dRu_findBest_51 rfl rfl ?_
      refine K_aload_n 1 45 dRu_findBest_52 rfl rfl ?_
      refine K_iload_n 2 l2 dRu_findBest_53 rfl rfl ?_
      refine K_iload_n 3 l3 dRu_findBest_54 rfl rfl ?_
      refine K_callVi mRu_isRun 7 63 [jvR 45, jvI l2, jvI l3] dRu_findBest_55 pm_Ru_59 ⟨_, rfl, rfl⟩ ⟨(Nat.le_of_ble_eq_true rfl), (Nat.le_of_ble_eq_true rfl)⟩ rfl rfl (by decide) (Nat.le_of_ble_eq_true rfl) rfl (Nat.le_of_ble_eq_true rfl) (by decide) (Ci_mono (h4.2 c7) (fun r12 μ9 h10 => ?_))
      refine K_if_eq 84 dRu_findBest_58 (by decide) (fun c13 => ?_) (fun c13 => ?_)
      · refine K_iinc 3 dRu_findBest_84 (Nat.le_of_ble_eq_true rfl) rfl (w32_ok (h10.1 c13).1) rfl ?_
        refine K_goto 33 dRu_findBest_87 (by decide) ?_
        exact (h10.1 c13).2
      · refine K_aload_n 0 63 dRu_findBest_61 rfl rfl ?_
        refine K_aload_n 1 45 dRu_findBest_62 rfl rfl ?_
        refine K_iload_n 2 l2 dRu_findBest_63 rfl rfl ?_
        refine K_iload_n 3 l3 dRu_findBest_64 rfl rfl ?_
        refine K_callVi mRu_isFirstOfItsKind 7 63 [jvR 45, jvI l2, jvI l3] dRu_findBest_65 pm_Ru_82 ⟨_, rfl, rfl⟩ ⟨(Nat.le_of_ble_eq_true rfl), (Nat.le_of_ble_eq_true rfl)⟩ rfl rfl (by decide) (Nat.le_of_ble_eq_true rfl) rfl (Nat.le_of_ble_eq_true rfl) (by decide) (Ci_mono (h10.2 c13) (fun r18 μ15 h16 => ?_))
        refine K_if_eq 84 dRu_findBest_68 (by decide) (fun c19 => ?_) (fun c19 => ?_)
        · refine K_iinc 3 dRu_findBest_84 (Nat.le_of_ble_eq_true rfl) rfl (w32_ok (h16.1 c19).1) rfl ?_
          refine K_goto 33 dRu_findBest_87 (by decide) ?_
          exact (h16.1 c19).2
        · refine K_aload_n 0 63 dRu_findBest_71 rfl rfl ?_
          refine K_iload_n 2 l2 dRu_findBest_72 rfl rfl ?_
          refine K_iload_n 3 l3 dRu_findBest_73 rfl rfl ?_
          refine K_aload_n 0 63 dRu_findBest_74 rfl rfl ?_
          refine K_aload_n 1 45 dRu_findBest_75 rfl rfl ?_
          refine K_iload_n 2 l2 dRu_findBest_76 rfl rfl ?_
          refine K_iload_n 3 l3 dRu_findBest_77 rfl rfl ?_
          refine K_callVi mRu_worthOf 7 63 [jvR 45, jvI l2, jvI l3] dRu_findBest_78 pm_Ru_85 ⟨_, rfl, rfl⟩ ⟨(Nat.le_of_ble_eq_true rfl), (Nat.le_of_ble_eq_true rfl)⟩ rfl rfl (by decide) (Nat.le_of_ble_eq_true rfl) rfl (Nat.le_of_ble_eq_true rfl) (by decide) (Ci_mono (h16.2 c19) (fun r24 μ21 h22 => ?_))
          refine K_callVv mRu_keepIfBetter 7 63 [jvI l2, jvI l3, jvI r24] dRu_findBest_81 pm_Ru_89 ⟨_, rfl, rfl⟩ ⟨(Nat.le_of_ble_eq_true rfl), (Nat.le_of_ble_eq_true rfl)⟩ rfl rfl (by decide) (Nat.le_of_ble_eq_true rfl) rfl (Nat.le_of_ble_eq_true rfl) (by decide) (Cv_mono h22 (fun μ25 h26 => ?_))
          refine K_iinc 3 dRu_findBest_84 (Nat.le_of_ble_eq_true rfl) rfl (w32_ok h26.1) rfl ?_
          refine K_goto 33 dRu_findBest_87 (by decide) ?_
          exact h26.2
set_option maxHeartbeats 8000000 in
theorem vRu_keepIfBetter_0 {E : jE} {μ : jMu} {Q : Option AV → jMu → Prop} {a0 a1 a2 : Int} (hF : ((a2 ≤ (μ 63 3) → (Q none μ)) ∧ (¬ (a2 ≤ (μ 63 3)) → (Q none (j_up (j_up (j_up μ 63 1 a0) 63 2 a1) 63 3 a2))))) : K 121 E mRu_keepIfBetter 0 [some (jvR 63), some (jvI a0), some (jvI a1), some (jvI a2)] [] μ Q := by
  refine K_iload_n 3 a2 dRu_keepIfBetter_0 rfl rfl ?_
  refine K_aload_n 0 63 dRu_keepIfBetter_1 rfl rfl ?_
  refine K_getf 7 3 63 (jvI (μ 63 3)) dRu_keepIfBetter_2 pf_Ru_75 rfl rfl (by decide) rfl rfl ?_
  refine K_icmp_le 23 dRu_keepIfBetter_5 (by decide) (fun c1 => ?_) (fun c1 => ?_)
  · exact K_vret dRu_keepIfBetter_23 rfl (hF.1 c1)
  · refine K_aload_n 0 63 dRu_keepIfBetter_8 rfl rfl ?_
    refine K_iload_n 1 a0 dRu_keepIfBetter_9 rfl rfl ?_
    refine K_putf 7 1 63 (x := a0) dRu_keepIfBetter_10 pf_Ru_93 rfl rfl (by decide) rfl rfl rfl rfl trivial ?_
    refine K_aload_n 0 63 dRu_keepIfBetter_13 rfl rfl ?_
    refine K_iload_n 2 a1 dRu_keepIfBetter_14 rfl rfl ?_
    refine K_putf 7 2 63 (x := a1) dRu_keepIfBetter_15 pf_Ru_96 rfl rfl (by decide) rfl rfl rfl rfl trivial ?_
    refine K_aload_n 0 63 dRu_keepIfBetter_18 rfl rfl ?_
    refine K_iload_n 3 a2 dRu_keepIfBetter_19 rfl rfl ?_
    refine K_putf 7 3 63 (x := a2) dRu_keepIfBetter_20 pf_Ru_75 rfl rfl (by decide) rfl rfl rfl rfl trivial ?_
    exact K_vret dRu_keepIfBetter_23 rfl (hF.2 c1)
set_option maxHeartbeats 8000000 in
theorem vX_order_0 {E : jE} {μ : jMu} {Q : Option AV → jMu → Prop} {a0 : Int} (hF : (((μ 52 6) = 0 → (Q (some (jvI (-1))) μ)) ∧ (¬ ((μ 52 6) = 0) → ((14 < (μ 52 6) → (Q (some (jvI (-1))) μ)) ∧ (¬ (14 < (μ 52 6)) → ((a0 < (-1) → (Q (some (jvI (-1))) μ)) ∧ (¬ (a0 < (-1)) → ((a0 < (μ 52 6) → (Cv E mOr_find [jvR 64, jvR 52] μ (fun μ12 => ((¬ a0 = (-1) → ((0 ≤ a0 ∧ a0 < 14)) ∧ (Q (some (jvI (μ12 65 a0))) μ12)) ∧ (a0 = (-1) → (Q (some (jvI (μ12 64 5))) μ12)))))) ∧ (¬ (a0 < (μ 52 6)) → (Q (some (jvI (-1))) μ)))))))))) : K 121 E mX_order 0 [some (jvR 0), some (jvI a0), none] [] μ Q := by
  refine K_aload_n 0 0 dX_order_0 rfl rfl ?_
  refine K_getf 0 2 0 (jvR 45) dX_order_1 pf_X_38 rfl rfl (by decide) rfl rfl ?_
  refine K_getf 3 6 45 (jvR 52) dX_order_4 pf_X_175 rfl rfl (by decide) rfl rfl ?_
  refine K_getf 6 6 52 (jvI (μ 52 6)) dX_order_7 pf_X_179 rfl rfl (by decide) rfl rfl ?_
  refine K_istore_n 2 dX_order_10 rfl (Nat.le_of_ble_eq_true rfl) rfl ?_
  refine K_iload_n 2 (μ 52 6) dX_order_11 rfl rfl ?_
  refine K_if_eq 31 dX_order_12 (by decide) (fun c1 => ?_) (fun c1 => ?_)
  · refine K_iconst (-1) dX_order_31 rfl ?_
    exact K_iret dX_order_32 (Or.inl rfl) (hF.1 c1)
  · refine K_iload_n 2 (μ 52 6) dX_order_15 rfl rfl ?_
    refine K_bipush 14 dX_order_16 rfl ?_
    refine K_icmp_gt 31 dX_order_18 (by decide) (fun c4 => ?_) (fun c4 => ?_)
    · refine K_iconst (-1) dX_order_31 rfl ?_
      exact K_iret dX_order_32 (Or.inl rfl) ((hF.2 c1).1 c4)
    · refine K_iload_n 1 a0 dX_order_21 rfl rfl ?_
      refine K_iconst (-1) dX_order_22 rfl ?_
      refine K_icmp_lt 31 dX_order_23 (by decide) (fun c7 => ?_) (fun c7 => ?_)
      · refine K_iconst (-1) dX_order_31 rfl ?_
        exact K_iret dX_order_32 (Or.inl rfl) (((hF.2 c1).2 c4).1 c7)
      · refine K_iload_n 1 a0 dX_order_26 rfl rfl ?_
        refine K_iload_n 2 (μ 52 6) dX_order_27 rfl rfl ?_
        refine K_icmp_lt 33 dX_order_28 (by decide) (fun c10 => ?_) (fun c10 => ?_)
        · refine K_aload_n 0 0 dX_order_33 rfl rfl ?_
          refine K_getf 0 5 0 (jvR 64) dX_order_34 pf_X_59 rfl rfl (by decide) rfl rfl ?_
          refine K_aload_n 0 0 dX_order_37 rfl rfl ?_
          refine K_getf 0 2 0 (jvR 45) dX_order_38 pf_X_38 rfl rfl (by decide) rfl rfl ?_
          refine K_getf 3 6 45 (jvR 52) dX_order_41 pf_X_175 rfl rfl (by decide) rfl rfl ?_
          refine K_callVv mOr_find 4 64 [jvR 52] dX_order_44 pm_X_346 ⟨_, rfl, rfl⟩ ⟨(Nat.le_of_ble_eq_true rfl), (Nat.le_of_ble_eq_true rfl)⟩ rfl rfl (by decide) (Nat.le_of_ble_eq_true rfl) rfl (Nat.le_of_ble_eq_true rfl) (by decide) (Cv_mono ((((hF.2 c1).2 c4).2 c7).1 c10) (fun μ12 h13 => ?_))
          refine K_iload_n 1 a0 dX_order_47 rfl rfl ?_
          refine K_iconst (-1) dX_order_48 rfl ?_
          refine K_icmp_ne 62 dX_order_49 (by decide) (fun c15 => ?_) (fun c15 => ?_)
          · refine K_aload_n 0 0 dX_order_62 rfl rfl ?_
            refine K_getf 0 5 0 (jvR 64) dX_order_63 pf_X_59 rfl rfl (by decide) rfl rfl ?_
            refine K_getf 4 0 64 (jvR 65) dX_order_66 pf_X_353 rfl rfl (by decide) rfl rfl ?_
            refine K_iload_n 1 a0 dX_order_69 rfl rfl ?_
            refine K_iald 65 14 dX_order_70 rfl rfl (by decide) (h13.1 c15).1 ?_
            exact K_iret dX_order_71 (Or.inl rfl) (h13.1 c15).2
          · refine K_aload_n 0 0 dX_order_52 rfl rfl ?_
            refine K_getf 0 5 0 (jvR 64) dX_order_53 pf_X_59 rfl rfl (by decide) rfl rfl ?_
            refine K_getf 4 5 64 (jvI (μ12 64 5)) dX_order_56 pf_X_350 rfl rfl (by decide) rfl rfl ?_
            refine K_goto 71 dX_order_59 (by decide) ?_
            exact K_iret dX_order_71 (Or.inl rfl) (h13.2 c15)
        · refine K_iconst (-1) dX_order_31 rfl ?_
          exact K_iret dX_order_32 (Or.inl rfl) ((((hF.2 c1).2 c4).2 c7).2 c10)
set_option maxHeartbeats 8000000 in
theorem vOr_find_0 {E : jE} {μ : jMu} {Q : Option AV → jMu → Prop} (hF : (((μ 64 4) = 0 → (K 121 E mOr_find 18 [some (jvR 64), some (jvR 52)] [] (j_up (j_up μ 64 4 1) 64 5 1) Q)) ∧ (¬ ((μ 64 4) = 0) → (Q none μ)))) : K 121 E mOr_find 0 [some (jvR 64), some (jvR 52)] [] μ Q := by
  refine K_aload_n 0 64 dOr_find_0 rfl rfl ?_
  refine K_getf 4 4 64 (jvI (μ 64 4)) dOr_find_1 pf_Or_31 rfl rfl (by decide) rfl rfl ?_
  refine K_if_eq 8 dOr_find_4 (by decide) (fun c1 => ?_) (fun c1 => ?_)
  · refine K_aload_n 0 64 dOr_find_8 rfl rfl ?_
    refine K_iconst 1 dOr_find_9 rfl ?_
    refine K_putf 4 4 64 (x := 1) dOr_find_10 pf_Or_31 rfl rfl (by decide) rfl rfl rfl rfl (Or.inr rfl) ?_
    refine K_aload_n 0 64 dOr_find_13 rfl rfl ?_
    refine K_iconst 1 dOr_find_14 rfl ?_
    refine K_putf 4 5 64 (x := 1) dOr_find_15 pf_Or_35 rfl rfl (by decide) rfl rfl rfl rfl trivial ?_
    exact (hF.1 c1)
  · exact K_vret dOr_find_7 rfl (hF.2 c1)
set_option maxHeartbeats 8000000 in
theorem vOr_find_18 {E : jE} {μ : jMu} {Q : Option AV → jMu → Prop} (hF : (Ci E mOr_tellsWithin [jvR 64, jvR 52] μ (fun r4 μ1 => ((¬ r4 = 0 → (Q none μ1)) ∧ (r4 = 0 → (((μ1 52 6) ≤ (μ1 64 5) → (Q none μ1)) ∧ (¬ ((μ1 52 6) ≤ (μ1 64 5)) → ((-2147483648 ≤ ((μ1 64 5) + 1) ∧ ((μ1 64 5) + 1) < 2147483648)) ∧ (K 121 E mOr_find 18 [some (jvR 64), some (jvR 52)] [] (j_up μ1 64 5 ((μ1 64 5) + 1)) Q)))))))) : K 121 E mOr_find 18 [some (jvR 64), some (jvR 52)] [] μ Q := by
  refine K_aload_n 0 64 dOr_find_18 rfl rfl ?_
  refine K_aload_n 1 52 dOr_find_19 rfl rfl ?_
  refine K_callVi mOr_tellsWithin 4 64 [jvR 52] dOr_find_20 pm_Or_38 ⟨_, rfl, rfl⟩ ⟨(Nat.le_of_ble_eq_true rfl), (Nat.le_of_ble_eq_true rfl)⟩ rfl rfl (by decide) (Nat.le_of_ble_eq_true rfl) rfl (Nat.le_of_ble_eq_true rfl) (by decide) (Ci_mono hF (fun r4 μ1 h2 => ?_))
  refine K_if_ne 50 dOr_find_23 (by decide) (fun c5 => ?_) (fun c5 => ?_)
  · exact K_vret dOr_find_50 rfl (h2.1 c5)
  · refine K_aload_n 0 64 dOr_find_26 rfl rfl ?_
    refine K_getf 4 5 64 (jvI (μ1 64 5)) dOr_find_27 pf_Or_35 rfl rfl (by decide) rfl rfl ?_
    refine K_aload_n 1 52 dOr_find_30 rfl rfl ?_
    refine K_getf 6 6 52 (jvI (μ1 52 6)) dOr_find_31 pf_Or_42 rfl rfl (by decide) rfl rfl ?_
    refine K_icmp_ge 50 dOr_find_34 (by decide) (fun c8 => ?_) (fun c8 => ?_)
    · exact K_vret dOr_find_50 rfl ((h2.2 c5).1 c8)
    · refine K_aload_n 0 64 dOr_find_37 rfl rfl ?_
      refine K_dup dOr_find_38 (fun _ h => by cases h) ?_
      refine K_getf 4 5 64 (jvI (μ1 64 5)) dOr_find_39 pf_Or_35 rfl rfl (by decide) rfl rfl ?_
      refine K_iconst 1 dOr_find_42 rfl ?_
      refine K_iadd dOr_find_43 (w32_id ((h2.2 c5).2 c8).1) ?_
      refine K_putf 4 5 64 (x := ((μ1 64 5) + 1)) dOr_find_44 pf_Or_35 rfl rfl (by decide) rfl rfl rfl rfl trivial ?_
      refine K_goto 18 dOr_find_47 (by decide) ?_
      exact ((h2.2 c5).2 c8).2
set_option maxHeartbeats 8000000 in
theorem vOr_tellsWithin_0 {E : jE} {μ : jMu} {Q : Option AV → jMu → Prop} (hF : (Cv E mAr_fill2 [jvR 66, jvL 0] μ (fun μ1 => (K 121 E mOr_tellsWithin 18 [some (jvR 64), some (jvR 52), some (jvI 0), some (jvI 0), some (jvI 0), some (jvI 0), none] [] μ1 Q)))) : K 121 E mOr_tellsWithin 0 [some (jvR 64), some (jvR 52), none, none, none, none, none] [] μ Q := by
  refine K_iconst 0 dOr_tellsWithin_0 rfl ?_
  refine K_istore_n 2 dOr_tellsWithin_1 rfl (Nat.le_of_ble_eq_true rfl) rfl ?_
  refine K_iconst 0 dOr_tellsWithin_2 rfl ?_
  refine K_istore_n 3 dOr_tellsWithin_3 rfl (Nat.le_of_ble_eq_true rfl) rfl ?_
  refine K_iconst 0 dOr_tellsWithin_4 rfl ?_
  refine K_istore 4 dOr_tellsWithin_5 (Nat.le_of_ble_eq_true rfl) rfl ?_
  refine K_aload_n 0 64 dOr_tellsWithin_7 rfl rfl ?_
  refine K_getf 4 1 64 (jvR 66) dOr_tellsWithin_8 pf_Or_15 rfl rfl (by decide) rfl rfl ?_
  refine K_lconst 0 dOr_tellsWithin_11 rfl ?_
  refine K_callSv mAr_fill2 [jvR 66, jvL 0] dOr_tellsWithin_12 pm_Or_47 ⟨(Nat.le_of_ble_eq_true rfl), (Nat.le_of_ble_eq_true rfl)⟩ (Nat.le_of_ble_eq_true rfl) rfl (Nat.le_of_ble_eq_true rfl) (by decide) (Cv_mono hF (fun μ1 h2 => ?_))
  refine K_iconst 0 dOr_tellsWithin_15 rfl ?_
  refine K_istore 5 dOr_tellsWithin_16 (Nat.le_of_ble_eq_true rfl) rfl ?_
  exact h2
set_option maxHeartbeats 8000000 in
theorem vOr_tellsWithin_18 {E : jE} {μ : jMu} {Q : Option AV → jMu → Prop} {l2 l3 l4 l5 : Int} (hF : ((32768 < l5 → (Q (some (jvI 0)) μ)) ∧ (¬ (32768 < l5) → ((¬ l3 = (μ 52 6) → (Ci E mOr_nextFrom [jvR 64, jvR 52, jvI l4, jvI l2] μ (fun r9 μ6 => ((r9 = (-1) → ((¬ l3 = 0 → ((0 ≤ (ishr32 l2 6) ∧ (ishr32 l2 6) < 256)) ∧ (Cl E mX_bit [jvI (iand32 l2 63)] μ6 (fun r17 μ14 => ((0 ≤ (ishr32 l2 6) ∧ (ishr32 l2 6) < 256) ∧ (-2147483648 ≤ (l3 - 1) ∧ (l3 - 1) < 2147483648) ∧ (0 ≤ (l3 - 1) ∧ (l3 - 1) < 14) ∧ (0 ≤ (l3 - 1) ∧ (l3 - 1) < 14) ∧ (-2147483648 ≤ ((μ14 65 (l3 - 1)) + 1) ∧ ((μ14 65 (l3 - 1)) + 1) < 2147483648) ∧ (-2147483648 ≤ (l5 + 1) ∧ (l5 + 1) < 2147483648)) ∧ (K 121 E mOr_tellsWithin 18 [some (jvR 64), some (jvR 52), some (jvI (iand32 l2 (ixor32 (ishl32 1 (μ14 65 (l3 - 1))) (-1)))), some (jvI (l3 - 1)), some (jvI ((μ14 65 (l3 - 1)) + 1)), some (jvI (l5 + 1)), none] [] (j_up μ14 66 (ishr32 l2 6) (ior64 (μ6 66 (ishr32 l2 6)) r17)) Q)))) ∧ (l3 = 0 → (Q (some (jvI 0)) μ6)))) ∧ (¬ (r9 = (-1)) → ((0 ≤ l3 ∧ l3 < 14) ∧ (-2147483648 ≤ (l3 + 1) ∧ (l3 + 1) < 2147483648) ∧ (-2147483648 ≤ (l5 + 1) ∧ (l5 + 1) < 2147483648)) ∧ (K 121 E mOr_tellsWithin 18 [some (jvR 64), some (jvR 52), some (jvI (ior32 l2 (ishl32 1 r9))), some (jvI (l3 + 1)), some (jvI 0), some (jvI (l5 + 1)), none] [] (j_up μ6 65 l3 r9) Q)))))) ∧ (l3 = (μ 52 6) → (Q (some (jvI 1)) μ)))))) : K 121 E mOr_tellsWithin 18 [some (jvR 64), some (jvR 52), some (jvI l2), some (jvI l3), some (jvI l4), some (jvI l5), none] [] μ Q := by
  refine K_iload 5 l5 dOr_tellsWithin_18 rfl ?_
  refine K_ldc 32768 dOr_tellsWithin_20 pc_Or_53 rfl ?_
  refine K_icmp_gt 132 dOr_tellsWithin_22 (by decide) (fun c1 => ?_) (fun c1 => ?_)
  · refine K_iconst 0 dOr_tellsWithin_132 rfl ?_
    exact K_iret dOr_tellsWithin_133 (Or.inr ⟨rfl, (by decide)⟩) (hF.1 c1)
  · refine K_iload_n 3 l3 dOr_tellsWithin_25 rfl rfl ?_
    refine K_aload_n 1 52 dOr_tellsWithin_26 rfl rfl ?_
    refine K_getf 6 6 52 (jvI (μ 52 6)) dOr_tellsWithin_27 pf_Or_42 rfl rfl (by decide) rfl rfl ?_
    refine K_icmp_ne 35 dOr_tellsWithin_30 (by decide) (fun c4 => ?_) (fun c4 => ?_)
    · refine K_aload_n 0 64 dOr_tellsWithin_35 rfl rfl ?_
      refine K_aload_n 1 52 dOr_tellsWithin_36 rfl rfl ?_
      refine K_iload 4 l4 dOr_tellsWithin_37 rfl ?_
      refine K_iload_n 2 l2 dOr_tellsWithin_39 rfl rfl ?_
      refine K_callVi mOr_nextFrom 4 64 [jvR 52, jvI l4, jvI l2] dOr_tellsWithin_40 pm_Or_54 ⟨_, rfl, rfl⟩ ⟨(Nat.le_of_ble_eq_true rfl), (Nat.le_of_ble_eq_true rfl)⟩ rfl rfl (by decide) (Nat.le_of_ble_eq_true rfl) rfl (Nat.le_of_ble_eq_true rfl) (by decide) (Ci_mono ((hF.2 c1).1 c4) (fun r9 μ6 h7 => ?_))
      refine K_istore 6 dOr_tellsWithin_43 (Nat.le_of_ble_eq_true rfl) rfl ?_
      refine K_iload 6 r9 dOr_tellsWithin_45 rfl ?_
      refine K_iconst (-1) dOr_tellsWithin_47 rfl ?_
      refine K_icmp_eq 75 dOr_tellsWithin_48 (by decide) (fun c10 => ?_) (fun c10 => ?_)
      · refine K_iload_n 3 l3 dOr_tellsWithin_75 rfl rfl ?_
        refine K_if_ne 81 dOr_tellsWithin_76 (by decide) (fun c12 => ?_) (fun c12 => ?_)
        · refine K_aload_n 0 64 dOr_tellsWithin_81 rfl rfl ?_
          refine K_getf 4 1 64 (jvR 66) dOr_tellsWithin_82 pf_Or_15 rfl rfl (by decide) rfl rfl ?_
          refine K_iload_n 2 l2 dOr_tellsWithin_85 rfl rfl ?_
          refine K_bipush 6 dOr_tellsWithin_86 rfl ?_
          refine K_ishr dOr_tellsWithin_88 rfl ?_
          refine K_dup2 dOr_tellsWithin_89 (fun _ h => by cases h) (fun _ h => by cases h) ?_
          refine K_lald 66 256 dOr_tellsWithin_90 rfl rfl (by decide) ((h7.1 c10).1 c12).1 ?_
          refine K_iload_n 2 l2 dOr_tellsWithin_91 rfl rfl ?_
          refine K_bipush 63 dOr_tellsWithin_92 rfl ?_
          refine K_iand dOr_tellsWithin_94 rfl ?_
          refine K_callNl mX_bit [jvI (iand32 l2 63)] dOr_tellsWithin_95 pm_Or_58 ⟨(Nat.le_of_ble_eq_true rfl), (Nat.le_of_ble_eq_true rfl)⟩ (Nat.le_of_ble_eq_true rfl) rfl (Nat.le_of_ble_eq_true rfl) (by decide) (Cl_mono ((h7.1 c10).1 c12).2 (fun r17 μ14 h15 => ?_))
          refine K_lor dOr_tellsWithin_98 rfl ?_
          refine K_last 66 256 dOr_tellsWithin_99 rfl rfl (by decide) h15.1.1 ?_
          refine K_iinc 3 dOr_tellsWithin_100 (Nat.le_of_ble_eq_true rfl) rfl (w32_okn h15.1.2.1) rfl ?_
          refine K_iload_n 2 l2 dOr_tellsWithin_103 rfl rfl ?_
          refine K_iconst 1 dOr_tellsWithin_104 rfl ?_
          refine K_aload_n 0 64 dOr_tellsWithin_105 rfl rfl ?_
          refine K_getf 4 0 64 (jvR 65) dOr_tellsWithin_106 pf_Or_11 rfl rfl (by decide) rfl rfl ?_
          refine K_iload_n 3 (l3 - 1) dOr_tellsWithin_109 rfl rfl ?_
          refine K_iald 65 14 dOr_tellsWithin_110 rfl rfl (by decide) h15.1.2.2.1 ?_
          refine K_ishl dOr_tellsWithin_111 rfl ?_
          refine K_iconst (-1) dOr_tellsWithin_112 rfl ?_
          refine K_ixor dOr_tellsWithin_113 rfl ?_
          refine K_iand dOr_tellsWithin_114 rfl ?_
          refine K_istore_n 2 dOr_tellsWithin_115 rfl (Nat.le_of_ble_eq_true rfl) rfl ?_
          refine K_aload_n 0 64 dOr_tellsWithin_116 rfl rfl ?_
          refine K_getf 4 0 64 (jvR 65) dOr_tellsWithin_117 pf_Or_11 rfl rfl (by decide) rfl rfl ?_
          refine K_iload_n 3 (l3 - 1) dOr_tellsWithin_120 rfl rfl ?_
          refine K_iald 65 14 dOr_tellsWithin_121 rfl rfl (by decide) h15.1.2.2.2.1 ?_
          refine K_iconst 1 dOr_tellsWithin_122 rfl ?_
          refine K_iadd dOr_tellsWithin_123 (w32_id h15.1.2.2.2.2.1) ?_
          refine K_istore 4 dOr_tellsWithin_124 (Nat.le_of_ble_eq_true rfl) rfl ?_
          refine K_iinc 5 dOr_tellsWithin_126 (Nat.le_of_ble_eq_true rfl) rfl (w32_ok h15.1.2.2.2.2.2) rfl ?_
          refine K_goto 18 dOr_tellsWithin_129 (by decide) ?_
          exact K_forget [true, true, true, true, true, true, false] h15.2
        · refine K_iconst 0 dOr_tellsWithin_79 rfl ?_
          exact K_iret dOr_tellsWithin_80 (Or.inr ⟨rfl, (by decide)⟩) ((h7.1 c10).2 c12)
      · refine K_aload_n 0 64 dOr_tellsWithin_51 rfl rfl ?_
        refine K_getf 4 0 64 (jvR 65) dOr_tellsWithin_52 pf_Or_11 rfl rfl (by decide) rfl rfl ?_
        refine K_iload_n 3 l3 dOr_tellsWithin_55 rfl rfl ?_
        refine K_iload 6 r9 dOr_tellsWithin_56 rfl ?_
        refine K_iast 65 14 dOr_tellsWithin_58 rfl rfl (by decide) (h7.2 c10).1.1 ?_
        refine K_iinc 3 dOr_tellsWithin_59 (Nat.le_of_ble_eq_true rfl) rfl (w32_ok (h7.2 c10).1.2.1) rfl ?_
        refine K_iload_n 2 l2 dOr_tellsWithin_62 rfl rfl ?_
        refine K_iconst 1 dOr_tellsWithin_63 rfl ?_
        refine K_iload 6 r9 dOr_tellsWithin_64 rfl ?_
        refine K_ishl dOr_tellsWithin_66 rfl ?_
        refine K_ior dOr_tellsWithin_67 rfl ?_
        refine K_istore_n 2 dOr_tellsWithin_68 rfl (Nat.le_of_ble_eq_true rfl) rfl ?_
        refine K_iconst 0 dOr_tellsWithin_69 rfl ?_
        refine K_istore 4 dOr_tellsWithin_70 (Nat.le_of_ble_eq_true rfl) rfl ?_
        refine K_goto 126 dOr_tellsWithin_72 (by decide) ?_
        refine K_iinc 5 dOr_tellsWithin_126 (Nat.le_of_ble_eq_true rfl) rfl (w32_ok (h7.2 c10).1.2.2) rfl ?_
        refine K_goto 18 dOr_tellsWithin_129 (by decide) ?_
        exact K_forget [true, true, true, true, true, true, false] (h7.2 c10).2
    · refine K_iconst 1 dOr_tellsWithin_33 rfl ?_
      exact K_iret dOr_tellsWithin_34 (Or.inr ⟨rfl, (by decide)⟩) ((hF.2 c1).2 c4)
set_option maxHeartbeats 8000000 in
theorem vAr_fill2_0 {E : jE} {μ : jMu} {Q : Option AV → jMu → Prop} {fj wl : Nat} (hwd : jCt[fj]? = some (.inl (.long, wl))) (hwn : fj < 121) (hwl : wl < 2147483648) {a1 : Int} (hF : (K 121 E mAr_fill2 6 [some (jvR ((fj : Nat) : Int)), some (jvL a1), none, some (jvI 0), some (jvI (wl : Int))] [] μ Q)) : K 121 E mAr_fill2 0 [some (jvR ((fj : Nat) : Int)), some (jvL a1), none, none, none] [] μ Q := by
  refine K_iconst 0 dAr_fill2_0 rfl ?_
  refine K_istore_n 3 dAr_fill2_1 rfl (Nat.le_of_ble_eq_true rfl) rfl ?_
  refine K_aload_n 0 ((fj : Nat) : Int) dAr_fill2_2 rfl rfl ?_
  refine K_alen fj wl .long dAr_fill2_3 rfl hwd hwn hwl ?_
  refine K_istore 4 dAr_fill2_4 (Nat.le_of_ble_eq_true rfl) rfl ?_
  exact hF
set_option maxHeartbeats 8000000 in
theorem vAr_fill2_6 {E : jE} {μ : jMu} {Q : Option AV → jMu → Prop} {fj wl : Nat} (hwd : jCt[fj]? = some (.inl (.long, wl))) (hwn : fj < 121) (hwl : wl < 2147483648) {l1 l3 l4 : Int} (hF : ((l4 ≤ l3 → (Q none μ)) ∧ (¬ (l4 ≤ l3) → ((0 ≤ l3 ∧ l3 < (wl : Int)) ∧ (-2147483648 ≤ (l3 + 1) ∧ (l3 + 1) < 2147483648)) ∧ (K 121 E mAr_fill2 6 [some (jvR ((fj : Nat) : Int)), some (jvL l1), none, some (jvI (l3 + 1)), some (jvI l4)] [] (j_up μ fj l3 l1) Q)))) : K 121 E mAr_fill2 6 [some (jvR ((fj : Nat) : Int)), some (jvL l1), none, some (jvI l3), some (jvI l4)] [] μ Q := by
  refine K_iload_n 3 l3 dAr_fill2_6 rfl rfl ?_
  refine K_iload 4 l4 dAr_fill2_7 rfl ?_
  refine K_icmp_ge 22 dAr_fill2_9 (by decide) (fun c1 => ?_) (fun c1 => ?_)
  · exact K_vret dAr_fill2_22 rfl (hF.1 c1)
  · refine K_aload_n 0 ((fj : Nat) : Int) dAr_fill2_12 rfl rfl ?_
    refine K_iload_n 3 l3 dAr_fill2_13 rfl rfl ?_
    refine K_lload_n 1 l1 dAr_fill2_14 rfl rfl ?_
    refine K_last fj wl dAr_fill2_15 rfl hwd hwn (hF.2 c1).1.1 ?_
    refine K_iinc 3 dAr_fill2_16 (Nat.le_of_ble_eq_true rfl) rfl (w32_ok (hF.2 c1).1.2) rfl ?_
    refine K_goto 6 dAr_fill2_19 (by decide) ?_
    exact (hF.2 c1).2
set_option maxHeartbeats 8000000 in
theorem vOr_nextFrom_0 {E : jE} {μ : jMu} {Q : Option AV → jMu → Prop} {a1 a2 : Int} (hF : (K 121 E mOr_nextFrom 3 [some (jvR 64), some (jvR 52), some (jvI a1), some (jvI a2), some (jvI a1), none, none] [] μ Q)) : K 121 E mOr_nextFrom 0 [some (jvR 64), some (jvR 52), some (jvI a1), some (jvI a2), none, none, none] [] μ Q := by
  refine K_iload_n 2 a1 dOr_nextFrom_0 rfl rfl ?_
  refine K_istore 4 dOr_nextFrom_1 (Nat.le_of_ble_eq_true rfl) rfl ?_
  exact hF
set_option maxHeartbeats 8000000 in
theorem vOr_nextFrom_3 {E : jE} {μ : jMu} {Q : Option AV → jMu → Prop} {l2 l3 l4 : Int} (hF : (((μ 52 6) ≤ l4 → (Q (some (jvI (-1))) μ)) ∧ (¬ ((μ 52 6) ≤ l4) → (((ior32 l3 (ishl32 1 l4)) = l3 → ((-2147483648 ≤ (l4 + 1) ∧ (l4 + 1) < 2147483648)) ∧ (K 121 E mOr_nextFrom 3 [some (jvR 64), some (jvR 52), some (jvI l2), some (jvI l3), some (jvI (l4 + 1)), none, none] [] μ Q)) ∧ (¬ ((ior32 l3 (ishl32 1 l4)) = l3) → ((0 ≤ l4 ∧ l4 < 40)) ∧ ((¬ (iand64 (μ 57 l4) (ixor64 l3 (-1))) = 0 → ((-2147483648 ≤ (l4 + 1) ∧ (l4 + 1) < 2147483648)) ∧ (K 121 E mOr_nextFrom 3 [some (jvR 64), some (jvR 52), some (jvI l2), some (jvI l3), some (jvI (l4 + 1)), none, none] [] μ Q)) ∧ ((iand64 (μ 57 l4) (ixor64 l3 (-1))) = 0 → ((0 ≤ (ishr32 (ior32 l3 (ishl32 1 l4)) 6) ∧ (ishr32 (ior32 l3 (ishl32 1 l4)) 6) < 256)) ∧ (Ci E mX_isIn [jvI (iand32 (ior32 l3 (ishl32 1 l4)) 63), jvL (μ 66 (ishr32 (ior32 l3 (ishl32 1 l4)) 6))] μ (fun r17 μ14 => ((¬ r17 = 0 → ((-2147483648 ≤ (l4 + 1) ∧ (l4 + 1) < 2147483648)) ∧ (K 121 E mOr_nextFrom 3 [some (jvR 64), some (jvR 52), some (jvI l2), some (jvI l3), some (jvI (l4 + 1)), none, none] [] μ14 Q)) ∧ (r17 = 0 → (Ci E mRe_heldWith [jvR 52, jvL (ior32 l3 (ishl32 1 l4))] μ14 (fun r23 μ20 => (((μ20 64 5) < r23 → ((-2147483648 ≤ (l4 + 1) ∧ (l4 + 1) < 2147483648)) ∧ (K 121 E mOr_nextFrom 3 [some (jvR 64), some (jvR 52), some (jvI l2), some (jvI l3), some (jvI (l4 + 1)), none, none] [] μ20 Q)) ∧ (¬ ((μ20 64 5) < r23) → (Q (some (jvI l4)) μ20)))))))))))))))) : K 121 E mOr_nextFrom 3 [some (jvR 64), some (jvR 52), some (jvI l2), some (jvI l3), some (jvI l4), none, none] [] μ Q := by
  refine K_iload 4 l4 dOr_nextFrom_3 rfl ?_
  refine K_aload_n 1 52 dOr_nextFrom_5 rfl rfl ?_
  refine K_getf 6 6 52 (jvI (μ 52 6)) dOr_nextFrom_6 pf_Or_42 rfl rfl (by decide) rfl rfl ?_
  refine K_icmp_ge 101 dOr_nextFrom_9 (by decide) (fun c1 => ?_) (fun c1 => ?_)
  · refine K_iconst (-1) dOr_nextFrom_101 rfl ?_
    exact K_iret dOr_nextFrom_102 (Or.inl rfl) (hF.1 c1)
  · refine K_iload_n 3 l3 dOr_nextFrom_12 rfl rfl ?_
    refine K_iconst 1 dOr_nextFrom_13 rfl ?_
    refine K_iload 4 l4 dOr_nextFrom_14 rfl ?_
    refine K_ishl dOr_nextFrom_16 rfl ?_
    refine K_ior dOr_nextFrom_17 rfl ?_
    refine K_istore 5 dOr_nextFrom_18 (Nat.le_of_ble_eq_true rfl) rfl ?_
    refine K_iload 5 (ior32 l3 (ishl32 1 l4)) dOr_nextFrom_20 rfl ?_
    refine K_iload_n 3 l3 dOr_nextFrom_22 rfl rfl ?_
    refine K_icmp_eq 49 dOr_nextFrom_23 (by decide) (fun c4 => ?_) (fun c4 => ?_)
    · refine K_iconst 0 dOr_nextFrom_49 rfl ?_
      refine K_istore 6 dOr_nextFrom_50 (Nat.le_of_ble_eq_true rfl) rfl ?_
      refine K_iload 6 0 dOr_nextFrom_52 rfl ?_
      refine K_if_eq 95 dOr_nextFrom_54 (by decide) (fun c6 => ?_) (fun c6 => absurd c6 (by decide))
      refine K_iinc 4 dOr_nextFrom_95 (Nat.le_of_ble_eq_true rfl) rfl (w32_ok ((hF.2 c1).1 c4).1) rfl ?_
      refine K_goto 3 dOr_nextFrom_98 (by decide) ?_
      exact K_forget [true, true, true, true, true, false, false] ((hF.2 c1).1 c4).2
    · refine K_aload_n 1 52 dOr_nextFrom_26 rfl rfl ?_
      refine K_getf 6 4 52 (jvR 57) dOr_nextFrom_27 pf_Or_62 rfl rfl (by decide) rfl rfl ?_
      refine K_iload 4 l4 dOr_nextFrom_30 rfl ?_
      refine K_lald 57 40 dOr_nextFrom_32 rfl rfl (by decide) ((hF.2 c1).2 c4).1 ?_
      refine K_iload_n 3 l3 dOr_nextFrom_33 rfl rfl ?_
      refine K_i2l dOr_nextFrom_34 rfl ?_
      refine K_ldc2 (-1) dOr_nextFrom_35 pc_Or_65 rfl ?_
      refine K_lxor dOr_nextFrom_38 rfl ?_
      refine K_land dOr_nextFrom_39 rfl ?_
      refine K_lconst 0 dOr_nextFrom_40 rfl ?_
      refine K_lcmp_ne 49 dOr_nextFrom_41 dOr_nextFrom_42 (by decide) (fun c8 => ?_) (fun c8 => ?_)
      · refine K_iconst 0 dOr_nextFrom_49 rfl ?_
        refine K_istore 6 dOr_nextFrom_50 (Nat.le_of_ble_eq_true rfl) rfl ?_
        refine K_iload 6 0 dOr_nextFrom_52 rfl ?_
        refine K_if_eq 95 dOr_nextFrom_54 (by decide) (fun c10 => ?_) (fun c10 => absurd c10 (by decide))
        refine K_iinc 4 dOr_nextFrom_95 (Nat.le_of_ble_eq_true rfl) rfl (w32_ok (((hF.2 c1).2 c4).2.1 c8).1) rfl ?_
        refine K_goto 3 dOr_nextFrom_98 (by decide) ?_
        exact K_forget [true, true, true, true, true, false, false] (((hF.2 c1).2 c4).2.1 c8).2
      · refine K_iconst 1 dOr_nextFrom_45 rfl ?_
        refine K_goto 50 dOr_nextFrom_46 (by decide) ?_
        refine K_istore 6 dOr_nextFrom_50 (Nat.le_of_ble_eq_true rfl) rfl ?_
        refine K_iload 6 1 dOr_nextFrom_52 rfl ?_
        refine K_if_eq 95 dOr_nextFrom_54 (by decide) (fun c12 => absurd c12 (by decide)) (fun c12 => ?_)
        refine K_iload 5 (ior32 l3 (ishl32 1 l4)) dOr_nextFrom_57 rfl ?_
        refine K_bipush 63 dOr_nextFrom_59 rfl ?_
        refine K_iand dOr_nextFrom_61 rfl ?_
        refine K_aload_n 0 64 dOr_nextFrom_62 rfl rfl ?_
        refine K_getf 4 1 64 (jvR 66) dOr_nextFrom_63 pf_Or_15 rfl rfl (by decide) rfl rfl ?_
        refine K_iload 5 (ior32 l3 (ishl32 1 l4)) dOr_nextFrom_66 rfl ?_
        refine K_bipush 6 dOr_nextFrom_68 rfl ?_
        refine K_ishr dOr_nextFrom_70 rfl ?_
        refine K_lald 66 256 dOr_nextFrom_71 rfl rfl (by decide) (((hF.2 c1).2 c4).2.2 c8).1 ?_
        refine K_callNi mX_isIn [jvI (iand32 (ior32 l3 (ishl32 1 l4)) 63), jvL (μ 66 (ishr32 (ior32 l3 (ishl32 1 l4)) 6))] dOr_nextFrom_72 pm_Or_67 ⟨(Nat.le_of_ble_eq_true rfl), (Nat.le_of_ble_eq_true rfl)⟩ (Nat.le_of_ble_eq_true rfl) rfl (Nat.le_of_ble_eq_true rfl) (by decide) (Ci_mono (((hF.2 c1).2 c4).2.2 c8).2 (fun r17 μ14 h15 => ?_))
        refine K_if_ne 95 dOr_nextFrom_75 (by decide) (fun c18 => ?_) (fun c18 => ?_)
        · refine K_iinc 4 dOr_nextFrom_95 (Nat.le_of_ble_eq_true rfl) rfl (w32_ok (h15.1 c18).1) rfl ?_
          refine K_goto 3 dOr_nextFrom_98 (by decide) ?_
          exact K_forget [true, true, true, true, true, false, false] (h15.1 c18).2
        · refine K_aload_n 1 52 dOr_nextFrom_78 rfl rfl ?_
          refine K_iload 5 (ior32 l3 (ishl32 1 l4)) dOr_nextFrom_79 rfl ?_
          refine K_i2l dOr_nextFrom_81 rfl ?_
          refine K_callVi mRe_heldWith 6 52 [jvL (ior32 l3 (ishl32 1 l4))] dOr_nextFrom_82 pm_Or_71 ⟨_, rfl, rfl⟩ ⟨(Nat.le_of_ble_eq_true rfl), (Nat.le_of_ble_eq_true rfl)⟩ rfl rfl (by decide) (Nat.le_of_ble_eq_true rfl) rfl (Nat.le_of_ble_eq_true rfl) (by decide) (Ci_mono (h15.2 c18) (fun r23 μ20 h21 => ?_))
          refine K_aload_n 0 64 dOr_nextFrom_85 rfl rfl ?_
          refine K_getf 4 5 64 (jvI (μ20 64 5)) dOr_nextFrom_86 pf_Or_35 rfl rfl (by decide) rfl rfl ?_
          refine K_icmp_gt 95 dOr_nextFrom_89 (by decide) (fun c24 => ?_) (fun c24 => ?_)
          · refine K_iinc 4 dOr_nextFrom_95 (Nat.le_of_ble_eq_true rfl) rfl (w32_ok (h21.1 c24).1) rfl ?_
            refine K_goto 3 dOr_nextFrom_98 (by decide) ?_
            exact K_forget [true, true, true, true, true, false, false] (h21.1 c24).2
          · refine K_iload 4 l4 dOr_nextFrom_92 rfl ?_
            exact K_iret dOr_nextFrom_94 (Or.inl rfl) (h21.2 c24)
set_option maxHeartbeats 8000000 in
theorem vRe_heldWith_0 {E : jE} {μ : jMu} {Q : Option AV → jMu → Prop} {a0 : Int} (hF : (K 121 E mRe_heldWith 5 [some (jvR 52), some (jvL a0), none, some (jvI 0), some (jvI 0), none] [] μ Q)) : K 121 E mRe_heldWith 0 [some (jvR 52), some (jvL a0), none, none, none, none] [] μ Q := by
  refine K_iconst 0 dRe_heldWith_0 rfl ?_
  refine K_istore_n 3 dRe_heldWith_1 rfl (Nat.le_of_ble_eq_true rfl) rfl ?_
  refine K_iconst 0 dRe_heldWith_2 rfl ?_
  refine K_istore 4 dRe_heldWith_3 (Nat.le_of_ble_eq_true rfl) rfl ?_
  exact hF
set_option maxHeartbeats 8000000 in
theorem vRe_heldWith_5 {E : jE} {μ : jMu} {Q : Option AV → jMu → Prop} {l1 l3 l4 : Int} (hF : (((μ 52 6) ≤ l4 → (Q (some (jvI l3)) μ)) ∧ (¬ ((μ 52 6) ≤ l4) → ((-2147483648 ≤ ((μ 52 6) - 1) ∧ ((μ 52 6) - 1) < 2147483648)) ∧ ((l4 = ((μ 52 6) - 1) → (Ci E mX_isIn [jvI l4, jvL l1] μ (fun r9 μ6 => ((r9 = 0 → ((-2147483648 ≤ (l4 + 1) ∧ (l4 + 1) < 2147483648)) ∧ (K 121 E mRe_heldWith 5 [some (jvR 52), some (jvL l1), none, some (jvI l3), some (jvI (l4 + 1)), none] [] μ6 Q)) ∧ (¬ (r9 = 0) → ((-2147483648 ≤ (l3 + 1) ∧ (l3 + 1) < 2147483648) ∧ (-2147483648 ≤ (l4 + 1) ∧ (l4 + 1) < 2147483648)) ∧ (K 121 E mRe_heldWith 5 [some (jvR 52), some (jvL l1), none, some (jvI (l3 + 1)), some (jvI (l4 + 1)), none] [] μ6 Q)))))) ∧ (¬ (l4 = ((μ 52 6) - 1)) → ((0 ≤ l4 ∧ l4 < 40)) ∧ (((iand64 (μ 58 l4) (ixor64 l1 (-1))) = 0 → (Ci E mX_isIn [jvI l4, jvL l1] μ (fun r19 μ16 => ((r19 = 0 → ((-2147483648 ≤ (l4 + 1) ∧ (l4 + 1) < 2147483648)) ∧ (K 121 E mRe_heldWith 5 [some (jvR 52), some (jvL l1), none, some (jvI l3), some (jvI (l4 + 1)), none] [] μ16 Q)) ∧ (¬ (r19 = 0) → ((-2147483648 ≤ (l4 + 1) ∧ (l4 + 1) < 2147483648)) ∧ (K 121 E mRe_heldWith 5 [some (jvR 52), some (jvL l1), none, some (jvI l3), some (jvI (l4 + 1)), none] [] μ16 Q)))))) ∧ (¬ ((iand64 (μ 58 l4) (ixor64 l1 (-1))) = 0) → (Ci E mX_isIn [jvI l4, jvL l1] μ (fun r27 μ24 => ((r27 = 0 → ((-2147483648 ≤ (l4 + 1) ∧ (l4 + 1) < 2147483648)) ∧ (K 121 E mRe_heldWith 5 [some (jvR 52), some (jvL l1), none, some (jvI l3), some (jvI (l4 + 1)), none] [] μ24 Q)) ∧ (¬ (r27 = 0) → ((-2147483648 ≤ (l3 + 1) ∧ (l3 + 1) < 2147483648) ∧ (-2147483648 ≤ (l4 + 1) ∧ (l4 + 1) < 2147483648)) ∧ (K 121 E mRe_heldWith 5 [some (jvR 52), some (jvL l1), none, some (jvI (l3 + 1)), some (jvI (l4 + 1)), none] [] μ24 Q)))))))))))) : K 121 E mRe_heldWith 5 [some (jvR 52), some (jvL l1), none, some (jvI l3), some (jvI l4), none] [] μ Q := by
  refine K_iload 4 l4 dRe_heldWith_5 rfl ?_
  refine K_aload_n 0 52 dRe_heldWith_7 rfl rfl ?_
  refine K_getf 6 6 52 (jvI (μ 52 6)) dRe_heldWith_8 pf_Re_43 rfl rfl (by decide) rfl rfl ?_
  refine K_icmp_ge 73 dRe_heldWith_11 (by decide) (fun c1 => ?_) (fun c1 => ?_)
  · refine K_iload_n 3 l3 dRe_heldWith_73 rfl rfl ?_
    exact K_iret dRe_heldWith_74 (Or.inl rfl) (hF.1 c1)
  · refine K_iload 4 l4 dRe_heldWith_14 rfl ?_
    refine K_aload_n 0 52 dRe_heldWith_16 rfl rfl ?_
    refine K_getf 6 6 52 (jvI (μ 52 6)) dRe_heldWith_17 pf_Re_43 rfl rfl (by decide) rfl rfl ?_
    refine K_iconst 1 dRe_heldWith_20 rfl ?_
    refine K_isub dRe_heldWith_21 (w32_id (hF.2 c1).1) ?_
    refine K_icmp_eq 43 dRe_heldWith_22 (by decide) (fun c4 => ?_) (fun c4 => ?_)
    · refine K_iconst 1 dRe_heldWith_43 rfl ?_
      refine K_goto 48 dRe_heldWith_44 (by decide) ?_
      refine K_istore 5 dRe_heldWith_48 (Nat.le_of_ble_eq_true rfl) rfl ?_
      refine K_iload 4 l4 dRe_heldWith_50 rfl ?_
      refine K_lload_n 1 l1 dRe_heldWith_52 rfl rfl ?_
      refine K_callNi mX_isIn [jvI l4, jvL l1] dRe_heldWith_53 pm_Re_50 ⟨(Nat.le_of_ble_eq_true rfl), (Nat.le_of_ble_eq_true rfl)⟩ (Nat.le_of_ble_eq_true rfl) rfl (Nat.le_of_ble_eq_true rfl) (by decide) (Ci_mono ((hF.2 c1).2.1 c4) (fun r9 μ6 h7 => ?_))
      refine K_if_eq 67 dRe_heldWith_56 (by decide) (fun c10 => ?_) (fun c10 => ?_)
      · refine K_iinc 4 dRe_heldWith_67 (Nat.le_of_ble_eq_true rfl) rfl (w32_ok (h7.1 c10).1) rfl ?_
        refine K_goto 5 dRe_heldWith_70 (by decide) ?_
        exact K_forget [true, true, true, true, true, false] (h7.1 c10).2
      · refine K_iload 5 1 dRe_heldWith_59 rfl ?_
        refine K_if_eq 67 dRe_heldWith_61 (by decide) (fun c12 => absurd c12 (by decide)) (fun c12 => ?_)
        refine K_iinc 3 dRe_heldWith_64 (Nat.le_of_ble_eq_true rfl) rfl (w32_ok (h7.2 c10).1.1) rfl ?_
        refine K_iinc 4 dRe_heldWith_67 (Nat.le_of_ble_eq_true rfl) rfl (w32_ok (h7.2 c10).1.2) rfl ?_
        refine K_goto 5 dRe_heldWith_70 (by decide) ?_
        exact K_forget [true, true, true, true, true, false] (h7.2 c10).2
    · refine K_aload_n 0 52 dRe_heldWith_25 rfl rfl ?_
      refine K_getf 6 5 52 (jvR 58) dRe_heldWith_26 pf_Re_30 rfl rfl (by decide) rfl rfl ?_
      refine K_iload 4 l4 dRe_heldWith_29 rfl ?_
      refine K_lald 58 40 dRe_heldWith_31 rfl rfl (by decide) ((hF.2 c1).2.2 c4).1 ?_
      refine K_lload_n 1 l1 dRe_heldWith_32 rfl rfl ?_
      refine K_ldc2 (-1) dRe_heldWith_33 pc_Re_76 rfl ?_
      refine K_lxor dRe_heldWith_36 rfl ?_
      refine K_land dRe_heldWith_37 rfl ?_
      refine K_lconst 0 dRe_heldWith_38 rfl ?_
      refine K_lcmp_eq 47 dRe_heldWith_39 dRe_heldWith_40 (by decide) (fun c14 => ?_) (fun c14 => ?_)
      · refine K_iconst 0 dRe_heldWith_47 rfl ?_
        refine K_istore 5 dRe_heldWith_48 (Nat.le_of_ble_eq_true rfl) rfl ?_
        refine K_iload 4 l4 dRe_heldWith_50 rfl ?_
        refine K_lload_n 1 l1 dRe_heldWith_52 rfl rfl ?_
        refine K_callNi mX_isIn [jvI l4, jvL l1] dRe_heldWith_53 pm_Re_50 ⟨(Nat.le_of_ble_eq_true rfl), (Nat.le_of_ble_eq_true rfl)⟩ (Nat.le_of_ble_eq_true rfl) rfl (Nat.le_of_ble_eq_true rfl) (by decide) (Ci_mono (((hF.2 c1).2.2 c4).2.1 c14) (fun r19 μ16 h17 => ?_))
        refine K_if_eq 67 dRe_heldWith_56 (by decide) (fun c20 => ?_) (fun c20 => ?_)
        · refine K_iinc 4 dRe_heldWith_67 (Nat.le_of_ble_eq_true rfl) rfl (w32_ok (h17.1 c20).1) rfl ?_
          refine K_goto 5 dRe_heldWith_70 (by decide) ?_
          exact K_forget [true, true, true, true, true, false] (h17.1 c20).2
        · refine K_iload 5 0 dRe_heldWith_59 rfl ?_
          refine K_if_eq 67 dRe_heldWith_61 (by decide) (fun c22 => ?_) (fun c22 => absurd c22 (by decide))
          refine K_iinc 4 dRe_heldWith_67 (Nat.le_of_ble_eq_true rfl) rfl (w32_ok (h17.2 c20).1) rfl ?_
          refine K_goto 5 dRe_heldWith_70 (by decide) ?_
          exact K_forget [true, true, true, true, true, false] (h17.2 c20).2
      · refine K_iconst 1 dRe_heldWith_43 rfl ?_
        refine K_goto 48 dRe_heldWith_44 (by decide) ?_
        refine K_istore 5 dRe_heldWith_48 (Nat.le_of_ble_eq_true rfl) rfl ?_
        refine K_iload 4 l4 dRe_heldWith_50 rfl ?_
        refine K_lload_n 1 l1 dRe_heldWith_52 rfl rfl ?_
        refine K_callNi mX_isIn [jvI l4, jvL l1] dRe_heldWith_53 pm_Re_50 ⟨(Nat.le_of_ble_eq_true rfl), (Nat.le_of_ble_eq_true rfl)⟩ (Nat.le_of_ble_eq_true rfl) rfl (Nat.le_of_ble_eq_true rfl) (by decide) (Ci_mono (((hF.2 c1).2.2 c4).2.2 c14) (fun r27 μ24 h25 => ?_))
        refine K_if_eq 67 dRe_heldWith_56 (by decide) (fun c28 => ?_) (fun c28 => ?_)
        · refine K_iinc 4 dRe_heldWith_67 (Nat.le_of_ble_eq_true rfl) rfl (w32_ok (h25.1 c28).1) rfl ?_
          refine K_goto 5 dRe_heldWith_70 (by decide) ?_
          exact K_forget [true, true, true, true, true, false] (h25.1 c28).2
        · refine K_iload 5 1 dRe_heldWith_59 rfl ?_
          refine K_if_eq 67 dRe_heldWith_61 (by decide) (fun c30 => absurd c30 (by decide)) (fun c30 => ?_)
          refine K_iinc 3 dRe_heldWith_64 (Nat.le_of_ble_eq_true rfl) rfl (w32_ok (h25.2 c28).1.1) rfl ?_
          refine K_iinc 4 dRe_heldWith_67 (Nat.le_of_ble_eq_true rfl) rfl (w32_ok (h25.2 c28).1.2) rfl ?_
          refine K_goto 5 dRe_heldWith_70 (by decide) ?_
          exact K_forget [true, true, true, true, true, false] (h25.2 c28).2
set_option maxHeartbeats 8000000 in
theorem vX_held_0 {E : jE} {μ : jMu} {Q : Option AV → jMu → Prop} (hF : ((¬ (μ 52 6) = 0 → (Ci E mRe_mostHeld [jvR 52] μ (fun r6 μ3 => (Q (some (jvI r6)) μ3)))) ∧ ((μ 52 6) = 0 → (Q (some (jvI (-1))) μ)))) : K 121 E mX_held 0 [some (jvR 0)] [] μ Q := by
  refine K_aload_n 0 0 dX_held_0 rfl rfl ?_
  refine K_getf 0 2 0 (jvR 45) dX_held_1 pf_X_38 rfl rfl (by decide) rfl rfl ?_
  refine K_getf 3 6 45 (jvR 52) dX_held_4 pf_X_175 rfl rfl (by decide) rfl rfl ?_
  refine K_getf 6 6 52 (jvI (μ 52 6)) dX_held_7 pf_X_179 rfl rfl (by decide) rfl rfl ?_
  refine K_if_ne 17 dX_held_10 (by decide) (fun c1 => ?_) (fun c1 => ?_)
  · refine K_aload_n 0 0 dX_held_17 rfl rfl ?_
    refine K_getf 0 2 0 (jvR 45) dX_held_18 pf_X_38 rfl rfl (by decide) rfl rfl ?_
    refine K_getf 3 6 45 (jvR 52) dX_held_21 pf_X_175 rfl rfl (by decide) rfl rfl ?_
    refine K_callVi mRe_mostHeld 6 52 [] dX_held_24 pm_X_356 ⟨_, rfl, rfl⟩ ⟨(Nat.le_of_ble_eq_true rfl), (Nat.le_of_ble_eq_true rfl)⟩ rfl rfl (by decide) (Nat.le_of_ble_eq_true rfl) rfl (Nat.le_of_ble_eq_true rfl) (by decide) (Ci_mono (hF.1 c1) (fun r6 μ3 h4 => ?_))
    exact K_iret dX_held_27 (Or.inl rfl) h4
  · refine K_iconst (-1) dX_held_13 rfl ?_
    refine K_goto 27 dX_held_14 (by decide) ?_
    exact K_iret dX_held_27 (Or.inl rfl) (hF.2 c1)
set_option maxHeartbeats 8000000 in
theorem vRe_mostHeld_0 {E : jE} {μ : jMu} {Q : Option AV → jMu → Prop} (hF : (K 121 E mRe_mostHeld 4 [some (jvR 52), some (jvI 0), some (jvI 1)] [] μ Q)) : K 121 E mRe_mostHeld 0 [some (jvR 52), none, none] [] μ Q := by
  refine K_iconst 0 dRe_mostHeld_0 rfl ?_
  refine K_istore_n 1 dRe_mostHeld_1 rfl (Nat.le_of_ble_eq_true rfl) rfl ?_
  refine K_iconst 1 dRe_mostHeld_2 rfl ?_
  refine K_istore_n 2 dRe_mostHeld_3 rfl (Nat.le_of_ble_eq_true rfl) rfl ?_
  exact hF
set_option maxHeartbeats 8000000 in
theorem vRe_mostHeld_4 {E : jE} {μ : jMu} {Q : Option AV → jMu → Prop} {l1 l2 : Int} (hF : (((μ 52 6) < l2 → (Q (some (jvI l1)) μ)) ∧ (¬ ((μ 52 6) < l2) → (Cl E mX_bit [jvI l2] μ (fun r7 μ4 => ((-9223372036854775808 ≤ (r7 - 1) ∧ (r7 - 1) < 9223372036854775808)) ∧ (Ci E mRe_heldWith [jvR 52, jvL (r7 - 1)] μ4 (fun r11 μ8 => ((-2147483648 ≤ (l2 + 1) ∧ (l2 + 1) < 2147483648)) ∧ (K 121 E mRe_mostHeld 4 [some (jvR 52), some (jvI (if l1 < r11 then r11 else l1)), some (jvI (l2 + 1))] [] μ8 Q)))))))) : K 121 E mRe_mostHeld 4 [some (jvR 52), some (jvI l1), some (jvI l2)] [] μ Q := by
  refine K_iload_n 2 l2 dRe_mostHeld_4 rfl rfl ?_
  refine K_aload_n 0 52 dRe_mostHeld_5 rfl rfl ?_
  refine K_getf 6 6 52 (jvI (μ 52 6)) dRe_mostHeld_6 pf_Re_43 rfl rfl (by decide) rfl rfl ?_
  refine K_icmp_gt 33 dRe_mostHeld_9 (by decide) (fun c1 => ?_) (fun c1 => ?_)
  · refine K_iload_n 1 l1 dRe_mostHeld_33 rfl rfl ?_
    exact K_iret dRe_mostHeld_34 (Or.inl rfl) (hF.1 c1)
  · refine K_iload_n 1 l1 dRe_mostHeld_12 rfl rfl ?_
    refine K_aload_n 0 52 dRe_mostHeld_13 rfl rfl ?_
    refine K_iload_n 2 l2 dRe_mostHeld_14 rfl rfl ?_
    refine K_callNl mX_bit [jvI l2] dRe_mostHeld_15 pm_Re_64 ⟨(Nat.le_of_ble_eq_true rfl), (Nat.le_of_ble_eq_true rfl)⟩ (Nat.le_of_ble_eq_true rfl) rfl (Nat.le_of_ble_eq_true rfl) (by decide) (Cl_mono (hF.2 c1) (fun r7 μ4 h5 => ?_))
    refine K_lconst 1 dRe_mostHeld_18 rfl ?_
    refine K_lsub dRe_mostHeld_19 (w64_id h5.1) ?_
    refine K_callVi mRe_heldWith 6 52 [jvL (r7 - 1)] dRe_mostHeld_20 pm_Re_78 ⟨_, rfl, rfl⟩ ⟨(Nat.le_of_ble_eq_true rfl), (Nat.le_of_ble_eq_true rfl)⟩ rfl rfl (by decide) (Nat.le_of_ble_eq_true rfl) rfl (Nat.le_of_ble_eq_true rfl) (by decide) (Ci_mono h5.2 (fun r11 μ8 h9 => ?_))
    refine K_mmax dRe_mostHeld_23 pm_Re_82 (Nat.le_of_ble_eq_true rfl) (Nat.le_of_ble_eq_true rfl) ?_
    refine K_istore_n 1 dRe_mostHeld_26 rfl (Nat.le_of_ble_eq_true rfl) rfl ?_
    refine K_iinc 2 dRe_mostHeld_27 (Nat.le_of_ble_eq_true rfl) rfl (w32_ok h9.1) rfl ?_
    refine K_goto 4 dRe_mostHeld_30 (by decide) ?_
    exact h9.2
set_option maxHeartbeats 8000000 in
theorem vX_pages_0 {E : jE} {μ : jMu} {Q : Option AV → jMu → Prop} {a0 a1 : Int} (hF : (((μ 52 6) = 0 → (Q (some (jvI (-1))) μ)) ∧ (¬ ((μ 52 6) = 0) → ((a0 < 1 → (Q (some (jvI (-1))) μ)) ∧ (¬ (a0 < 1) → ((40 < a0 → (Q (some (jvI (-1))) μ)) ∧ (¬ (40 < a0) → ((0 ≤ a1 → (Cv E mOr_cut [jvR 64, jvR 52, jvI a0] μ (fun μ12 => ((a1 = 0 → (Ci E mOr_pageCount [jvR 64, jvI 0] μ12 (fun r20 μ17 => (Q (some (jvI r20)) μ17)))) ∧ (a1 = 1 → (Q (some (jvI (μ12 67 0))) μ12)) ∧ ((¬ a1 = 0 ∧ ¬ a1 = 1) → ((-2147483648 ≤ (a1 - 2) ∧ (a1 - 2) < 2147483648)) ∧ (Ci E mOr_firstOn [jvR 64, jvI (a1 - 2)] μ12 (fun r26 μ23 => (Q (some (jvI r26)) μ23)))))))) ∧ (¬ (0 ≤ a1) → (Q (some (jvI (-1))) μ)))))))))) : K 121 E mX_pages 0 [some (jvR 0), some (jvI a0), some (jvI a1), none] [] μ Q := by
  refine K_aload_n 0 0 dX_pages_0 rfl rfl ?_
  refine K_getf 0 2 0 (jvR 45) dX_pages_1 pf_X_38 rfl rfl (by decide) rfl rfl ?_
  refine K_getf 3 6 45 (jvR 52) dX_pages_4 pf_X_175 rfl rfl (by decide) rfl rfl ?_
  refine K_getf 6 6 52 (jvI (μ 52 6)) dX_pages_7 pf_X_179 rfl rfl (by decide) rfl rfl ?_
  refine K_istore_n 3 dX_pages_10 rfl (Nat.le_of_ble_eq_true rfl) rfl ?_
  refine K_iload_n 3 (μ 52 6) dX_pages_11 rfl rfl ?_
  refine K_if_eq 30 dX_pages_12 (by decide) (fun c1 => ?_) (fun c1 => ?_)
  · refine K_iconst (-1) dX_pages_30 rfl ?_
    exact K_iret dX_pages_31 (Or.inl rfl) (hF.1 c1)
  · refine K_iload_n 1 a0 dX_pages_15 rfl rfl ?_
    refine K_iconst 1 dX_pages_16 rfl ?_
    refine K_icmp_lt 30 dX_pages_17 (by decide) (fun c4 => ?_) (fun c4 => ?_)
    · refine K_iconst (-1) dX_pages_30 rfl ?_
      exact K_iret dX_pages_31 (Or.inl rfl) ((hF.2 c1).1 c4)
    · refine K_iload_n 1 a0 dX_pages_20 rfl rfl ?_
      refine K_bipush 40 dX_pages_21 rfl ?_
      refine K_icmp_gt 30 dX_pages_23 (by decide) (fun c7 => ?_) (fun c7 => ?_)
      · refine K_iconst (-1) dX_pages_30 rfl ?_
        exact K_iret dX_pages_31 (Or.inl rfl) (((hF.2 c1).2 c4).1 c7)
      · refine K_iload_n 2 a1 dX_pages_26 rfl rfl ?_
        refine K_if_ge 32 dX_pages_27 (by decide) (fun c10 => ?_) (fun c10 => ?_)
        · refine K_aload_n 0 0 dX_pages_32 rfl rfl ?_
          refine K_getf 0 5 0 (jvR 64) dX_pages_33 pf_X_59 rfl rfl (by decide) rfl rfl ?_
          refine K_aload_n 0 0 dX_pages_36 rfl rfl ?_
          refine K_getf 0 2 0 (jvR 45) dX_pages_37 pf_X_38 rfl rfl (by decide) rfl rfl ?_
          refine K_getf 3 6 45 (jvR 52) dX_pages_40 pf_X_175 rfl rfl (by decide) rfl rfl ?_
          refine K_iload_n 1 a0 dX_pages_43 rfl rfl ?_
          refine K_callVv mOr_cut 4 64 [jvR 52, jvI a0] dX_pages_44 pm_X_360 ⟨_, rfl, rfl⟩ ⟨(Nat.le_of_ble_eq_true rfl), (Nat.le_of_ble_eq_true rfl)⟩ rfl rfl (by decide) (Nat.le_of_ble_eq_true rfl) rfl (Nat.le_of_ble_eq_true rfl) (by decide) (Cv_mono ((((hF.2 c1).2 c4).2 c7).1 c10) (fun μ12 h13 => ?_))
          refine K_iload_n 2 a1 dX_pages_47 rfl rfl ?_
          refine K_lookup dX_pages_48 (by decide) ?_
          by_cases c160 : a1 = 0
          · refine ⟨76, by simp [Op.lookupswitch.offset, c160], ?_⟩
            refine K_aload_n 0 0 dX_pages_76 rfl rfl ?_
            refine K_getf 0 5 0 (jvR 64) dX_pages_77 pf_X_59 rfl rfl (by decide) rfl rfl ?_
            refine K_iconst 0 dX_pages_80 rfl ?_
            refine K_callVi mOr_pageCount 4 64 [jvI 0] dX_pages_81 pm_X_364 ⟨_, rfl, rfl⟩ ⟨(Nat.le_of_ble_eq_true rfl), (Nat.le_of_ble_eq_true rfl)⟩ rfl rfl (by decide) (Nat.le_of_ble_eq_true rfl) rfl (Nat.le_of_ble_eq_true rfl) (by decide) (Ci_mono (h13.1 c160) (fun r20 μ17 h18 => ?_))
            exact K_iret dX_pages_84 (Or.inl rfl) h18
          by_cases c161 : a1 = 1
          · refine ⟨85, by simp [Op.lookupswitch.offset, Ne.symm c160, c161], ?_⟩
            refine K_aload_n 0 0 dX_pages_85 rfl rfl ?_
            refine K_getf 0 5 0 (jvR 64) dX_pages_86 pf_X_59 rfl rfl (by decide) rfl rfl ?_
            refine K_getf 4 2 64 (jvR 67) dX_pages_89 pf_X_367 rfl rfl (by decide) rfl rfl ?_
            refine K_iconst 0 dX_pages_92 rfl ?_
            refine K_iald 67 41 dX_pages_93 rfl rfl (by decide) (by decide) ?_
            exact K_iret dX_pages_94 (Or.inl rfl) (h13.2.1 c161)
          refine ⟨95, by simp [Op.lookupswitch.offset, Ne.symm c160, Ne.symm c161], ?_⟩
          refine K_aload_n 0 0 dX_pages_95 rfl rfl ?_
          refine K_getf 0 5 0 (jvR 64) dX_pages_96 pf_X_59 rfl rfl (by decide) rfl rfl ?_
          refine K_iload_n 2 a1 dX_pages_99 rfl rfl ?_
          refine K_iconst 2 dX_pages_100 rfl ?_
          refine K_isub dX_pages_101 (w32_id (h13.2.2 ⟨c160, c161⟩).1) ?_
          refine K_callVi mOr_firstOn 4 64 [jvI (a1 - 2)] dX_pages_102 pm_X_370 ⟨_, rfl, rfl⟩ ⟨(Nat.le_of_ble_eq_true rfl), (Nat.le_of_ble_eq_true rfl)⟩ rfl rfl (by decide) (Nat.le_of_ble_eq_true rfl) rfl (Nat.le_of_ble_eq_true rfl) (by decide) (Ci_mono (h13.2.2 ⟨c160, c161⟩).2 (fun r26 μ23 h24 => ?_))
          exact K_iret dX_pages_105 (Or.inl rfl) h24
        · refine K_iconst (-1) dX_pages_30 rfl ?_
          exact K_iret dX_pages_31 (Or.inl rfl) ((((hF.2 c1).2 c4).2 c7).2 c10)
set_option maxHeartbeats 8000000 in
theorem vOr_cut_0 {E : jE} {μ : jMu} {Q : Option AV → jMu → Prop} {a1 : Int} (hF : ((0 ≤ (μ 52 6) ∧ (μ 52 6) < 41) ∧ (-2147483648 ≤ ((μ 52 6) - 1) ∧ ((μ 52 6) - 1) < 2147483648)) ∧ (K 121 E mOr_cut 34 [some (jvR 64), some (jvR 52), some (jvI a1), some (jvI ((μ 52 6) - 1))] [] (j_up (j_up (j_up μ 64 6 (μ 52 6)) 64 7 (if 1 < a1 then a1 else 1)) 67 (μ 52 6) 0) Q)) : K 121 E mOr_cut 0 [some (jvR 64), some (jvR 52), some (jvI a1), none] [] μ Q := by
  refine K_aload_n 0 64 dOr_cut_0 rfl rfl ?_
  refine K_aload_n 1 52 dOr_cut_1 rfl rfl ?_
  refine K_getf 6 6 52 (jvI (μ 52 6)) dOr_cut_2 pf_Or_42 rfl rfl (by decide) rfl rfl ?_
  refine K_putf 4 6 64 (x := (μ 52 6)) dOr_cut_5 pf_Or_75 rfl rfl (by decide) rfl rfl rfl rfl trivial ?_
  refine K_aload_n 0 64 dOr_cut_8 rfl rfl ?_
  refine K_iconst 1 dOr_cut_9 rfl ?_
  refine K_iload_n 2 a1 dOr_cut_10 rfl rfl ?_
  refine K_mmax dOr_cut_11 pm_Or_76 (Nat.le_of_ble_eq_true rfl) (Nat.le_of_ble_eq_true rfl) ?_
  refine K_putf 4 7 64 (x := (if 1 < a1 then a1 else 1)) dOr_cut_14 pf_Or_27 rfl rfl (by decide) rfl rfl rfl rfl trivial ?_
  refine K_aload_n 0 64 dOr_cut_17 rfl rfl ?_
  refine K_getf 4 2 64 (jvR 67) dOr_cut_18 pf_Or_21 rfl rfl (by decide) rfl rfl ?_
  refine K_aload_n 0 64 dOr_cut_21 rfl rfl ?_
  refine K_getf 4 6 64 (jvI (μ 52 6)) dOr_cut_22 pf_Or_75 rfl rfl (by decide) rfl rfl ?_
  refine K_iconst 0 dOr_cut_25 rfl ?_
  refine K_iast 67 41 dOr_cut_26 rfl rfl (by decide) hF.1.1 ?_
  refine K_aload_n 0 64 dOr_cut_27 rfl rfl ?_
  refine K_getf 4 6 64 (jvI (μ 52 6)) dOr_cut_28 pf_Or_75 rfl rfl (by decide) rfl rfl ?_
  refine K_iconst 1 dOr_cut_31 rfl ?_
  refine K_isub dOr_cut_32 (w32_id hF.1.2) ?_
  refine K_istore_n 3 dOr_cut_33 rfl (Nat.le_of_ble_eq_true rfl) rfl ?_
  exact hF.2
set_option maxHeartbeats 8000000 in
theorem vOr_cut_34 {E : jE} {μ : jMu} {Q : Option AV → jMu → Prop} {l2 l3 : Int} (hF : ((l3 < 0 → (Q none μ)) ∧ (¬ (l3 < 0) → (Cv E mOr_cutFrom [jvR 64, jvR 52, jvI l3] μ (fun μ4 => ((-2147483648 ≤ (l3 - 1) ∧ (l3 - 1) < 2147483648)) ∧ (K 121 E mOr_cut 34 [some (jvR 64), some (jvR 52), some (jvI l2), some (jvI (l3 - 1))] [] μ4 Q)))))) : K 121 E mOr_cut 34 [some (jvR 64), some (jvR 52), some (jvI l2), some (jvI l3)] [] μ Q := by
  refine K_iload_n 3 l3 dOr_cut_34 rfl rfl ?_
  refine K_if_lt 50 dOr_cut_35 (by decide) (fun c1 => ?_) (fun c1 => ?_)
  · exact K_vret dOr_cut_50 rfl (hF.1 c1)
  · refine K_aload_n 0 64 dOr_cut_38 rfl rfl ?_
    refine K_aload_n 1 52 dOr_cut_39 rfl rfl ?_
    refine K_iload_n 3 l3 dOr_cut_40 rfl rfl ?_
    refine K_callVv mOr_cutFrom 4 64 [jvR 52, jvI l3] dOr_cut_41 pm_Or_82 ⟨_, rfl, rfl⟩ ⟨(Nat.le_of_ble_eq_true rfl), (Nat.le_of_ble_eq_true rfl)⟩ rfl rfl (by decide) (Nat.le_of_ble_eq_true rfl) rfl (Nat.le_of_ble_eq_true rfl) (by decide) (Cv_mono (hF.2 c1) (fun μ4 h5 => ?_))
    refine K_iinc 3 dOr_cut_44 (Nat.le_of_ble_eq_true rfl) rfl (w32_okn h5.1) rfl ?_
    refine K_goto 34 dOr_cut_47 (by decide) ?_
    exact h5.2
set_option maxHeartbeats 8000000 in
theorem vOr_cutFrom_0 {E : jE} {μ : jMu} {Q : Option AV → jMu → Prop} {a1 : Int} (hF : ((-2147483648 ≤ (a1 + 1) ∧ (a1 + 1) < 2147483648)) ∧ (K 121 E mOr_cutFrom 11 [some (jvR 64), some (jvR 52), some (jvI a1), some (jvI 0), some (jvI 2147483647), some (jvI (a1 + 1)), none] [] μ Q)) : K 121 E mOr_cutFrom 0 [some (jvR 64), some (jvR 52), some (jvI a1), none, none, none, none] [] μ Q := by
  refine K_iconst 0 dOr_cutFrom_0 rfl ?_
  refine K_istore_n 3 dOr_cutFrom_1 rfl (Nat.le_of_ble_eq_true rfl) rfl ?_
  refine K_ldc 2147483647 dOr_cutFrom_2 pc_Or_86 rfl ?_
  refine K_istore 4 dOr_cutFrom_4 (Nat.le_of_ble_eq_true rfl) rfl ?_
  refine K_iload_n 2 a1 dOr_cutFrom_6 rfl rfl ?_
  refine K_iconst 1 dOr_cutFrom_7 rfl ?_
  refine K_iadd dOr_cutFrom_8 (w32_id hF.1) ?_
  refine K_istore 5 dOr_cutFrom_9 (Nat.le_of_ble_eq_true rfl) rfl ?_
  exact hF.2
set_option maxHeartbeats 8000000 in
theorem vOr_cutFrom_11 {E : jE} {μ : jMu} {Q : Option AV → jMu → Prop} {l2 l3 l4 l5 : Int} (hF : (((μ 64 6) < l5 → ((0 ≤ l2 ∧ l2 < 41)) ∧ (Q none (j_up μ 67 l2 l4))) ∧ (¬ ((μ 64 6) < l5) → ((-2147483648 ≤ (l2 + (μ 64 7)) ∧ (l2 + (μ 64 7)) < 2147483648)) ∧ (((l2 + (μ 64 7)) < l5 → ((0 ≤ l2 ∧ l2 < 41)) ∧ (Q none (j_up μ 67 l2 l4))) ∧ (¬ ((l2 + (μ 64 7)) < l5) → ((-2147483648 ≤ (l5 - 1) ∧ (l5 - 1) < 2147483648)) ∧ (Ci E mRe_looksAhead [jvR 52, jvI (l5 - 1), jvI l2] μ (fun r10 μ7 => ((-2147483648 ≤ (l3 + r10) ∧ (l3 + r10) < 2147483648) ∧ (0 ≤ l5 ∧ l5 < 41) ∧ (-2147483648 ≤ ((l3 + r10) + (μ7 67 l5)) ∧ ((l3 + r10) + (μ7 67 l5)) < 2147483648)) ∧ (Ci E mOr_pageCount [jvR 64, jvI l5] μ7 (fun r14 μ11 => (Ci E mOr_pageCount [jvR 64, jvI l2] μ11 (fun r18 μ15 => ((r18 ≤ r14 → ((-2147483648 ≤ (l5 + 1) ∧ (l5 + 1) < 2147483648)) ∧ (K 121 E mOr_cutFrom 11 [some (jvR 64), some (jvR 52), some (jvI l2), some (jvI (l3 + r10)), some (jvI l4), some (jvI (l5 + 1)), none] [] μ15 Q)) ∧ (¬ (r18 ≤ r14) → ((l4 ≤ ((l3 + r10) + (μ7 67 l5)) → ((-2147483648 ≤ (l5 + 1) ∧ (l5 + 1) < 2147483648)) ∧ (K 121 E mOr_cutFrom 11 [some (jvR 64), some (jvR 52), some (jvI l2), some (jvI (l3 + r10)), some (jvI l4), some (jvI (l5 + 1)), none] [] μ15 Q)) ∧ (¬ (l4 ≤ ((l3 + r10) + (μ7 67 l5))) → ((0 ≤ l2 ∧ l2 < 41) ∧ (-2147483648 ≤ (l5 + 1) ∧ (l5 + 1) < 2147483648)) ∧ (K 121 E mOr_cutFrom 11 [some (jvR 64), some (jvR 52), some (jvI l2), some (jvI (l3 + r10)), some (jvI ((l3 + r10) + (μ7 67 l5))), some (jvI (l5 + 1)), none] [] (j_up μ15 68 l2 l5) Q)))))))))))))))) : K 121 E mOr_cutFrom 11 [some (jvR 64), some (jvR 52), some (jvI l2), some (jvI l3), some (jvI l4), some (jvI l5), none] [] μ Q := by
  refine K_iload 5 l5 dOr_cutFrom_11 rfl ?_
  refine K_aload_n 0 64 dOr_cutFrom_13 rfl rfl ?_
  refine K_getf 4 6 64 (jvI (μ 64 6)) dOr_cutFrom_14 pf_Or_75 rfl rfl (by decide) rfl rfl ?_
  refine K_icmp_gt 93 dOr_cutFrom_17 (by decide) (fun c1 => ?_) (fun c1 => ?_)
  · refine K_aload_n 0 64 dOr_cutFrom_93 rfl rfl ?_
    refine K_getf 4 2 64 (jvR 67) dOr_cutFrom_94 pf_Or_21 rfl rfl (by decide) rfl rfl ?_
    refine K_iload_n 2 l2 dOr_cutFrom_97 rfl rfl ?_
    refine K_iload 4 l4 dOr_cutFrom_98 rfl ?_
    refine K_iast 67 41 dOr_cutFrom_100 rfl rfl (by decide) (hF.1 c1).1 ?_
    exact K_vret dOr_cutFrom_101 rfl (hF.1 c1).2
  · refine K_iload 5 l5 dOr_cutFrom_20 rfl ?_
    refine K_iload_n 2 l2 dOr_cutFrom_22 rfl rfl ?_
    refine K_aload_n 0 64 dOr_cutFrom_23 rfl rfl ?_
    refine K_getf 4 7 64 (jvI (μ 64 7)) dOr_cutFrom_24 pf_Or_27 rfl rfl (by decide) rfl rfl ?_
    refine K_iadd dOr_cutFrom_27 (w32_id (hF.2 c1).1) ?_
    refine K_icmp_gt 93 dOr_cutFrom_28 (by decide) (fun c4 => ?_) (fun c4 => ?_)
    · refine K_aload_n 0 64 dOr_cutFrom_93 rfl rfl ?_
      refine K_getf 4 2 64 (jvR 67) dOr_cutFrom_94 pf_Or_21 rfl rfl (by decide) rfl rfl ?_
      refine K_iload_n 2 l2 dOr_cutFrom_97 rfl rfl ?_
      refine K_iload 4 l4 dOr_cutFrom_98 rfl ?_
      refine K_iast 67 41 dOr_cutFrom_100 rfl rfl (by decide) ((hF.2 c1).2.1 c4).1 ?_
      exact K_vret dOr_cutFrom_101 rfl ((hF.2 c1).2.1 c4).2
    · refine K_iload_n 3 l3 dOr_cutFrom_31 rfl rfl ?_
      refine K_aload_n 1 52 dOr_cutFrom_32 rfl rfl ?_
      refine K_iload 5 l5 dOr_cutFrom_33 rfl ?_
      refine K_iconst 1 dOr_cutFrom_35 rfl ?_
      refine K_isub dOr_cutFrom_36 (w32_id ((hF.2 c1).2.2 c4).1) ?_
      refine K_iload_n 2 l2 dOr_cutFrom_37 rfl rfl ?_
      refine K_callVi mRe_looksAhead 6 52 [jvI (l5 - 1), jvI l2] dOr_cutFrom_38 pm_Or_87 ⟨_, rfl, rfl⟩ ⟨(Nat.le_of_ble_eq_true rfl), (Nat.le_of_ble_eq_true rfl)⟩ rfl rfl (by decide) (Nat.le_of_ble_eq_true rfl) rfl (Nat.le_of_ble_eq_true rfl) (by decide) (Ci_mono ((hF.2 c1).2.2 c4).2 (fun r10 μ7 h8 => ?_))
      refine K_iadd dOr_cutFrom_41 (w32_id h8.1.1) ?_
      refine K_istore_n 3 dOr_cutFrom_42 rfl (Nat.le_of_ble_eq_true rfl) rfl ?_
      refine K_iload_n 3 (l3 + r10) dOr_cutFrom_43 rfl rfl ?_
      refine K_aload_n 0 64 dOr_cutFrom_44 rfl rfl ?_
      refine K_getf 4 2 64 (jvR 67) dOr_cutFrom_45 pf_Or_21 rfl rfl (by decide) rfl rfl ?_
      refine K_iload 5 l5 dOr_cutFrom_48 rfl ?_
      refine K_iald 67 41 dOr_cutFrom_50 rfl rfl (by decide) h8.1.2.1 ?_
      refine K_iadd dOr_cutFrom_51 (w32_id h8.1.2.2) ?_
      refine K_istore 6 dOr_cutFrom_52 (Nat.le_of_ble_eq_true rfl) rfl ?_
      refine K_aload_n 0 64 dOr_cutFrom_54 rfl rfl ?_
      refine K_iload 5 l5 dOr_cutFrom_55 rfl ?_
      refine K_callVi mOr_pageCount 4 64 [jvI l5] dOr_cutFrom_57 pm_Or_90 ⟨_, rfl, rfl⟩ ⟨(Nat.le_of_ble_eq_true rfl), (Nat.le_of_ble_eq_true rfl)⟩ rfl rfl (by decide) (Nat.le_of_ble_eq_true rfl) rfl (Nat.le_of_ble_eq_true rfl) (by decide) (Ci_mono h8.2 (fun r14 μ11 h12 => ?_))
      refine K_aload_n 0 64 dOr_cutFrom_60 rfl rfl ?_
      refine K_iload_n 2 l2 dOr_cutFrom_61 rfl rfl ?_
      refine K_callVi mOr_pageCount 4 64 [jvI l2] dOr_cutFrom_62 pm_Or_90 ⟨_, rfl, rfl⟩ ⟨(Nat.le_of_ble_eq_true rfl), (Nat.le_of_ble_eq_true rfl)⟩ rfl rfl (by decide) (Nat.le_of_ble_eq_true rfl) rfl (Nat.le_of_ble_eq_true rfl) (by decide) (Ci_mono h12 (fun r18 μ15 h16 => ?_))
      refine K_icmp_ge 87 dOr_cutFrom_65 (by decide) (fun c19 => ?_) (fun c19 => ?_)
      · refine K_iinc 5 dOr_cutFrom_87 (Nat.le_of_ble_eq_true rfl) rfl (w32_ok (h16.1 c19).1) rfl ?_
        refine K_goto 11 dOr_cutFrom_90 (by decide) ?_
        exact K_forget [true, true, true, true, true, true, false] (h16.1 c19).2
      · refine K_iload 6 ((l3 + r10) + (μ7 67 l5)) dOr_cutFrom_68 rfl ?_
        refine K_iload 4 l4 dOr_cutFrom_70 rfl ?_
        refine K_icmp_ge 87 dOr_cutFrom_72 (by decide) (fun c21 => ?_) (fun c21 => ?_)
        · refine K_iinc 5 dOr_cutFrom_87 (Nat.le_of_ble_eq_true rfl) rfl (w32_ok ((h16.2 c19).1 c21).1) rfl ?_
          refine K_goto 11 dOr_cutFrom_90 (by decide) ?_
          exact K_forget [true, true, true, true, true, true, false] ((h16.2 c19).1 c21).2
        · refine K_iload 6 ((l3 + r10) + (μ7 67 l5)) dOr_cutFrom_75 rfl ?_
          refine K_istore 4 dOr_cutFrom_77 (Nat.le_of_ble_eq_true rfl) rfl ?_
          refine K_aload_n 0 64 dOr_cutFrom_79 rfl rfl ?_
          refine K_getf 4 3 64 (jvR 68) dOr_cutFrom_80 pf_Or_24 rfl rfl (by decide) rfl rfl ?_
          refine K_iload_n 2 l2 dOr_cutFrom_83 rfl rfl ?_
          refine K_iload 5 l5 dOr_cutFrom_84 rfl ?_
          refine K_iast 68 41 dOr_cutFrom_86 rfl rfl (by decide) ((h16.2 c19).2 c21).1.1 ?_
          refine K_iinc 5 dOr_cutFrom_87 (Nat.le_of_ble_eq_true rfl) rfl (w32_ok ((h16.2 c19).2 c21).1.2) rfl ?_
          refine K_goto 11 dOr_cutFrom_90 (by decide) ?_
          exact K_forget [true, true, true, true, true, true, false] ((h16.2 c19).2 c21).2
set_option maxHeartbeats 8000000 in
theorem vRe_looksAhead_0 {E : jE} {μ : jMu} {Q : Option AV → jMu → Prop} {a0 a1 : Int} (hF : (K 121 E mRe_looksAhead 5 [some (jvR 52), some (jvI a0), some (jvI a1), some (jvI 0), some (jvI 0)] [] μ Q)) : K 121 E mRe_looksAhead 0 [some (jvR 52), some (jvI a0), some (jvI a1), none, none] [] μ Q := by
  refine K_iconst 0 dRe_looksAhead_0 rfl ?_
  refine K_istore_n 3 dRe_looksAhead_1 rfl (Nat.le_of_ble_eq_true rfl) rfl ?_
  refine K_iconst 0 dRe_looksAhead_2 rfl ?_
  refine K_istore 4 dRe_looksAhead_3 (Nat.le_of_ble_eq_true rfl) rfl ?_
  exact hF
set_option maxHeartbeats 8000000 in
theorem vRe_looksAhead_5 {E : jE} {μ : jMu} {Q : Option AV → jMu → Prop} {l1 l2 l3 l4 : Int} (hF : ((0 ≤ l1 ∧ l1 < 40)) ∧ (((μ 55 l1) ≤ l4 → (Q (some (jvI l3)) μ)) ∧ (¬ ((μ 55 l1) ≤ l4) → ((-2147483648 ≤ (3 * l1) ∧ (3 * l1) < 2147483648) ∧ (-2147483648 ≤ ((3 * l1) + l4) ∧ ((3 * l1) + l4) < 2147483648) ∧ (0 ≤ ((3 * l1) + l4) ∧ ((3 * l1) + l4) < 120)) ∧ ((l2 ≤ (μ 56 ((3 * l1) + l4)) → ((-2147483648 ≤ (l4 + 1) ∧ (l4 + 1) < 2147483648)) ∧ (K 121 E mRe_looksAhead 5 [some (jvR 52), some (jvI l1), some (jvI l2), some (jvI l3), some (jvI (l4 + 1))] [] μ Q)) ∧ (¬ (l2 ≤ (μ 56 ((3 * l1) + l4))) → ((-2147483648 ≤ (l3 + 1) ∧ (l3 + 1) < 2147483648) ∧ (-2147483648 ≤ (l4 + 1) ∧ (l4 + 1) < 2147483648)) ∧ (K 121 E mRe_looksAhead 5 [some (jvR 52), some (jvI l1), some (jvI l2), some (jvI (l3 + 1)), some (jvI (l4 + 1))] [] μ Q)))))) : K 121 E mRe_looksAhead 5 [some (jvR 52), some (jvI l1), some (jvI l2), some (jvI l3), some (jvI l4)] [] μ Q := by
  refine K_iload 4 l4 dRe_looksAhead_5 rfl ?_
  refine K_aload_n 0 52 dRe_looksAhead_7 rfl rfl ?_
  refine K_getf 6 2 52 (jvR 55) dRe_looksAhead_8 pf_Re_20 rfl rfl (by decide) rfl rfl ?_
  refine K_iload_n 1 l1 dRe_looksAhead_11 rfl rfl ?_
  refine K_iald 55 40 dRe_looksAhead_12 rfl rfl (by decide) hF.1 ?_
  refine K_icmp_ge 40 dRe_looksAhead_13 (by decide) (fun c1 => ?_) (fun c1 => ?_)
  · refine K_iload_n 3 l3 dRe_looksAhead_40 rfl rfl ?_
    exact K_iret dRe_looksAhead_41 (Or.inl rfl) (hF.2.1 c1)
  · refine K_aload_n 0 52 dRe_looksAhead_16 rfl rfl ?_
    refine K_getf 6 3 52 (jvR 56) dRe_looksAhead_17 pf_Re_23 rfl rfl (by decide) rfl rfl ?_
    refine K_iconst 3 dRe_looksAhead_20 rfl ?_
    refine K_iload_n 1 l1 dRe_looksAhead_21 rfl rfl ?_
    refine K_imul dRe_looksAhead_22 (w32_id (hF.2.2 c1).1.1) ?_
    refine K_iload 4 l4 dRe_looksAhead_23 rfl ?_
    refine K_iadd dRe_looksAhead_25 (w32_id (hF.2.2 c1).1.2.1) ?_
    refine K_iald 56 120 dRe_looksAhead_26 rfl rfl (by decide) (hF.2.2 c1).1.2.2 ?_
    refine K_iload_n 2 l2 dRe_looksAhead_27 rfl rfl ?_
    refine K_icmp_ge 34 dRe_looksAhead_28 (by decide) (fun c4 => ?_) (fun c4 => ?_)
    · refine K_iinc 4 dRe_looksAhead_34 (Nat.le_of_ble_eq_true rfl) rfl (w32_ok ((hF.2.2 c1).2.1 c4).1) rfl ?_
      refine K_goto 5 dRe_looksAhead_37 (by decide) ?_
      exact ((hF.2.2 c1).2.1 c4).2
    · refine K_iinc 3 dRe_looksAhead_31 (Nat.le_of_ble_eq_true rfl) rfl (w32_ok ((hF.2.2 c1).2.2 c4).1.1) rfl ?_
      refine K_iinc 4 dRe_looksAhead_34 (Nat.le_of_ble_eq_true rfl) rfl (w32_ok ((hF.2.2 c1).2.2 c4).1.2) rfl ?_
      refine K_goto 5 dRe_looksAhead_37 (by decide) ?_
      exact ((hF.2.2 c1).2.2 c4).2
set_option maxHeartbeats 8000000 in
theorem vOr_pageCount_0 {E : jE} {μ : jMu} {Q : Option AV → jMu → Prop} {a0 : Int} (hF : ((-2147483648 ≤ ((μ 64 6) - a0) ∧ ((μ 64 6) - a0) < 2147483648) ∧ (-2147483648 ≤ (((μ 64 6) - a0) + (μ 64 7)) ∧ (((μ 64 6) - a0) + (μ 64 7)) < 2147483648) ∧ (-2147483648 ≤ ((((μ 64 6) - a0) + (μ 64 7)) - 1) ∧ ((((μ 64 6) - a0) + (μ 64 7)) - 1) < 2147483648) ∧ (μ 64 7) ≠ 0 ∧ (-2147483648 ≤ (Int.tdiv ((((μ 64 6) - a0) + (μ 64 7)) - 1) (μ 64 7)) ∧ (Int.tdiv ((((μ 64 6) - a0) + (μ 64 7)) - 1) (μ 64 7)) < 2147483648)) ∧ (Q (some (jvI (Int.tdiv ((((μ 64 6) - a0) + (μ 64 7)) - 1) (μ 64 7)))) μ)) : K 121 E mOr_pageCount 0 [some (jvR 64), some (jvI a0)] [] μ Q := by
  refine K_aload_n 0 64 dOr_pageCount_0 rfl rfl ?_
  refine K_getf 4 6 64 (jvI (μ 64 6)) dOr_pageCount_1 pf_Or_75 rfl rfl (by decide) rfl rfl ?_
  refine K_iload_n 1 a0 dOr_pageCount_4 rfl rfl ?_
  refine K_isub dOr_pageCount_5 (w32_id hF.1.1) ?_
  refine K_aload_n 0 64 dOr_pageCount_6 rfl rfl ?_
  refine K_getf 4 7 64 (jvI (μ 64 7)) dOr_pageCount_7 pf_Or_27 rfl rfl (by decide) rfl rfl ?_
  refine K_iadd dOr_pageCount_10 (w32_id hF.1.2.1) ?_
  refine K_iconst 1 dOr_pageCount_11 rfl ?_
  refine K_isub dOr_pageCount_12 (w32_id hF.1.2.2.1) ?_
  refine K_aload_n 0 64 dOr_pageCount_13 rfl rfl ?_
  refine K_getf 4 7 64 (jvI (μ 64 7)) dOr_pageCount_14 pf_Or_27 rfl rfl (by decide) rfl rfl ?_
  refine K_idiv dOr_pageCount_17 hF.1.2.2.2.1 (w32_id hF.1.2.2.2.2) ?_
  exact K_iret dOr_pageCount_18 (Or.inl rfl) hF.2
set_option maxHeartbeats 8000000 in
theorem vOr_firstOn_0 {E : jE} {μ : jMu} {Q : Option AV → jMu → Prop} {a0 : Int} (hF : (K 121 E mOr_firstOn 4 [some (jvR 64), some (jvI a0), some (jvI 0), some (jvI 0)] [] μ Q)) : K 121 E mOr_firstOn 0 [some (jvR 64), some (jvI a0), none, none] [] μ Q := by
  refine K_iconst 0 dOr_firstOn_0 rfl ?_
  refine K_istore_n 2 dOr_firstOn_1 rfl (Nat.le_of_ble_eq_true rfl) rfl ?_
  refine K_iconst 0 dOr_firstOn_2 rfl ?_
  refine K_istore_n 3 dOr_firstOn_3 rfl (Nat.le_of_ble_eq_true rfl) rfl ?_
  exact hF
set_option maxHeartbeats 8000000 in
theorem vOr_firstOn_4 {E : jE} {μ : jMu} {Q : Option AV → jMu → Prop} {l1 l2 l3 : Int} (hF : ((l1 ≤ l3 → (((μ 64 6) ≤ l2 → (Q (some (jvI (-1))) μ)) ∧ (¬ ((μ 64 6) ≤ l2) → (Q (some (jvI l2)) μ)))) ∧ (¬ (l1 ≤ l3) → (((μ 64 6) ≤ l2 → (((μ 64 6) ≤ l2 → (Q (some (jvI (-1))) μ)) ∧ (¬ ((μ 64 6) ≤ l2) → (Q (some (jvI l2)) μ)))) ∧ (¬ ((μ 64 6) ≤ l2) → ((0 ≤ l2 ∧ l2 < 41) ∧ (-2147483648 ≤ (l3 + 1) ∧ (l3 + 1) < 2147483648)) ∧ (K 121 E mOr_firstOn 4 [some (jvR 64), some (jvI l1), some (jvI (μ 68 l2)), some (jvI (l3 + 1))] [] μ Q)))))) : K 121 E mOr_firstOn 4 [some (jvR 64), some (jvI l1), some (jvI l2), some (jvI l3)] [] μ Q := by
  refine K_iload_n 3 l3 dOr_firstOn_4 rfl rfl ?_
  refine K_iload_n 1 l1 dOr_firstOn_5 rfl rfl ?_
  refine K_icmp_ge 30 dOr_firstOn_6 (by decide) (fun c1 => ?_) (fun c1 => ?_)
  · refine K_iload_n 2 l2 dOr_firstOn_30 rfl rfl ?_
    refine K_aload_n 0 64 dOr_firstOn_31 rfl rfl ?_
    refine K_getf 4 6 64 (jvI (μ 64 6)) dOr_firstOn_32 pf_Or_75 rfl rfl (by decide) rfl rfl ?_
    refine K_icmp_ge 42 dOr_firstOn_35 (by decide) (fun c3 => ?_) (fun c3 => ?_)
    · refine K_iconst (-1) dOr_firstOn_42 rfl ?_
      exact K_iret dOr_firstOn_43 (Or.inl rfl) ((hF.1 c1).1 c3)
    · refine K_iload_n 2 l2 dOr_firstOn_38 rfl rfl ?_
      refine K_goto 43 dOr_firstOn_39 (by decide) ?_
      exact K_iret dOr_firstOn_43 (Or.inl rfl) ((hF.1 c1).2 c3)
  · refine K_iload_n 2 l2 dOr_firstOn_9 rfl rfl ?_
    refine K_aload_n 0 64 dOr_firstOn_10 rfl rfl ?_
    refine K_getf 4 6 64 (jvI (μ 64 6)) dOr_firstOn_11 pf_Or_75 rfl rfl (by decide) rfl rfl ?_
    refine K_icmp_ge 30 dOr_firstOn_14 (by decide) (fun c7 => ?_) (fun c7 => ?_)
    · refine K_iload_n 2 l2 dOr_firstOn_30 rfl rfl ?_
      refine K_aload_n 0 64 dOr_firstOn_31 rfl rfl ?_
      refine K_getf 4 6 64 (jvI (μ 64 6)) dOr_firstOn_32 pf_Or_75 rfl rfl (by decide) rfl rfl ?_
      refine K_icmp_ge 42 dOr_firstOn_35 (by decide) (fun c9 => ?_) (fun c9 => ?_)
      · refine K_iconst (-1) dOr_firstOn_42 rfl ?_
        exact K_iret dOr_firstOn_43 (Or.inl rfl) (((hF.2 c1).1 c7).1 c9)
      · refine K_iload_n 2 l2 dOr_firstOn_38 rfl rfl ?_
        refine K_goto 43 dOr_firstOn_39 (by decide) ?_
        exact K_iret dOr_firstOn_43 (Or.inl rfl) (((hF.2 c1).1 c7).2 c9)
    · refine K_aload_n 0 64 dOr_firstOn_17 rfl rfl ?_
      refine K_getf 4 3 64 (jvR 68) dOr_firstOn_18 pf_Or_24 rfl rfl (by decide) rfl rfl ?_
      refine K_iload_n 2 l2 dOr_firstOn_21 rfl rfl ?_
      refine K_iald 68 41 dOr_firstOn_22 rfl rfl (by decide) ((hF.2 c1).2 c7).1.1 ?_
      refine K_istore_n 2 dOr_firstOn_23 rfl (Nat.le_of_ble_eq_true rfl) rfl ?_
      refine K_iinc 3 dOr_firstOn_24 (Nat.le_of_ble_eq_true rfl) rfl (w32_ok ((hF.2 c1).2 c7).1.2) rfl ?_
      refine K_goto 4 dOr_firstOn_27 (by decide) ?_
      exact ((hF.2 c1).2 c7).2
set_option maxHeartbeats 8000000 in
theorem vX_blame_0 {E : jE} {μ : jMu} {Q : Option AV → jMu → Prop} {b : Nat} (hb : isB b) {a0 a1 : Int} (hF : ((μ 0 9) = ((b : Nat) : Int)) ∧ (Ci E mBk_hasRule [jvR ((b : Nat) : Int), jvI a0] μ (fun r4 μ1 => ((¬ r4 = 0 → ((a1 = 0 → (Cv E mX_setWrong [jvR 0, jvI (iand32 (μ1 0 13) (ixor32 (ishl32 1 a0) (-1)))] μ1 (fun μ9 => (Ci E mLg_bitCount [jvL (μ9 0 14)] μ9 (fun r15 μ12 => (Q (some (jvI r15)) μ12)))))) ∧ (¬ (a1 = 0) → (Cv E mX_setWrong [jvR 0, jvI (ior32 (μ1 0 13) (ishl32 1 a0))] μ1 (fun μ17 => (Ci E mLg_bitCount [jvL (μ17 0 14)] μ17 (fun r23 μ20 => (Q (some (jvI r23)) μ20)))))))) ∧ (r4 = 0 → (Q (some (jvI (-1))) μ1)))))) : K 121 E mX_blame 0 [some (jvR 0), some (jvI a0), some (jvI a1)] [] μ Q := by
  refine K_aload_n 0 0 dX_blame_0 rfl rfl ?_
  refine K_getf 0 9 0 (jvR ((b : Nat) : Int)) dX_blame_1 pf_X_26 rfl rfl (by decide) rfl (congrArg jvR hF.1) ?_
  refine K_iload_n 1 a0 dX_blame_4 rfl rfl ?_
  refine K_callVi mBk_hasRule 2 b [jvI a0] dX_blame_5 pm_X_203 ⟨_, rfl, rfl⟩ ⟨(Nat.le_of_ble_eq_true rfl), (Nat.le_of_ble_eq_true rfl)⟩ rfl (isB_c0 hb) (isB_n 0 (by decide) hb) (Nat.le_of_ble_eq_true rfl) rfl (Nat.le_of_ble_eq_true rfl) (by decide) (Ci_mono hF.2 (fun r4 μ1 h2 => ?_))
  refine K_if_ne 13 dX_blame_8 (by decide) (fun c5 => ?_) (fun c5 => ?_)
  · refine K_aload_n 0 0 dX_blame_13 rfl rfl ?_
    refine K_iload_n 2 a1 dX_blame_14 rfl rfl ?_
    refine K_if_eq 29 dX_blame_15 (by decide) (fun c7 => ?_) (fun c7 => ?_)
    · refine K_aload_n 0 0 dX_blame_29 rfl rfl ?_
      refine K_getf 0 13 0 (jvI (μ1 0 13)) dX_blame_30 pf_X_92 rfl rfl (by decide) rfl rfl ?_
      refine K_iconst 1 dX_blame_33 rfl ?_
      refine K_iload_n 1 a0 dX_blame_34 rfl rfl ?_
      refine K_ishl dX_blame_35 rfl ?_
      refine K_iconst (-1) dX_blame_36 rfl ?_
      refine K_ixor dX_blame_37 rfl ?_
      refine K_iand dX_blame_38 rfl ?_
      refine K_callVv mX_setWrong 0 0 [jvI (iand32 (μ1 0 13) (ixor32 (ishl32 1 a0) (-1)))] dX_blame_39 pm_X_130 ⟨_, rfl, rfl⟩ ⟨(Nat.le_of_ble_eq_true rfl), (Nat.le_of_ble_eq_true rfl)⟩ rfl rfl (by decide) (Nat.le_of_ble_eq_true rfl) rfl (Nat.le_of_ble_eq_true rfl) (by decide) (Cv_mono ((h2.1 c5).1 c7) (fun μ9 h10 => ?_))
      refine K_aload_n 0 0 dX_blame_42 rfl rfl ?_
      refine K_getf 0 14 0 (jvL (μ9 0 14)) dX_blame_43 pf_X_95 rfl rfl (by decide) rfl rfl ?_
      refine K_callSi mLg_bitCount [jvL (μ9 0 14)] dX_blame_46 pm_X_160 ⟨(Nat.le_of_ble_eq_true rfl), (Nat.le_of_ble_eq_true rfl)⟩ (Nat.le_of_ble_eq_true rfl) rfl (Nat.le_of_ble_eq_true rfl) (by decide) (Ci_mono h10 (fun r15 μ12 h13 => ?_))
      exact K_iret dX_blame_49 (Or.inl rfl) h13
    · refine K_aload_n 0 0 dX_blame_18 rfl rfl ?_
      refine K_getf 0 13 0 (jvI (μ1 0 13)) dX_blame_19 pf_X_92 rfl rfl (by decide) rfl rfl ?_
      refine K_iconst 1 dX_blame_22 rfl ?_
      refine K_iload_n 1 a0 dX_blame_23 rfl rfl ?_
      refine K_ishl dX_blame_24 rfl ?_
      refine K_ior dX_blame_25 rfl ?_
      refine K_goto 39 dX_blame_26 (by decide) ?_
      refine K_callVv mX_setWrong 0 0 [jvI (ior32 (μ1 0 13) (ishl32 1 a0))] dX_blame_39 pm_X_130 ⟨_, rfl, rfl⟩ ⟨(Nat.le_of_ble_eq_true rfl), (Nat.le_of_ble_eq_true rfl)⟩ rfl rfl (by decide) (Nat.le_of_ble_eq_true rfl) rfl (Nat.le_of_ble_eq_true rfl) (by decide) (Cv_mono ((h2.1 c5).2 c7) (fun μ17 h18 => ?_))
      refine K_aload_n 0 0 dX_blame_42 rfl rfl ?_
      refine K_getf 0 14 0 (jvL (μ17 0 14)) dX_blame_43 pf_X_95 rfl rfl (by decide) rfl rfl ?_
      refine K_callSi mLg_bitCount [jvL (μ17 0 14)] dX_blame_46 pm_X_160 ⟨(Nat.le_of_ble_eq_true rfl), (Nat.le_of_ble_eq_true rfl)⟩ (Nat.le_of_ble_eq_true rfl) rfl (Nat.le_of_ble_eq_true rfl) (by decide) (Ci_mono h18 (fun r23 μ20 h21 => ?_))
      exact K_iret dX_blame_49 (Or.inl rfl) h21
  · refine K_iconst (-1) dX_blame_11 rfl ?_
    exact K_iret dX_blame_12 (Or.inl rfl) (h2.2 c5)
set_option maxHeartbeats 8000000 in
theorem vX_stands_0 {E : jE} {μ : jMu} {Q : Option AV → jMu → Prop} {b : Nat} (hb : isB b) (hF : ((μ 0 9) = ((b : Nat) : Int)) ∧ ((¬ (μ b 13) = 0 → ((μ 0 9) = ((b : Nat) : Int)) ∧ (Cl E mFa_sameAs [jvR 45, jvI (μ b 15)] μ (fun r6 μ3 => (((iand64 r6 (ixor64 (μ3 0 14) (-1))) = 0 → (Ci E mX_flag [jvI 0] μ3 (fun r12 μ9 => (Q (some (jvI r12)) μ9)))) ∧ (¬ ((iand64 r6 (ixor64 (μ3 0 14) (-1))) = 0) → (Ci E mX_flag [jvI 1] μ3 (fun r17 μ14 => (Q (some (jvI r17)) μ14)))))))) ∧ ((μ b 13) = 0 → (Q (some (jvI (-1))) μ)))) : K 121 E mX_stands 0 [some (jvR 0)] [] μ Q := by
  refine K_aload_n 0 0 dX_stands_0 rfl rfl ?_
  refine K_getf 0 9 0 (jvR ((b : Nat) : Int)) dX_stands_1 pf_X_26 rfl rfl (by decide) rfl (congrArg jvR hF.1) ?_
  refine K_getf 2 13 b (jvI (μ b 13)) dX_stands_4 pf_X_136 rfl (isB_c0 hb) (isB_n 0 (by decide) hb) rfl (isB_f0_13 hb) ?_
  refine K_if_ne 12 dX_stands_7 (by decide) (fun c1 => ?_) (fun c1 => ?_)
  · refine K_aload_n 0 0 dX_stands_12 rfl rfl ?_
    refine K_getf 0 2 0 (jvR 45) dX_stands_13 pf_X_38 rfl rfl (by decide) rfl rfl ?_
    refine K_aload_n 0 0 dX_stands_16 rfl rfl ?_
    refine K_getf 0 9 0 (jvR ((b : Nat) : Int)) dX_stands_17 pf_X_26 rfl rfl (by decide) rfl (congrArg jvR (hF.2.1 c1).1) ?_
    refine K_getf 2 15 b (jvI (μ b 15)) dX_stands_20 pf_X_154 rfl (isB_c0 hb) (isB_n 0 (by decide) hb) rfl (isB_f0_15 hb) ?_
    refine K_callVl mFa_sameAs 3 45 [jvI (μ b 15)] dX_stands_23 pm_X_373 ⟨_, rfl, rfl⟩ ⟨(Nat.le_of_ble_eq_true rfl), (Nat.le_of_ble_eq_true rfl)⟩ rfl rfl (by decide) (Nat.le_of_ble_eq_true rfl) rfl (Nat.le_of_ble_eq_true rfl) (by decide) (Cl_mono (hF.2.1 c1).2 (fun r6 μ3 h4 => ?_))
    refine K_aload_n 0 0 dX_stands_26 rfl rfl ?_
    refine K_getf 0 14 0 (jvL (μ3 0 14)) dX_stands_27 pf_X_95 rfl rfl (by decide) rfl rfl ?_
    refine K_ldc2 (-1) dX_stands_30 pc_X_267 rfl ?_
    refine K_lxor dX_stands_33 rfl ?_
    refine K_land dX_stands_34 rfl ?_
    refine K_lconst 0 dX_stands_35 rfl ?_
    refine K_lcmp_eq 44 dX_stands_36 dX_stands_37 (by decide) (fun c7 => ?_) (fun c7 => ?_)
    · refine K_iconst 0 dX_stands_44 rfl ?_
      refine K_callSi mX_flag [jvI 0] dX_stands_45 pm_X_213 ⟨(Nat.le_of_ble_eq_true rfl), (Nat.le_of_ble_eq_true rfl)⟩ (Nat.le_of_ble_eq_true rfl) rfl (Nat.le_of_ble_eq_true rfl) (by decide) (Ci_mono (h4.1 c7) (fun r12 μ9 h10 => ?_))
      exact K_iret dX_stands_48 (Or.inl rfl) h10
    · refine K_iconst 1 dX_stands_40 rfl ?_
      refine K_goto 45 dX_stands_41 (by decide) ?_
      refine K_callSi mX_flag [jvI 1] dX_stands_45 pm_X_213 ⟨(Nat.le_of_ble_eq_true rfl), (Nat.le_of_ble_eq_true rfl)⟩ (Nat.le_of_ble_eq_true rfl) rfl (Nat.le_of_ble_eq_true rfl) (by decide) (Ci_mono (h4.2 c7) (fun r17 μ14 h15 => ?_))
      exact K_iret dX_stands_48 (Or.inl rfl) h15
  · refine K_iconst (-1) dX_stands_10 rfl ?_
    exact K_iret dX_stands_11 (Or.inl rfl) (hF.2.2 c1)
set_option maxHeartbeats 8000000 in
theorem vFa_sameAs_0 {E : jE} {μ : jMu} {Q : Option AV → jMu → Prop} {a0 : Int} (hF : (K 121 E mFa_sameAs 5 [some (jvR 45), some (jvI a0), some (jvL 0), none, some (jvI 0)] [] μ Q)) : K 121 E mFa_sameAs 0 [some (jvR 45), some (jvI a0), none, none, none] [] μ Q := by
  refine K_lconst 0 dFa_sameAs_0 rfl ?_
  refine K_lstore_n 2 dFa_sameAs_1 rfl (Nat.le_of_ble_eq_true rfl) rfl ?_
  refine K_iconst 0 dFa_sameAs_2 rfl ?_
  refine K_istore 4 dFa_sameAs_3 (Nat.le_of_ble_eq_true rfl) rfl ?_
  exact hF
set_option maxHeartbeats 8000000 in
theorem vFa_sameAs_5 {E : jE} {μ : jMu} {Q : Option AV → jMu → Prop} {b : Nat} (hb : isB b) {l1 l2 l4 : Int} (hF : ((μ 45 7) = ((b : Nat) : Int)) ∧ (((μ b 13) ≤ l4 → (Q (some (jvL l2)) μ)) ∧ (¬ ((μ b 13) ≤ l4) → ((0 ≤ l4 ∧ l4 < 40) ∧ (0 ≤ l1 ∧ l1 < 40)) ∧ ((¬ (μ 46 l4) = (μ 46 l1) → ((-2147483648 ≤ (l4 + 1) ∧ (l4 + 1) < 2147483648)) ∧ (K 121 E mFa_sameAs 5 [some (jvR 45), some (jvI l1), some (jvL l2), none, some (jvI (l4 + 1))] [] μ Q)) ∧ ((μ 46 l4) = (μ 46 l1) → (Cl E mX_bit [jvI l4] μ (fun r9 μ6 => ((-2147483648 ≤ (l4 + 1) ∧ (l4 + 1) < 2147483648)) ∧ (K 121 E mFa_sameAs 5 [some (jvR 45), some (jvI l1), some (jvL (ior64 l2 r9)), none, some (jvI (l4 + 1))] [] μ6 Q)))))))) : K 121 E mFa_sameAs 5 [some (jvR 45), some (jvI l1), some (jvL l2), none, some (jvI l4)] [] μ Q := by
  refine K_iload 4 l4 dFa_sameAs_5 rfl ?_
  refine K_aload_n 0 45 dFa_sameAs_7 rfl rfl ?_
  refine K_getf 3 7 45 (jvR ((b : Nat) : Int)) dFa_sameAs_8 pf_Fa_40 rfl rfl (by decide) rfl (congrArg jvR hF.1) ?_
  refine K_getf 2 13 b (jvI (μ b 13)) dFa_sameAs_11 pf_Fa_57 rfl (isB_c0 hb) (isB_n 0 (by decide) hb) rfl (isB_f0_13 hb) ?_
  refine K_icmp_ge 47 dFa_sameAs_14 (by decide) (fun c1 => ?_) (fun c1 => ?_)
  · refine K_lload_n 2 l2 dFa_sameAs_47 rfl rfl ?_
    exact K_lret dFa_sameAs_48 rfl (hF.2.1 c1)
  · refine K_aload_n 0 45 dFa_sameAs_17 rfl rfl ?_
    refine K_getf 3 0 45 (jvR 46) dFa_sameAs_18 pf_Fa_11 rfl rfl (by decide) rfl rfl ?_
    refine K_iload 4 l4 dFa_sameAs_21 rfl ?_
    refine K_iald 46 40 dFa_sameAs_23 rfl rfl (by decide) (hF.2.2 c1).1.1 ?_
    refine K_aload_n 0 45 dFa_sameAs_24 rfl rfl ?_
    refine K_getf 3 0 45 (jvR 46) dFa_sameAs_25 pf_Fa_11 rfl rfl (by decide) rfl rfl ?_
    refine K_iload_n 1 l1 dFa_sameAs_28 rfl rfl ?_
    refine K_iald 46 40 dFa_sameAs_29 rfl rfl (by decide) (hF.2.2 c1).1.2 ?_
    refine K_icmp_ne 41 dFa_sameAs_30 (by decide) (fun c4 => ?_) (fun c4 => ?_)
    · refine K_iinc 4 dFa_sameAs_41 (Nat.le_of_ble_eq_true rfl) rfl (w32_ok ((hF.2.2 c1).2.1 c4).1) rfl ?_
      refine K_goto 5 dFa_sameAs_44 (by decide) ?_
      exact ((hF.2.2 c1).2.1 c4).2
    · refine K_lload_n 2 l2 dFa_sameAs_33 rfl rfl ?_
      refine K_iload 4 l4 dFa_sameAs_34 rfl ?_
      refine K_callNl mX_bit [jvI l4] dFa_sameAs_36 pm_Fa_72 ⟨(Nat.le_of_ble_eq_true rfl), (Nat.le_of_ble_eq_true rfl)⟩ (Nat.le_of_ble_eq_true rfl) rfl (Nat.le_of_ble_eq_true rfl) (by decide) (Cl_mono ((hF.2.2 c1).2.2 c4) (fun r9 μ6 h7 => ?_))
      refine K_lor dFa_sameAs_39 rfl ?_
      refine K_lstore_n 2 dFa_sameAs_40 rfl (Nat.le_of_ble_eq_true rfl) rfl ?_
      refine K_iinc 4 dFa_sameAs_41 (Nat.le_of_ble_eq_true rfl) rfl (w32_ok h7.1) rfl ?_
      refine K_goto 5 dFa_sameAs_44 (by decide) ?_
      exact h7.2
set_option maxHeartbeats 8000000 in
theorem vX_fewest_0 {E : jE} {μ : jMu} {Q : Option AV → jMu → Prop} {a0 : Int} (hF : (Cv E mWy_search [jvR 69, jvR 45, jvI (μ 0 13)] μ (fun μ1 => ((¬ (μ1 69 5) = 0 → ((¬ a0 = (-1) → (Ci E mX_kthOf [jvL (μ1 69 5), jvI a0] μ1 (fun r11 μ8 => (Q (some (jvI r11)) μ8)))) ∧ (a0 = (-1) → (Ci E mLg_bitCount [jvL (μ1 69 5)] μ1 (fun r16 μ13 => (Q (some (jvI r16)) μ13)))))) ∧ ((μ1 69 5) = 0 → (Q (some (jvI (-1))) μ1)))))) : K 121 E mX_fewest 0 [some (jvR 0), some (jvI a0)] [] μ Q := by
  refine K_aload_n 0 0 dX_fewest_0 rfl rfl ?_
  refine K_getf 0 6 0 (jvR 69) dX_fewest_1 pf_X_66 rfl rfl (by decide) rfl rfl ?_
  refine K_aload_n 0 0 dX_fewest_4 rfl rfl ?_
  refine K_getf 0 2 0 (jvR 45) dX_fewest_5 pf_X_38 rfl rfl (by decide) rfl rfl ?_
  refine K_aload_n 0 0 dX_fewest_8 rfl rfl ?_
  refine K_getf 0 13 0 (jvI (μ 0 13)) dX_fewest_9 pf_X_92 rfl rfl (by decide) rfl rfl ?_
  refine K_callVv mWy_search 11 69 [jvR 45, jvI (μ 0 13)] dX_fewest_12 pm_X_376 ⟨_, rfl, rfl⟩ ⟨(Nat.le_of_ble_eq_true rfl), (Nat.le_of_ble_eq_true rfl)⟩ rfl rfl (by decide) (Nat.le_of_ble_eq_true rfl) rfl (Nat.le_of_ble_eq_true rfl) (by decide) (Cv_mono hF (fun μ1 h2 => ?_))
  refine K_aload_n 0 0 dX_fewest_15 rfl rfl ?_
  refine K_getf 0 6 0 (jvR 69) dX_fewest_16 pf_X_66 rfl rfl (by decide) rfl rfl ?_
  refine K_getf 11 5 69 (jvL (μ1 69 5)) dX_fewest_19 pf_X_380 rfl rfl (by decide) rfl rfl ?_
  refine K_lconst 0 dX_fewest_22 rfl ?_
  refine K_lcmp_ne 29 dX_fewest_23 dX_fewest_24 (by decide) (fun c4 => ?_) (fun c4 => ?_)
  · refine K_iload_n 1 a0 dX_fewest_29 rfl rfl ?_
    refine K_iconst (-1) dX_fewest_30 rfl ?_
    refine K_icmp_ne 47 dX_fewest_31 (by decide) (fun c6 => ?_) (fun c6 => ?_)
    · refine K_aload_n 0 0 dX_fewest_47 rfl rfl ?_
      refine K_getf 0 6 0 (jvR 69) dX_fewest_48 pf_X_66 rfl rfl (by decide) rfl rfl ?_
      refine K_getf 11 5 69 (jvL (μ1 69 5)) dX_fewest_51 pf_X_380 rfl rfl (by decide) rfl rfl ?_
      refine K_iload_n 1 a0 dX_fewest_54 rfl rfl ?_
      refine K_callSi mX_kthOf [jvL (μ1 69 5), jvI a0] dX_fewest_55 pm_X_269 ⟨(Nat.le_of_ble_eq_true rfl), (Nat.le_of_ble_eq_true rfl)⟩ (Nat.le_of_ble_eq_true rfl) rfl (Nat.le_of_ble_eq_true rfl) (by decide) (Ci_mono ((h2.1 c4).1 c6) (fun r11 μ8 h9 => ?_))
      exact K_iret dX_fewest_58 (Or.inl rfl) h9
    · refine K_aload_n 0 0 dX_fewest_34 rfl rfl ?_
      refine K_getf 0 6 0 (jvR 69) dX_fewest_35 pf_X_66 rfl rfl (by decide) rfl rfl ?_
      refine K_getf 11 5 69 (jvL (μ1 69 5)) dX_fewest_38 pf_X_380 rfl rfl (by decide) rfl rfl ?_
      refine K_callSi mLg_bitCount [jvL (μ1 69 5)] dX_fewest_41 pm_X_160 ⟨(Nat.le_of_ble_eq_true rfl), (Nat.le_of_ble_eq_true rfl)⟩ (Nat.le_of_ble_eq_true rfl) rfl (Nat.le_of_ble_eq_true rfl) (by decide) (Ci_mono ((h2.1 c4).2 c6) (fun r16 μ13 h14 => ?_))
      refine K_goto 58 dX_fewest_44 (by decide) ?_
      exact K_iret dX_fewest_58 (Or.inl rfl) h14
  · refine K_iconst (-1) dX_fewest_27 rfl ?_
    exact K_iret dX_fewest_28 (Or.inl rfl) (h2.2 c4)
set_option maxHeartbeats 8000000 in
theorem vWy_search_0 {E : jE} {μ : jMu} {Q : Option AV → jMu → Prop} {b : Nat} (hb : isB b) {a1 : Int} (hF : (((μ 69 4) = 0 → (Ci E mWy_lineUp [jvR 69, jvR 45, jvI a1] (j_up (j_up μ 69 4 1) 69 5 0) (fun r6 μ3 => ((μ3 45 7) = ((b : Nat) : Int)) ∧ (((μ3 b 13) = 0 → (Q none μ3)) ∧ (¬ ((μ3 b 13) = 0) → ((r6 ≤ 4096 → (K 121 E mWy_search 46 [some (jvR 69), some (jvR 45), some (jvI a1), some (jvI r6), some (jvI 0)] [] μ3 Q)) ∧ (¬ (r6 ≤ 4096) → (Q none μ3)))))))) ∧ (¬ ((μ 69 4) = 0) → (Q none μ)))) : K 121 E mWy_search 0 [some (jvR 69), some (jvR 45), some (jvI a1), none, none] [] μ Q := by
  refine K_aload_n 0 69 dWy_search_0 rfl rfl ?_
  refine K_getf 11 4 69 (jvI (μ 69 4)) dWy_search_1 pf_Wy_26 rfl rfl (by decide) rfl rfl ?_
  refine K_if_eq 8 dWy_search_4 (by decide) (fun c1 => ?_) (fun c1 => ?_)
  · refine K_aload_n 0 69 dWy_search_8 rfl rfl ?_
    refine K_iconst 1 dWy_search_9 rfl ?_
    refine K_putf 11 4 69 (x := 1) dWy_search_10 pf_Wy_26 rfl rfl (by decide) rfl rfl rfl rfl (Or.inr rfl) ?_
    refine K_aload_n 0 69 dWy_search_13 rfl rfl ?_
    refine K_lconst 0 dWy_search_14 rfl ?_
    refine K_putf 11 5 69 (x := 0) dWy_search_15 pf_Wy_30 rfl rfl (by decide) rfl rfl rfl rfl trivial ?_
    refine K_aload_n 0 69 dWy_search_18 rfl rfl ?_
    refine K_aload_n 1 45 dWy_search_19 rfl rfl ?_
    refine K_iload_n 2 a1 dWy_search_20 rfl rfl ?_
    refine K_callVi mWy_lineUp 11 69 [jvR 45, jvI a1] dWy_search_21 pm_Wy_34 ⟨_, rfl, rfl⟩ ⟨(Nat.le_of_ble_eq_true rfl), (Nat.le_of_ble_eq_true rfl)⟩ rfl rfl (by decide) (Nat.le_of_ble_eq_true rfl) rfl (Nat.le_of_ble_eq_true rfl) (by decide) (Ci_mono (hF.1 c1) (fun r6 μ3 h4 => ?_))
    refine K_istore_n 3 dWy_search_24 rfl (Nat.le_of_ble_eq_true rfl) rfl ?_
    refine K_aload_n 1 45 dWy_search_25 rfl rfl ?_
    refine K_getf 3 7 45 (jvR ((b : Nat) : Int)) dWy_search_26 pf_Wy_38 rfl rfl (by decide) rfl (congrArg jvR h4.1) ?_
    refine K_getf 2 13 b (jvI (μ3 b 13)) dWy_search_29 pf_Wy_44 rfl (isB_c0 hb) (isB_n 0 (by decide) hb) rfl (isB_f0_13 hb) ?_
    refine K_if_eq 42 dWy_search_32 (by decide) (fun c7 => ?_) (fun c7 => ?_)
    · exact K_vret dWy_search_42 rfl (h4.2.1 c7)
    · refine K_iload_n 3 r6 dWy_search_35 rfl rfl ?_
      refine K_sipush 4096 dWy_search_36 rfl ?_
      refine K_icmp_le 43 dWy_search_39 (by decide) (fun c10 => ?_) (fun c10 => ?_)
      · refine K_iconst 0 dWy_search_43 rfl ?_
        refine K_istore 4 dWy_search_44 (Nat.le_of_ble_eq_true rfl) rfl ?_
        exact ((h4.2.2 c7).1 c10)
      · exact K_vret dWy_search_42 rfl ((h4.2.2 c7).2 c10)
  · exact K_vret dWy_search_7 rfl (hF.2 c1)
set_option maxHeartbeats 8000000 in
theorem vWy_search_46 {E : jE} {μ : jMu} {Q : Option AV → jMu → Prop} {b : Nat} (hb : isB b) {l2 l3 l4 : Int} (hF : ((l3 ≤ l4 → (Q none μ)) ∧ (¬ (l3 ≤ l4) → (Cl E mWy_setOf [jvR 69, jvR 45] μ (fun r7 μ4 => (Cv E mWy_keepIfFewer [jvR 69, jvL r7] μ4 (fun μ8 => ((μ8 45 7) = ((b : Nat) : Int)) ∧ (Cv E mWy_advance [jvR 69, jvI (μ8 b 13)] μ8 (fun μ11 => ((-2147483648 ≤ (l4 + 1) ∧ (l4 + 1) < 2147483648)) ∧ (K 121 E mWy_search 46 [some (jvR 69), some (jvR 45), some (jvI l2), some (jvI l3), some (jvI (l4 + 1))] [] μ11 Q)))))))))) : K 121 E mWy_search 46 [some (jvR 69), some (jvR 45), some (jvI l2), some (jvI l3), some (jvI l4)] [] μ Q := by
  refine K_iload 4 l4 dWy_search_46 rfl ?_
  refine K_iload_n 3 l3 dWy_search_48 rfl rfl ?_
  refine K_icmp_ge 78 dWy_search_49 (by decide) (fun c1 => ?_) (fun c1 => ?_)
  · exact K_vret dWy_search_78 rfl (hF.1 c1)
  · refine K_aload_n 0 69 dWy_search_52 rfl rfl ?_
    refine K_aload_n 0 69 dWy_search_53 rfl rfl ?_
    refine K_aload_n 1 45 dWy_search_54 rfl rfl ?_
    refine K_callVl mWy_setOf 11 69 [jvR 45] dWy_search_55 pm_Wy_48 ⟨_, rfl, rfl⟩ ⟨(Nat.le_of_ble_eq_true rfl), (Nat.le_of_ble_eq_true rfl)⟩ rfl rfl (by decide) (Nat.le_of_ble_eq_true rfl) rfl (Nat.le_of_ble_eq_true rfl) (by decide) (Cl_mono (hF.2 c1) (fun r7 μ4 h5 => ?_))
    refine K_callVv mWy_keepIfFewer 11 69 [jvL r7] dWy_search_58 pm_Wy_52 ⟨_, rfl, rfl⟩ ⟨(Nat.le_of_ble_eq_true rfl), (Nat.le_of_ble_eq_true rfl)⟩ rfl rfl (by decide) (Nat.le_of_ble_eq_true rfl) rfl (Nat.le_of_ble_eq_true rfl) (by decide) (Cv_mono h5 (fun μ8 h9 => ?_))
    refine K_aload_n 0 69 dWy_search_61 rfl rfl ?_
    refine K_aload_n 1 45 dWy_search_62 rfl rfl ?_
    refine K_getf 3 7 45 (jvR ((b : Nat) : Int)) dWy_search_63 pf_Wy_38 rfl rfl (by decide) rfl (congrArg jvR h9.1) ?_
    refine K_getf 2 13 b (jvI (μ8 b 13)) dWy_search_66 pf_Wy_44 rfl (isB_c0 hb) (isB_n 0 (by decide) hb) rfl (isB_f0_13 hb) ?_
    refine K_callVv mWy_advance 11 69 [jvI (μ8 b 13)] dWy_search_69 pm_Wy_56 ⟨_, rfl, rfl⟩ ⟨(Nat.le_of_ble_eq_true rfl), (Nat.le_of_ble_eq_true rfl)⟩ rfl rfl (by decide) (Nat.le_of_ble_eq_true rfl) rfl (Nat.le_of_ble_eq_true rfl) (by decide) (Cv_mono h9.2 (fun μ11 h12 => ?_))
    refine K_iinc 4 dWy_search_72 (Nat.le_of_ble_eq_true rfl) rfl (w32_ok h12.1) rfl ?_
    refine K_goto 46 dWy_search_75 (by decide) ?_
    exact h12.2
set_option maxHeartbeats 8000000 in
theorem vWy_lineUp_0 {E : jE} {μ : jMu} {Q : Option AV → jMu → Prop} {b : Nat} (hb : isB b) {a1 : Int} (hF : ((μ 45 7) = ((b : Nat) : Int)) ∧ (Cv E mAr_fill [jvR 70, jvI (-1)] μ (fun μ1 => (Cv E mAr_fill [jvR 71, jvI 0] μ1 (fun μ4 => ((-2147483648 ≤ ((μ4 b 13) - 1) ∧ ((μ4 b 13) - 1) < 2147483648)) ∧ (K 121 E mWy_lineUp 32 [some (jvR 69), some (jvR 45), some (jvI a1), some (jvR ((b : Nat) : Int)), some (jvI 1), some (jvI ((μ4 b 13) - 1)), none] [] μ4 Q)))))) : K 121 E mWy_lineUp 0 [some (jvR 69), some (jvR 45), some (jvI a1), none, none, none, none] [] μ Q := by
  refine K_aload_n 1 45 dWy_lineUp_0 rfl rfl ?_
  refine K_getf 3 7 45 (jvR ((b : Nat) : Int)) dWy_lineUp_1 pf_Wy_38 rfl rfl (by decide) rfl (congrArg jvR hF.1) ?_
  refine K_astore_n 3 dWy_lineUp_4 rfl (Nat.le_of_ble_eq_true rfl) rfl ?_
  refine K_iconst 1 dWy_lineUp_5 rfl ?_
  refine K_istore 4 dWy_lineUp_6 (Nat.le_of_ble_eq_true rfl) rfl ?_
  refine K_aload_n 0 69 dWy_lineUp_8 rfl rfl ?_
  refine K_getf 11 0 69 (jvR 70) dWy_lineUp_9 pf_Wy_11 rfl rfl (by decide) rfl rfl ?_
  refine K_iconst (-1) dWy_lineUp_12 rfl ?_
  refine K_callSv mAr_fill [jvR 70, jvI (-1)] dWy_lineUp_13 pm_Wy_60 ⟨(Nat.le_of_ble_eq_true rfl), (Nat.le_of_ble_eq_true rfl)⟩ (Nat.le_of_ble_eq_true rfl) rfl (Nat.le_of_ble_eq_true rfl) (by decide) (Cv_mono hF.2 (fun μ1 h2 => ?_))
  refine K_aload_n 0 69 dWy_lineUp_16 rfl rfl ?_
  refine K_getf 11 1 69 (jvR 71) dWy_lineUp_17 pf_Wy_17 rfl rfl (by decide) rfl rfl ?_
  refine K_iconst 0 dWy_lineUp_20 rfl ?_
  refine K_callSv mAr_fill [jvR 71, jvI 0] dWy_lineUp_21 pm_Wy_60 ⟨(Nat.le_of_ble_eq_true rfl), (Nat.le_of_ble_eq_true rfl)⟩ (Nat.le_of_ble_eq_true rfl) rfl (Nat.le_of_ble_eq_true rfl) (by decide) (Cv_mono h2 (fun μ4 h5 => ?_))
  refine K_aload_n 3 ((b : Nat) : Int) dWy_lineUp_24 rfl rfl ?_
  refine K_getf 2 13 b (jvI (μ4 b 13)) dWy_lineUp_25 pf_Wy_44 rfl (isB_c0 hb) (isB_n 0 (by decide) hb) rfl (isB_f0_13 hb) ?_
  refine K_iconst 1 dWy_lineUp_28 rfl ?_
  refine K_isub dWy_lineUp_29 (w32_id h5.1) ?_
  refine K_istore 5 dWy_lineUp_30 (Nat.le_of_ble_eq_true rfl) rfl ?_
  exact h5.2
set_option maxHeartbeats 8000000 in
theorem vWy_lineUp_32 {E : jE} {μ : jMu} {Q : Option AV → jMu → Prop} {b : Nat} (hb : isB b) {l2 l4 l5 : Int} (hF : ((l5 < 0 → (K 121 E mWy_lineUp 103 [some (jvR 69), some (jvR 45), some (jvI l2), some (jvR ((b : Nat) : Int)), some (jvI l4), some (jvI 0), none] [] μ Q)) ∧ (¬ (l5 < 0) → ((0 ≤ l5 ∧ l5 < 40) ∧ (0 ≤ l5 ∧ l5 < 40)) ∧ ((¬ (iand32 (ishr32 l2 (μ (b + 12) l5)) 1) = 0 → ((-2147483648 ≤ (l5 - 1) ∧ (l5 - 1) < 2147483648)) ∧ (K 121 E mWy_lineUp 32 [some (jvR 69), some (jvR 45), some (jvI l2), some (jvR ((b : Nat) : Int)), some (jvI l4), some (jvI (l5 - 1)), none] [] μ Q)) ∧ ((iand32 (ishr32 l2 (μ (b + 12) l5)) 1) = 0 → ((0 ≤ (μ 46 l5) ∧ (μ 46 l5) < 40) ∧ (0 ≤ l5 ∧ l5 < 40) ∧ (0 ≤ (μ 46 l5) ∧ (μ 46 l5) < 40) ∧ (0 ≤ (μ 46 l5) ∧ (μ 46 l5) < 40) ∧ (-2147483648 ≤ ((μ 71 (μ 46 l5)) + 1) ∧ ((μ 71 (μ 46 l5)) + 1) < 2147483648) ∧ (0 ≤ (μ 46 l5) ∧ (μ 46 l5) < 40) ∧ (-2147483648 ≤ (l5 - 1) ∧ (l5 - 1) < 2147483648)) ∧ (K 121 E mWy_lineUp 32 [some (jvR 69), some (jvR 45), some (jvI l2), some (jvR ((b : Nat) : Int)), some (jvI l4), some (jvI (l5 - 1)), none] [] (j_up (j_up (j_up μ 73 l5 (μ 70 (μ 46 l5))) 70 (μ 46 l5) l5) 71 (μ 46 l5) ((μ 71 (μ 46 l5)) + 1)) Q)))))) : K 121 E mWy_lineUp 32 [some (jvR 69), some (jvR 45), some (jvI l2), some (jvR ((b : Nat) : Int)), some (jvI l4), some (jvI l5), none] [] μ Q := by
  refine K_iload 5 l5 dWy_lineUp_32 rfl ?_
  refine K_if_lt 100 dWy_lineUp_34 (by decide) (fun c1 => ?_) (fun c1 => ?_)
  · refine K_iconst 0 dWy_lineUp_100 rfl ?_
    refine K_istore 5 dWy_lineUp_101 (Nat.le_of_ble_eq_true rfl) rfl ?_
    exact (hF.1 c1)
  · refine K_aload_n 1 45 dWy_lineUp_37 rfl rfl ?_
    refine K_getf 3 0 45 (jvR 46) dWy_lineUp_38 pf_Wy_66 rfl rfl (by decide) rfl rfl ?_
    refine K_iload 5 l5 dWy_lineUp_41 rfl ?_
    refine K_iald 46 40 dWy_lineUp_43 rfl rfl (by decide) (hF.2 c1).1.1 ?_
    refine K_istore 6 dWy_lineUp_44 (Nat.le_of_ble_eq_true rfl) rfl ?_
    refine K_iload_n 2 l2 dWy_lineUp_46 rfl rfl ?_
    refine K_aload_n 3 ((b : Nat) : Int) dWy_lineUp_47 rfl rfl ?_
    refine K_getf 2 5 b (jvR ((b + 12 : Nat) : Int)) dWy_lineUp_48 pf_Wy_69 rfl (isB_c0 hb) (isB_n 0 (by decide) hb) rfl (isB_f0_5 hb) ?_
    refine K_iload 5 l5 dWy_lineUp_51 rfl ?_
    refine K_iald (b + 12) 40 dWy_lineUp_53 rfl (isB_c12 hb) (isB_n 12 (by decide) hb) (hF.2 c1).1.2 ?_
    refine K_ishr dWy_lineUp_54 rfl ?_
    refine K_iconst 1 dWy_lineUp_55 rfl ?_
    refine K_iand dWy_lineUp_56 rfl ?_
    refine K_if_ne 94 dWy_lineUp_57 (by decide) (fun c3 => ?_) (fun c3 => ?_)
    · refine K_iinc 5 dWy_lineUp_94 (Nat.le_of_ble_eq_true rfl) rfl (w32_okn ((hF.2 c1).2.1 c3).1) rfl ?_
      refine K_goto 32 dWy_lineUp_97 (by decide) ?_
      exact K_forget [true, true, true, true, true, true, false] ((hF.2 c1).2.1 c3).2
    · refine K_aload_n 0 69 dWy_lineUp_60 rfl rfl ?_
      refine K_getf 11 3 69 (jvR 73) dWy_lineUp_61 pf_Wy_23 rfl rfl (by decide) rfl rfl ?_
      refine K_iload 5 l5 dWy_lineUp_64 rfl ?_
      refine K_aload_n 0 69 dWy_lineUp_66 rfl rfl ?_
      refine K_getf 11 0 69 (jvR 70) dWy_lineUp_67 pf_Wy_11 rfl rfl (by decide) rfl rfl ?_
      refine K_iload 6 (μ 46 l5) dWy_lineUp_70 rfl ?_
      refine K_iald 70 40 dWy_lineUp_72 rfl rfl (by decide) ((hF.2 c1).2.2 c3).1.1 ?_
      refine K_iast 73 40 dWy_lineUp_73 rfl rfl (by decide) ((hF.2 c1).2.2 c3).1.2.1 ?_
      refine K_aload_n 0 69 dWy_lineUp_74 rfl rfl ?_
      refine K_getf 11 0 69 (jvR 70) dWy_lineUp_75 pf_Wy_11 rfl rfl (by decide) rfl rfl ?_
      refine K_iload 6 (μ 46 l5) dWy_lineUp_78 rfl ?_
      refine K_iload 5 l5 dWy_lineUp_80 rfl ?_
      refine K_iast 70 40 dWy_lineUp_82 rfl rfl (by decide) ((hF.2 c1).2.2 c3).1.2.2.1 ?_
      refine K_aload_n 0 69 dWy_lineUp_83 rfl rfl ?_
      refine K_getf 11 1 69 (jvR 71) dWy_lineUp_84 pf_Wy_17 rfl rfl (by decide) rfl rfl ?_
      refine K_iload 6 (μ 46 l5) dWy_lineUp_87 rfl ?_
      refine K_dup2 dWy_lineUp_89 (fun _ h => by cases h) (fun _ h => by cases h) ?_
      refine K_iald 71 40 dWy_lineUp_90 rfl rfl (by decide) ((hF.2 c1).2.2 c3).1.2.2.2.1 ?_
      refine K_iconst 1 dWy_lineUp_91 rfl ?_
      refine K_iadd dWy_lineUp_92 (w32_id ((hF.2 c1).2.2 c3).1.2.2.2.2.1) ?_
      refine K_iast 71 40 dWy_lineUp_93 rfl rfl (by decide) ((hF.2 c1).2.2 c3).1.2.2.2.2.2.1 ?_
      refine K_iinc 5 dWy_lineUp_94 (Nat.le_of_ble_eq_true rfl) rfl (w32_okn ((hF.2 c1).2.2 c3).1.2.2.2.2.2.2) rfl ?_
      refine K_goto 32 dWy_lineUp_97 (by decide) ?_
      exact K_forget [true, true, true, true, true, true, false] ((hF.2 c1).2.2 c3).2
set_option maxHeartbeats 8000000 in
theorem vWy_lineUp_103 {E : jE} {μ : jMu} {Q : Option AV → jMu → Prop} {b : Nat} (hb : isB b) {l2 l4 l5 : Int} (hF : (((μ b 13) ≤ l5 → (Q (some (jvI l4)) μ)) ∧ (¬ ((μ b 13) ≤ l5) → ((0 ≤ l5 ∧ l5 < 40) ∧ (0 ≤ l5 ∧ l5 < 40) ∧ (0 ≤ l5 ∧ l5 < 40) ∧ (-2147483648 ≤ (l4 * (if 1 < (μ 71 l5) then (μ 71 l5) else 1)) ∧ (l4 * (if 1 < (μ 71 l5) then (μ 71 l5) else 1)) < 2147483648) ∧ (-2147483648 ≤ (l5 + 1) ∧ (l5 + 1) < 2147483648)) ∧ (K 121 E mWy_lineUp 103 [some (jvR 69), some (jvR 45), some (jvI l2), some (jvR ((b : Nat) : Int)), some (jvI (l4 * (if 1 < (μ 71 l5) then (μ 71 l5) else 1))), some (jvI (l5 + 1)), none] [] (j_up μ 72 l5 (μ 70 l5)) Q)))) : K 121 E mWy_lineUp 103 [some (jvR 69), some (jvR 45), some (jvI l2), some (jvR ((b : Nat) : Int)), some (jvI l4), some (jvI l5), none] [] μ Q := by
  refine K_iload 5 l5 dWy_lineUp_103 rfl ?_
  refine K_aload_n 3 ((b : Nat) : Int) dWy_lineUp_105 rfl rfl ?_
  refine K_getf 2 13 b (jvI (μ b 13)) dWy_lineUp_106 pf_Wy_44 rfl (isB_c0 hb) (isB_n 0 (by decide) hb) rfl (isB_f0_13 hb) ?_
  refine K_icmp_ge 148 dWy_lineUp_109 (by decide) (fun c1 => ?_) (fun c1 => ?_)
  · refine K_iload 4 l4 dWy_lineUp_148 rfl ?_
    exact K_iret dWy_lineUp_150 (Or.inl rfl) (hF.1 c1)
  · refine K_aload_n 0 69 dWy_lineUp_112 rfl rfl ?_
    refine K_getf 11 2 69 (jvR 72) dWy_lineUp_113 pf_Wy_20 rfl rfl (by decide) rfl rfl ?_
    refine K_iload 5 l5 dWy_lineUp_116 rfl ?_
    refine K_aload_n 0 69 dWy_lineUp_118 rfl rfl ?_
    refine K_getf 11 0 69 (jvR 70) dWy_lineUp_119 pf_Wy_11 rfl rfl (by decide) rfl rfl ?_
    refine K_iload 5 l5 dWy_lineUp_122 rfl ?_
    refine K_iald 70 40 dWy_lineUp_124 rfl rfl (by decide) (hF.2 c1).1.1 ?_
    refine K_iast 72 40 dWy_lineUp_125 rfl rfl (by decide) (hF.2 c1).1.2.1 ?_
    refine K_iload 4 l4 dWy_lineUp_126 rfl ?_
    refine K_iconst 1 dWy_lineUp_128 rfl ?_
    refine K_aload_n 0 69 dWy_lineUp_129 rfl rfl ?_
    refine K_getf 11 1 69 (jvR 71) dWy_lineUp_130 pf_Wy_17 rfl rfl (by decide) rfl rfl ?_
    refine K_iload 5 l5 dWy_lineUp_133 rfl ?_
    refine K_iald 71 40 dWy_lineUp_135 rfl rfl (by decide) (hF.2 c1).1.2.2.1 ?_
    refine K_mmax dWy_lineUp_136 pm_Wy_72 (Nat.le_of_ble_eq_true rfl) (Nat.le_of_ble_eq_true rfl) ?_
    refine K_imul dWy_lineUp_139 (w32_id (hF.2 c1).1.2.2.2.1) ?_
    refine K_istore 4 dWy_lineUp_140 (Nat.le_of_ble_eq_true rfl) rfl ?_
    refine K_iinc 5 dWy_lineUp_142 (Nat.le_of_ble_eq_true rfl) rfl (w32_ok (hF.2 c1).1.2.2.2.2) rfl ?_
    refine K_goto 103 dWy_lineUp_145 (by decide) ?_
    exact (hF.2 c1).2
set_option maxHeartbeats 8000000 in
theorem vWy_setOf_0 {E : jE} {μ : jMu} {Q : Option AV → jMu → Prop} {b : Nat} (hb : isB b) (hF : ((μ 45 7) = ((b : Nat) : Int) ∧ (0 ≤ (μ b 15) ∧ (μ b 15) < 40) ∧ (0 ≤ (μ 46 (μ b 15)) ∧ (μ 46 (μ b 15)) < 40)) ∧ ((¬ (μ 72 (μ 46 (μ b 15))) = (-1) → (Cl E mX_bit [jvI (μ 72 (μ 46 (μ b 15)))] μ (fun r6 μ3 => (K 121 E mWy_setOf 36 [some (jvR 69), some (jvR 45), some (jvR ((b : Nat) : Int)), some (jvI (μ 72 (μ 46 (μ b 15)))), some (jvL r6), none, some (jvI (μ 72 (μ 46 (μ b 15)))), none, none] [] μ3 Q)))) ∧ ((μ 72 (μ 46 (μ b 15))) = (-1) → (Q (some (jvL 0)) μ)))) : K 121 E mWy_setOf 0 [some (jvR 69), some (jvR 45), none, none, none, none, none, none, none] [] μ Q := by
  refine K_aload_n 1 45 dWy_setOf_0 rfl rfl ?_
  refine K_getf 3 7 45 (jvR ((b : Nat) : Int)) dWy_setOf_1 pf_Wy_38 rfl rfl (by decide) rfl (congrArg jvR hF.1.1) ?_
  refine K_astore_n 2 dWy_setOf_4 rfl (Nat.le_of_ble_eq_true rfl) rfl ?_
  refine K_aload_n 0 69 dWy_setOf_5 rfl rfl ?_
  refine K_getf 11 2 69 (jvR 72) dWy_setOf_6 pf_Wy_20 rfl rfl (by decide) rfl rfl ?_
  refine K_aload_n 1 45 dWy_setOf_9 rfl rfl ?_
  refine K_getf 3 0 45 (jvR 46) dWy_setOf_10 pf_Wy_66 rfl rfl (by decide) rfl rfl ?_
  refine K_aload_n 2 ((b : Nat) : Int) dWy_setOf_13 rfl rfl ?_
  refine K_getf 2 15 b (jvI (μ b 15)) dWy_setOf_14 pf_Wy_78 rfl (isB_c0 hb) (isB_n 0 (by decide) hb) rfl (isB_f0_15 hb) ?_
  refine K_iald 46 40 dWy_setOf_17 rfl rfl (by decide) hF.1.2.1 ?_
  refine K_iald 72 40 dWy_setOf_18 rfl rfl (by decide) hF.1.2.2 ?_
  refine K_istore_n 3 dWy_setOf_19 rfl (Nat.le_of_ble_eq_true rfl) rfl ?_
  refine K_iload_n 3 (μ 72 (μ 46 (μ b 15))) dWy_setOf_20 rfl rfl ?_
  refine K_iconst (-1) dWy_setOf_21 rfl ?_
  refine K_icmp_ne 27 dWy_setOf_22 (by decide) (fun c1 => ?_) (fun c1 => ?_)
  · refine K_iload_n 3 (μ 72 (μ 46 (μ b 15))) dWy_setOf_27 rfl rfl ?_
    refine K_callNl mX_bit [jvI (μ 72 (μ 46 (μ b 15)))] dWy_setOf_28 pm_Wy_81 ⟨(Nat.le_of_ble_eq_true rfl), (Nat.le_of_ble_eq_true rfl)⟩ (Nat.le_of_ble_eq_true rfl) rfl (Nat.le_of_ble_eq_true rfl) (by decide) (Cl_mono (hF.2.1 c1) (fun r6 μ3 h4 => ?_))
    refine K_lstore 4 dWy_setOf_31 (Nat.le_of_ble_eq_true rfl) rfl ?_
    refine K_iload_n 3 (μ 72 (μ 46 (μ b 15))) dWy_setOf_33 rfl rfl ?_
    refine K_istore 6 dWy_setOf_34 (Nat.le_of_ble_eq_true rfl) rfl ?_
    exact h4
  · refine K_lconst 0 dWy_setOf_25 rfl ?_
    exact K_lret dWy_setOf_26 rfl (hF.2.2 c1)
set_option maxHeartbeats 8000000 in
theorem vWy_setOf_36 {E : jE} {μ : jMu} {Q : Option AV → jMu → Prop} {b : Nat} (hb : isB b) {l3 l4 l6 : Int} (hF : ((l6 < 0 → (Q (some (jvL l4)) μ)) ∧ (¬ (l6 < 0) → (K 121 E mWy_setOf 44 [some (jvR 69), some (jvR 45), some (jvR ((b : Nat) : Int)), some (jvI l3), some (jvL l4), none, some (jvI l6), some (jvI 0), none] [] μ Q)))) : K 121 E mWy_setOf 36 [some (jvR 69), some (jvR 45), some (jvR ((b : Nat) : Int)), some (jvI l3), some (jvL l4), none, some (jvI l6), none, none] [] μ Q := by
  refine K_iload 6 l6 dWy_setOf_36 rfl ?_
  refine K_if_lt 122 dWy_setOf_38 (by decide) (fun c1 => ?_) (fun c1 => ?_)
  · refine K_lload 4 l4 dWy_setOf_122 rfl ?_
    exact K_lret dWy_setOf_124 rfl (hF.1 c1)
  · refine K_iconst 0 dWy_setOf_41 rfl ?_
    refine K_istore 7 dWy_setOf_42 (Nat.le_of_ble_eq_true rfl) rfl ?_
    exact (hF.2 c1)
set_option maxHeartbeats 8000000 in
theorem vWy_setOf_44 {E : jE} {μ : jMu} {Q : Option AV → jMu → Prop} {b : Nat} (hb : isB b) {l3 l4 l6 l7 : Int} (hF : (Ci E mX_isIn [jvI l6, jvL l4] μ (fun r4 μ1 => ((r4 = 0 → ((-2147483648 ≤ (l6 - 1) ∧ (l6 - 1) < 2147483648)) ∧ (K 121 E mWy_setOf 36 [some (jvR 69), some (jvR 45), some (jvR ((b : Nat) : Int)), some (jvI l3), some (jvL l4), none, some (jvI (l6 - 1)), none, none] [] μ1 Q)) ∧ (¬ (r4 = 0) → (Ci E mBk_nameCount [jvR ((b : Nat) : Int), jvI l6] μ1 (fun r10 μ7 => ((r10 ≤ l7 → ((-2147483648 ≤ (l6 - 1) ∧ (l6 - 1) < 2147483648)) ∧ (K 121 E mWy_setOf 36 [some (jvR 69), some (jvR 45), some (jvR ((b : Nat) : Int)), some (jvI l3), some (jvL l4), none, some (jvI (l6 - 1)), none, none] [] μ7 Q)) ∧ (¬ (r10 ≤ l7) → (Ci E mBk_named [jvR ((b : Nat) : Int), jvI l6, jvI l7] μ7 (fun r16 μ13 => ((0 ≤ r16 ∧ r16 < 40) ∧ (0 ≤ (μ13 46 r16) ∧ (μ13 46 r16) < 40)) ∧ (((μ13 72 (μ13 46 r16)) = (-1) → (Q (some (jvL 0)) μ13)) ∧ (¬ ((μ13 72 (μ13 46 r16)) = (-1)) → (((μ13 72 (μ13 46 r16)) < l6 → (Cl E mX_bit [jvI (μ13 72 (μ13 46 r16))] μ13 (fun r25 μ22 => ((-2147483648 ≤ (l7 + 1) ∧ (l7 + 1) < 2147483648)) ∧ (K 121 E mWy_setOf 44 [some (jvR 69), some (jvR 45), some (jvR ((b : Nat) : Int)), some (jvI l3), some (jvL (ior64 l4 r25)), none, some (jvI l6), some (jvI (l7 + 1)), none] [] μ22 Q)))) ∧ (¬ ((μ13 72 (μ13 46 r16)) < l6) → (Q (some (jvL 0)) μ13)))))))))))))))) : K 121 E mWy_setOf 44 [some (jvR 69), some (jvR 45), some (jvR ((b : Nat) : Int)), some (jvI l3), some (jvL l4), none, some (jvI l6), some (jvI l7), none] [] μ Q := by
  refine K_iload 6 l6 dWy_setOf_44 rfl ?_
  refine K_lload 4 l4 dWy_setOf_46 rfl ?_
  refine K_callNi mX_isIn [jvI l6, jvL l4] dWy_setOf_48 pm_Wy_85 ⟨(Nat.le_of_ble_eq_true rfl), (Nat.le_of_ble_eq_true rfl)⟩ (Nat.le_of_ble_eq_true rfl) rfl (Nat.le_of_ble_eq_true rfl) (by decide) (Ci_mono hF (fun r4 μ1 h2 => ?_))
  refine K_if_eq 116 dWy_setOf_51 (by decide) (fun c5 => ?_) (fun c5 => ?_)
  · refine K_iinc 6 dWy_setOf_116 (Nat.le_of_ble_eq_true rfl) rfl (w32_okn (h2.1 c5).1) rfl ?_
    refine K_goto 36 dWy_setOf_119 (by decide) ?_
    exact K_forget [true, true, true, true, true, true, true, false, true] (h2.1 c5).2
  · refine K_iload 7 l7 dWy_setOf_54 rfl ?_
    refine K_aload_n 2 ((b : Nat) : Int) dWy_setOf_56 rfl rfl ?_
    refine K_iload 6 l6 dWy_setOf_57 rfl ?_
    refine K_callVi mBk_nameCount 2 b [jvI l6] dWy_setOf_59 pm_Wy_89 ⟨_, rfl, rfl⟩ ⟨(Nat.le_of_ble_eq_true rfl), (Nat.le_of_ble_eq_true rfl)⟩ rfl (isB_c0 hb) (isB_n 0 (by decide) hb) (Nat.le_of_ble_eq_true rfl) rfl (Nat.le_of_ble_eq_true rfl) (by decide) (Ci_mono (h2.2 c5) (fun r10 μ7 h8 => ?_))
    refine K_icmp_ge 116 dWy_setOf_62 (by decide) (fun c11 => ?_) (fun c11 => ?_)
    · refine K_iinc 6 dWy_setOf_116 (Nat.le_of_ble_eq_true rfl) rfl (w32_okn (h8.1 c11).1) rfl ?_
      refine K_goto 36 dWy_setOf_119 (by decide) ?_
      exact K_forget [true, true, true, true, true, true, true, false, true] (h8.1 c11).2
    · refine K_aload_n 0 69 dWy_setOf_65 rfl rfl ?_
      refine K_getf 11 2 69 (jvR 72) dWy_setOf_66 pf_Wy_20 rfl rfl (by decide) rfl rfl ?_
      refine K_aload_n 1 45 dWy_setOf_69 rfl rfl ?_
      refine K_getf 3 0 45 (jvR 46) dWy_setOf_70 pf_Wy_66 rfl rfl (by decide) rfl rfl ?_
      refine K_aload_n 2 ((b : Nat) : Int) dWy_setOf_73 rfl rfl ?_
      refine K_iload 6 l6 dWy_setOf_74 rfl ?_
      refine K_iload 7 l7 dWy_setOf_76 rfl ?_
      refine K_callVi mBk_named 2 b [jvI l6, jvI l7] dWy_setOf_78 pm_Wy_93 ⟨_, rfl, rfl⟩ ⟨(Nat.le_of_ble_eq_true rfl), (Nat.le_of_ble_eq_true rfl)⟩ rfl (isB_c0 hb) (isB_n 0 (by decide) hb) (Nat.le_of_ble_eq_true rfl) rfl (Nat.le_of_ble_eq_true rfl) (by decide) (Ci_mono (h8.2 c11) (fun r16 μ13 h14 => ?_))
      refine K_iald 46 40 dWy_setOf_81 rfl rfl (by decide) h14.1.1 ?_
      refine K_iald 72 40 dWy_setOf_82 rfl rfl (by decide) h14.1.2 ?_
      refine K_istore 8 dWy_setOf_83 (Nat.le_of_ble_eq_true rfl) rfl ?_
      refine K_iload 8 (μ13 72 (μ13 46 r16)) dWy_setOf_85 rfl ?_
      refine K_iconst (-1) dWy_setOf_87 rfl ?_
      refine K_icmp_eq 98 dWy_setOf_88 (by decide) (fun c17 => ?_) (fun c17 => ?_)
      · refine K_lconst 0 dWy_setOf_98 rfl ?_
        exact K_lret dWy_setOf_99 rfl (h14.2.1 c17)
      · refine K_iload 8 (μ13 72 (μ13 46 r16)) dWy_setOf_91 rfl ?_
        refine K_iload 6 l6 dWy_setOf_93 rfl ?_
        refine K_icmp_lt 100 dWy_setOf_95 (by decide) (fun c20 => ?_) (fun c20 => ?_)
        · refine K_lload 4 l4 dWy_setOf_100 rfl ?_
          refine K_iload 8 (μ13 72 (μ13 46 r16)) dWy_setOf_102 rfl ?_
          refine K_callNl mX_bit [jvI (μ13 72 (μ13 46 r16))] dWy_setOf_104 pm_Wy_81 ⟨(Nat.le_of_ble_eq_true rfl), (Nat.le_of_ble_eq_true rfl)⟩ (Nat.le_of_ble_eq_true rfl) rfl (Nat.le_of_ble_eq_true rfl) (by decide) (Cl_mono ((h14.2.2 c17).1 c20) (fun r25 μ22 h23 => ?_))
          refine K_lor dWy_setOf_107 rfl ?_
          refine K_lstore 4 dWy_setOf_108 (Nat.le_of_ble_eq_true rfl) rfl ?_
          refine K_iinc 7 dWy_setOf_110 (Nat.le_of_ble_eq_true rfl) rfl (w32_ok h23.1) rfl ?_
          refine K_goto 44 dWy_setOf_113 (by decide) ?_
          exact K_forget [true, true, true, true, true, true, true, true, false] h23.2
        · refine K_lconst 0 dWy_setOf_98 rfl ?_
          exact K_lret dWy_setOf_99 rfl ((h14.2.2 c17).2 c20)
set_option maxHeartbeats 8000000 in
theorem vWy_keepIfFewer_0 {E : jE} {μ : jMu} {Q : Option AV → jMu → Prop} {a0 : Int} (hF : (Ci E mLg_bitCount [jvL a0] μ (fun r4 μ1 => (Ci E mLg_bitCount [jvL (μ1 69 5)] μ1 (fun r8 μ5 => ((-2147483648 ≤ (r4 - r8) ∧ (r4 - r8) < 2147483648)) ∧ ((a0 = 0 → (Q none μ5)) ∧ (¬ (a0 = 0) → (((μ5 69 5) = 0 → (Q none (j_up μ5 69 5 a0))) ∧ (¬ ((μ5 69 5) = 0) → (((r4 - r8) < 0 → (Q none (j_up μ5 69 5 a0))) ∧ (¬ ((r4 - r8) < 0) → ((¬ (r4 - r8) = 0 → (Q none μ5)) ∧ ((r4 - r8) = 0 → (((μ5 69 5) ≤ a0 → (Q none μ5)) ∧ (¬ ((μ5 69 5) ≤ a0) → (Q none (j_up μ5 69 5 a0))))))))))))))))) : K 121 E mWy_keepIfFewer 0 [some (jvR 69), some (jvL a0), none, none] [] μ Q := by
  refine K_lload_n 1 a0 dWy_keepIfFewer_0 rfl rfl ?_
  refine K_callSi mLg_bitCount [jvL a0] dWy_keepIfFewer_1 pm_Wy_96 ⟨(Nat.le_of_ble_eq_true rfl), (Nat.le_of_ble_eq_true rfl)⟩ (Nat.le_of_ble_eq_true rfl) rfl (Nat.le_of_ble_eq_true rfl) (by decide) (Ci_mono hF (fun r4 μ1 h2 => ?_))
  refine K_aload_n 0 69 dWy_keepIfFewer_4 rfl rfl ?_
  refine K_getf 11 5 69 (jvL (μ1 69 5)) dWy_keepIfFewer_5 pf_Wy_30 rfl rfl (by decide) rfl rfl ?_
  refine K_callSi mLg_bitCount [jvL (μ1 69 5)] dWy_keepIfFewer_8 pm_Wy_96 ⟨(Nat.le_of_ble_eq_true rfl), (Nat.le_of_ble_eq_true rfl)⟩ (Nat.le_of_ble_eq_true rfl) rfl (Nat.le_of_ble_eq_true rfl) (by decide) (Ci_mono h2 (fun r8 μ5 h6 => ?_))
  refine K_isub dWy_keepIfFewer_11 (w32_id h6.1) ?_
  refine K_istore_n 3 dWy_keepIfFewer_12 rfl (Nat.le_of_ble_eq_true rfl) rfl ?_
  refine K_lload_n 1 a0 dWy_keepIfFewer_13 rfl rfl ?_
  refine K_lconst 0 dWy_keepIfFewer_14 rfl ?_
  refine K_lcmp_eq 50 dWy_keepIfFewer_15 dWy_keepIfFewer_16 (by decide) (fun c9 => ?_) (fun c9 => ?_)
  · exact K_vret dWy_keepIfFewer_50 rfl (h6.2.1 c9)
  · refine K_aload_n 0 69 dWy_keepIfFewer_19 rfl rfl ?_
    refine K_getf 11 5 69 (jvL (μ5 69 5)) dWy_keepIfFewer_20 pf_Wy_30 rfl rfl (by decide) rfl rfl ?_
    refine K_lconst 0 dWy_keepIfFewer_23 rfl ?_
    refine K_lcmp_eq 45 dWy_keepIfFewer_24 dWy_keepIfFewer_25 (by decide) (fun c12 => ?_) (fun c12 => ?_)
    · refine K_aload_n 0 69 dWy_keepIfFewer_45 rfl rfl ?_
      refine K_lload_n 1 a0 dWy_keepIfFewer_46 rfl rfl ?_
      refine K_putf 11 5 69 (x := a0) dWy_keepIfFewer_47 pf_Wy_30 rfl rfl (by decide) rfl rfl rfl rfl trivial ?_
      exact K_vret dWy_keepIfFewer_50 rfl ((h6.2.2 c9).1 c12)
    · refine K_iload_n 3 (r4 - r8) dWy_keepIfFewer_28 rfl rfl ?_
      refine K_if_lt 45 dWy_keepIfFewer_29 (by decide) (fun c15 => ?_) (fun c15 => ?_)
      · refine K_aload_n 0 69 dWy_keepIfFewer_45 rfl rfl ?_
        refine K_lload_n 1 a0 dWy_keepIfFewer_46 rfl rfl ?_
        refine K_putf 11 5 69 (x := a0) dWy_keepIfFewer_47 pf_Wy_30 rfl rfl (by decide) rfl rfl rfl rfl trivial ?_
        exact K_vret dWy_keepIfFewer_50 rfl (((h6.2.2 c9).2 c12).1 c15)
      · refine K_iload_n 3 (r4 - r8) dWy_keepIfFewer_32 rfl rfl ?_
        refine K_if_ne 50 dWy_keepIfFewer_33 (by decide) (fun c18 => ?_) (fun c18 => ?_)
        · exact K_vret dWy_keepIfFewer_50 rfl ((((h6.2.2 c9).2 c12).2 c15).1 c18)
        · refine K_lload_n 1 a0 dWy_keepIfFewer_36 rfl rfl ?_
          refine K_aload_n 0 69 dWy_keepIfFewer_37 rfl rfl ?_
          refine K_getf 11 5 69 (jvL (μ5 69 5)) dWy_keepIfFewer_38 pf_Wy_30 rfl rfl (by decide) rfl rfl ?_
          refine K_lcmp_ge 50 dWy_keepIfFewer_41 dWy_keepIfFewer_42 (by decide) (fun c21 => ?_) (fun c21 => ?_)
          · exact K_vret dWy_keepIfFewer_50 rfl (((((h6.2.2 c9).2 c12).2 c15).2 c18).1 c21)
          · refine K_aload_n 0 69 dWy_keepIfFewer_45 rfl rfl ?_
            refine K_lload_n 1 a0 dWy_keepIfFewer_46 rfl rfl ?_
            refine K_putf 11 5 69 (x := a0) dWy_keepIfFewer_47 pf_Wy_30 rfl rfl (by decide) rfl rfl rfl rfl trivial ?_
            exact K_vret dWy_keepIfFewer_50 rfl (((((h6.2.2 c9).2 c12).2 c15).2 c18).2 c21)
set_option maxHeartbeats 8000000 in
theorem vWy_advance_0 {E : jE} {μ : jMu} {Q : Option AV → jMu → Prop} {a0 : Int} (hF : (K 121 E mWy_advance 2 [some (jvR 69), some (jvI a0), some (jvI 0)] [] μ Q)) : K 121 E mWy_advance 0 [some (jvR 69), some (jvI a0), none] [] μ Q := by
  refine K_iconst 0 dWy_advance_0 rfl ?_
  refine K_istore_n 2 dWy_advance_1 rfl (Nat.le_of_ble_eq_true rfl) rfl ?_
  exact hF
set_option maxHeartbeats 8000000 in
theorem vWy_advance_2 {E : jE} {μ : jMu} {Q : Option AV → jMu → Prop} {l1 l2 : Int} (hF : ((l1 ≤ l2 → (Q none μ)) ∧ (¬ (l1 ≤ l2) → ((0 ≤ l2 ∧ l2 < 40)) ∧ (((μ 72 l2) = (-1) → ((-2147483648 ≤ (l2 + 1) ∧ (l2 + 1) < 2147483648)) ∧ (K 121 E mWy_advance 2 [some (jvR 69), some (jvI l1), some (jvI (l2 + 1))] [] μ Q)) ∧ (¬ ((μ 72 l2) = (-1)) → ((0 ≤ l2 ∧ l2 < 40) ∧ (0 ≤ (μ 72 l2) ∧ (μ 72 l2) < 40) ∧ (0 ≤ l2 ∧ l2 < 40) ∧ (0 ≤ l2 ∧ l2 < 40)) ∧ ((((j_up μ 72 l2 (μ 73 (μ 72 l2))) 72 l2) = (-1) → ((0 ≤ l2 ∧ l2 < 40) ∧ (0 ≤ l2 ∧ l2 < 40) ∧ (-2147483648 ≤ (l2 + 1) ∧ (l2 + 1) < 2147483648)) ∧ (K 121 E mWy_advance 2 [some (jvR 69), some (jvI l1), some (jvI (l2 + 1))] [] (j_up (j_up μ 72 l2 (μ 73 (μ 72 l2))) 72 l2 (μ 70 l2)) Q)) ∧ (¬ (((j_up μ 72 l2 (μ 73 (μ 72 l2))) 72 l2) = (-1)) → (Q none (j_up μ 72 l2 (μ 73 (μ 72 l2))))))))))) : K 121 E mWy_advance 2 [some (jvR 69), some (jvI l1), some (jvI l2)] [] μ Q := by
  refine K_iload_n 2 l2 dWy_advance_2 rfl rfl ?_
  refine K_iload_n 1 l1 dWy_advance_3 rfl rfl ?_
  refine K_icmp_ge 63 dWy_advance_4 (by decide) (fun c1 => ?_) (fun c1 => ?_)
  · exact K_vret dWy_advance_63 rfl (hF.1 c1)
  · refine K_aload_n 0 69 dWy_advance_7 rfl rfl ?_
    refine K_getf 11 2 69 (jvR 72) dWy_advance_8 pf_Wy_20 rfl rfl (by decide) rfl rfl ?_
    refine K_iload_n 2 l2 dWy_advance_11 rfl rfl ?_
    refine K_iald 72 40 dWy_advance_12 rfl rfl (by decide) (hF.2 c1).1 ?_
    refine K_iconst (-1) dWy_advance_13 rfl ?_
    refine K_icmp_eq 57 dWy_advance_14 (by decide) (fun c4 => ?_) (fun c4 => ?_)
    · refine K_iinc 2 dWy_advance_57 (Nat.le_of_ble_eq_true rfl) rfl (w32_ok ((hF.2 c1).2.1 c4).1) rfl ?_
      refine K_goto 2 dWy_advance_60 (by decide) ?_
      exact ((hF.2 c1).2.1 c4).2
    · refine K_aload_n 0 69 dWy_advance_17 rfl rfl ?_
      refine K_getf 11 2 69 (jvR 72) dWy_advance_18 pf_Wy_20 rfl rfl (by decide) rfl rfl ?_
      refine K_iload_n 2 l2 dWy_advance_21 rfl rfl ?_
      refine K_aload_n 0 69 dWy_advance_22 rfl rfl ?_
      refine K_getf 11 3 69 (jvR 73) dWy_advance_23 pf_Wy_23 rfl rfl (by decide) rfl rfl ?_
      refine K_aload_n 0 69 dWy_advance_26 rfl rfl ?_
      refine K_getf 11 2 69 (jvR 72) dWy_advance_27 pf_Wy_20 rfl rfl (by decide) rfl rfl ?_
      refine K_iload_n 2 l2 dWy_advance_30 rfl rfl ?_
      refine K_iald 72 40 dWy_advance_31 rfl rfl (by decide) ((hF.2 c1).2.2 c4).1.1 ?_
      refine K_iald 73 40 dWy_advance_32 rfl rfl (by decide) ((hF.2 c1).2.2 c4).1.2.1 ?_
      refine K_iast 72 40 dWy_advance_33 rfl rfl (by decide) ((hF.2 c1).2.2 c4).1.2.2.1 ?_
      refine K_aload_n 0 69 dWy_advance_34 rfl rfl ?_
      refine K_getf 11 2 69 (jvR 72) dWy_advance_35 pf_Wy_20 rfl rfl (by decide) rfl rfl ?_
      refine K_iload_n 2 l2 dWy_advance_38 rfl rfl ?_
      refine K_iald 72 40 dWy_advance_39 rfl rfl (by decide) ((hF.2 c1).2.2 c4).1.2.2.2 ?_
      refine K_iconst (-1) dWy_advance_40 rfl ?_
      refine K_icmp_eq 45 dWy_advance_41 (by decide) (fun c6 => ?_) (fun c6 => ?_)
      · refine K_aload_n 0 69 dWy_advance_45 rfl rfl ?_
        refine K_getf 11 2 69 (jvR 72) dWy_advance_46 pf_Wy_20 rfl rfl (by decide) rfl rfl ?_
        refine K_iload_n 2 l2 dWy_advance_49 rfl rfl ?_
        refine K_aload_n 0 69 dWy_advance_50 rfl rfl ?_
        refine K_getf 11 0 69 (jvR 70) dWy_advance_51 pf_Wy_11 rfl rfl (by decide) rfl rfl ?_
        refine K_iload_n 2 l2 dWy_advance_54 rfl rfl ?_
        refine K_iald 70 40 dWy_advance_55 rfl rfl (by decide) (((hF.2 c1).2.2 c4).2.1 c6).1.1 ?_
        refine K_iast 72 40 dWy_advance_56 rfl rfl (by decide) (((hF.2 c1).2.2 c4).2.1 c6).1.2.1 ?_
        refine K_iinc 2 dWy_advance_57 (Nat.le_of_ble_eq_true rfl) rfl (w32_ok (((hF.2 c1).2.2 c4).2.1 c6).1.2.2) rfl ?_
        refine K_goto 2 dWy_advance_60 (by decide) ?_
        exact (((hF.2 c1).2.2 c4).2.1 c6).2
      · exact K_vret dWy_advance_44 rfl (((hF.2 c1).2.2 c4).2.2 c6)
set_option maxHeartbeats 8000000 in
theorem vX_ask_0 {E : jE} {μ : jMu} {Q : Option AV → jMu → Prop} {b : Nat} (hb : isB b) {a0 a1 : Int} (hF : ((a0 < 0 → (Q (some (jvI (-1))) μ)) ∧ (¬ (a0 < 0) → ((μ 0 9) = ((b : Nat) : Int)) ∧ ((a0 < (μ b 14) → ((a1 = 0 → (Ci E mIg_bitCount [jvI (iand32 (μ 74 0) (ixor32 (ishl32 1 a0) (-1)))] (j_up μ 74 0 (iand32 (μ 74 0) (ixor32 (ishl32 1 a0) (-1)))) (fun r11 μ8 => (Q (some (jvI r11)) μ8)))) ∧ (¬ (a1 = 0) → (Ci E mIg_bitCount [jvI (ior32 (μ 74 0) (ishl32 1 a0))] (j_up μ 74 0 (ior32 (μ 74 0) (ishl32 1 a0))) (fun r16 μ13 => (Q (some (jvI r16)) μ13)))))) ∧ (¬ (a0 < (μ b 14)) → (Q (some (jvI (-1))) μ)))))) : K 121 E mX_ask 0 [some (jvR 0), some (jvI a0), some (jvI a1)] [] μ Q := by
  refine K_iload_n 1 a0 dX_ask_0 rfl rfl ?_
  refine K_if_lt 15 dX_ask_1 (by decide) (fun c1 => ?_) (fun c1 => ?_)
  · refine K_iconst (-1) dX_ask_15 rfl ?_
    exact K_iret dX_ask_16 (Or.inl rfl) (hF.1 c1)
  · refine K_iload_n 1 a0 dX_ask_4 rfl rfl ?_
    refine K_aload_n 0 0 dX_ask_5 rfl rfl ?_
    refine K_getf 0 9 0 (jvR ((b : Nat) : Int)) dX_ask_6 pf_X_26 rfl rfl (by decide) rfl (congrArg jvR (hF.2 c1).1) ?_
    refine K_getf 2 14 b (jvI (μ b 14)) dX_ask_9 pf_X_139 rfl (isB_c0 hb) (isB_n 0 (by decide) hb) rfl (isB_f0_14 hb) ?_
    refine K_icmp_lt 17 dX_ask_12 (by decide) (fun c4 => ?_) (fun c4 => ?_)
    · refine K_aload_n 0 0 dX_ask_17 rfl rfl ?_
      refine K_getf 0 7 0 (jvR 74) dX_ask_18 pf_X_73 rfl rfl (by decide) rfl rfl ?_
      refine K_iload_n 2 a1 dX_ask_21 rfl rfl ?_
      refine K_if_eq 39 dX_ask_22 (by decide) (fun c6 => ?_) (fun c6 => ?_)
      · refine K_aload_n 0 0 dX_ask_39 rfl rfl ?_
        refine K_getf 0 7 0 (jvR 74) dX_ask_40 pf_X_73 rfl rfl (by decide) rfl rfl ?_
        refine K_getf 10 0 74 (jvI (μ 74 0)) dX_ask_43 pf_X_127 rfl rfl (by decide) rfl rfl ?_
        refine K_iconst 1 dX_ask_46 rfl ?_
        refine K_iload_n 1 a0 dX_ask_47 rfl rfl ?_
        refine K_ishl dX_ask_48 rfl ?_
        refine K_iconst (-1) dX_ask_49 rfl ?_
        refine K_ixor dX_ask_50 rfl ?_
        refine K_iand dX_ask_51 rfl ?_
        refine K_putf 10 0 74 (x := (iand32 (μ 74 0) (ixor32 (ishl32 1 a0) (-1)))) dX_ask_52 pf_X_127 rfl rfl (by decide) rfl rfl rfl rfl trivial ?_
        refine K_aload_n 0 0 dX_ask_55 rfl rfl ?_
        refine K_getf 0 7 0 (jvR 74) dX_ask_56 pf_X_73 rfl rfl (by decide) rfl rfl ?_
        refine K_getf 10 0 74 (jvI (iand32 (μ 74 0) (ixor32 (ishl32 1 a0) (-1)))) dX_ask_59 pf_X_127 rfl rfl (by decide) rfl rfl ?_
        refine K_callSi mIg_bitCount [jvI (iand32 (μ 74 0) (ixor32 (ishl32 1 a0) (-1)))] dX_ask_62 pm_X_182 ⟨(Nat.le_of_ble_eq_true rfl), (Nat.le_of_ble_eq_true rfl)⟩ (Nat.le_of_ble_eq_true rfl) rfl (Nat.le_of_ble_eq_true rfl) (by decide) (Ci_mono (((hF.2 c1).2.1 c4).1 c6) (fun r11 μ8 h9 => ?_))
        exact K_iret dX_ask_65 (Or.inl rfl) h9
      · refine K_aload_n 0 0 dX_ask_25 rfl rfl ?_
        refine K_getf 0 7 0 (jvR 74) dX_ask_26 pf_X_73 rfl rfl (by decide) rfl rfl ?_
        refine K_getf 10 0 74 (jvI (μ 74 0)) dX_ask_29 pf_X_127 rfl rfl (by decide) rfl rfl ?_
        refine K_iconst 1 dX_ask_32 rfl ?_
        refine K_iload_n 1 a0 dX_ask_33 rfl rfl ?_
        refine K_ishl dX_ask_34 rfl ?_
        refine K_ior dX_ask_35 rfl ?_
        refine K_goto 52 dX_ask_36 (by decide) ?_
        refine K_putf 10 0 74 (x := (ior32 (μ 74 0) (ishl32 1 a0))) dX_ask_52 pf_X_127 rfl rfl (by decide) rfl rfl rfl rfl trivial ?_
        refine K_aload_n 0 0 dX_ask_55 rfl rfl ?_
        refine K_getf 0 7 0 (jvR 74) dX_ask_56 pf_X_73 rfl rfl (by decide) rfl rfl ?_
        refine K_getf 10 0 74 (jvI (ior32 (μ 74 0) (ishl32 1 a0))) dX_ask_59 pf_X_127 rfl rfl (by decide) rfl rfl ?_
        refine K_callSi mIg_bitCount [jvI (ior32 (μ 74 0) (ishl32 1 a0))] dX_ask_62 pm_X_182 ⟨(Nat.le_of_ble_eq_true rfl), (Nat.le_of_ble_eq_true rfl)⟩ (Nat.le_of_ble_eq_true rfl) rfl (Nat.le_of_ble_eq_true rfl) (by decide) (Ci_mono (((hF.2 c1).2.1 c4).2 c6) (fun r16 μ13 h14 => ?_))
        exact K_iret dX_ask_65 (Or.inl rfl) h14
    · refine K_iconst (-1) dX_ask_15 rfl ?_
      exact K_iret dX_ask_16 (Or.inl rfl) ((hF.2 c1).2.2 c4)
set_option maxHeartbeats 8000000 in
theorem vX_least_0 {E : jE} {μ : jMu} {Q : Option AV → jMu → Prop} {b : Nat} (hb : isB b) {a0 : Int} (hF : ((μ 0 9) = ((b : Nat) : Int)) ∧ ((¬ (μ b 13) = 0 → (Ci E mWa_leastSeen [jvR 74, jvR 45, jvI (μ 74 0)] μ (fun r6 μ3 => ((a0 = 0 → ((μ3 0 9) = ((b : Nat) : Int)) ∧ (Ci E mWa_seen [jvR 74, jvR ((b : Nat) : Int), jvI r6, jvI (μ3 74 0)] μ3 (fun r12 μ9 => (Q (some (jvI r12)) μ9)))) ∧ (a0 = 1 → (Q (some (jvI r6)) μ3)) ∧ ((¬ a0 = 0 ∧ ¬ a0 = 1) → (Q (some (jvI (-1))) μ3)))))) ∧ ((μ b 13) = 0 → (Q (some (jvI (-1))) μ)))) : K 121 E mX_least 0 [some (jvR 0), some (jvI a0), none] [] μ Q := by
  refine K_aload_n 0 0 dX_least_0 rfl rfl ?_
  refine K_getf 0 9 0 (jvR ((b : Nat) : Int)) dX_least_1 pf_X_26 rfl rfl (by decide) rfl (congrArg jvR hF.1) ?_
  refine K_getf 2 13 b (jvI (μ b 13)) dX_least_4 pf_X_136 rfl (isB_c0 hb) (isB_n 0 (by decide) hb) rfl (isB_f0_13 hb) ?_
  refine K_if_ne 12 dX_least_7 (by decide) (fun c1 => ?_) (fun c1 => ?_)
  · refine K_aload_n 0 0 dX_least_12 rfl rfl ?_
    refine K_getf 0 7 0 (jvR 74) dX_least_13 pf_X_73 rfl rfl (by decide) rfl rfl ?_
    refine K_aload_n 0 0 dX_least_16 rfl rfl ?_
    refine K_getf 0 2 0 (jvR 45) dX_least_17 pf_X_38 rfl rfl (by decide) rfl rfl ?_
    refine K_aload_n 0 0 dX_least_20 rfl rfl ?_
    refine K_getf 0 7 0 (jvR 74) dX_least_21 pf_X_73 rfl rfl (by decide) rfl rfl ?_
    refine K_getf 10 0 74 (jvI (μ 74 0)) dX_least_24 pf_X_127 rfl rfl (by decide) rfl rfl ?_
    refine K_callVi mWa_leastSeen 10 74 [jvR 45, jvI (μ 74 0)] dX_least_27 pm_X_383 ⟨_, rfl, rfl⟩ ⟨(Nat.le_of_ble_eq_true rfl), (Nat.le_of_ble_eq_true rfl)⟩ rfl rfl (by decide) (Nat.le_of_ble_eq_true rfl) rfl (Nat.le_of_ble_eq_true rfl) (by decide) (Ci_mono (hF.2.1 c1) (fun r6 μ3 h4 => ?_))
    refine K_istore_n 2 dX_least_30 rfl (Nat.le_of_ble_eq_true rfl) rfl ?_
    refine K_iload_n 1 a0 dX_least_31 rfl rfl ?_
    refine K_lookup dX_least_32 (by decide) ?_
    by_cases c80 : a0 = 0
    · refine ⟨60, by simp [Op.lookupswitch.offset, c80], ?_⟩
      refine K_aload_n 0 0 dX_least_60 rfl rfl ?_
      refine K_getf 0 7 0 (jvR 74) dX_least_61 pf_X_73 rfl rfl (by decide) rfl rfl ?_
      refine K_aload_n 0 0 dX_least_64 rfl rfl ?_
      refine K_getf 0 9 0 (jvR ((b : Nat) : Int)) dX_least_65 pf_X_26 rfl rfl (by decide) rfl (congrArg jvR (h4.1 c80).1) ?_
      refine K_iload_n 2 r6 dX_least_68 rfl rfl ?_
      refine K_aload_n 0 0 dX_least_69 rfl rfl ?_
      refine K_getf 0 7 0 (jvR 74) dX_least_70 pf_X_73 rfl rfl (by decide) rfl rfl ?_
      refine K_getf 10 0 74 (jvI (μ3 74 0)) dX_least_73 pf_X_127 rfl rfl (by decide) rfl rfl ?_
      refine K_callVi mWa_seen 10 74 [jvR ((b : Nat) : Int), jvI r6, jvI (μ3 74 0)] dX_least_76 pm_X_253 ⟨_, rfl, rfl⟩ ⟨(Nat.le_of_ble_eq_true rfl), (Nat.le_of_ble_eq_true rfl)⟩ rfl rfl (by decide) (Nat.le_of_ble_eq_true rfl) rfl (Nat.le_of_ble_eq_true rfl) (by decide) (Ci_mono (h4.1 c80).2 (fun r12 μ9 h10 => ?_))
      exact K_iret dX_least_79 (Or.inl rfl) h10
    by_cases c81 : a0 = 1
    · refine ⟨80, by simp [Op.lookupswitch.offset, Ne.symm c80, c81], ?_⟩
      refine K_iload_n 2 r6 dX_least_80 rfl rfl ?_
      exact K_iret dX_least_81 (Or.inl rfl) (h4.2.1 c81)
    refine ⟨82, by simp [Op.lookupswitch.offset, Ne.symm c80, Ne.symm c81], ?_⟩
    refine K_iconst (-1) dX_least_82 rfl ?_
    exact K_iret dX_least_83 (Or.inl rfl) (h4.2.2 ⟨c80, c81⟩)
  · refine K_iconst (-1) dX_least_10 rfl ?_
    exact K_iret dX_least_11 (Or.inl rfl) (hF.2.2 c1)
set_option maxHeartbeats 8000000 in
theorem vWa_leastSeen_0 {E : jE} {μ : jMu} {Q : Option AV → jMu → Prop} {a1 : Int} (hF : (K 121 E mWa_leastSeen 9 [some (jvR 74), some (jvR 45), some (jvI a1), some (jvI (-1)), some (jvI 2147483647), some (jvI 0), none] [] μ Q)) : K 121 E mWa_leastSeen 0 [some (jvR 74), some (jvR 45), some (jvI a1), none, none, none, none] [] μ Q := by
  refine K_iconst (-1) dWa_leastSeen_0 rfl ?_
  refine K_istore_n 3 dWa_leastSeen_1 rfl (Nat.le_of_ble_eq_true rfl) rfl ?_
  refine K_ldc 2147483647 dWa_leastSeen_2 pc_Wa_34 rfl ?_
  refine K_istore 4 dWa_leastSeen_4 (Nat.le_of_ble_eq_true rfl) rfl ?_
  refine K_iconst 0 dWa_leastSeen_6 rfl ?_
  refine K_istore 5 dWa_leastSeen_7 (Nat.le_of_ble_eq_true rfl) rfl ?_
  exact hF
set_option maxHeartbeats 8000000 in
theorem vWa_leastSeen_9 {E : jE} {μ : jMu} {Q : Option AV → jMu → Prop} {b : Nat} (hb : isB b) {l2 l3 l4 l5 : Int} (hF : ((μ 45 7) = ((b : Nat) : Int)) ∧ (((μ b 13) ≤ l5 → (Q (some (jvI l3)) μ)) ∧ (¬ ((μ b 13) ≤ l5) → (Ci E mX_isIn [jvI l5, jvL (μ 45 9)] μ (fun r7 μ4 => ((r7 = 0 → ((-2147483648 ≤ (l5 + 1) ∧ (l5 + 1) < 2147483648)) ∧ (K 121 E mWa_leastSeen 9 [some (jvR 74), some (jvR 45), some (jvI l2), some (jvI l3), some (jvI l4), some (jvI (l5 + 1)), none] [] μ4 Q)) ∧ (¬ (r7 = 0) → ((μ4 45 7) = ((b : Nat) : Int)) ∧ (Ci E mWa_seen [jvR 74, jvR ((b : Nat) : Int), jvI l5, jvI l2] μ4 (fun r13 μ10 => ((l4 ≤ r13 → ((-2147483648 ≤ (l5 + 1) ∧ (l5 + 1) < 2147483648)) ∧ (K 121 E mWa_leastSeen 9 [some (jvR 74), some (jvR 45), some (jvI l2), some (jvI l3), some (jvI l4), some (jvI (l5 + 1)), none] [] μ10 Q)) ∧ (¬ (l4 ≤ r13) → ((-2147483648 ≤ (l5 + 1) ∧ (l5 + 1) < 2147483648)) ∧ (K 121 E mWa_leastSeen 9 [some (jvR 74), some (jvR 45), some (jvI l2), some (jvI l5), some (jvI r13), some (jvI (l5 + 1)), none] [] μ10 Q)))))))))))) : K 121 E mWa_leastSeen 9 [some (jvR 74), some (jvR 45), some (jvI l2), some (jvI l3), some (jvI l4), some (jvI l5), none] [] μ Q := by
  refine K_iload 5 l5 dWa_leastSeen_9 rfl ?_
  refine K_aload_n 1 45 dWa_leastSeen_11 rfl rfl ?_
  refine K_getf 3 7 45 (jvR ((b : Nat) : Int)) dWa_leastSeen_12 pf_Wa_35 rfl rfl (by decide) rfl (congrArg jvR hF.1) ?_
  refine K_getf 2 13 b (jvI (μ b 13)) dWa_leastSeen_15 pf_Wa_41 rfl (isB_c0 hb) (isB_n 0 (by decide) hb) rfl (isB_f0_13 hb) ?_
  refine K_icmp_ge 66 dWa_leastSeen_18 (by decide) (fun c1 => ?_) (fun c1 => ?_)
  · refine K_iload_n 3 l3 dWa_leastSeen_66 rfl rfl ?_
    exact K_iret dWa_leastSeen_67 (Or.inl rfl) (hF.2.1 c1)
  · refine K_iload 5 l5 dWa_leastSeen_21 rfl ?_
    refine K_aload_n 1 45 dWa_leastSeen_23 rfl rfl ?_
    refine K_getf 3 9 45 (jvL (μ 45 9)) dWa_leastSeen_24 pf_Wa_44 rfl rfl (by decide) rfl rfl ?_
    refine K_callNi mX_isIn [jvI l5, jvL (μ 45 9)] dWa_leastSeen_27 pm_Wa_48 ⟨(Nat.le_of_ble_eq_true rfl), (Nat.le_of_ble_eq_true rfl)⟩ (Nat.le_of_ble_eq_true rfl) rfl (Nat.le_of_ble_eq_true rfl) (by decide) (Ci_mono (hF.2.2 c1) (fun r7 μ4 h5 => ?_))
    refine K_if_eq 60 dWa_leastSeen_30 (by decide) (fun c8 => ?_) (fun c8 => ?_)
    · refine K_iinc 5 dWa_leastSeen_60 (Nat.le_of_ble_eq_true rfl) rfl (w32_ok (h5.1 c8).1) rfl ?_
      refine K_goto 9 dWa_leastSeen_63 (by decide) ?_
      exact (h5.1 c8).2
    · refine K_aload_n 0 74 dWa_leastSeen_33 rfl rfl ?_
      refine K_aload_n 1 45 dWa_leastSeen_34 rfl rfl ?_
      refine K_getf 3 7 45 (jvR ((b : Nat) : Int)) dWa_leastSeen_35 pf_Wa_35 rfl rfl (by decide) rfl (congrArg jvR (h5.2 c8).1) ?_
      refine K_iload 5 l5 dWa_leastSeen_38 rfl ?_
      refine K_iload_n 2 l2 dWa_leastSeen_40 rfl rfl ?_
      refine K_callVi mWa_seen 10 74 [jvR ((b : Nat) : Int), jvI l5, jvI l2] dWa_leastSeen_41 pm_Wa_52 ⟨_, rfl, rfl⟩ ⟨(Nat.le_of_ble_eq_true rfl), (Nat.le_of_ble_eq_true rfl)⟩ rfl rfl (by decide) (Nat.le_of_ble_eq_true rfl) rfl (Nat.le_of_ble_eq_true rfl) (by decide) (Ci_mono (h5.2 c8).2 (fun r13 μ10 h11 => ?_))
      refine K_istore 6 dWa_leastSeen_44 (Nat.le_of_ble_eq_true rfl) rfl ?_
      refine K_iload 6 r13 dWa_leastSeen_46 rfl ?_
      refine K_iload 4 l4 dWa_leastSeen_48 rfl ?_
      refine K_icmp_ge 60 dWa_leastSeen_50 (by decide) (fun c14 => ?_) (fun c14 => ?_)
      · refine K_iinc 5 dWa_leastSeen_60 (Nat.le_of_ble_eq_true rfl) rfl (w32_ok (h11.1 c14).1) rfl ?_
        refine K_goto 9 dWa_leastSeen_63 (by decide) ?_
        exact K_forget [true, true, true, true, true, true, false] (h11.1 c14).2
      · refine K_iload 6 r13 dWa_leastSeen_53 rfl ?_
        refine K_istore 4 dWa_leastSeen_55 (Nat.le_of_ble_eq_true rfl) rfl ?_
        refine K_iload 5 l5 dWa_leastSeen_57 rfl ?_
        refine K_istore_n 3 dWa_leastSeen_59 rfl (Nat.le_of_ble_eq_true rfl) rfl ?_
        refine K_iinc 5 dWa_leastSeen_60 (Nat.le_of_ble_eq_true rfl) rfl (w32_ok (h11.2 c14).1) rfl ?_
        refine K_goto 9 dWa_leastSeen_63 (by decide) ?_
        exact K_forget [true, true, true, true, true, true, false] (h11.2 c14).2
set_option maxHeartbeats 8000000 in
theorem vX_whom_0 {E : jE} {μ : jMu} {Q : Option AV → jMu → Prop} {b : Nat} (hb : isB b) (hF : ((μ 0 9) = ((b : Nat) : Int)) ∧ ((¬ (μ b 13) = 0 → (Ci E mWa_nextToAsk [jvR 74, jvR 45] μ (fun r6 μ3 => (Q (some (jvI r6)) μ3)))) ∧ ((μ b 13) = 0 → (Q (some (jvI (-1))) μ)))) : K 121 E mX_whom 0 [some (jvR 0)] [] μ Q := by
  refine K_aload_n 0 0 dX_whom_0 rfl rfl ?_
  refine K_getf 0 9 0 (jvR ((b : Nat) : Int)) dX_whom_1 pf_X_26 rfl rfl (by decide) rfl (congrArg jvR hF.1) ?_
  refine K_getf 2 13 b (jvI (μ b 13)) dX_whom_4 pf_X_136 rfl (isB_c0 hb) (isB_n 0 (by decide) hb) rfl (isB_f0_13 hb) ?_
  refine K_if_ne 14 dX_whom_7 (by decide) (fun c1 => ?_) (fun c1 => ?_)
  · refine K_aload_n 0 0 dX_whom_14 rfl rfl ?_
    refine K_getf 0 7 0 (jvR 74) dX_whom_15 pf_X_73 rfl rfl (by decide) rfl rfl ?_
    refine K_aload_n 0 0 dX_whom_18 rfl rfl ?_
    refine K_getf 0 2 0 (jvR 45) dX_whom_19 pf_X_38 rfl rfl (by decide) rfl rfl ?_
    refine K_callVi mWa_nextToAsk 10 74 [jvR 45] dX_whom_22 pm_X_387 ⟨_, rfl, rfl⟩ ⟨(Nat.le_of_ble_eq_true rfl), (Nat.le_of_ble_eq_true rfl)⟩ rfl rfl (by decide) (Nat.le_of_ble_eq_true rfl) rfl (Nat.le_of_ble_eq_true rfl) (by decide) (Ci_mono (hF.2.1 c1) (fun r6 μ3 h4 => ?_))
    exact K_iret dX_whom_25 (Or.inl rfl) h4
  · refine K_iconst (-1) dX_whom_10 rfl ?_
    refine K_goto 25 dX_whom_11 (by decide) ?_
    exact K_iret dX_whom_25 (Or.inl rfl) (hF.2.2 c1)
set_option maxHeartbeats 8000000 in
theorem vWa_nextToAsk_0 {E : jE} {μ : jMu} {Q : Option AV → jMu → Prop} (hF : (K 121 E mWa_nextToAsk 7 [some (jvR 74), some (jvR 45), some (jvI (-1)), some (jvI (-1)), some (jvI 0), none, none] [] μ Q)) : K 121 E mWa_nextToAsk 0 [some (jvR 74), some (jvR 45), none, none, none, none, none] [] μ Q := by
  refine K_iconst (-1) dWa_nextToAsk_0 rfl ?_
  refine K_istore_n 2 dWa_nextToAsk_1 rfl (Nat.le_of_ble_eq_true rfl) rfl ?_
  refine K_iconst (-1) dWa_nextToAsk_2 rfl ?_
  refine K_istore_n 3 dWa_nextToAsk_3 rfl (Nat.le_of_ble_eq_true rfl) rfl ?_
  refine K_iconst 0 dWa_nextToAsk_4 rfl ?_
  refine K_istore 4 dWa_nextToAsk_5 (Nat.le_of_ble_eq_true rfl) rfl ?_
  exact hF
set_option maxHeartbeats 8000000 in
theorem vWa_nextToAsk_7 {E : jE} {μ : jMu} {Q : Option AV → jMu → Prop} {b : Nat} (hb : isB b) {l2 l3 l4 : Int} (hF : ((μ 45 7) = ((b : Nat) : Int)) ∧ (((μ b 14) ≤ l4 → (Q (some (jvI l2)) μ)) ∧ (¬ ((μ b 14) ≤ l4) → (((ior32 (μ 74 0) (ishl32 1 l4)) = (μ 74 0) → ((-2147483648 ≤ (l4 + 1) ∧ (l4 + 1) < 2147483648)) ∧ (K 121 E mWa_nextToAsk 7 [some (jvR 74), some (jvR 45), some (jvI l2), some (jvI l3), some (jvI (l4 + 1)), none, none] [] μ Q)) ∧ (¬ ((ior32 (μ 74 0) (ishl32 1 l4)) = (μ 74 0)) → ((μ 45 7) = ((b : Nat) : Int)) ∧ (Ci E mWa_leastSeen [jvR 74, jvR 45, jvI (ior32 (μ 74 0) (ishl32 1 l4))] μ (fun r9 μ6 => (Ci E mWa_seen [jvR 74, jvR ((b : Nat) : Int), jvI r9, jvI (ior32 (μ 74 0) (ishl32 1 l4))] μ6 (fun r13 μ10 => ((r13 ≤ l3 → ((-2147483648 ≤ (l4 + 1) ∧ (l4 + 1) < 2147483648)) ∧ (K 121 E mWa_nextToAsk 7 [some (jvR 74), some (jvR 45), some (jvI l2), some (jvI l3), some (jvI (l4 + 1)), none, none] [] μ10 Q)) ∧ (¬ (r13 ≤ l3) → ((-2147483648 ≤ (l4 + 1) ∧ (l4 + 1) < 2147483648)) ∧ (K 121 E mWa_nextToAsk 7 [some (jvR 74), some (jvR 45), some (jvI l4), some (jvI r13), some (jvI (l4 + 1)), none, none] [] μ10 Q)))))))))))) : K 121 E mWa_nextToAsk 7 [some (jvR 74), some (jvR 45), some (jvI l2), some (jvI l3), some (jvI l4), none, none] [] μ Q := by
  refine K_iload 4 l4 dWa_nextToAsk_7 rfl ?_
  refine K_aload_n 1 45 dWa_nextToAsk_9 rfl rfl ?_
  refine K_getf 3 7 45 (jvR ((b : Nat) : Int)) dWa_nextToAsk_10 pf_Wa_35 rfl rfl (by decide) rfl (congrArg jvR hF.1) ?_
  refine K_getf 2 14 b (jvI (μ b 14)) dWa_nextToAsk_13 pf_Wa_24 rfl (isB_c0 hb) (isB_n 0 (by decide) hb) rfl (isB_f0_14 hb) ?_
  refine K_icmp_ge 76 dWa_nextToAsk_16 (by decide) (fun c1 => ?_) (fun c1 => ?_)
  · refine K_iload_n 2 l2 dWa_nextToAsk_76 rfl rfl ?_
    exact K_iret dWa_nextToAsk_77 (Or.inl rfl) (hF.2.1 c1)
  · refine K_aload_n 0 74 dWa_nextToAsk_19 rfl rfl ?_
    refine K_getf 10 0 74 (jvI (μ 74 0)) dWa_nextToAsk_20 pf_Wa_56 rfl rfl (by decide) rfl rfl ?_
    refine K_iconst 1 dWa_nextToAsk_23 rfl ?_
    refine K_iload 4 l4 dWa_nextToAsk_24 rfl ?_
    refine K_ishl dWa_nextToAsk_26 rfl ?_
    refine K_ior dWa_nextToAsk_27 rfl ?_
    refine K_istore 5 dWa_nextToAsk_28 (Nat.le_of_ble_eq_true rfl) rfl ?_
    refine K_iload 5 (ior32 (μ 74 0) (ishl32 1 l4)) dWa_nextToAsk_30 rfl ?_
    refine K_aload_n 0 74 dWa_nextToAsk_32 rfl rfl ?_
    refine K_getf 10 0 74 (jvI (μ 74 0)) dWa_nextToAsk_33 pf_Wa_56 rfl rfl (by decide) rfl rfl ?_
    refine K_icmp_eq 70 dWa_nextToAsk_36 (by decide) (fun c4 => ?_) (fun c4 => ?_)
    · refine K_iinc 4 dWa_nextToAsk_70 (Nat.le_of_ble_eq_true rfl) rfl (w32_ok ((hF.2.2 c1).1 c4).1) rfl ?_
      refine K_goto 7 dWa_nextToAsk_73 (by decide) ?_
      exact K_forget [true, true, true, true, true, false, true] ((hF.2.2 c1).1 c4).2
    · refine K_aload_n 0 74 dWa_nextToAsk_39 rfl rfl ?_
      refine K_aload_n 1 45 dWa_nextToAsk_40 rfl rfl ?_
      refine K_getf 3 7 45 (jvR ((b : Nat) : Int)) dWa_nextToAsk_41 pf_Wa_35 rfl rfl (by decide) rfl (congrArg jvR ((hF.2.2 c1).2 c4).1) ?_
      refine K_aload_n 0 74 dWa_nextToAsk_44 rfl rfl ?_
      refine K_aload_n 1 45 dWa_nextToAsk_45 rfl rfl ?_
      refine K_iload 5 (ior32 (μ 74 0) (ishl32 1 l4)) dWa_nextToAsk_46 rfl ?_
      refine K_callVi mWa_leastSeen 10 74 [jvR 45, jvI (ior32 (μ 74 0) (ishl32 1 l4))] dWa_nextToAsk_48 pm_Wa_59 ⟨_, rfl, rfl⟩ ⟨(Nat.le_of_ble_eq_true rfl), (Nat.le_of_ble_eq_true rfl)⟩ rfl rfl (by decide) (Nat.le_of_ble_eq_true rfl) rfl (Nat.le_of_ble_eq_true rfl) (by decide) (Ci_mono ((hF.2.2 c1).2 c4).2 (fun r9 μ6 h7 => ?_))
      refine K_iload 5 (ior32 (μ 74 0) (ishl32 1 l4)) dWa_nextToAsk_51 rfl ?_
      refine K_callVi mWa_seen 10 74 [jvR ((b : Nat) : Int), jvI r9, jvI (ior32 (μ 74 0) (ishl32 1 l4))] dWa_nextToAsk_53 pm_Wa_52 ⟨_, rfl, rfl⟩ ⟨(Nat.le_of_ble_eq_true rfl), (Nat.le_of_ble_eq_true rfl)⟩ rfl rfl (by decide) (Nat.le_of_ble_eq_true rfl) rfl (Nat.le_of_ble_eq_true rfl) (by decide) (Ci_mono h7 (fun r13 μ10 h11 => ?_))
      refine K_istore 6 dWa_nextToAsk_56 (Nat.le_of_ble_eq_true rfl) rfl ?_
      refine K_iload 6 r13 dWa_nextToAsk_58 rfl ?_
      refine K_iload_n 3 l3 dWa_nextToAsk_60 rfl rfl ?_
      refine K_icmp_le 70 dWa_nextToAsk_61 (by decide) (fun c14 => ?_) (fun c14 => ?_)
      · refine K_iinc 4 dWa_nextToAsk_70 (Nat.le_of_ble_eq_true rfl) rfl (w32_ok (h11.1 c14).1) rfl ?_
        refine K_goto 7 dWa_nextToAsk_73 (by decide) ?_
        exact K_forget [true, true, true, true, true, false, false] (h11.1 c14).2
      · refine K_iload 6 r13 dWa_nextToAsk_64 rfl ?_
        refine K_istore_n 3 dWa_nextToAsk_66 rfl (Nat.le_of_ble_eq_true rfl) rfl ?_
        refine K_iload 4 l4 dWa_nextToAsk_67 rfl ?_
        refine K_istore_n 2 dWa_nextToAsk_69 rfl (Nat.le_of_ble_eq_true rfl) rfl ?_
        refine K_iinc 4 dWa_nextToAsk_70 (Nat.le_of_ble_eq_true rfl) rfl (w32_ok (h11.2 c14).1) rfl ?_
        refine K_goto 7 dWa_nextToAsk_73 (by decide) ?_
        exact K_forget [true, true, true, true, true, false, false] (h11.2 c14).2
set_option maxHeartbeats 8000000 in
theorem vX_seed_0 {E : jE} {μ : jMu} {Q : Option AV → jMu → Prop} {a0 : Int} (hF : ((0 ≤ a0 → (Q (some (jvI 1)) (j_up μ 74 1 a0))) ∧ (¬ (0 ≤ a0) → (Q (some (jvI 0)) μ)))) : K 121 E mX_seed 0 [some (jvR 0), some (jvI a0)] [] μ Q := by
  refine K_iload_n 1 a0 dX_seed_0 rfl rfl ?_
  refine K_if_ge 6 dX_seed_1 (by decide) (fun c1 => ?_) (fun c1 => ?_)
  · refine K_aload_n 0 0 dX_seed_6 rfl rfl ?_
    refine K_getf 0 7 0 (jvR 74) dX_seed_7 pf_X_73 rfl rfl (by decide) rfl rfl ?_
    refine K_iload_n 1 a0 dX_seed_10 rfl rfl ?_
    refine K_putf 10 1 74 (x := a0) dX_seed_11 pf_X_391 rfl rfl (by decide) rfl rfl rfl rfl trivial ?_
    refine K_iconst 1 dX_seed_14 rfl ?_
    exact K_iret dX_seed_15 (Or.inr ⟨rfl, (by decide)⟩) (hF.1 c1)
  · refine K_iconst 0 dX_seed_4 rfl ?_
    exact K_iret dX_seed_5 (Or.inr ⟨rfl, (by decide)⟩) (hF.2 c1)
set_option maxHeartbeats 8000000 in
theorem vX_trials_0 {E : jE} {μ : jMu} {Q : Option AV → jMu → Prop} {b : Nat} (hb : isB b) {a0 a1 : Int} (hF : ((μ 0 9) = ((b : Nat) : Int)) ∧ (Ci E mBk_hasStep [jvR ((b : Nat) : Int), jvI a0] μ (fun r4 μ1 => ((r4 = 0 → (Q (some (jvI (-1))) μ1)) ∧ (¬ (r4 = 0) → ((a1 < 1 → (Q (some (jvI (-1))) μ1)) ∧ (¬ (a1 < 1) → ((a1 ≤ 1000 → (K 121 E mX_trials 30 [some (jvR 0), some (jvI a0), some (jvI a1), some (jvI 0), some (jvI 0)] [] μ1 Q)) ∧ (¬ (a1 ≤ 1000) → (Q (some (jvI (-1))) μ1)))))))))) : K 121 E mX_trials 0 [some (jvR 0), some (jvI a0), some (jvI a1), none, none] [] μ Q := by
  refine K_aload_n 0 0 dX_trials_0 rfl rfl ?_
  refine K_getf 0 9 0 (jvR ((b : Nat) : Int)) dX_trials_1 pf_X_26 rfl rfl (by decide) rfl (congrArg jvR hF.1) ?_
  refine K_iload_n 1 a0 dX_trials_4 rfl rfl ?_
  refine K_callVi mBk_hasStep 2 b [jvI a0] dX_trials_5 pm_X_221 ⟨_, rfl, rfl⟩ ⟨(Nat.le_of_ble_eq_true rfl), (Nat.le_of_ble_eq_true rfl)⟩ rfl (isB_c0 hb) (isB_n 0 (by decide) hb) (Nat.le_of_ble_eq_true rfl) rfl (Nat.le_of_ble_eq_true rfl) (by decide) (Ci_mono hF.2 (fun r4 μ1 h2 => ?_))
  refine K_if_eq 23 dX_trials_8 (by decide) (fun c5 => ?_) (fun c5 => ?_)
  · refine K_iconst (-1) dX_trials_23 rfl ?_
    exact K_iret dX_trials_24 (Or.inl rfl) (h2.1 c5)
  · refine K_iload_n 2 a1 dX_trials_11 rfl rfl ?_
    refine K_iconst 1 dX_trials_12 rfl ?_
    refine K_icmp_lt 23 dX_trials_13 (by decide) (fun c8 => ?_) (fun c8 => ?_)
    · refine K_iconst (-1) dX_trials_23 rfl ?_
      exact K_iret dX_trials_24 (Or.inl rfl) ((h2.2 c5).1 c8)
    · refine K_iload_n 2 a1 dX_trials_16 rfl rfl ?_
      refine K_sipush 1000 dX_trials_17 rfl ?_
      refine K_icmp_le 25 dX_trials_20 (by decide) (fun c11 => ?_) (fun c11 => ?_)
      · refine K_iconst 0 dX_trials_25 rfl ?_
        refine K_istore_n 3 dX_trials_26 rfl (Nat.le_of_ble_eq_true rfl) rfl ?_
        refine K_iconst 0 dX_trials_27 rfl ?_
        refine K_istore 4 dX_trials_28 (Nat.le_of_ble_eq_true rfl) rfl ?_
        exact (((h2.2 c5).2 c8).1 c11)
      · refine K_iconst (-1) dX_trials_23 rfl ?_
        exact K_iret dX_trials_24 (Or.inl rfl) (((h2.2 c5).2 c8).2 c11)
set_option maxHeartbeats 8000000 in
theorem vX_trials_30 {E : jE} {μ : jMu} {Q : Option AV → jMu → Prop} {b : Nat} (hb : isB b) {l1 l2 l3 l4 : Int} (hF : ((l2 ≤ l4 → (Q (some (jvI l3)) μ)) ∧ (¬ (l2 ≤ l4) → ((μ 0 9) = ((b : Nat) : Int)) ∧ (Ci E mWa_isSeenOnce [jvR 74, jvR ((b : Nat) : Int), jvI l1] μ (fun r7 μ4 => ((r7 = 0 → ((-2147483648 ≤ (l4 + 1) ∧ (l4 + 1) < 2147483648)) ∧ (K 121 E mX_trials 30 [some (jvR 0), some (jvI l1), some (jvI l2), some (jvI l3), some (jvI (l4 + 1))] [] μ4 Q)) ∧ (¬ (r7 = 0) → ((-2147483648 ≤ (l3 + 1) ∧ (l3 + 1) < 2147483648) ∧ (-2147483648 ≤ (l4 + 1) ∧ (l4 + 1) < 2147483648)) ∧ (K 121 E mX_trials 30 [some (jvR 0), some (jvI l1), some (jvI l2), some (jvI (l3 + 1)), some (jvI (l4 + 1))] [] μ4 Q)))))))) : K 121 E mX_trials 30 [some (jvR 0), some (jvI l1), some (jvI l2), some (jvI l3), some (jvI l4)] [] μ Q := by
  refine K_iload 4 l4 dX_trials_30 rfl ?_
  refine K_iload_n 2 l2 dX_trials_32 rfl rfl ?_
  refine K_icmp_ge 60 dX_trials_33 (by decide) (fun c1 => ?_) (fun c1 => ?_)
  · refine K_iload_n 3 l3 dX_trials_60 rfl rfl ?_
    exact K_iret dX_trials_61 (Or.inl rfl) (hF.1 c1)
  · refine K_aload_n 0 0 dX_trials_36 rfl rfl ?_
    refine K_getf 0 7 0 (jvR 74) dX_trials_37 pf_X_73 rfl rfl (by decide) rfl rfl ?_
    refine K_aload_n 0 0 dX_trials_40 rfl rfl ?_
    refine K_getf 0 9 0 (jvR ((b : Nat) : Int)) dX_trials_41 pf_X_26 rfl rfl (by decide) rfl (congrArg jvR (hF.2 c1).1) ?_
    refine K_iload_n 1 l1 dX_trials_44 rfl rfl ?_
    refine K_callVi mWa_isSeenOnce 10 74 [jvR ((b : Nat) : Int), jvI l1] dX_trials_45 pm_X_394 ⟨_, rfl, rfl⟩ ⟨(Nat.le_of_ble_eq_true rfl), (Nat.le_of_ble_eq_true rfl)⟩ rfl rfl (by decide) (Nat.le_of_ble_eq_true rfl) rfl (Nat.le_of_ble_eq_true rfl) (by decide) (Ci_mono (hF.2 c1).2 (fun r7 μ4 h5 => ?_))
    refine K_if_eq 54 dX_trials_48 (by decide) (fun c8 => ?_) (fun c8 => ?_)
    · refine K_iinc 4 dX_trials_54 (Nat.le_of_ble_eq_true rfl) rfl (w32_ok (h5.1 c8).1) rfl ?_
      refine K_goto 30 dX_trials_57 (by decide) ?_
      exact (h5.1 c8).2
    · refine K_iinc 3 dX_trials_51 (Nat.le_of_ble_eq_true rfl) rfl (w32_ok (h5.2 c8).1.1) rfl ?_
      refine K_iinc 4 dX_trials_54 (Nat.le_of_ble_eq_true rfl) rfl (w32_ok (h5.2 c8).1.2) rfl ?_
      refine K_goto 30 dX_trials_57 (by decide) ?_
      exact (h5.2 c8).2
set_option maxHeartbeats 8000000 in
theorem vWa_isSeenOnce_0 {E : jE} {μ : jMu} {Q : Option AV → jMu → Prop} {b : Nat} (hb : isB b) {a1 : Int} (hF : (K 121 E mWa_isSeenOnce 5 [some (jvR 74), some (jvR ((b : Nat) : Int)), some (jvI a1), some (jvI 0), some (jvI 0)] [] μ Q)) : K 121 E mWa_isSeenOnce 0 [some (jvR 74), some (jvR ((b : Nat) : Int)), some (jvI a1), none, none] [] μ Q := by
  refine K_iconst 0 dWa_isSeenOnce_0 rfl ?_
  refine K_istore_n 3 dWa_isSeenOnce_1 rfl (Nat.le_of_ble_eq_true rfl) rfl ?_
  refine K_iconst 0 dWa_isSeenOnce_2 rfl ?_
  refine K_istore 4 dWa_isSeenOnce_3 (Nat.le_of_ble_eq_true rfl) rfl ?_
  exact hF
set_option maxHeartbeats 8000000 in
theorem vWa_isSeenOnce_5 {E : jE} {μ : jMu} {Q : Option AV → jMu → Prop} {b : Nat} (hb : isB b) {l2 l3 l4 : Int} (hF : (((μ b 14) ≤ l4 → ((l3 = 0 ∨ l3 = 1)) ∧ (Q (some (jvI l3)) μ)) ∧ (¬ ((μ b 14) ≤ l4) → (((iand32 (ishr32 (μ 74 0) l4) 1) = 0 → ((-2147483648 ≤ (l4 + 1) ∧ (l4 + 1) < 2147483648)) ∧ (K 121 E mWa_isSeenOnce 5 [some (jvR 74), some (jvR ((b : Nat) : Int)), some (jvI l2), some (jvI l3), some (jvI (l4 + 1))] [] μ Q)) ∧ (¬ ((iand32 (ishr32 (μ 74 0) l4) 1) = 0) → (Ci E mWa_looksAt [jvR ((b : Nat) : Int), jvI l4, jvI l2] μ (fun r9 μ6 => ((r9 = 0 → ((-2147483648 ≤ (l4 + 1) ∧ (l4 + 1) < 2147483648)) ∧ (K 121 E mWa_isSeenOnce 5 [some (jvR 74), some (jvR ((b : Nat) : Int)), some (jvI l2), some (jvI l3), some (jvI (l4 + 1))] [] μ6 Q)) ∧ (¬ (r9 = 0) → ((0 ≤ l4 ∧ l4 < 6)) ∧ ((((j_up μ6 74 1 (iand32 (w32 ((w32 (1103515245 * (μ6 74 1))) + 12345)) 2147483647)) (b + 16) l4) ≤ (Int.tmod (ishr32 (iand32 (w32 ((w32 (1103515245 * (μ6 74 1))) + 12345)) 2147483647) 6) 100) → ((-2147483648 ≤ (l4 + 1) ∧ (l4 + 1) < 2147483648)) ∧ (K 121 E mWa_isSeenOnce 5 [some (jvR 74), some (jvR ((b : Nat) : Int)), some (jvI l2), some (jvI l3), some (jvI (l4 + 1))] [] (j_up μ6 74 1 (iand32 (w32 ((w32 (1103515245 * (μ6 74 1))) + 12345)) 2147483647)) Q)) ∧ (¬ (((j_up μ6 74 1 (iand32 (w32 ((w32 (1103515245 * (μ6 74 1))) + 12345)) 2147483647)) (b + 16) l4) ≤ (Int.tmod (ishr32 (iand32 (w32 ((w32 (1103515245 * (μ6 74 1))) + 12345)) 2147483647) 6) 100)) → ((-2147483648 ≤ (l4 + 1) ∧ (l4 + 1) < 2147483648)) ∧ (K 121 E mWa_isSeenOnce 5 [some (jvR 74), some (jvR ((b : Nat) : Int)), some (jvI l2), some (jvI 1), some (jvI (l4 + 1))] [] (j_up μ6 74 1 (iand32 (w32 ((w32 (1103515245 * (μ6 74 1))) + 12345)) 2147483647)) Q)))))))))))) : K 121 E mWa_isSeenOnce 5 [some (jvR 74), some (jvR ((b : Nat) : Int)), some (jvI l2), some (jvI l3), some (jvI l4)] [] μ Q := by
  refine K_iload 4 l4 dWa_isSeenOnce_5 rfl ?_
  refine K_aload_n 1 ((b : Nat) : Int) dWa_isSeenOnce_7 rfl rfl ?_
  refine K_getf 2 14 b (jvI (μ b 14)) dWa_isSeenOnce_8 pf_Wa_24 rfl (isB_c0 hb) (isB_n 0 (by decide) hb) rfl (isB_f0_14 hb) ?_
  refine K_icmp_ge 82 dWa_isSeenOnce_11 (by decide) (fun c1 => ?_) (fun c1 => ?_)
  · refine K_iload_n 3 l3 dWa_isSeenOnce_82 rfl rfl ?_
    exact K_iret dWa_isSeenOnce_83 (Or.inr ⟨rfl, (hF.1 c1).1⟩) (hF.1 c1).2
  · refine K_aload_n 0 74 dWa_isSeenOnce_14 rfl rfl ?_
    refine K_getf 10 0 74 (jvI (μ 74 0)) dWa_isSeenOnce_15 pf_Wa_56 rfl rfl (by decide) rfl rfl ?_
    refine K_iload 4 l4 dWa_isSeenOnce_18 rfl ?_
    refine K_ishr dWa_isSeenOnce_20 rfl ?_
    refine K_iconst 1 dWa_isSeenOnce_21 rfl ?_
    refine K_iand dWa_isSeenOnce_22 rfl ?_
    refine K_if_eq 76 dWa_isSeenOnce_23 (by decide) (fun c4 => ?_) (fun c4 => ?_)
    · refine K_iinc 4 dWa_isSeenOnce_76 (Nat.le_of_ble_eq_true rfl) rfl (w32_ok ((hF.2 c1).1 c4).1) rfl ?_
      refine K_goto 5 dWa_isSeenOnce_79 (by decide) ?_
      exact ((hF.2 c1).1 c4).2
    · refine K_aload_n 1 ((b : Nat) : Int) dWa_isSeenOnce_26 rfl rfl ?_
      refine K_iload 4 l4 dWa_isSeenOnce_27 rfl ?_
      refine K_iload_n 2 l2 dWa_isSeenOnce_29 rfl rfl ?_
      refine K_callSi mWa_looksAt [jvR ((b : Nat) : Int), jvI l4, jvI l2] dWa_isSeenOnce_30 pm_Wa_27 ⟨(Nat.le_of_ble_eq_true rfl), (Nat.le_of_ble_eq_true rfl)⟩ (Nat.le_of_ble_eq_true rfl) rfl (Nat.le_of_ble_eq_true rfl) (by decide) (Ci_mono ((hF.2 c1).2 c4) (fun r9 μ6 h7 => ?_))
      refine K_if_eq 76 dWa_isSeenOnce_33 (by decide) (fun c10 => ?_) (fun c10 => ?_)
      · refine K_iinc 4 dWa_isSeenOnce_76 (Nat.le_of_ble_eq_true rfl) rfl (w32_ok (h7.1 c10).1) rfl ?_
        refine K_goto 5 dWa_isSeenOnce_79 (by decide) ?_
        exact (h7.1 c10).2
      · refine K_aload_n 0 74 dWa_isSeenOnce_36 rfl rfl ?_
        refine K_ldc 1103515245 dWa_isSeenOnce_37 pc_Wa_63 rfl ?_
        refine K_aload_n 0 74 dWa_isSeenOnce_39 rfl rfl ?_
        refine K_getf 10 1 74 (jvI (μ6 74 1)) dWa_isSeenOnce_40 pf_Wa_9 rfl rfl (by decide) rfl rfl ?_
        refine K_imul dWa_isSeenOnce_43 rfl ?_
        refine K_sipush 12345 dWa_isSeenOnce_44 rfl ?_
        refine K_iadd dWa_isSeenOnce_47 rfl ?_
        refine K_ldc 2147483647 dWa_isSeenOnce_48 pc_Wa_34 rfl ?_
        refine K_iand dWa_isSeenOnce_50 rfl ?_
        refine K_putf 10 1 74 (x := (iand32 (w32 ((w32 (1103515245 * (μ6 74 1))) + 12345)) 2147483647)) dWa_isSeenOnce_51 pf_Wa_9 rfl rfl (by decide) rfl rfl rfl rfl trivial ?_
        refine K_aload_n 0 74 dWa_isSeenOnce_54 rfl rfl ?_
        refine K_getf 10 1 74 (jvI (iand32 (w32 ((w32 (1103515245 * (μ6 74 1))) + 12345)) 2147483647)) dWa_isSeenOnce_55 pf_Wa_9 rfl rfl (by decide) rfl rfl ?_
        refine K_bipush 6 dWa_isSeenOnce_58 rfl ?_
        refine K_ishr dWa_isSeenOnce_60 rfl ?_
        refine K_bipush 100 dWa_isSeenOnce_61 rfl ?_
        refine K_irem dWa_isSeenOnce_63 (by decide) rfl ?_
        refine K_aload_n 1 ((b : Nat) : Int) dWa_isSeenOnce_64 rfl rfl ?_
        refine K_getf 2 9 b (jvR ((b + 16 : Nat) : Int)) dWa_isSeenOnce_65 pf_Wa_31 rfl (isB_c0 hb) (isB_n 0 (by decide) hb) rfl (isB_f0_9 hb) ?_
        refine K_iload 4 l4 dWa_isSeenOnce_68 rfl ?_
        refine K_iald (b + 16) 6 dWa_isSeenOnce_70 rfl (isB_c16 hb) (isB_n 16 (by decide) hb) (h7.2 c10).1 ?_
        refine K_icmp_ge 76 dWa_isSeenOnce_71 (by decide) (fun c12 => ?_) (fun c12 => ?_)
        · refine K_iinc 4 dWa_isSeenOnce_76 (Nat.le_of_ble_eq_true rfl) rfl (w32_ok ((h7.2 c10).2.1 c12).1) rfl ?_
          refine K_goto 5 dWa_isSeenOnce_79 (by decide) ?_
          exact ((h7.2 c10).2.1 c12).2
        · refine K_iconst 1 dWa_isSeenOnce_74 rfl ?_
          refine K_istore_n 3 dWa_isSeenOnce_75 rfl (Nat.le_of_ble_eq_true rfl) rfl ?_
          refine K_iinc 4 dWa_isSeenOnce_76 (Nat.le_of_ble_eq_true rfl) rfl (w32_ok ((h7.2 c10).2.2 c12).1) rfl ?_
          refine K_goto 5 dWa_isSeenOnce_79 (by decide) ?_
          exact ((h7.2 c10).2.2 c12).2
set_option maxHeartbeats 8000000 in
theorem vX_image_0 {E : jE} {μ : jMu} {Q : Option AV → jMu → Prop} (hF : (Ci E mX_check [jvI (iand32 (ishr32 (μ 0 13) 8) 255), jvI (iand32 (μ 0 13) 255), jvI (μ 74 0)] (j_up (j_up (j_up μ 75 0 (iand32 (ishr32 (μ 0 13) 8) 255)) 75 1 (iand32 (μ 0 13) 255)) 75 2 (μ 74 0)) (fun r4 μ1 => (Q (some (jvI 4)) (j_up (j_up μ1 75 3 r4) 0 15 1))))) : K 121 E mX_image 0 [some (jvR 0)] [] μ Q := by
  refine K_aload_n 0 0 dX_image_0 rfl rfl ?_
  refine K_getf 0 8 0 (jvR 75) dX_image_1 pf_X_77 rfl rfl (by decide) rfl rfl ?_
  refine K_iconst 0 dX_image_4 rfl ?_
  refine K_aload_n 0 0 dX_image_5 rfl rfl ?_
  refine K_getf 0 13 0 (jvI (μ 0 13)) dX_image_6 pf_X_92 rfl rfl (by decide) rfl rfl ?_
  refine K_bipush 8 dX_image_9 rfl ?_
  refine K_ishr dX_image_11 rfl ?_
  refine K_sipush 255 dX_image_12 rfl ?_
  refine K_iand dX_image_15 rfl ?_
  refine K_iast 75 4 dX_image_16 rfl rfl (by decide) (by decide) ?_
  refine K_aload_n 0 0 dX_image_17 rfl rfl ?_
  refine K_getf 0 8 0 (jvR 75) dX_image_18 pf_X_77 rfl rfl (by decide) rfl rfl ?_
  refine K_iconst 1 dX_image_21 rfl ?_
  refine K_aload_n 0 0 dX_image_22 rfl rfl ?_
  refine K_getf 0 13 0 (jvI (μ 0 13)) dX_image_23 pf_X_92 rfl rfl (by decide) rfl rfl ?_
  refine K_sipush 255 dX_image_26 rfl ?_
  refine K_iand dX_image_29 rfl ?_
  refine K_iast 75 4 dX_image_30 rfl rfl (by decide) (by decide) ?_
  refine K_aload_n 0 0 dX_image_31 rfl rfl ?_
  refine K_getf 0 8 0 (jvR 75) dX_image_32 pf_X_77 rfl rfl (by decide) rfl rfl ?_
  refine K_iconst 2 dX_image_35 rfl ?_
  refine K_aload_n 0 0 dX_image_36 rfl rfl ?_
  refine K_getf 0 7 0 (jvR 74) dX_image_37 pf_X_73 rfl rfl (by decide) rfl rfl ?_
  refine K_getf 10 0 74 (jvI (μ 74 0)) dX_image_40 pf_X_127 rfl rfl (by decide) rfl rfl ?_
  refine K_iast 75 4 dX_image_43 rfl rfl (by decide) (by decide) ?_
  refine K_aload_n 0 0 dX_image_44 rfl rfl ?_
  refine K_getf 0 8 0 (jvR 75) dX_image_45 pf_X_77 rfl rfl (by decide) rfl rfl ?_
  refine K_iconst 3 dX_image_48 rfl ?_
  refine K_aload_n 0 0 dX_image_49 rfl rfl ?_
  refine K_getf 0 8 0 (jvR 75) dX_image_50 pf_X_77 rfl rfl (by decide) rfl rfl ?_
  refine K_iconst 0 dX_image_53 rfl ?_
  refine K_iald 75 4 dX_image_54 rfl rfl (by decide) (by decide) ?_
  refine K_aload_n 0 0 dX_image_55 rfl rfl ?_
  refine K_getf 0 8 0 (jvR 75) dX_image_56 pf_X_77 rfl rfl (by decide) rfl rfl ?_
  refine K_iconst 1 dX_image_59 rfl ?_
  refine K_iald 75 4 dX_image_60 rfl rfl (by decide) (by decide) ?_
  refine K_aload_n 0 0 dX_image_61 rfl rfl ?_
  refine K_getf 0 8 0 (jvR 75) dX_image_62 pf_X_77 rfl rfl (by decide) rfl rfl ?_
  refine K_iconst 2 dX_image_65 rfl ?_
  refine K_iald 75 4 dX_image_66 rfl rfl (by decide) (by decide) ?_
  refine K_callSi mX_check [jvI (iand32 (ishr32 (μ 0 13) 8) 255), jvI (iand32 (μ 0 13) 255), jvI (μ 74 0)] dX_image_67 pm_X_398 ⟨(Nat.le_of_ble_eq_true rfl), (Nat.le_of_ble_eq_true rfl)⟩ (Nat.le_of_ble_eq_true rfl) rfl (Nat.le_of_ble_eq_true rfl) (by decide) (Ci_mono hF (fun r4 μ1 h2 => ?_))
  refine K_iast 75 4 dX_image_70 rfl rfl (by decide) (by decide) ?_
  refine K_aload_n 0 0 dX_image_71 rfl rfl ?_
  refine K_iconst 1 dX_image_72 rfl ?_
  refine K_putf 0 15 0 (x := 1) dX_image_73 pf_X_81 rfl rfl (by decide) rfl rfl rfl rfl (Or.inr rfl) ?_
  refine K_iconst 4 dX_image_76 rfl ?_
  exact K_iret dX_image_77 (Or.inl rfl) h2
set_option maxHeartbeats 8000000 in
theorem vX_check_0 {E : jE} {μ : jMu} {Q : Option AV → jMu → Prop} {a0 a1 a2 : Int} (hF : ((-2147483648 ≤ (427 + a0) ∧ (427 + a0) < 2147483648) ∧ (-2147483648 ≤ (7 * (Int.tmod (427 + a0) 247)) ∧ (7 * (Int.tmod (427 + a0) 247)) < 2147483648) ∧ (-2147483648 ≤ ((7 * (Int.tmod (427 + a0) 247)) + a1) ∧ ((7 * (Int.tmod (427 + a0) 247)) + a1) < 2147483648) ∧ (-2147483648 ≤ (7 * (Int.tmod ((7 * (Int.tmod (427 + a0) 247)) + a1) 247)) ∧ (7 * (Int.tmod ((7 * (Int.tmod (427 + a0) 247)) + a1) 247)) < 2147483648) ∧ (-2147483648 ≤ ((7 * (Int.tmod ((7 * (Int.tmod (427 + a0) 247)) + a1) 247)) + a2) ∧ ((7 * (Int.tmod ((7 * (Int.tmod (427 + a0) 247)) + a1) 247)) + a2) < 2147483648)) ∧ (Q (some (jvI (Int.tmod ((7 * (Int.tmod ((7 * (Int.tmod (427 + a0) 247)) + a1) 247)) + a2) 247))) μ)) : K 121 E mX_check 0 [some (jvI a0), some (jvI a1), some (jvI a2), none] [] μ Q := by
  refine K_sipush 427 dX_check_0 rfl ?_
  refine K_iload_n 0 a0 dX_check_3 rfl rfl ?_
  refine K_iadd dX_check_4 (w32_id hF.1.1) ?_
  refine K_sipush 247 dX_check_5 rfl ?_
  refine K_irem dX_check_8 (by decide) rfl ?_
  refine K_istore_n 3 dX_check_9 rfl (Nat.le_of_ble_eq_true rfl) rfl ?_
  refine K_bipush 7 dX_check_10 rfl ?_
  refine K_iload_n 3 (Int.tmod (427 + a0) 247) dX_check_12 rfl rfl ?_
  refine K_imul dX_check_13 (w32_id hF.1.2.1) ?_
  refine K_iload_n 1 a1 dX_check_14 rfl rfl ?_
  refine K_iadd dX_check_15 (w32_id hF.1.2.2.1) ?_
  refine K_sipush 247 dX_check_16 rfl ?_
  refine K_irem dX_check_19 (by decide) rfl ?_
  refine K_istore_n 3 dX_check_20 rfl (Nat.le_of_ble_eq_true rfl) rfl ?_
  refine K_bipush 7 dX_check_21 rfl ?_
  refine K_iload_n 3 (Int.tmod ((7 * (Int.tmod (427 + a0) 247)) + a1) 247) dX_check_23 rfl rfl ?_
  refine K_imul dX_check_24 (w32_id hF.1.2.2.2.1) ?_
  refine K_iload_n 2 a2 dX_check_25 rfl rfl ?_
  refine K_iadd dX_check_26 (w32_id hF.1.2.2.2.2) ?_
  refine K_sipush 247 dX_check_27 rfl ?_
  refine K_irem dX_check_30 (by decide) rfl ?_
  exact K_iret dX_check_31 (Or.inl rfl) hF.2
set_option maxHeartbeats 8000000 in
theorem vX_octet_0 {E : jE} {μ : jMu} {Q : Option AV → jMu → Prop} {a0 : Int} (hF : (((μ 0 15) = 0 → (Q (some (jvI (-1))) μ)) ∧ (¬ ((μ 0 15) = 0) → ((a0 < 0 → (Q (some (jvI (-1))) μ)) ∧ (¬ (a0 < 0) → ((4 ≤ a0 → (Q (some (jvI (-1))) μ)) ∧ (¬ (4 ≤ a0) → ((0 ≤ a0 ∧ a0 < 4)) ∧ (Q (some (jvI (μ 75 a0))) μ)))))))) : K 121 E mX_octet 0 [some (jvR 0), some (jvI a0)] [] μ Q := by
  refine K_aload_n 0 0 dX_octet_0 rfl rfl ?_
  refine K_getf 0 15 0 (jvI (μ 0 15)) dX_octet_1 pf_X_81 rfl rfl (by decide) rfl rfl ?_
  refine K_if_eq 25 dX_octet_4 (by decide) (fun c1 => ?_) (fun c1 => ?_)
  · refine K_iconst (-1) dX_octet_25 rfl ?_
    exact K_iret dX_octet_26 (Or.inl rfl) (hF.1 c1)
  · refine K_iload_n 1 a0 dX_octet_7 rfl rfl ?_
    refine K_if_lt 25 dX_octet_8 (by decide) (fun c4 => ?_) (fun c4 => ?_)
    · refine K_iconst (-1) dX_octet_25 rfl ?_
      exact K_iret dX_octet_26 (Or.inl rfl) ((hF.2 c1).1 c4)
    · refine K_iload_n 1 a0 dX_octet_11 rfl rfl ?_
      refine K_iconst 4 dX_octet_12 rfl ?_
      refine K_icmp_ge 25 dX_octet_13 (by decide) (fun c7 => ?_) (fun c7 => ?_)
      · refine K_iconst (-1) dX_octet_25 rfl ?_
        exact K_iret dX_octet_26 (Or.inl rfl) (((hF.2 c1).2 c4).1 c7)
      · refine K_aload_n 0 0 dX_octet_16 rfl rfl ?_
        refine K_getf 0 8 0 (jvR 75) dX_octet_17 pf_X_77 rfl rfl (by decide) rfl rfl ?_
        refine K_iload_n 1 a0 dX_octet_20 rfl rfl ?_
        refine K_iald 75 4 dX_octet_21 rfl rfl (by decide) (((hF.2 c1).2 c4).2 c7).1 ?_
        refine K_goto 26 dX_octet_22 (by decide) ?_
        exact K_iret dX_octet_26 (Or.inl rfl) (((hF.2 c1).2 c4).2 c7).2
set_option maxHeartbeats 8000000 in
theorem vX_on_0 {E : jE} {μ : jMu} {Q : Option AV → jMu → Prop} {b : Nat} (hb : isB b) (hF : (Ci E mTa_byteAt [jvR 1, jvI 0] μ (fun r4 μ1 => (Ci E mTa_byteAt [jvR 1, jvI 1] μ1 (fun r8 μ5 => (Ci E mTa_byteAt [jvR 1, jvI 2] μ5 (fun r12 μ9 => ((¬ (μ9 1 1) = 4 → (K 121 E mX_on 101 [some (jvR 0), some (jvI (ior32 (ishl32 r4 8) r8)), some (jvI r12), none] [jvI 0] μ9 Q)) ∧ ((μ9 1 1) = 4 → (Ci E mTa_byteAt [jvR 1, jvI 3] μ9 (fun r18 μ15 => (Ci E mTa_byteAt [jvR 1, jvI 0] μ15 (fun r22 μ19 => (Ci E mTa_byteAt [jvR 1, jvI 1] μ19 (fun r26 μ23 => (Ci E mX_check [jvI r22, jvI r26, jvI r12] μ23 (fun r30 μ27 => ((¬ r18 = r30 → (K 121 E mX_on 101 [some (jvR 0), some (jvI (ior32 (ishl32 r4 8) r8)), some (jvI r12), none] [jvI 0] μ27 Q)) ∧ (r18 = r30 → ((μ27 0 9) = ((b : Nat) : Int)) ∧ ((¬ (ishr32 (ior32 (ishl32 r4 8) r8) (μ27 b 12)) = 0 → (K 121 E mX_on 101 [some (jvR 0), some (jvI (ior32 (ishl32 r4 8) r8)), some (jvI r12), none] [jvI 0] μ27 Q)) ∧ ((ishr32 (ior32 (ishl32 r4 8) r8) (μ27 b 12)) = 0 → ((μ27 0 9) = ((b : Nat) : Int)) ∧ ((¬ (ishr32 r12 (μ27 b 14)) = 0 → (K 121 E mX_on 101 [some (jvR 0), some (jvI (ior32 (ishl32 r4 8) r8)), some (jvI r12), none] [jvI 0] μ27 Q)) ∧ ((ishr32 r12 (μ27 b 14)) = 0 → (K 121 E mX_on 101 [some (jvR 0), some (jvI (ior32 (ishl32 r4 8) r8)), some (jvI r12), none] [jvI 1] μ27 Q)))))))))))))))))))))))) : K 121 E mX_on 0 [some (jvR 0), none, none, none] [] μ Q := by
  refine K_aload_n 0 0 dX_on_0 rfl rfl ?_
  refine K_getf 0 0 0 (jvR 1) dX_on_1 pf_X_10 rfl rfl (by decide) rfl rfl ?_
  refine K_iconst 0 dX_on_4 rfl ?_
  refine K_callVi mTa_byteAt 8 1 [jvI 0] dX_on_5 pm_X_402 ⟨_, rfl, rfl⟩ ⟨(Nat.le_of_ble_eq_true rfl), (Nat.le_of_ble_eq_true rfl)⟩ rfl rfl (by decide) (Nat.le_of_ble_eq_true rfl) rfl (Nat.le_of_ble_eq_true rfl) (by decide) (Ci_mono hF (fun r4 μ1 h2 => ?_))
  refine K_bipush 8 dX_on_8 rfl ?_
  refine K_ishl dX_on_10 rfl ?_
  refine K_aload_n 0 0 dX_on_11 rfl rfl ?_
  refine K_getf 0 0 0 (jvR 1) dX_on_12 pf_X_10 rfl rfl (by decide) rfl rfl ?_
  refine K_iconst 1 dX_on_15 rfl ?_
  refine K_callVi mTa_byteAt 8 1 [jvI 1] dX_on_16 pm_X_402 ⟨_, rfl, rfl⟩ ⟨(Nat.le_of_ble_eq_true rfl), (Nat.le_of_ble_eq_true rfl)⟩ rfl rfl (by decide) (Nat.le_of_ble_eq_true rfl) rfl (Nat.le_of_ble_eq_true rfl) (by decide) (Ci_mono h2 (fun r8 μ5 h6 => ?_))
  refine K_ior dX_on_19 rfl ?_
  refine K_istore_n 1 dX_on_20 rfl (Nat.le_of_ble_eq_true rfl) rfl ?_
  refine K_aload_n 0 0 dX_on_21 rfl rfl ?_
  refine K_getf 0 0 0 (jvR 1) dX_on_22 pf_X_10 rfl rfl (by decide) rfl rfl ?_
  refine K_iconst 2 dX_on_25 rfl ?_
  refine K_callVi mTa_byteAt 8 1 [jvI 2] dX_on_26 pm_X_402 ⟨_, rfl, rfl⟩ ⟨(Nat.le_of_ble_eq_true rfl), (Nat.le_of_ble_eq_true rfl)⟩ rfl rfl (by decide) (Nat.le_of_ble_eq_true rfl) rfl (Nat.le_of_ble_eq_true rfl) (by decide) (Ci_mono h6 (fun r12 μ9 h10 => ?_))
  refine K_istore_n 2 dX_on_29 rfl (Nat.le_of_ble_eq_true rfl) rfl ?_
  refine K_aload_n 0 0 dX_on_30 rfl rfl ?_
  refine K_getf 0 0 0 (jvR 1) dX_on_31 pf_X_10 rfl rfl (by decide) rfl rfl ?_
  refine K_getf 8 1 1 (jvI (μ9 1 1)) dX_on_34 pf_X_107 rfl rfl (by decide) rfl rfl ?_
  refine K_iconst 4 dX_on_37 rfl ?_
  refine K_icmp_ne 100 dX_on_38 (by decide) (fun c13 => ?_) (fun c13 => ?_)
  · refine K_iconst 0 dX_on_100 rfl ?_
    exact (h10.1 c13)
  · refine K_aload_n 0 0 dX_on_41 rfl rfl ?_
    refine K_getf 0 0 0 (jvR 1) dX_on_42 pf_X_10 rfl rfl (by decide) rfl rfl ?_
    refine K_iconst 3 dX_on_45 rfl ?_
    refine K_callVi mTa_byteAt 8 1 [jvI 3] dX_on_46 pm_X_402 ⟨_, rfl, rfl⟩ ⟨(Nat.le_of_ble_eq_true rfl), (Nat.le_of_ble_eq_true rfl)⟩ rfl rfl (by decide) (Nat.le_of_ble_eq_true rfl) rfl (Nat.le_of_ble_eq_true rfl) (by decide) (Ci_mono (h10.2 c13) (fun r18 μ15 h16 => ?_))
    refine K_aload_n 0 0 dX_on_49 rfl rfl ?_
    refine K_getf 0 0 0 (jvR 1) dX_on_50 pf_X_10 rfl rfl (by decide) rfl rfl ?_
    refine K_iconst 0 dX_on_53 rfl ?_
    refine K_callVi mTa_byteAt 8 1 [jvI 0] dX_on_54 pm_X_402 ⟨_, rfl, rfl⟩ ⟨(Nat.le_of_ble_eq_true rfl), (Nat.le_of_ble_eq_true rfl)⟩ rfl rfl (by decide) (Nat.le_of_ble_eq_true rfl) rfl (Nat.le_of_ble_eq_true rfl) (by decide) (Ci_mono h16 (fun r22 μ19 h20 => ?_))
    refine K_aload_n 0 0 dX_on_57 rfl rfl ?_
    refine K_getf 0 0 0 (jvR 1) dX_on_58 pf_X_10 rfl rfl (by decide) rfl rfl ?_
    refine K_iconst 1 dX_on_61 rfl ?_
    refine K_callVi mTa_byteAt 8 1 [jvI 1] dX_on_62 pm_X_402 ⟨_, rfl, rfl⟩ ⟨(Nat.le_of_ble_eq_true rfl), (Nat.le_of_ble_eq_true rfl)⟩ rfl rfl (by decide) (Nat.le_of_ble_eq_true rfl) rfl (Nat.le_of_ble_eq_true rfl) (by decide) (Ci_mono h20 (fun r26 μ23 h24 => ?_))
    refine K_iload_n 2 r12 dX_on_65 rfl rfl ?_
    refine K_callSi mX_check [jvI r22, jvI r26, jvI r12] dX_on_66 pm_X_398 ⟨(Nat.le_of_ble_eq_true rfl), (Nat.le_of_ble_eq_true rfl)⟩ (Nat.le_of_ble_eq_true rfl) rfl (Nat.le_of_ble_eq_true rfl) (by decide) (Ci_mono h24 (fun r30 μ27 h28 => ?_))
    refine K_icmp_ne 100 dX_on_69 (by decide) (fun c31 => ?_) (fun c31 => ?_)
    · refine K_iconst 0 dX_on_100 rfl ?_
      exact (h28.1 c31)
    · refine K_iload_n 1 (ior32 (ishl32 r4 8) r8) dX_on_72 rfl rfl ?_
      refine K_aload_n 0 0 dX_on_73 rfl rfl ?_
      refine K_getf 0 9 0 (jvR ((b : Nat) : Int)) dX_on_74 pf_X_26 rfl rfl (by decide) rfl (congrArg jvR (h28.2 c31).1) ?_
      refine K_getf 2 12 b (jvI (μ27 b 12)) dX_on_77 pf_X_133 rfl (isB_c0 hb) (isB_n 0 (by decide) hb) rfl (isB_f0_12 hb) ?_
      refine K_ishr dX_on_80 rfl ?_
      refine K_if_ne 100 dX_on_81 (by decide) (fun c33 => ?_) (fun c33 => ?_)
      · refine K_iconst 0 dX_on_100 rfl ?_
        exact ((h28.2 c31).2.1 c33)
      · refine K_iload_n 2 r12 dX_on_84 rfl rfl ?_
        refine K_aload_n 0 0 dX_on_85 rfl rfl ?_
        refine K_getf 0 9 0 (jvR ((b : Nat) : Int)) dX_on_86 pf_X_26 rfl rfl (by decide) rfl (congrArg jvR ((h28.2 c31).2.2 c33).1) ?_
        refine K_getf 2 14 b (jvI (μ27 b 14)) dX_on_89 pf_X_139 rfl (isB_c0 hb) (isB_n 0 (by decide) hb) rfl (isB_f0_14 hb) ?_
        refine K_ishr dX_on_92 rfl ?_
        refine K_if_ne 100 dX_on_93 (by decide) (fun c35 => ?_) (fun c35 => ?_)
        · refine K_iconst 0 dX_on_100 rfl ?_
          exact (((h28.2 c31).2.2 c33).2.1 c35)
        · refine K_iconst 1 dX_on_96 rfl ?_
          refine K_goto 101 dX_on_97 (by decide) ?_
          exact (((h28.2 c31).2.2 c33).2.2 c35)
set_option maxHeartbeats 8000000 in
theorem vX_on_101 {E : jE} {μ : jMu} {Q : Option AV → jMu → Prop} {l1 l2 s0 : Int} (hF : ((s0 = 0 → ((s0 = 0 ∨ s0 = 1)) ∧ (Q (some (jvI s0)) (j_up μ 1 1 0))) ∧ (¬ (s0 = 0) → (Cv E mX_setWrong [jvR 0, jvI l1] (j_up (j_up μ 1 1 0) 74 0 l2) (fun μ4 => ((s0 = 0 ∨ s0 = 1)) ∧ (Q (some (jvI s0)) μ4)))))) : K 121 E mX_on 101 [some (jvR 0), some (jvI l1), some (jvI l2), none] [jvI s0] μ Q := by
  refine K_istore_n 3 dX_on_101 rfl (Nat.le_of_ble_eq_true rfl) rfl ?_
  refine K_aload_n 0 0 dX_on_102 rfl rfl ?_
  refine K_getf 0 0 0 (jvR 1) dX_on_103 pf_X_10 rfl rfl (by decide) rfl rfl ?_
  refine K_iconst 0 dX_on_106 rfl ?_
  refine K_putf 8 1 1 (x := 0) dX_on_107 pf_X_107 rfl rfl (by decide) rfl rfl rfl rfl trivial ?_
  refine K_iload_n 3 s0 dX_on_110 rfl rfl ?_
  refine K_if_eq 127 dX_on_111 (by decide) (fun c1 => ?_) (fun c1 => ?_)
  · refine K_iload_n 3 s0 dX_on_127 rfl rfl ?_
    exact K_iret dX_on_128 (Or.inr ⟨rfl, (hF.1 c1).1⟩) (hF.1 c1).2
  · refine K_aload_n 0 0 dX_on_114 rfl rfl ?_
    refine K_getf 0 7 0 (jvR 74) dX_on_115 pf_X_73 rfl rfl (by decide) rfl rfl ?_
    refine K_iload_n 2 l2 dX_on_118 rfl rfl ?_
    refine K_putf 10 0 74 (x := l2) dX_on_119 pf_X_127 rfl rfl (by decide) rfl rfl rfl rfl trivial ?_
    refine K_aload_n 0 0 dX_on_122 rfl rfl ?_
    refine K_iload_n 1 l1 dX_on_123 rfl rfl ?_
    refine K_callVv mX_setWrong 0 0 [jvI l1] dX_on_124 pm_X_130 ⟨_, rfl, rfl⟩ ⟨(Nat.le_of_ble_eq_true rfl), (Nat.le_of_ble_eq_true rfl)⟩ rfl rfl (by decide) (Nat.le_of_ble_eq_true rfl) rfl (Nat.le_of_ble_eq_true rfl) (by decide) (Cv_mono (hF.2 c1) (fun μ4 h5 => ?_))
    refine K_iload_n 3 s0 dX_on_127 rfl rfl ?_
    exact K_iret dX_on_128 (Or.inr ⟨rfl, h5.1⟩) h5.2
set_option maxHeartbeats 8000000 in
theorem vTa_byteAt_0 {E : jE} {μ : jMu} {Q : Option AV → jMu → Prop} {a0 : Int} (hF : ((a0 < 0 → (Q (some (jvI (-1))) μ)) ∧ (¬ (a0 < 0) → (((μ 1 1) ≤ a0 → (Q (some (jvI (-1))) μ)) ∧ (¬ ((μ 1 1) ≤ a0) → ((0 ≤ a0 ∧ a0 < 1600)) ∧ (Q (some (jvI (iand32 (μ 2 a0) 255))) μ)))))) : K 121 E mTa_byteAt 0 [some (jvR 1), some (jvI a0)] [] μ Q := by
  refine K_iload_n 1 a0 dTa_byteAt_0 rfl rfl ?_
  refine K_if_lt 25 dTa_byteAt_1 (by decide) (fun c1 => ?_) (fun c1 => ?_)
  · refine K_iconst (-1) dTa_byteAt_25 rfl ?_
    exact K_iret dTa_byteAt_26 (Or.inl rfl) (hF.1 c1)
  · refine K_iload_n 1 a0 dTa_byteAt_4 rfl rfl ?_
    refine K_aload_n 0 1 dTa_byteAt_5 rfl rfl ?_
    refine K_getf 8 1 1 (jvI (μ 1 1)) dTa_byteAt_6 pf_Ta_15 rfl rfl (by decide) rfl rfl ?_
    refine K_icmp_ge 25 dTa_byteAt_9 (by decide) (fun c4 => ?_) (fun c4 => ?_)
    · refine K_iconst (-1) dTa_byteAt_25 rfl ?_
      exact K_iret dTa_byteAt_26 (Or.inl rfl) ((hF.2 c1).1 c4)
    · refine K_aload_n 0 1 dTa_byteAt_12 rfl rfl ?_
      refine K_getf 8 0 1 (jvR 2) dTa_byteAt_13 pf_Ta_11 rfl rfl (by decide) rfl rfl ?_
      refine K_iload_n 1 a0 dTa_byteAt_16 rfl rfl ?_
      refine K_bald 2 1600 dTa_byteAt_17 rfl rfl (by decide) ((hF.2 c1).2 c4).1 ?_
      refine K_sipush 255 dTa_byteAt_18 rfl ?_
      refine K_iand dTa_byteAt_21 rfl ?_
      refine K_goto 26 dTa_byteAt_22 (by decide) ?_
      exact K_iret dTa_byteAt_26 (Or.inl rfl) ((hF.2 c1).2 c4).2
