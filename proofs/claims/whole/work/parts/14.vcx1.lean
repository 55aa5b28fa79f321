set_option maxHeartbeats 8000000 in
theorem vX_feed_0 {E : jE} {μ : jMu} {Q : Option AV → jMu → Prop} {a0 a1 a2 a3 a4 : Int} (hF : (Ci E mTa_hasRoom [jvR 1] μ (fun r4 μ1 => ((¬ r4 = 0 → (Cv E mTa_add [jvR 1, jvI a0] μ1 (fun μ7 => (Cv E mTa_add [jvR 1, jvI a1] μ7 (fun μ10 => (Cv E mTa_add [jvR 1, jvI a2] μ10 (fun μ13 => (Cv E mTa_add [jvR 1, jvI a3] μ13 (fun μ16 => (Cv E mTa_add [jvR 1, jvI a4] μ16 (fun μ19 => (Q (some (jvI (μ19 1 1))) μ19)))))))))))) ∧ (r4 = 0 → (Q (some (jvI (-1))) μ1)))))) : K 121 E mX_feed 0 [some (jvR 0), some (jvI a0), some (jvI a1), some (jvI a2), some (jvI a3), some (jvI a4)] [] μ Q := by
  refine K_aload_n 0 0 dX_feed_0 rfl rfl ?_
  refine K_getf 0 0 0 (jvR 1) dX_feed_1 pf_X_10 rfl rfl (by decide) rfl rfl ?_
  refine K_callVi mTa_hasRoom 8 1 [] dX_feed_4 pm_X_99 ⟨_, rfl, rfl⟩ ⟨(Nat.le_of_ble_eq_true rfl), (Nat.le_of_ble_eq_true rfl)⟩ rfl rfl (by decide) (Nat.le_of_ble_eq_true rfl) rfl (Nat.le_of_ble_eq_true rfl) (by decide) (Ci_mono hF (fun r4 μ1 h2 => ?_))
  refine K_if_ne 12 dX_feed_7 (by decide) (fun c5 => ?_) (fun c5 => ?_)
  · refine K_aload_n 0 0 dX_feed_12 rfl rfl ?_
    refine K_getf 0 0 0 (jvR 1) dX_feed_13 pf_X_10 rfl rfl (by decide) rfl rfl ?_
    refine K_iload_n 1 a0 dX_feed_16 rfl rfl ?_
    refine K_callVv mTa_add 8 1 [jvI a0] dX_feed_17 pm_X_103 ⟨_, rfl, rfl⟩ ⟨(Nat.le_of_ble_eq_true rfl), (Nat.le_of_ble_eq_true rfl)⟩ rfl rfl (by decide) (Nat.le_of_ble_eq_true rfl) rfl (Nat.le_of_ble_eq_true rfl) (by decide) (Cv_mono (h2.1 c5) (fun μ7 h8 => ?_))
    refine K_aload_n 0 0 dX_feed_20 rfl rfl ?_
    refine K_getf 0 0 0 (jvR 1) dX_feed_21 pf_X_10 rfl rfl (by decide) rfl rfl ?_
    refine K_iload_n 2 a1 dX_feed_24 rfl rfl ?_
    refine K_callVv mTa_add 8 1 [jvI a1] dX_feed_25 pm_X_103 ⟨_, rfl, rfl⟩ ⟨(Nat.le_of_ble_eq_true rfl), (Nat.le_of_ble_eq_true rfl)⟩ rfl rfl (by decide) (Nat.le_of_ble_eq_true rfl) rfl (Nat.le_of_ble_eq_true rfl) (by decide) (Cv_mono h8 (fun μ10 h11 => ?_))
    refine K_aload_n 0 0 dX_feed_28 rfl rfl ?_
    refine K_getf 0 0 0 (jvR 1) dX_feed_29 pf_X_10 rfl rfl (by decide) rfl rfl ?_
    refine K_iload_n 3 a2 dX_feed_32 rfl rfl ?_
    refine K_callVv mTa_add 8 1 [jvI a2] dX_feed_33 pm_X_103 ⟨_, rfl, rfl⟩ ⟨(Nat.le_of_ble_eq_true rfl), (Nat.le_of_ble_eq_true rfl)⟩ rfl rfl (by decide) (Nat.le_of_ble_eq_true rfl) rfl (Nat.le_of_ble_eq_true rfl) (by decide) (Cv_mono h11 (fun μ13 h14 => ?_))
    refine K_aload_n 0 0 dX_feed_36 rfl rfl ?_
    refine K_getf 0 0 0 (jvR 1) dX_feed_37 pf_X_10 rfl rfl (by decide) rfl rfl ?_
    refine K_iload 4 a3 dX_feed_40 rfl ?_
    refine K_callVv mTa_add 8 1 [jvI a3] dX_feed_42 pm_X_103 ⟨_, rfl, rfl⟩ ⟨(Nat.le_of_ble_eq_true rfl), (Nat.le_of_ble_eq_true rfl)⟩ rfl rfl (by decide) (Nat.le_of_ble_eq_true rfl) rfl (Nat.le_of_ble_eq_true rfl) (by decide) (Cv_mono h14 (fun μ16 h17 => ?_))
    refine K_aload_n 0 0 dX_feed_45 rfl rfl ?_
    refine K_getf 0 0 0 (jvR 1) dX_feed_46 pf_X_10 rfl rfl (by decide) rfl rfl ?_
    refine K_iload 5 a4 dX_feed_49 rfl ?_
    refine K_callVv mTa_add 8 1 [jvI a4] dX_feed_51 pm_X_103 ⟨_, rfl, rfl⟩ ⟨(Nat.le_of_ble_eq_true rfl), (Nat.le_of_ble_eq_true rfl)⟩ rfl rfl (by decide) (Nat.le_of_ble_eq_true rfl) rfl (Nat.le_of_ble_eq_true rfl) (by decide) (Cv_mono h17 (fun μ19 h20 => ?_))
    refine K_aload_n 0 0 dX_feed_54 rfl rfl ?_
    refine K_getf 0 0 0 (jvR 1) dX_feed_55 pf_X_10 rfl rfl (by decide) rfl rfl ?_
    refine K_getf 8 1 1 (jvI (μ19 1 1)) dX_feed_58 pf_X_107 rfl rfl (by decide) rfl rfl ?_
    exact K_iret dX_feed_61 (Or.inl rfl) h20
  · refine K_iconst (-1) dX_feed_10 rfl ?_
    exact K_iret dX_feed_11 (Or.inl rfl) (h2.2 c5)
set_option maxHeartbeats 8000000 in
theorem vTa_hasRoom_0 {E : jE} {μ : jMu} {Q : Option AV → jMu → Prop} (hF : ((-2147483648 ≤ ((μ 1 1) + 20) ∧ ((μ 1 1) + 20) < 2147483648)) ∧ ((1600 < ((μ 1 1) + 20) → (Q (some (jvI 0)) μ)) ∧ (¬ (1600 < ((μ 1 1) + 20)) → (Q (some (jvI 1)) μ)))) : K 121 E mTa_hasRoom 0 [some (jvR 1)] [] μ Q := by
  refine K_aload_n 0 1 dTa_hasRoom_0 rfl rfl ?_
  refine K_getf 8 1 1 (jvI (μ 1 1)) dTa_hasRoom_1 pf_Ta_15 rfl rfl (by decide) rfl rfl ?_
  refine K_bipush 20 dTa_hasRoom_4 rfl ?_
  refine K_iadd dTa_hasRoom_6 (w32_id hF.1) ?_
  refine K_sipush 1600 dTa_hasRoom_7 rfl ?_
  refine K_icmp_gt 17 dTa_hasRoom_10 (by decide) (fun c1 => ?_) (fun c1 => ?_)
  · refine K_iconst 0 dTa_hasRoom_17 rfl ?_
    exact K_iret dTa_hasRoom_18 (Or.inr ⟨rfl, (by decide)⟩) (hF.2.1 c1)
  · refine K_iconst 1 dTa_hasRoom_13 rfl ?_
    refine K_goto 18 dTa_hasRoom_14 (by decide) ?_
    exact K_iret dTa_hasRoom_18 (Or.inr ⟨rfl, (by decide)⟩) (hF.2.2 c1)
set_option maxHeartbeats 8000000 in
theorem vTa_add_0 {E : jE} {μ : jMu} {Q : Option AV → jMu → Prop} {a0 : Int} (hF : (K 121 E mTa_add 3 [some (jvR 1), some (jvI a0), some (jvI 24)] [] μ Q)) : K 121 E mTa_add 0 [some (jvR 1), some (jvI a0), none] [] μ Q := by
  refine K_bipush 24 dTa_add_0 rfl ?_
  refine K_istore_n 2 dTa_add_2 rfl (Nat.le_of_ble_eq_true rfl) rfl ?_
  exact hF
set_option maxHeartbeats 8000000 in
theorem vTa_add_3 {E : jE} {μ : jMu} {Q : Option AV → jMu → Prop} {l1 l2 : Int} (hF : ((l2 < 0 → (Q none μ)) ∧ (¬ (l2 < 0) → ((1600 ≤ (μ 1 1) → (Q none μ)) ∧ (¬ (1600 ≤ (μ 1 1)) → ((0 ≤ (μ 1 1) ∧ (μ 1 1) < 1600) ∧ (-2147483648 ≤ ((μ 1 1) + 1) ∧ ((μ 1 1) + 1) < 2147483648) ∧ (-2147483648 ≤ (l2 - 8) ∧ (l2 - 8) < 2147483648)) ∧ (K 121 E mTa_add 3 [some (jvR 1), some (jvI l1), some (jvI (l2 - 8))] [] (j_up (j_up μ 2 (μ 1 1) (i2b32 (i2b32 (ishr32 l1 l2)))) 1 1 ((μ 1 1) + 1)) Q)))))) : K 121 E mTa_add 3 [some (jvR 1), some (jvI l1), some (jvI l2)] [] μ Q := by
  refine K_iload_n 2 l2 dTa_add_3 rfl rfl ?_
  refine K_if_lt 46 dTa_add_4 (by decide) (fun c1 => ?_) (fun c1 => ?_)
  · exact K_vret dTa_add_46 rfl (hF.1 c1)
  · refine K_aload_n 0 1 dTa_add_7 rfl rfl ?_
    refine K_getf 8 1 1 (jvI (μ 1 1)) dTa_add_8 pf_Ta_15 rfl rfl (by decide) rfl rfl ?_
    refine K_sipush 1600 dTa_add_11 rfl ?_
    refine K_icmp_ge 46 dTa_add_14 (by decide) (fun c4 => ?_) (fun c4 => ?_)
    · exact K_vret dTa_add_46 rfl ((hF.2 c1).1 c4)
    · refine K_aload_n 0 1 dTa_add_17 rfl rfl ?_
      refine K_getf 8 0 1 (jvR 2) dTa_add_18 pf_Ta_11 rfl rfl (by decide) rfl rfl ?_
      refine K_aload_n 0 1 dTa_add_21 rfl rfl ?_
      refine K_getf 8 1 1 (jvI (μ 1 1)) dTa_add_22 pf_Ta_15 rfl rfl (by decide) rfl rfl ?_
      refine K_iload_n 1 l1 dTa_add_25 rfl rfl ?_
      refine K_iload_n 2 l2 dTa_add_26 rfl rfl ?_
      refine K_ishr dTa_add_27 rfl ?_
      refine K_i2b dTa_add_28 rfl ?_
      refine K_bast 2 1600 dTa_add_29 rfl rfl (by decide) ((hF.2 c1).2 c4).1.1 ?_
      refine K_aload_n 0 1 dTa_add_30 rfl rfl ?_
      refine K_dup dTa_add_31 (fun _ h => by cases h) ?_
      refine K_getf 8 1 1 (jvI (μ 1 1)) dTa_add_32 pf_Ta_15 rfl rfl (by decide) rfl rfl ?_
      refine K_iconst 1 dTa_add_35 rfl ?_
      refine K_iadd dTa_add_36 (w32_id ((hF.2 c1).2 c4).1.2.1) ?_
      refine K_putf 8 1 1 (x := ((μ 1 1) + 1)) dTa_add_37 pf_Ta_15 rfl rfl (by decide) rfl rfl rfl rfl trivial ?_
      refine K_iinc 2 dTa_add_40 (Nat.le_of_ble_eq_true rfl) rfl (w32_okn ((hF.2 c1).2 c4).1.2.2) rfl ?_
      refine K_goto 3 dTa_add_43 (by decide) ?_
      exact ((hF.2 c1).2 c4).2
set_option maxHeartbeats 8000000 in
theorem vX_end_0 {E : jE} {μ : jMu} {Q : Option AV → jMu → Prop} {a0 : Int} (hF : ((a0 < 0 → (Q (some (jvI 0)) μ)) ∧ (¬ (a0 < 0) → ((a0 ≤ (μ 1 1) → (Q (some (jvI 1)) (j_up μ 1 1 a0))) ∧ (¬ (a0 ≤ (μ 1 1)) → (Q (some (jvI 0)) μ)))))) : K 121 E mX_end 0 [some (jvR 0), some (jvI a0)] [] μ Q := by
  refine K_iload_n 1 a0 dX_end_0 rfl rfl ?_
  refine K_if_lt 15 dX_end_1 (by decide) (fun c1 => ?_) (fun c1 => ?_)
  · refine K_iconst 0 dX_end_15 rfl ?_
    exact K_iret dX_end_16 (Or.inr ⟨rfl, (by decide)⟩) (hF.1 c1)
  · refine K_iload_n 1 a0 dX_end_4 rfl rfl ?_
    refine K_aload_n 0 0 dX_end_5 rfl rfl ?_
    refine K_getf 0 0 0 (jvR 1) dX_end_6 pf_X_10 rfl rfl (by decide) rfl rfl ?_
    refine K_getf 8 1 1 (jvI (μ 1 1)) dX_end_9 pf_X_107 rfl rfl (by decide) rfl rfl ?_
    refine K_icmp_le 17 dX_end_12 (by decide) (fun c4 => ?_) (fun c4 => ?_)
    · refine K_aload_n 0 0 dX_end_17 rfl rfl ?_
      refine K_getf 0 0 0 (jvR 1) dX_end_18 pf_X_10 rfl rfl (by decide) rfl rfl ?_
      refine K_iload_n 1 a0 dX_end_21 rfl rfl ?_
      refine K_putf 8 1 1 (x := a0) dX_end_22 pf_X_107 rfl rfl (by decide) rfl rfl rfl rfl trivial ?_
      refine K_iconst 1 dX_end_25 rfl ?_
      exact K_iret dX_end_26 (Or.inr ⟨rfl, (by decide)⟩) ((hF.2 c1).1 c4)
    · refine K_iconst 0 dX_end_15 rfl ?_
      exact K_iret dX_end_16 (Or.inr ⟨rfl, (by decide)⟩) ((hF.2 c1).2 c4)
set_option maxHeartbeats 8000000 in
theorem vX_proof_0 {E : jE} {μ : jMu} {Q : Option AV → jMu → Prop} {b : Nat} (hb : isB b) {b2 : Nat} (hb2 : isB b2) (hF : ((μ 0 10) = ((b2 : Nat) : Int)) ∧ (Ci E mPa_parse [jvR 3, jvR 1, jvR ((b2 : Nat) : Int)] μ (fun r4 μ1 => ((¬ r4 = (-1) → ((μ1 0 10) = ((b2 : Nat) : Int) ∧ (μ1 0 9) = ((b : Nat) : Int)) ∧ (Cv E mFa_study [jvR 45, jvR ((b2 : Nat) : Int)] (j_up (j_up (j_up (j_up (j_up μ1 1 1 0) 0 11 (μ1 3 8)) 0 12 (μ1 3 9)) 0 10 b) 0 9 b2) (fun μ7 => (Cv E mX_setWrong [jvR 0, jvI 0] (j_up (j_up (j_up μ7 63 0 0) 64 4 0) 74 0 0) (fun μ10 => (Q (some (jvI r4)) μ10)))))) ∧ (r4 = (-1) → (Q (some (jvI (-1))) (j_up (j_up (j_up μ1 1 1 0) 0 11 (μ1 3 8)) 0 12 (μ1 3 9)))))))) : K 121 E mX_proof 0 [some (jvR 0), none, none] [] μ Q := by
  refine K_aload_n 0 0 dX_proof_0 rfl rfl ?_
  refine K_getf 0 1 0 (jvR 3) dX_proof_1 pf_X_19 rfl rfl (by decide) rfl rfl ?_
  refine K_aload_n 0 0 dX_proof_4 rfl rfl ?_
  refine K_getf 0 0 0 (jvR 1) dX_proof_5 pf_X_10 rfl rfl (by decide) rfl rfl ?_
  refine K_aload_n 0 0 dX_proof_8 rfl rfl ?_
  refine K_getf 0 10 0 (jvR ((b2 : Nat) : Int)) dX_proof_9 pf_X_30 rfl rfl (by decide) rfl (congrArg jvR hF.1) ?_
  refine K_callVi mPa_parse 5 3 [jvR 1, jvR ((b2 : Nat) : Int)] dX_proof_12 pm_X_110 ⟨_, rfl, rfl⟩ ⟨(Nat.le_of_ble_eq_true rfl), (Nat.le_of_ble_eq_true rfl)⟩ rfl rfl (by decide) (Nat.le_of_ble_eq_true rfl) rfl (Nat.le_of_ble_eq_true rfl) (by decide) (Ci_mono hF.2 (fun r4 μ1 h2 => ?_))
  refine K_istore_n 1 dX_proof_15 rfl (Nat.le_of_ble_eq_true rfl) rfl ?_
  refine K_aload_n 0 0 dX_proof_16 rfl rfl ?_
  refine K_getf 0 0 0 (jvR 1) dX_proof_17 pf_X_10 rfl rfl (by decide) rfl rfl ?_
  refine K_iconst 0 dX_proof_20 rfl ?_
  refine K_putf 8 1 1 (x := 0) dX_proof_21 pf_X_107 rfl rfl (by decide) rfl rfl rfl rfl trivial ?_
  refine K_aload_n 0 0 dX_proof_24 rfl rfl ?_
  refine K_aload_n 0 0 dX_proof_25 rfl rfl ?_
  refine K_getf 0 1 0 (jvR 3) dX_proof_26 pf_X_19 rfl rfl (by decide) rfl rfl ?_
  refine K_getf 5 8 3 (jvI (μ1 3 8)) dX_proof_29 pf_X_114 rfl rfl (by decide) rfl rfl ?_
  refine K_putf 0 11 0 (x := (μ1 3 8)) dX_proof_32 pf_X_85 rfl rfl (by decide) rfl rfl rfl rfl trivial ?_
  refine K_aload_n 0 0 dX_proof_35 rfl rfl ?_
  refine K_aload_n 0 0 dX_proof_36 rfl rfl ?_
  refine K_getf 0 1 0 (jvR 3) dX_proof_37 pf_X_19 rfl rfl (by decide) rfl rfl ?_
  refine K_getf 5 9 3 (jvI (μ1 3 9)) dX_proof_40 pf_X_117 rfl rfl (by decide) rfl rfl ?_
  refine K_putf 0 12 0 (x := (μ1 3 9)) dX_proof_43 pf_X_89 rfl rfl (by decide) rfl rfl rfl rfl trivial ?_
  refine K_iload_n 1 r4 dX_proof_46 rfl rfl ?_
  refine K_iconst (-1) dX_proof_47 rfl ?_
  refine K_icmp_ne 53 dX_proof_48 (by decide) (fun c5 => ?_) (fun c5 => ?_)
  · refine K_aload_n 0 0 dX_proof_53 rfl rfl ?_
    refine K_getf 0 10 0 (jvR ((b2 : Nat) : Int)) dX_proof_54 pf_X_30 rfl rfl (by decide) rfl (congrArg jvR (h2.1 c5).1.1) ?_
    refine K_astore_n 2 dX_proof_57 rfl (Nat.le_of_ble_eq_true rfl) rfl ?_
    refine K_aload_n 0 0 dX_proof_58 rfl rfl ?_
    refine K_aload_n 0 0 dX_proof_59 rfl rfl ?_
    refine K_getf 0 9 0 (jvR ((b : Nat) : Int)) dX_proof_60 pf_X_26 rfl rfl (by decide) rfl (congrArg jvR (h2.1 c5).1.2) ?_
    refine K_putf 0 10 0 (x := ((b : Nat) : Int)) dX_proof_63 pf_X_30 rfl rfl (by decide) rfl rfl rfl rfl trivial ?_
    refine K_aload_n 0 0 dX_proof_66 rfl rfl ?_
    refine K_aload_n 2 ((b2 : Nat) : Int) dX_proof_67 rfl rfl ?_
    refine K_putf 0 9 0 (x := ((b2 : Nat) : Int)) dX_proof_68 pf_X_26 rfl rfl (by decide) rfl rfl rfl rfl trivial ?_
    refine K_aload_n 0 0 dX_proof_71 rfl rfl ?_
    refine K_getf 0 2 0 (jvR 45) dX_proof_72 pf_X_38 rfl rfl (by decide) rfl rfl ?_
    refine K_aload_n 2 ((b2 : Nat) : Int) dX_proof_75 rfl rfl ?_
    refine K_callVv mFa_study 3 45 [jvR ((b2 : Nat) : Int)] dX_proof_76 pm_X_120 ⟨_, rfl, rfl⟩ ⟨(Nat.le_of_ble_eq_true rfl), (Nat.le_of_ble_eq_true rfl)⟩ rfl rfl (by decide) (Nat.le_of_ble_eq_true rfl) rfl (Nat.le_of_ble_eq_true rfl) (by decide) (Cv_mono (h2.1 c5).2 (fun μ7 h8 => ?_))
    refine K_aload_n 0 0 dX_proof_79 rfl rfl ?_
    refine K_getf 0 4 0 (jvR 63) dX_proof_80 pf_X_52 rfl rfl (by decide) rfl rfl ?_
    refine K_iconst 0 dX_proof_83 rfl ?_
    refine K_putf 7 0 63 (x := 0) dX_proof_84 pf_X_123 rfl rfl (by decide) rfl rfl rfl rfl (Or.inl rfl) ?_
    refine K_aload_n 0 0 dX_proof_87 rfl rfl ?_
    refine K_getf 0 5 0 (jvR 64) dX_proof_88 pf_X_59 rfl rfl (by decide) rfl rfl ?_
    refine K_iconst 0 dX_proof_91 rfl ?_
    refine K_putf 4 4 64 (x := 0) dX_proof_92 pf_X_126 rfl rfl (by decide) rfl rfl rfl rfl (Or.inl rfl) ?_
    refine K_aload_n 0 0 dX_proof_95 rfl rfl ?_
    refine K_getf 0 7 0 (jvR 74) dX_proof_96 pf_X_73 rfl rfl (by decide) rfl rfl ?_
    refine K_iconst 0 dX_proof_99 rfl ?_
    refine K_putf 10 0 74 (x := 0) dX_proof_100 pf_X_127 rfl rfl (by decide) rfl rfl rfl rfl trivial ?_
    refine K_aload_n 0 0 dX_proof_103 rfl rfl ?_
    refine K_iconst 0 dX_proof_104 rfl ?_
    refine K_callVv mX_setWrong 0 0 [jvI 0] dX_proof_105 pm_X_130 ⟨_, rfl, rfl⟩ ⟨(Nat.le_of_ble_eq_true rfl), (Nat.le_of_ble_eq_true rfl)⟩ rfl rfl (by decide) (Nat.le_of_ble_eq_true rfl) rfl (Nat.le_of_ble_eq_true rfl) (by decide) (Cv_mono h8 (fun μ10 h11 => ?_))
    refine K_iload_n 1 r4 dX_proof_108 rfl rfl ?_
    exact K_iret dX_proof_109 (Or.inl rfl) h11
  · refine K_iconst (-1) dX_proof_51 rfl ?_
    exact K_iret dX_proof_52 (Or.inl rfl) (h2.2 c5)
set_option maxHeartbeats 8000000 in
theorem vPa_parse_0 {E : jE} {μ : jMu} {Q : Option AV → jMu → Prop} {b : Nat} (hb : isB b) (hF : (Cv E mBk_clear [jvR ((b : Nat) : Int)] (j_up (j_up μ 3 4 1) 3 5 b) (fun μ1 => ((μ1 3 4) = 1) ∧ (Cv E mTa_rewind [jvR 1] (j_up (j_up (j_up μ1 3 6 (-1)) 3 8 0) 3 9 (-1)) (fun μ4 => (K 121 E mPa_parse 41 [some (jvR 3), some (jvR 1), some (jvR ((b : Nat) : Int)), some (jvI 0)] [] μ4 Q)))))) : K 121 E mPa_parse 0 [some (jvR 3), some (jvR 1), some (jvR ((b : Nat) : Int)), none] [] μ Q := by
  refine K_aload_n 0 3 dPa_parse_0 rfl rfl ?_
  refine K_aload_n 1 1 dPa_parse_1 rfl rfl ?_
  refine K_putf 5 4 3 (x := 1) dPa_parse_2 pf_Pa_25 rfl rfl (by decide) rfl rfl rfl rfl trivial ?_
  refine K_aload_n 0 3 dPa_parse_5 rfl rfl ?_
  refine K_aload_n 2 ((b : Nat) : Int) dPa_parse_6 rfl rfl ?_
  refine K_putf 5 5 3 (x := ((b : Nat) : Int)) dPa_parse_7 pf_Pa_29 rfl rfl (by decide) rfl rfl rfl rfl trivial ?_
  refine K_aload_n 0 3 dPa_parse_10 rfl rfl ?_
  refine K_getf 5 5 3 (jvR ((b : Nat) : Int)) dPa_parse_11 pf_Pa_29 rfl rfl (by decide) rfl rfl ?_
  refine K_callVv mBk_clear 2 b [] dPa_parse_14 pm_Pa_33 ⟨_, rfl, rfl⟩ ⟨(Nat.le_of_ble_eq_true rfl), (Nat.le_of_ble_eq_true rfl)⟩ rfl (isB_c0 hb) (isB_n 0 (by decide) hb) (Nat.le_of_ble_eq_true rfl) rfl (Nat.le_of_ble_eq_true rfl) (by decide) (Cv_mono hF (fun μ1 h2 => ?_))
  refine K_aload_n 0 3 dPa_parse_17 rfl rfl ?_
  refine K_iconst (-1) dPa_parse_18 rfl ?_
  refine K_putf 5 6 3 (x := (-1)) dPa_parse_19 pf_Pa_38 rfl rfl (by decide) rfl rfl rfl rfl trivial ?_
  refine K_aload_n 0 3 dPa_parse_22 rfl rfl ?_
  refine K_iconst 0 dPa_parse_23 rfl ?_
  refine K_putf 5 8 3 (x := 0) dPa_parse_24 pf_Pa_41 rfl rfl (by decide) rfl rfl rfl rfl trivial ?_
  refine K_aload_n 0 3 dPa_parse_27 rfl rfl ?_
  refine K_iconst (-1) dPa_parse_28 rfl ?_
  refine K_putf 5 9 3 (x := (-1)) dPa_parse_29 pf_Pa_21 rfl rfl (by decide) rfl rfl rfl rfl trivial ?_
  refine K_aload_n 0 3 dPa_parse_32 rfl rfl ?_
  refine K_getf 5 4 3 (jvR 1) dPa_parse_33 pf_Pa_25 rfl rfl (by decide) rfl (congrArg jvR h2.1) ?_
  refine K_callVv mTa_rewind 8 1 [] dPa_parse_36 pm_Pa_44 ⟨_, rfl, rfl⟩ ⟨(Nat.le_of_ble_eq_true rfl), (Nat.le_of_ble_eq_true rfl)⟩ rfl rfl (by decide) (Nat.le_of_ble_eq_true rfl) rfl (Nat.le_of_ble_eq_true rfl) (by decide) (Cv_mono h2.2 (fun μ4 h5 => ?_))
  refine K_iconst 0 dPa_parse_39 rfl ?_
  refine K_istore_n 3 dPa_parse_40 rfl (Nat.le_of_ble_eq_true rfl) rfl ?_
  exact h5
set_option maxHeartbeats 8000000 in
theorem vPa_parse_41 {E : jE} {μ : jMu} {Q : Option AV → jMu → Prop} {b : Nat} (hb : isB b) {l3 : Int} (hF : ((80 ≤ l3 → ((μ 3 4) = 1) ∧ (((μ 1 2) = 0 → ((μ 3 5) = ((b : Nat) : Int)) ∧ ((¬ (μ 3 6) = (-1) → (Q (some (jvI l3)) (j_up μ b 15 (μ 3 6)))) ∧ ((μ 3 6) = (-1) → ((μ 3 5) = ((b : Nat) : Int) ∧ (-2147483648 ≤ ((μ b 13) - 1) ∧ ((μ b 13) - 1) < 2147483648)) ∧ (Q (some (jvI l3)) (j_up μ b 15 ((μ b 13) - 1)))))) ∧ (¬ ((μ 1 2) = 0) → ((μ 3 4) = 1) ∧ (Ci E mPa_refuse [jvR 3, jvI 5, jvI (μ 1 3)] μ (fun r12 μ9 => (Q (some (jvI (-1))) μ9)))))) ∧ (¬ (80 ≤ l3) → ((μ 3 4) = 1) ∧ (((μ 1 2) = 0 → ((μ 3 4) = 1) ∧ (((μ 1 2) = 0 → ((μ 3 5) = ((b : Nat) : Int)) ∧ ((¬ (μ 3 6) = (-1) → (Q (some (jvI l3)) (j_up μ b 15 (μ 3 6)))) ∧ ((μ 3 6) = (-1) → ((μ 3 5) = ((b : Nat) : Int) ∧ (-2147483648 ≤ ((μ b 13) - 1) ∧ ((μ b 13) - 1) < 2147483648)) ∧ (Q (some (jvI l3)) (j_up μ b 15 ((μ b 13) - 1)))))) ∧ (¬ ((μ 1 2) = 0) → ((μ 3 4) = 1) ∧ (Ci E mPa_refuse [jvR 3, jvI 5, jvI (μ 1 3)] μ (fun r25 μ22 => (Q (some (jvI (-1))) μ22)))))) ∧ (¬ ((μ 1 2) = 0) → (Ci E mPa_readStatement [jvR 3] μ (fun r30 μ27 => ((¬ r30 = 0 → ((-2147483648 ≤ (l3 + 1) ∧ (l3 + 1) < 2147483648)) ∧ (K 121 E mPa_parse 41 [some (jvR 3), some (jvR 1), some (jvR ((b : Nat) : Int)), some (jvI (l3 + 1))] [] μ27 Q)) ∧ (r30 = 0 → (Q (some (jvI (-1))) μ27)))))))))) : K 121 E mPa_parse 41 [some (jvR 3), some (jvR 1), some (jvR ((b : Nat) : Int)), some (jvI l3)] [] μ Q := by
  refine K_iload_n 3 l3 dPa_parse_41 rfl rfl ?_
  refine K_bipush 80 dPa_parse_42 rfl ?_
  refine K_icmp_ge 72 dPa_parse_44 (by decide) (fun c1 => ?_) (fun c1 => ?_)
  · refine K_aload_n 0 3 dPa_parse_72 rfl rfl ?_
    refine K_getf 5 4 3 (jvR 1) dPa_parse_73 pf_Pa_25 rfl rfl (by decide) rfl (congrArg jvR (hF.1 c1).1) ?_
    refine K_getf 8 2 1 (jvI (μ 1 2)) dPa_parse_76 pf_Pa_49 rfl rfl (by decide) rfl rfl ?_
    refine K_if_eq 97 dPa_parse_79 (by decide) (fun c3 => ?_) (fun c3 => ?_)
    · refine K_aload_n 0 3 dPa_parse_97 rfl rfl ?_
      refine K_getf 5 5 3 (jvR ((b : Nat) : Int)) dPa_parse_98 pf_Pa_29 rfl rfl (by decide) rfl (congrArg jvR ((hF.1 c1).2.1 c3).1) ?_
      refine K_aload_n 0 3 dPa_parse_101 rfl rfl ?_
      refine K_getf 5 6 3 (jvI (μ 3 6)) dPa_parse_102 pf_Pa_38 rfl rfl (by decide) rfl rfl ?_
      refine K_iconst (-1) dPa_parse_105 rfl ?_
      refine K_icmp_ne 121 dPa_parse_106 (by decide) (fun c5 => ?_) (fun c5 => ?_)
      · refine K_aload_n 0 3 dPa_parse_121 rfl rfl ?_
        refine K_getf 5 6 3 (jvI (μ 3 6)) dPa_parse_122 pf_Pa_38 rfl rfl (by decide) rfl rfl ?_
        refine K_putf 2 15 b (x := (μ 3 6)) dPa_parse_125 pf_Pa_64 rfl (isB_c0 hb) (isB_n 0 (by decide) hb) rfl rfl (isB_x0_15 hb) rfl trivial ?_
        refine K_iload_n 3 l3 dPa_parse_128 rfl rfl ?_
        exact K_iret dPa_parse_129 (Or.inl rfl) (((hF.1 c1).2.1 c3).2.1 c5)
      · refine K_aload_n 0 3 dPa_parse_109 rfl rfl ?_
        refine K_getf 5 5 3 (jvR ((b : Nat) : Int)) dPa_parse_110 pf_Pa_29 rfl rfl (by decide) rfl (congrArg jvR (((hF.1 c1).2.1 c3).2.2 c5).1.1) ?_
        refine K_getf 2 13 b (jvI (μ b 13)) dPa_parse_113 pf_Pa_61 rfl (isB_c0 hb) (isB_n 0 (by decide) hb) rfl (isB_f0_13 hb) ?_
        refine K_iconst 1 dPa_parse_116 rfl ?_
        refine K_isub dPa_parse_117 (w32_id (((hF.1 c1).2.1 c3).2.2 c5).1.2) ?_
        refine K_goto 125 dPa_parse_118 (by decide) ?_
        refine K_putf 2 15 b (x := ((μ b 13) - 1)) dPa_parse_125 pf_Pa_64 rfl (isB_c0 hb) (isB_n 0 (by decide) hb) rfl rfl (isB_x0_15 hb) rfl trivial ?_
        refine K_iload_n 3 l3 dPa_parse_128 rfl rfl ?_
        exact K_iret dPa_parse_129 (Or.inl rfl) (((hF.1 c1).2.1 c3).2.2 c5).2
    · refine K_aload_n 0 3 dPa_parse_82 rfl rfl ?_
      refine K_iconst 5 dPa_parse_83 rfl ?_
      refine K_aload_n 0 3 dPa_parse_84 rfl rfl ?_
      refine K_getf 5 4 3 (jvR 1) dPa_parse_85 pf_Pa_25 rfl rfl (by decide) rfl (congrArg jvR ((hF.1 c1).2.2 c3).1) ?_
      refine K_getf 8 3 1 (jvI (μ 1 3)) dPa_parse_88 pf_Pa_56 rfl rfl (by decide) rfl rfl ?_
      refine K_callVi mPa_refuse 5 3 [jvI 5, jvI (μ 1 3)] dPa_parse_91 pm_Pa_57 ⟨_, rfl, rfl⟩ ⟨(Nat.le_of_ble_eq_true rfl), (Nat.le_of_ble_eq_true rfl)⟩ rfl rfl (by decide) (Nat.le_of_ble_eq_true rfl) rfl (Nat.le_of_ble_eq_true rfl) (by decide) (Ci_mono ((hF.1 c1).2.2 c3).2 (fun r12 μ9 h10 => ?_))
      refine K_pop dPa_parse_94 (fun _ h => by cases h) ?_
      refine K_iconst (-1) dPa_parse_95 rfl ?_
      exact K_iret dPa_parse_96 (Or.inl rfl) h10
  · refine K_aload_n 0 3 dPa_parse_47 rfl rfl ?_
    refine K_getf 5 4 3 (jvR 1) dPa_parse_48 pf_Pa_25 rfl rfl (by decide) rfl (congrArg jvR (hF.2 c1).1) ?_
    refine K_getf 8 2 1 (jvI (μ 1 2)) dPa_parse_51 pf_Pa_49 rfl rfl (by decide) rfl rfl ?_
    refine K_if_eq 72 dPa_parse_54 (by decide) (fun c14 => ?_) (fun c14 => ?_)
    · refine K_aload_n 0 3 dPa_parse_72 rfl rfl ?_
      refine K_getf 5 4 3 (jvR 1) dPa_parse_73 pf_Pa_25 rfl rfl (by decide) rfl (congrArg jvR ((hF.2 c1).2.1 c14).1) ?_
      refine K_getf 8 2 1 (jvI (μ 1 2)) dPa_parse_76 pf_Pa_49 rfl rfl (by decide) rfl rfl ?_
      refine K_if_eq 97 dPa_parse_79 (by decide) (fun c16 => ?_) (fun c16 => ?_)
      · refine K_aload_n 0 3 dPa_parse_97 rfl rfl ?_
        refine K_getf 5 5 3 (jvR ((b : Nat) : Int)) dPa_parse_98 pf_Pa_29 rfl rfl (by decide) rfl (congrArg jvR (((hF.2 c1).2.1 c14).2.1 c16).1) ?_
        refine K_aload_n 0 3 dPa_parse_101 rfl rfl ?_
        refine K_getf 5 6 3 (jvI (μ 3 6)) dPa_parse_102 pf_Pa_38 rfl rfl (by decide) rfl rfl ?_
        refine K_iconst (-1) dPa_parse_105 rfl ?_
        refine K_icmp_ne 121 dPa_parse_106 (by decide) (fun c18 => ?_) (fun c18 => ?_)
        · refine K_aload_n 0 3 dPa_parse_121 rfl rfl ?_
          refine K_getf 5 6 3 (jvI (μ 3 6)) dPa_parse_122 pf_Pa_38 rfl rfl (by decide) rfl rfl ?_
          refine K_putf 2 15 b (x := (μ 3 6)) dPa_parse_125 pf_Pa_64 rfl (isB_c0 hb) (isB_n 0 (by decide) hb) rfl rfl (isB_x0_15 hb) rfl trivial ?_
          refine K_iload_n 3 l3 dPa_parse_128 rfl rfl ?_
          exact K_iret dPa_parse_129 (Or.inl rfl) ((((hF.2 c1).2.1 c14).2.1 c16).2.1 c18)
        · refine K_aload_n 0 3 dPa_parse_109 rfl rfl ?_
          refine K_getf 5 5 3 (jvR ((b : Nat) : Int)) dPa_parse_110 pf_Pa_29 rfl rfl (by decide) rfl (congrArg jvR ((((hF.2 c1).2.1 c14).2.1 c16).2.2 c18).1.1) ?_
          refine K_getf 2 13 b (jvI (μ b 13)) dPa_parse_113 pf_Pa_61 rfl (isB_c0 hb) (isB_n 0 (by decide) hb) rfl (isB_f0_13 hb) ?_
          refine K_iconst 1 dPa_parse_116 rfl ?_
          refine K_isub dPa_parse_117 (w32_id ((((hF.2 c1).2.1 c14).2.1 c16).2.2 c18).1.2) ?_
          refine K_goto 125 dPa_parse_118 (by decide) ?_
          refine K_putf 2 15 b (x := ((μ b 13) - 1)) dPa_parse_125 pf_Pa_64 rfl (isB_c0 hb) (isB_n 0 (by decide) hb) rfl rfl (isB_x0_15 hb) rfl trivial ?_
          refine K_iload_n 3 l3 dPa_parse_128 rfl rfl ?_
          exact K_iret dPa_parse_129 (Or.inl rfl) ((((hF.2 c1).2.1 c14).2.1 c16).2.2 c18).2
      · refine K_aload_n 0 3 dPa_parse_82 rfl rfl ?_
        refine K_iconst 5 dPa_parse_83 rfl ?_
        refine K_aload_n 0 3 dPa_parse_84 rfl rfl ?_
        refine K_getf 5 4 3 (jvR 1) dPa_parse_85 pf_Pa_25 rfl rfl (by decide) rfl (congrArg jvR (((hF.2 c1).2.1 c14).2.2 c16).1) ?_
        refine K_getf 8 3 1 (jvI (μ 1 3)) dPa_parse_88 pf_Pa_56 rfl rfl (by decide) rfl rfl ?_
        refine K_callVi mPa_refuse 5 3 [jvI 5, jvI (μ 1 3)] dPa_parse_91 pm_Pa_57 ⟨_, rfl, rfl⟩ ⟨(Nat.le_of_ble_eq_true rfl), (Nat.le_of_ble_eq_true rfl)⟩ rfl rfl (by decide) (Nat.le_of_ble_eq_true rfl) rfl (Nat.le_of_ble_eq_true rfl) (by decide) (Ci_mono (((hF.2 c1).2.1 c14).2.2 c16).2 (fun r25 μ22 h23 => ?_))
        refine K_pop dPa_parse_94 (fun _ h => by cases h) ?_
        refine K_iconst (-1) dPa_parse_95 rfl ?_
        exact K_iret dPa_parse_96 (Or.inl rfl) h23
    · refine K_aload_n 0 3 dPa_parse_57 rfl rfl ?_
      refine K_callVi mPa_readStatement 5 3 [] dPa_parse_58 pm_Pa_52 ⟨_, rfl, rfl⟩ ⟨(Nat.le_of_ble_eq_true rfl), (Nat.le_of_ble_eq_true rfl)⟩ rfl rfl (by decide) (Nat.le_of_ble_eq_true rfl) rfl (Nat.le_of_ble_eq_true rfl) (by decide) (Ci_mono ((hF.2 c1).2.2 c14) (fun r30 μ27 h28 => ?_))
      refine K_if_ne 66 dPa_parse_61 (by decide) (fun c31 => ?_) (fun c31 => ?_)
      · refine K_iinc 3 dPa_parse_66 (Nat.le_of_ble_eq_true rfl) rfl (w32_ok (h28.1 c31).1) rfl ?_
        refine K_goto 41 dPa_parse_69 (by decide) ?_
        exact (h28.1 c31).2
      · refine K_iconst (-1) dPa_parse_64 rfl ?_
        exact K_iret dPa_parse_65 (Or.inl rfl) (h28.2 c31)
set_option maxHeartbeats 8000000 in
theorem vBk_clear_0 {E : jE} {μ : jMu} {Q : Option AV → jMu → Prop} {b : Nat} (hb : isB b) (hF : (Cv E mTe_clear [jvR ((b + 1 : Nat) : Int)] μ (fun μ1 => (Q none (j_up (j_up (j_up (j_up μ1 b 12 0) b 13 0) b 14 0) b 15 (-1)))))) : K 121 E mBk_clear 0 [some (jvR ((b : Nat) : Int))] [] μ Q := by
  refine K_aload_n 0 ((b : Nat) : Int) dBk_clear_0 rfl rfl ?_
  refine K_getf 2 0 b (jvR ((b + 1 : Nat) : Int)) dBk_clear_1 pf_Bk_12 rfl (isB_c0 hb) (isB_n 0 (by decide) hb) rfl (isB_f0_0 hb) ?_
  refine K_callVv mTe_clear 9 (b + 1) [] dBk_clear_4 pm_Bk_56 ⟨_, rfl, rfl⟩ ⟨(Nat.le_of_ble_eq_true rfl), (Nat.le_of_ble_eq_true rfl)⟩ rfl (isB_c1 hb) (isB_n 1 (by decide) hb) (Nat.le_of_ble_eq_true rfl) rfl (Nat.le_of_ble_eq_true rfl) (by decide) (Cv_mono hF (fun μ1 h2 => ?_))
  refine K_aload_n 0 ((b : Nat) : Int) dBk_clear_7 rfl rfl ?_
  refine K_iconst 0 dBk_clear_8 rfl ?_
  refine K_putf 2 12 b (x := 0) dBk_clear_9 pf_Bk_59 rfl (isB_c0 hb) (isB_n 0 (by decide) hb) rfl rfl (isB_x0_12 hb) rfl trivial ?_
  refine K_aload_n 0 ((b : Nat) : Int) dBk_clear_12 rfl rfl ?_
  refine K_iconst 0 dBk_clear_13 rfl ?_
  refine K_putf 2 13 b (x := 0) dBk_clear_14 pf_Bk_62 rfl (isB_c0 hb) (isB_n 0 (by decide) hb) rfl rfl (isB_x0_13 hb) rfl trivial ?_
  refine K_aload_n 0 ((b : Nat) : Int) dBk_clear_17 rfl rfl ?_
  refine K_iconst 0 dBk_clear_18 rfl ?_
  refine K_putf 2 14 b (x := 0) dBk_clear_19 pf_Bk_65 rfl (isB_c0 hb) (isB_n 0 (by decide) hb) rfl rfl (isB_x0_14 hb) rfl trivial ?_
  refine K_aload_n 0 ((b : Nat) : Int) dBk_clear_22 rfl rfl ?_
  refine K_iconst (-1) dBk_clear_23 rfl ?_
  refine K_putf 2 15 b (x := (-1)) dBk_clear_24 pf_Bk_52 rfl (isB_c0 hb) (isB_n 0 (by decide) hb) rfl rfl (isB_x0_15 hb) rfl trivial ?_
  exact K_vret dBk_clear_27 rfl h2
set_option maxHeartbeats 8000000 in
theorem vTe_clear_0 {E : jE} {μ : jMu} {Q : Option AV → jMu → Prop} {b : Nat} (hb : isB b) (hF : (Q none (j_up (j_up (j_up μ (b + 1) 6 0) (b + 1) 7 0) (b + 1) 8 0))) : K 121 E mTe_clear 0 [some (jvR ((b + 1 : Nat) : Int))] [] μ Q := by
  refine K_aload_n 0 ((b + 1 : Nat) : Int) dTe_clear_0 rfl rfl ?_
  refine K_iconst 0 dTe_clear_1 rfl ?_
  refine K_putf 9 6 (b + 1) (x := 0) dTe_clear_2 pf_Te_30 rfl (isB_c1 hb) (isB_n 1 (by decide) hb) rfl rfl (isB_x1_6 hb) rfl trivial ?_
  refine K_aload_n 0 ((b + 1 : Nat) : Int) dTe_clear_5 rfl rfl ?_
  refine K_iconst 0 dTe_clear_6 rfl ?_
  refine K_putf 9 7 (b + 1) (x := 0) dTe_clear_7 pf_Te_34 rfl (isB_c1 hb) (isB_n 1 (by decide) hb) rfl rfl (isB_x1_7 hb) rfl trivial ?_
  refine K_aload_n 0 ((b + 1 : Nat) : Int) dTe_clear_10 rfl rfl ?_
  refine K_iconst 0 dTe_clear_11 rfl ?_
  refine K_putf 9 8 (b + 1) (x := 0) dTe_clear_12 pf_Te_37 rfl (isB_c1 hb) (isB_n 1 (by decide) hb) rfl rfl (isB_x1_8 hb) rfl trivial ?_
  exact K_vret dTe_clear_15 rfl hF
set_option maxHeartbeats 8000000 in
theorem vTa_rewind_0 {E : jE} {μ : jMu} {Q : Option AV → jMu → Prop} (hF : (Cv E mTa_advance [jvR 1] (j_up (j_up (j_up μ 1 2 0) 1 3 0) 1 4 0) (fun μ1 => (Q none μ1)))) : K 121 E mTa_rewind 0 [some (jvR 1)] [] μ Q := by
  refine K_aload_n 0 1 dTa_rewind_0 rfl rfl ?_
  refine K_iconst 0 dTa_rewind_1 rfl ?_
  refine K_putf 8 2 1 (x := 0) dTa_rewind_2 pf_Ta_19 rfl rfl (by decide) rfl rfl rfl rfl trivial ?_
  refine K_aload_n 0 1 dTa_rewind_5 rfl rfl ?_
  refine K_iconst 0 dTa_rewind_6 rfl ?_
  refine K_putf 8 3 1 (x := 0) dTa_rewind_7 pf_Ta_22 rfl rfl (by decide) rfl rfl rfl rfl trivial ?_
  refine K_aload_n 0 1 dTa_rewind_10 rfl rfl ?_
  refine K_iconst 0 dTa_rewind_11 rfl ?_
  refine K_putf 8 4 1 (x := 0) dTa_rewind_12 pf_Ta_25 rfl rfl (by decide) rfl rfl rfl rfl trivial ?_
  refine K_aload_n 0 1 dTa_rewind_15 rfl rfl ?_
  refine K_callVv mTa_advance 8 1 [] dTa_rewind_16 pm_Ta_28 ⟨_, rfl, rfl⟩ ⟨(Nat.le_of_ble_eq_true rfl), (Nat.le_of_ble_eq_true rfl)⟩ rfl rfl (by decide) (Nat.le_of_ble_eq_true rfl) rfl (Nat.le_of_ble_eq_true rfl) (by decide) (Cv_mono hF (fun μ1 h2 => ?_))
  exact K_vret dTa_rewind_19 rfl h2
set_option maxHeartbeats 8000000 in
theorem vTa_advance_0 {E : jE} {μ : jMu} {Q : Option AV → jMu → Prop} (hF : ((-2147483648 ≤ ((μ 1 3) + (μ 1 4)) ∧ ((μ 1 3) + (μ 1 4)) < 2147483648)) ∧ (K 121 E mTa_advance 10 [some (jvR 1), some (jvI ((μ 1 3) + (μ 1 4))), none, none, none, none] [] μ Q)) : K 121 E mTa_advance 0 [some (jvR 1), none, none, none, none, none] [] μ Q := by
  refine K_aload_n 0 1 dTa_advance_0 rfl rfl ?_
  refine K_getf 8 3 1 (jvI (μ 1 3)) dTa_advance_1 pf_Ta_22 rfl rfl (by decide) rfl rfl ?_
  refine K_aload_n 0 1 dTa_advance_4 rfl rfl ?_
  refine K_getf 8 4 1 (jvI (μ 1 4)) dTa_advance_5 pf_Ta_25 rfl rfl (by decide) rfl rfl ?_
  refine K_iadd dTa_advance_8 (w32_id hF.1) ?_
  refine K_istore_n 1 dTa_advance_9 rfl (Nat.le_of_ble_eq_true rfl) rfl ?_
  exact hF.2
set_option maxHeartbeats 8000000 in
theorem vTa_advance_10 {E : jE} {μ : jMu} {Q : Option AV → jMu → Prop} {l1 : Int} (hF : (((μ 1 1) ≤ l1 → (((μ 1 2) < 2 → (K 121 E mTa_advance 73 [some (jvR 1), some (jvI l1), none, none, none, none] [jvI 0, jvR 1] μ Q)) ∧ (¬ ((μ 1 2) < 2) → ((-2147483648 ≤ ((μ 1 3) + (μ 1 4)) ∧ ((μ 1 3) + (μ 1 4)) < 2147483648)) ∧ ((¬ l1 = ((μ 1 3) + (μ 1 4)) → (K 121 E mTa_advance 73 [some (jvR 1), some (jvI l1), none, none, none, none] [jvI 0, jvR 1] μ Q)) ∧ (l1 = ((μ 1 3) + (μ 1 4)) → (K 121 E mTa_advance 73 [some (jvR 1), some (jvI l1), none, none, none, none] [jvI 1, jvR 1] μ Q)))))) ∧ (¬ ((μ 1 1) ≤ l1) → ((0 ≤ l1 ∧ l1 < 1600)) ∧ (((μ 2 l1) = 32 → ((-2147483648 ≤ (l1 + 1) ∧ (l1 + 1) < 2147483648)) ∧ (K 121 E mTa_advance 10 [some (jvR 1), some (jvI (l1 + 1)), none, none, none, none] [] μ Q)) ∧ (¬ ((μ 2 l1) = 32) → ((0 ≤ l1 ∧ l1 < 1600)) ∧ ((¬ (μ 2 l1) = 10 → (((μ 1 2) < 2 → (K 121 E mTa_advance 73 [some (jvR 1), some (jvI l1), none, none, none, none] [jvI 0, jvR 1] μ Q)) ∧ (¬ ((μ 1 2) < 2) → ((-2147483648 ≤ ((μ 1 3) + (μ 1 4)) ∧ ((μ 1 3) + (μ 1 4)) < 2147483648)) ∧ ((¬ l1 = ((μ 1 3) + (μ 1 4)) → (K 121 E mTa_advance 73 [some (jvR 1), some (jvI l1), none, none, none, none] [jvI 0, jvR 1] μ Q)) ∧ (l1 = ((μ 1 3) + (μ 1 4)) → (K 121 E mTa_advance 73 [some (jvR 1), some (jvI l1), none, none, none, none] [jvI 1, jvR 1] μ Q)))))) ∧ ((μ 2 l1) = 10 → ((-2147483648 ≤ (l1 + 1) ∧ (l1 + 1) < 2147483648)) ∧ (K 121 E mTa_advance 10 [some (jvR 1), some (jvI (l1 + 1)), none, none, none, none] [] μ Q)))))))) : K 121 E mTa_advance 10 [some (jvR 1), some (jvI l1), none, none, none, none] [] μ Q := by
  refine K_iload_n 1 l1 dTa_advance_10 rfl rfl ?_
  refine K_aload_n 0 1 dTa_advance_11 rfl rfl ?_
  refine K_getf 8 1 1 (jvI (μ 1 1)) dTa_advance_12 pf_Ta_15 rfl rfl (by decide) rfl rfl ?_
  refine K_icmp_ge 46 dTa_advance_15 (by decide) (fun c1 => ?_) (fun c1 => ?_)
  · refine K_aload_n 0 1 dTa_advance_46 rfl rfl ?_
    refine K_aload_n 0 1 dTa_advance_47 rfl rfl ?_
    refine K_getf 8 2 1 (jvI (μ 1 2)) dTa_advance_48 pf_Ta_19 rfl rfl (by decide) rfl rfl ?_
    refine K_iconst 2 dTa_advance_51 rfl ?_
    refine K_icmp_lt 72 dTa_advance_52 (by decide) (fun c3 => ?_) (fun c3 => ?_)
    · refine K_iconst 0 dTa_advance_72 rfl ?_
      exact ((hF.1 c1).1 c3)
    · refine K_iload_n 1 l1 dTa_advance_55 rfl rfl ?_
      refine K_aload_n 0 1 dTa_advance_56 rfl rfl ?_
      refine K_getf 8 3 1 (jvI (μ 1 3)) dTa_advance_57 pf_Ta_22 rfl rfl (by decide) rfl rfl ?_
      refine K_aload_n 0 1 dTa_advance_60 rfl rfl ?_
      refine K_getf 8 4 1 (jvI (μ 1 4)) dTa_advance_61 pf_Ta_25 rfl rfl (by decide) rfl rfl ?_
      refine K_iadd dTa_advance_64 (w32_id ((hF.1 c1).2 c3).1) ?_
      refine K_icmp_ne 72 dTa_advance_65 (by decide) (fun c5 => ?_) (fun c5 => ?_)
      · refine K_iconst 0 dTa_advance_72 rfl ?_
        exact (((hF.1 c1).2 c3).2.1 c5)
      · refine K_iconst 1 dTa_advance_68 rfl ?_
        refine K_goto 73 dTa_advance_69 (by decide) ?_
        exact (((hF.1 c1).2 c3).2.2 c5)
  · refine K_aload_n 0 1 dTa_advance_18 rfl rfl ?_
    refine K_getf 8 0 1 (jvR 2) dTa_advance_19 pf_Ta_11 rfl rfl (by decide) rfl rfl ?_
    refine K_iload_n 1 l1 dTa_advance_22 rfl rfl ?_
    refine K_bald 2 1600 dTa_advance_23 rfl rfl (by decide) (hF.2 c1).1 ?_
    refine K_bipush 32 dTa_advance_24 rfl ?_
    refine K_icmp_eq 40 dTa_advance_26 (by decide) (fun c7 => ?_) (fun c7 => ?_)
    · refine K_iinc 1 dTa_advance_40 (Nat.le_of_ble_eq_true rfl) rfl (w32_ok ((hF.2 c1).2.1 c7).1) rfl ?_
      refine K_goto 10 dTa_advance_43 (by decide) ?_
      exact ((hF.2 c1).2.1 c7).2
    · refine K_aload_n 0 1 dTa_advance_29 rfl rfl ?_
      refine K_getf 8 0 1 (jvR 2) dTa_advance_30 pf_Ta_11 rfl rfl (by decide) rfl rfl ?_
      refine K_iload_n 1 l1 dTa_advance_33 rfl rfl ?_
      refine K_bald 2 1600 dTa_advance_34 rfl rfl (by decide) ((hF.2 c1).2.2 c7).1 ?_
      refine K_bipush 10 dTa_advance_35 rfl ?_
      refine K_icmp_ne 46 dTa_advance_37 (by decide) (fun c9 => ?_) (fun c9 => ?_)
      · refine K_aload_n 0 1 dTa_advance_46 rfl rfl ?_
        refine K_aload_n 0 1 dTa_advance_47 rfl rfl ?_
        refine K_getf 8 2 1 (jvI (μ 1 2)) dTa_advance_48 pf_Ta_19 rfl rfl (by decide) rfl rfl ?_
        refine K_iconst 2 dTa_advance_51 rfl ?_
        refine K_icmp_lt 72 dTa_advance_52 (by decide) (fun c11 => ?_) (fun c11 => ?_)
        · refine K_iconst 0 dTa_advance_72 rfl ?_
          exact ((((hF.2 c1).2.2 c7).2.1 c9).1 c11)
        · refine K_iload_n 1 l1 dTa_advance_55 rfl rfl ?_
          refine K_aload_n 0 1 dTa_advance_56 rfl rfl ?_
          refine K_getf 8 3 1 (jvI (μ 1 3)) dTa_advance_57 pf_Ta_22 rfl rfl (by decide) rfl rfl ?_
          refine K_aload_n 0 1 dTa_advance_60 rfl rfl ?_
          refine K_getf 8 4 1 (jvI (μ 1 4)) dTa_advance_61 pf_Ta_25 rfl rfl (by decide) rfl rfl ?_
          refine K_iadd dTa_advance_64 (w32_id ((((hF.2 c1).2.2 c7).2.1 c9).2 c11).1) ?_
          refine K_icmp_ne 72 dTa_advance_65 (by decide) (fun c13 => ?_) (fun c13 => ?_)
          · refine K_iconst 0 dTa_advance_72 rfl ?_
            exact (((((hF.2 c1).2.2 c7).2.1 c9).2 c11).2.1 c13)
          · refine K_iconst 1 dTa_advance_68 rfl ?_
            refine K_goto 73 dTa_advance_69 (by decide) ?_
            exact (((((hF.2 c1).2.2 c7).2.1 c9).2 c11).2.2 c13)
      · refine K_iinc 1 dTa_advance_40 (Nat.le_of_ble_eq_true rfl) rfl (w32_ok (((hF.2 c1).2.2 c7).2.2 c9).1) rfl ?_
        refine K_goto 10 dTa_advance_43 (by decide) ?_
        exact (((hF.2 c1).2.2 c7).2.2 c9).2
set_option maxHeartbeats 8000000 in
theorem vTa_advance_73 {E : jE} {μ : jMu} {Q : Option AV → jMu → Prop} {l1 s0 : Int} (hF : ((s0 = 0 ∨ s0 = 1)) ∧ ((l1 < (μ 1 1) → ((0 ≤ l1 ∧ l1 < 1600)) ∧ (((μ 2 l1) < 97 → (K 121 E mTa_advance 132 [some (jvR 1), some (jvI l1), none, none, none, none] [jvI 0] (j_up (j_up (j_up (j_up μ 1 6 s0) 1 3 l1) 1 4 0) 1 5 0) Q)) ∧ (¬ ((μ 2 l1) < 97) → ((0 ≤ l1 ∧ l1 < 1600)) ∧ ((122 < (μ 2 l1) → (K 121 E mTa_advance 132 [some (jvR 1), some (jvI l1), none, none, none, none] [jvI 0] (j_up (j_up (j_up (j_up μ 1 6 s0) 1 3 l1) 1 4 0) 1 5 0) Q)) ∧ (¬ (122 < (μ 2 l1)) → (K 121 E mTa_advance 132 [some (jvR 1), some (jvI l1), none, none, none, none] [jvI 1] (j_up (j_up (j_up (j_up μ 1 6 s0) 1 3 l1) 1 4 0) 1 5 0) Q)))))) ∧ (¬ (l1 < (μ 1 1)) → (Q none (j_up (j_up (j_up (j_up (j_up μ 1 6 s0) 1 3 l1) 1 4 0) 1 5 0) 1 2 0))))) : K 121 E mTa_advance 73 [some (jvR 1), some (jvI l1), none, none, none, none] [jvI s0, jvR 1] μ Q := by
  refine K_putf 8 6 1 (x := s0) dTa_advance_73 pf_Ta_31 rfl rfl (by decide) rfl rfl rfl rfl hF.1 ?_
  refine K_aload_n 0 1 dTa_advance_76 rfl rfl ?_
  refine K_iload_n 1 l1 dTa_advance_77 rfl rfl ?_
  refine K_putf 8 3 1 (x := l1) dTa_advance_78 pf_Ta_22 rfl rfl (by decide) rfl rfl rfl rfl trivial ?_
  refine K_aload_n 0 1 dTa_advance_81 rfl rfl ?_
  refine K_iconst 0 dTa_advance_82 rfl ?_
  refine K_putf 8 4 1 (x := 0) dTa_advance_83 pf_Ta_25 rfl rfl (by decide) rfl rfl rfl rfl trivial ?_
  refine K_aload_n 0 1 dTa_advance_86 rfl rfl ?_
  refine K_iconst 0 dTa_advance_87 rfl ?_
  refine K_putf 8 5 1 (x := 0) dTa_advance_88 pf_Ta_35 rfl rfl (by decide) rfl rfl rfl rfl trivial ?_
  refine K_iload_n 1 l1 dTa_advance_91 rfl rfl ?_
  refine K_aload_n 0 1 dTa_advance_92 rfl rfl ?_
  refine K_getf 8 1 1 (jvI (μ 1 1)) dTa_advance_93 pf_Ta_15 rfl rfl (by decide) rfl rfl ?_
  refine K_icmp_lt 105 dTa_advance_96 (by decide) (fun c1 => ?_) (fun c1 => ?_)
  · refine K_aload_n 0 1 dTa_advance_105 rfl rfl ?_
    refine K_getf 8 0 1 (jvR 2) dTa_advance_106 pf_Ta_11 rfl rfl (by decide) rfl rfl ?_
    refine K_iload_n 1 l1 dTa_advance_109 rfl rfl ?_
    refine K_bald 2 1600 dTa_advance_110 rfl rfl (by decide) (hF.2.1 c1).1 ?_
    refine K_bipush 97 dTa_advance_111 rfl ?_
    refine K_icmp_lt 131 dTa_advance_113 (by decide) (fun c3 => ?_) (fun c3 => ?_)
    · refine K_iconst 0 dTa_advance_131 rfl ?_
      exact ((hF.2.1 c1).2.1 c3)
    · refine K_aload_n 0 1 dTa_advance_116 rfl rfl ?_
      refine K_getf 8 0 1 (jvR 2) dTa_advance_117 pf_Ta_11 rfl rfl (by decide) rfl rfl ?_
      refine K_iload_n 1 l1 dTa_advance_120 rfl rfl ?_
      refine K_bald 2 1600 dTa_advance_121 rfl rfl (by decide) ((hF.2.1 c1).2.2 c3).1 ?_
      refine K_bipush 122 dTa_advance_122 rfl ?_
      refine K_icmp_gt 131 dTa_advance_124 (by decide) (fun c5 => ?_) (fun c5 => ?_)
      · refine K_iconst 0 dTa_advance_131 rfl ?_
        exact (((hF.2.1 c1).2.2 c3).2.1 c5)
      · refine K_iconst 1 dTa_advance_127 rfl ?_
        refine K_goto 132 dTa_advance_128 (by decide) ?_
        exact (((hF.2.1 c1).2.2 c3).2.2 c5)
  · refine K_aload_n 0 1 dTa_advance_99 rfl rfl ?_
    refine K_iconst 0 dTa_advance_100 rfl ?_
    refine K_putf 8 2 1 (x := 0) dTa_advance_101 pf_Ta_19 rfl rfl (by decide) rfl rfl rfl rfl trivial ?_
    exact K_vret dTa_advance_104 rfl (hF.2.2 c1)
set_option maxHeartbeats 8000000 in
theorem vTa_advance_132 {E : jE} {μ : jMu} {Q : Option AV → jMu → Prop} {l1 s0 : Int} (hF : ((0 ≤ l1 ∧ l1 < 1600)) ∧ (((μ 2 l1) < 48 → (K 121 E mTa_advance 160 [some (jvR 1), some (jvI l1), some (jvI s0), none, none, none] [jvI 0] μ Q)) ∧ (¬ ((μ 2 l1) < 48) → ((0 ≤ l1 ∧ l1 < 1600)) ∧ ((57 < (μ 2 l1) → (K 121 E mTa_advance 160 [some (jvR 1), some (jvI l1), some (jvI s0), none, none, none] [jvI 0] μ Q)) ∧ (¬ (57 < (μ 2 l1)) → (K 121 E mTa_advance 160 [some (jvR 1), some (jvI l1), some (jvI s0), none, none, none] [jvI 1] μ Q)))))) : K 121 E mTa_advance 132 [some (jvR 1), some (jvI l1), none, none, none, none] [jvI s0] μ Q := by
  refine K_istore_n 2 dTa_advance_132 rfl (Nat.le_of_ble_eq_true rfl) rfl ?_
  refine K_aload_n 0 1 dTa_advance_133 rfl rfl ?_
  refine K_getf 8 0 1 (jvR 2) dTa_advance_134 pf_Ta_11 rfl rfl (by decide) rfl rfl ?_
  refine K_iload_n 1 l1 dTa_advance_137 rfl rfl ?_
  refine K_bald 2 1600 dTa_advance_138 rfl rfl (by decide) hF.1 ?_
  refine K_bipush 48 dTa_advance_139 rfl ?_
  refine K_icmp_lt 159 dTa_advance_141 (by decide) (fun c1 => ?_) (fun c1 => ?_)
  · refine K_iconst 0 dTa_advance_159 rfl ?_
    exact (hF.2.1 c1)
  · refine K_aload_n 0 1 dTa_advance_144 rfl rfl ?_
    refine K_getf 8 0 1 (jvR 2) dTa_advance_145 pf_Ta_11 rfl rfl (by decide) rfl rfl ?_
    refine K_iload_n 1 l1 dTa_advance_148 rfl rfl ?_
    refine K_bald 2 1600 dTa_advance_149 rfl rfl (by decide) (hF.2.2 c1).1 ?_
    refine K_bipush 57 dTa_advance_150 rfl ?_
    refine K_icmp_gt 159 dTa_advance_152 (by decide) (fun c3 => ?_) (fun c3 => ?_)
    · refine K_iconst 0 dTa_advance_159 rfl ?_
      exact ((hF.2.2 c1).2.1 c3)
    · refine K_iconst 1 dTa_advance_155 rfl ?_
      refine K_goto 160 dTa_advance_156 (by decide) ?_
      exact ((hF.2.2 c1).2.2 c3)
set_option maxHeartbeats 8000000 in
theorem vTa_advance_160 {E : jE} {μ : jMu} {Q : Option AV → jMu → Prop} {l1 l2 s0 : Int} (hF : ((l2 = 0 → ((s0 = 0 → ((0 ≤ l1 ∧ l1 < 1600)) ∧ (Q none (j_up (j_up (j_up μ 1 2 1) 1 5 (iand32 (μ 2 l1) 255)) 1 4 1))) ∧ (¬ (s0 = 0) → ((l2 = 0 → ((l2 = 0 → (K 121 E mTa_advance 236 [some (jvR 1), some (jvI l1), some (jvI l2), some (jvI s0), some (jvI 48), some (jvI 57)] [] (j_up μ 1 2 3) Q)) ∧ (¬ (l2 = 0) → (K 121 E mTa_advance 236 [some (jvR 1), some (jvI l1), some (jvI l2), some (jvI s0), some (jvI 48), some (jvI 122)] [] (j_up μ 1 2 3) Q)))) ∧ (¬ (l2 = 0) → ((l2 = 0 → (K 121 E mTa_advance 236 [some (jvR 1), some (jvI l1), some (jvI l2), some (jvI s0), some (jvI 97), some (jvI 57)] [] (j_up μ 1 2 3) Q)) ∧ (¬ (l2 = 0) → (K 121 E mTa_advance 236 [some (jvR 1), some (jvI l1), some (jvI l2), some (jvI s0), some (jvI 97), some (jvI 122)] [] (j_up μ 1 2 3) Q)))))))) ∧ (¬ (l2 = 0) → ((l2 = 0 → ((l2 = 0 → (K 121 E mTa_advance 236 [some (jvR 1), some (jvI l1), some (jvI l2), some (jvI s0), some (jvI 48), some (jvI 57)] [] (j_up μ 1 2 2) Q)) ∧ (¬ (l2 = 0) → (K 121 E mTa_advance 236 [some (jvR 1), some (jvI l1), some (jvI l2), some (jvI s0), some (jvI 48), some (jvI 122)] [] (j_up μ 1 2 2) Q)))) ∧ (¬ (l2 = 0) → ((l2 = 0 → (K 121 E mTa_advance 236 [some (jvR 1), some (jvI l1), some (jvI l2), some (jvI s0), some (jvI 97), some (jvI 57)] [] (j_up μ 1 2 2) Q)) ∧ (¬ (l2 = 0) → (K 121 E mTa_advance 236 [some (jvR 1), some (jvI l1), some (jvI l2), some (jvI s0), some (jvI 97), some (jvI 122)] [] (j_up μ 1 2 2) Q)))))))) : K 121 E mTa_advance 160 [some (jvR 1), some (jvI l1), some (jvI l2), none, none, none] [jvI s0] μ Q := by
  refine K_istore_n 3 dTa_advance_160 rfl (Nat.le_of_ble_eq_true rfl) rfl ?_
  refine K_aload_n 0 1 dTa_advance_161 rfl rfl ?_
  refine K_iload_n 2 l2 dTa_advance_162 rfl rfl ?_
  refine K_if_eq 170 dTa_advance_163 (by decide) (fun c1 => ?_) (fun c1 => ?_)
  · refine K_iload_n 3 s0 dTa_advance_170 rfl rfl ?_
    refine K_if_eq 178 dTa_advance_171 (by decide) (fun c3 => ?_) (fun c3 => ?_)
    · refine K_iconst 1 dTa_advance_178 rfl ?_
      refine K_putf 8 2 1 (x := 1) dTa_advance_179 pf_Ta_19 rfl rfl (by decide) rfl rfl rfl rfl trivial ?_
      refine K_aload_n 0 1 dTa_advance_182 rfl rfl ?_
      refine K_getf 8 2 1 (jvI 1) dTa_advance_183 pf_Ta_19 rfl rfl (by decide) rfl rfl ?_
      refine K_iconst 1 dTa_advance_186 rfl ?_
      refine K_icmp_ne 210 dTa_advance_187 (by decide) (fun c5 => absurd c5 (by decide)) (fun c5 => ?_)
      refine K_aload_n 0 1 dTa_advance_190 rfl rfl ?_
      refine K_aload_n 0 1 dTa_advance_191 rfl rfl ?_
      refine K_getf 8 0 1 (jvR 2) dTa_advance_192 pf_Ta_11 rfl rfl (by decide) rfl rfl ?_
      refine K_iload_n 1 l1 dTa_advance_195 rfl rfl ?_
      refine K_bald 2 1600 dTa_advance_196 rfl rfl (by decide) ((hF.1 c1).1 c3).1 ?_
      refine K_sipush 255 dTa_advance_197 rfl ?_
      refine K_iand dTa_advance_200 rfl ?_
      refine K_putf 8 5 1 (x := (iand32 (μ 2 l1) 255)) dTa_advance_201 pf_Ta_35 rfl rfl (by decide) rfl rfl rfl rfl trivial ?_
      refine K_aload_n 0 1 dTa_advance_204 rfl rfl ?_
      refine K_iconst 1 dTa_advance_205 rfl ?_
      refine K_putf 8 4 1 (x := 1) dTa_advance_206 pf_Ta_25 rfl rfl (by decide) rfl rfl rfl rfl trivial ?_
      exact K_vret dTa_advance_209 rfl ((hF.1 c1).1 c3).2
    · refine K_iconst 3 dTa_advance_174 rfl ?_
      refine K_goto 179 dTa_advance_175 (by decide) ?_
      refine K_putf 8 2 1 (x := 3) dTa_advance_179 pf_Ta_19 rfl rfl (by decide) rfl rfl rfl rfl trivial ?_
      refine K_aload_n 0 1 dTa_advance_182 rfl rfl ?_
      refine K_getf 8 2 1 (jvI 3) dTa_advance_183 pf_Ta_19 rfl rfl (by decide) rfl rfl ?_
      refine K_iconst 1 dTa_advance_186 rfl ?_
      refine K_icmp_ne 210 dTa_advance_187 (by decide) (fun c8 => ?_) (fun c8 => absurd c8 (by decide))
      refine K_iload_n 2 l2 dTa_advance_210 rfl rfl ?_
      refine K_if_eq 219 dTa_advance_211 (by decide) (fun c10 => ?_) (fun c10 => ?_)
      · refine K_bipush 48 dTa_advance_219 rfl ?_
        refine K_istore 4 dTa_advance_221 (Nat.le_of_ble_eq_true rfl) rfl ?_
        refine K_iload_n 2 l2 dTa_advance_223 rfl rfl ?_
        refine K_if_eq 232 dTa_advance_224 (by decide) (fun c12 => ?_) (fun c12 => ?_)
        · refine K_bipush 57 dTa_advance_232 rfl ?_
          refine K_istore 5 dTa_advance_234 (Nat.le_of_ble_eq_true rfl) rfl ?_
          exact ((((hF.1 c1).2 c3).1 c10).1 c12)
        · refine K_bipush 122 dTa_advance_227 rfl ?_
          refine K_goto 234 dTa_advance_229 (by decide) ?_
          refine K_istore 5 dTa_advance_234 (Nat.le_of_ble_eq_true rfl) rfl ?_
          exact ((((hF.1 c1).2 c3).1 c10).2 c12)
      · refine K_bipush 97 dTa_advance_214 rfl ?_
        refine K_goto 221 dTa_advance_216 (by decide) ?_
        refine K_istore 4 dTa_advance_221 (Nat.le_of_ble_eq_true rfl) rfl ?_
        refine K_iload_n 2 l2 dTa_advance_223 rfl rfl ?_
        refine K_if_eq 232 dTa_advance_224 (by decide) (fun c14 => ?_) (fun c14 => ?_)
        · refine K_bipush 57 dTa_advance_232 rfl ?_
          refine K_istore 5 dTa_advance_234 (Nat.le_of_ble_eq_true rfl) rfl ?_
          exact ((((hF.1 c1).2 c3).2 c10).1 c14)
        · refine K_bipush 122 dTa_advance_227 rfl ?_
          refine K_goto 234 dTa_advance_229 (by decide) ?_
          refine K_istore 5 dTa_advance_234 (Nat.le_of_ble_eq_true rfl) rfl ?_
          exact ((((hF.1 c1).2 c3).2 c10).2 c14)
  · refine K_iconst 2 dTa_advance_166 rfl ?_
    refine K_goto 179 dTa_advance_167 (by decide) ?_
    refine K_putf 8 2 1 (x := 2) dTa_advance_179 pf_Ta_19 rfl rfl (by decide) rfl rfl rfl rfl trivial ?_
    refine K_aload_n 0 1 dTa_advance_182 rfl rfl ?_
    refine K_getf 8 2 1 (jvI 2) dTa_advance_183 pf_Ta_19 rfl rfl (by decide) rfl rfl ?_
    refine K_iconst 1 dTa_advance_186 rfl ?_
    refine K_icmp_ne 210 dTa_advance_187 (by decide) (fun c16 => ?_) (fun c16 => absurd c16 (by decide))
    refine K_iload_n 2 l2 dTa_advance_210 rfl rfl ?_
    refine K_if_eq 219 dTa_advance_211 (by decide) (fun c18 => ?_) (fun c18 => ?_)
    · refine K_bipush 48 dTa_advance_219 rfl ?_
      refine K_istore 4 dTa_advance_221 (Nat.le_of_ble_eq_true rfl) rfl ?_
      refine K_iload_n 2 l2 dTa_advance_223 rfl rfl ?_
      refine K_if_eq 232 dTa_advance_224 (by decide) (fun c20 => ?_) (fun c20 => ?_)
      · refine K_bipush 57 dTa_advance_232 rfl ?_
        refine K_istore 5 dTa_advance_234 (Nat.le_of_ble_eq_true rfl) rfl ?_
        exact (((hF.2 c1).1 c18).1 c20)
      · refine K_bipush 122 dTa_advance_227 rfl ?_
        refine K_goto 234 dTa_advance_229 (by decide) ?_
        refine K_istore 5 dTa_advance_234 (Nat.le_of_ble_eq_true rfl) rfl ?_
        exact (((hF.2 c1).1 c18).2 c20)
    · refine K_bipush 97 dTa_advance_214 rfl ?_
      refine K_goto 221 dTa_advance_216 (by decide) ?_
      refine K_istore 4 dTa_advance_221 (Nat.le_of_ble_eq_true rfl) rfl ?_
      refine K_iload_n 2 l2 dTa_advance_223 rfl rfl ?_
      refine K_if_eq 232 dTa_advance_224 (by decide) (fun c22 => ?_) (fun c22 => ?_)
      · refine K_bipush 57 dTa_advance_232 rfl ?_
        refine K_istore 5 dTa_advance_234 (Nat.le_of_ble_eq_true rfl) rfl ?_
        exact (((hF.2 c1).2 c18).1 c22)
      · refine K_bipush 122 dTa_advance_227 rfl ?_
        refine K_goto 234 dTa_advance_229 (by decide) ?_
        refine K_istore 5 dTa_advance_234 (Nat.le_of_ble_eq_true rfl) rfl ?_
        exact (((hF.2 c1).2 c18).2 c22)
set_option maxHeartbeats 8000000 in
theorem vTa_advance_236 {E : jE} {μ : jMu} {Q : Option AV → jMu → Prop} {l1 l2 l3 l4 l5 : Int} (hF : (((μ 1 1) ≤ l1 → (Q none μ)) ∧ (¬ ((μ 1 1) ≤ l1) → ((0 ≤ l1 ∧ l1 < 1600)) ∧ (((μ 2 l1) < l4 → (Q none μ)) ∧ (¬ ((μ 2 l1) < l4) → ((0 ≤ l1 ∧ l1 < 1600)) ∧ ((l5 < (μ 2 l1) → (Q none μ)) ∧ (¬ (l5 < (μ 2 l1)) → ((l2 = 0 → ((l3 = 0 → (K 121 E mTa_advance 344 [some (jvR 1), some (jvI l1), some (jvI l2), some (jvI l3), some (jvI l4), some (jvI l5)] [] μ Q)) ∧ (¬ (l3 = 0) → ((4 ≤ (μ 1 4) → (K 121 E mTa_advance 344 [some (jvR 1), some (jvI l1), some (jvI l2), some (jvI l3), some (jvI l4), some (jvI l5)] [] μ Q)) ∧ (¬ (4 ≤ (μ 1 4)) → ((-2147483648 ≤ (10 * (μ 1 5)) ∧ (10 * (μ 1 5)) < 2147483648) ∧ (0 ≤ l1 ∧ l1 < 1600) ∧ (-2147483648 ≤ ((10 * (μ 1 5)) + (μ 2 l1)) ∧ ((10 * (μ 1 5)) + (μ 2 l1)) < 2147483648) ∧ (-2147483648 ≤ (((10 * (μ 1 5)) + (μ 2 l1)) - 48) ∧ (((10 * (μ 1 5)) + (μ 2 l1)) - 48) < 2147483648)) ∧ (K 121 E mTa_advance 344 [some (jvR 1), some (jvI l1), some (jvI l2), some (jvI l3), some (jvI l4), some (jvI l5)] [] (j_up μ 1 5 (((10 * (μ 1 5)) + (μ 2 l1)) - 48)) Q)))))) ∧ (¬ (l2 = 0) → ((6 ≤ (μ 1 4) → ((l3 = 0 → (K 121 E mTa_advance 344 [some (jvR 1), some (jvI l1), some (jvI l2), some (jvI l3), some (jvI l4), some (jvI l5)] [] μ Q)) ∧ (¬ (l3 = 0) → ((4 ≤ (μ 1 4) → (K 121 E mTa_advance 344 [some (jvR 1), some (jvI l1), some (jvI l2), some (jvI l3), some (jvI l4), some (jvI l5)] [] μ Q)) ∧ (¬ (4 ≤ (μ 1 4)) → ((-2147483648 ≤ (10 * (μ 1 5)) ∧ (10 * (μ 1 5)) < 2147483648) ∧ (0 ≤ l1 ∧ l1 < 1600) ∧ (-2147483648 ≤ ((10 * (μ 1 5)) + (μ 2 l1)) ∧ ((10 * (μ 1 5)) + (μ 2 l1)) < 2147483648) ∧ (-2147483648 ≤ (((10 * (μ 1 5)) + (μ 2 l1)) - 48) ∧ (((10 * (μ 1 5)) + (μ 2 l1)) - 48) < 2147483648)) ∧ (K 121 E mTa_advance 344 [some (jvR 1), some (jvI l1), some (jvI l2), some (jvI l3), some (jvI l4), some (jvI l5)] [] (j_up μ 1 5 (((10 * (μ 1 5)) + (μ 2 l1)) - 48)) Q)))))) ∧ (¬ (6 ≤ (μ 1 4)) → ((0 ≤ l1 ∧ l1 < 1600) ∧ (-2147483648 ≤ ((μ 2 l1) - 97) ∧ ((μ 2 l1) - 97) < 2147483648) ∧ (-2147483648 ≤ (((μ 2 l1) - 97) + 1) ∧ (((μ 2 l1) - 97) + 1) < 2147483648) ∧ (-2147483648 ≤ (5 - (μ 1 4)) ∧ (5 - (μ 1 4)) < 2147483648) ∧ (-2147483648 ≤ (5 * (5 - (μ 1 4))) ∧ (5 * (5 - (μ 1 4))) < 2147483648)) ∧ (K 121 E mTa_advance 344 [some (jvR 1), some (jvI l1), some (jvI l2), some (jvI l3), some (jvI l4), some (jvI l5)] [] (j_up μ 1 5 (ior32 (μ 1 5) (ishl32 (((μ 2 l1) - 97) + 1) (5 * (5 - (μ 1 4)))))) Q)))))))))))) : K 121 E mTa_advance 236 [some (jvR 1), some (jvI l1), some (jvI l2), some (jvI l3), some (jvI l4), some (jvI l5)] [] μ Q := by
  refine K_iload_n 1 l1 dTa_advance_236 rfl rfl ?_
  refine K_aload_n 0 1 dTa_advance_237 rfl rfl ?_
  refine K_getf 8 1 1 (jvI (μ 1 1)) dTa_advance_238 pf_Ta_15 rfl rfl (by decide) rfl rfl ?_
  refine K_icmp_ge 360 dTa_advance_241 (by decide) (fun c1 => ?_) (fun c1 => ?_)
  · exact K_vret dTa_advance_360 rfl (hF.1 c1)
  · refine K_aload_n 0 1 dTa_advance_244 rfl rfl ?_
    refine K_getf 8 0 1 (jvR 2) dTa_advance_245 pf_Ta_11 rfl rfl (by decide) rfl rfl ?_
    refine K_iload_n 1 l1 dTa_advance_248 rfl rfl ?_
    refine K_bald 2 1600 dTa_advance_249 rfl rfl (by decide) (hF.2 c1).1 ?_
    refine K_iload 4 l4 dTa_advance_250 rfl ?_
    refine K_icmp_lt 360 dTa_advance_252 (by decide) (fun c4 => ?_) (fun c4 => ?_)
    · exact K_vret dTa_advance_360 rfl ((hF.2 c1).2.1 c4)
    · refine K_aload_n 0 1 dTa_advance_255 rfl rfl ?_
      refine K_getf 8 0 1 (jvR 2) dTa_advance_256 pf_Ta_11 rfl rfl (by decide) rfl rfl ?_
      refine K_iload_n 1 l1 dTa_advance_259 rfl rfl ?_
      refine K_bald 2 1600 dTa_advance_260 rfl rfl (by decide) ((hF.2 c1).2.2 c4).1 ?_
      refine K_iload 5 l5 dTa_advance_261 rfl ?_
      refine K_icmp_gt 360 dTa_advance_263 (by decide) (fun c7 => ?_) (fun c7 => ?_)
      · exact K_vret dTa_advance_360 rfl (((hF.2 c1).2.2 c4).2.1 c7)
      · refine K_iload_n 2 l2 dTa_advance_266 rfl rfl ?_
        refine K_if_eq 311 dTa_advance_267 (by decide) (fun c10 => ?_) (fun c10 => ?_)
        · refine K_iload_n 3 l3 dTa_advance_311 rfl rfl ?_
          refine K_if_eq 344 dTa_advance_312 (by decide) (fun c12 => ?_) (fun c12 => ?_)
          · exact (((((hF.2 c1).2.2 c4).2.2 c7).1 c10).1 c12)
          · refine K_aload_n 0 1 dTa_advance_315 rfl rfl ?_
            refine K_getf 8 4 1 (jvI (μ 1 4)) dTa_advance_316 pf_Ta_25 rfl rfl (by decide) rfl rfl ?_
            refine K_iconst 4 dTa_advance_319 rfl ?_
            refine K_icmp_ge 344 dTa_advance_320 (by decide) (fun c14 => ?_) (fun c14 => ?_)
            · exact ((((((hF.2 c1).2.2 c4).2.2 c7).1 c10).2 c12).1 c14)
            · refine K_aload_n 0 1 dTa_advance_323 rfl rfl ?_
              refine K_bipush 10 dTa_advance_324 rfl ?_
              refine K_aload_n 0 1 dTa_advance_326 rfl rfl ?_
              refine K_getf 8 5 1 (jvI (μ 1 5)) dTa_advance_327 pf_Ta_35 rfl rfl (by decide) rfl rfl ?_
              refine K_imul dTa_advance_330 (w32_id ((((((hF.2 c1).2.2 c4).2.2 c7).1 c10).2 c12).2 c14).1.1) ?_
              refine K_aload_n 0 1 dTa_advance_331 rfl rfl ?_
              refine K_getf 8 0 1 (jvR 2) dTa_advance_332 pf_Ta_11 rfl rfl (by decide) rfl rfl ?_
              refine K_iload_n 1 l1 dTa_advance_335 rfl rfl ?_
              refine K_bald 2 1600 dTa_advance_336 rfl rfl (by decide) ((((((hF.2 c1).2.2 c4).2.2 c7).1 c10).2 c12).2 c14).1.2.1 ?_
              refine K_iadd dTa_advance_337 (w32_id ((((((hF.2 c1).2.2 c4).2.2 c7).1 c10).2 c12).2 c14).1.2.2.1) ?_
              refine K_bipush 48 dTa_advance_338 rfl ?_
              refine K_isub dTa_advance_340 (w32_id ((((((hF.2 c1).2.2 c4).2.2 c7).1 c10).2 c12).2 c14).1.2.2.2) ?_
              refine K_putf 8 5 1 (x := (((10 * (μ 1 5)) + (μ 2 l1)) - 48)) dTa_advance_341 pf_Ta_35 rfl rfl (by decide) rfl rfl rfl rfl trivial ?_
              exact ((((((hF.2 c1).2.2 c4).2.2 c7).1 c10).2 c12).2 c14).2
        · refine K_aload_n 0 1 dTa_advance_270 rfl rfl ?_
          refine K_getf 8 4 1 (jvI (μ 1 4)) dTa_advance_271 pf_Ta_25 rfl rfl (by decide) rfl rfl ?_
          refine K_bipush 6 dTa_advance_274 rfl ?_
          refine K_icmp_ge 311 dTa_advance_276 (by decide) (fun c16 => ?_) (fun c16 => ?_)
          · refine K_iload_n 3 l3 dTa_advance_311 rfl rfl ?_
            refine K_if_eq 344 dTa_advance_312 (by decide) (fun c18 => ?_) (fun c18 => ?_)
            · exact ((((((hF.2 c1).2.2 c4).2.2 c7).2 c10).1 c16).1 c18)
            · refine K_aload_n 0 1 dTa_advance_315 rfl rfl ?_
              refine K_getf 8 4 1 (jvI (μ 1 4)) dTa_advance_316 pf_Ta_25 rfl rfl (by decide) rfl rfl ?_
              refine K_iconst 4 dTa_advance_319 rfl ?_
              refine K_icmp_ge 344 dTa_advance_320 (by decide) (fun c20 => ?_) (fun c20 => ?_)
              · exact (((((((hF.2 c1).2.2 c4).2.2 c7).2 c10).1 c16).2 c18).1 c20)
              · refine K_aload_n 0 1 dTa_advance_323 rfl rfl ?_
                refine K_bipush 10 dTa_advance_324 rfl ?_
                refine K_aload_n 0 1 dTa_advance_326 rfl rfl ?_
                refine K_getf 8 5 1 (jvI (μ 1 5)) dTa_advance_327 pf_Ta_35 rfl rfl (by decide) rfl rfl ?_
                refine K_imul dTa_advance_330 (w32_id (((((((hF.2 c1).2.2 c4).2.2 c7).2 c10).1 c16).2 c18).2 c20).1.1) ?_
                refine K_aload_n 0 1 dTa_advance_331 rfl rfl ?_
                refine K_getf 8 0 1 (jvR 2) dTa_advance_332 pf_Ta_11 rfl rfl (by decide) rfl rfl ?_
                refine K_iload_n 1 l1 dTa_advance_335 rfl rfl ?_
                refine K_bald 2 1600 dTa_advance_336 rfl rfl (by decide) (((((((hF.2 c1).2.2 c4).2.2 c7).2 c10).1 c16).2 c18).2 c20).1.2.1 ?_
                refine K_iadd dTa_advance_337 (w32_id (((((((hF.2 c1).2.2 c4).2.2 c7).2 c10).1 c16).2 c18).2 c20).1.2.2.1) ?_
                refine K_bipush 48 dTa_advance_338 rfl ?_
                refine K_isub dTa_advance_340 (w32_id (((((((hF.2 c1).2.2 c4).2.2 c7).2 c10).1 c16).2 c18).2 c20).1.2.2.2) ?_
                refine K_putf 8 5 1 (x := (((10 * (μ 1 5)) + (μ 2 l1)) - 48)) dTa_advance_341 pf_Ta_35 rfl rfl (by decide) rfl rfl rfl rfl trivial ?_
                exact (((((((hF.2 c1).2.2 c4).2.2 c7).2 c10).1 c16).2 c18).2 c20).2
          · refine K_aload_n 0 1 dTa_advance_279 rfl rfl ?_
            refine K_dup dTa_advance_280 (fun _ h => by cases h) ?_
            refine K_getf 8 5 1 (jvI (μ 1 5)) dTa_advance_281 pf_Ta_35 rfl rfl (by decide) rfl rfl ?_
            refine K_aload_n 0 1 dTa_advance_284 rfl rfl ?_
            refine K_getf 8 0 1 (jvR 2) dTa_advance_285 pf_Ta_11 rfl rfl (by decide) rfl rfl ?_
            refine K_iload_n 1 l1 dTa_advance_288 rfl rfl ?_
            refine K_bald 2 1600 dTa_advance_289 rfl rfl (by decide) (((((hF.2 c1).2.2 c4).2.2 c7).2 c10).2 c16).1.1 ?_
            refine K_bipush 97 dTa_advance_290 rfl ?_
            refine K_isub dTa_advance_292 (w32_id (((((hF.2 c1).2.2 c4).2.2 c7).2 c10).2 c16).1.2.1) ?_
            refine K_iconst 1 dTa_advance_293 rfl ?_
            refine K_iadd dTa_advance_294 (w32_id (((((hF.2 c1).2.2 c4).2.2 c7).2 c10).2 c16).1.2.2.1) ?_
            refine K_iconst 5 dTa_advance_295 rfl ?_
            refine K_iconst 5 dTa_advance_296 rfl ?_
            refine K_aload_n 0 1 dTa_advance_297 rfl rfl ?_
            refine K_getf 8 4 1 (jvI (μ 1 4)) dTa_advance_298 pf_Ta_25 rfl rfl (by decide) rfl rfl ?_
            refine K_isub dTa_advance_301 (w32_id (((((hF.2 c1).2.2 c4).2.2 c7).2 c10).2 c16).1.2.2.2.1) ?_
            refine K_imul dTa_advance_302 (w32_id (((((hF.2 c1).2.2 c4).2.2 c7).2 c10).2 c16).1.2.2.2.2) ?_
            refine K_ishl dTa_advance_303 rfl ?_
            refine K_ior dTa_advance_304 rfl ?_
            refine K_putf 8 5 1 (x := (ior32 (μ 1 5) (ishl32 (((μ 2 l1) - 97) + 1) (5 * (5 - (μ 1 4)))))) dTa_advance_305 pf_Ta_35 rfl rfl (by decide) rfl rfl rfl rfl trivial ?_
            refine K_goto 344 dTa_advance_308 (by decide) ?_
            exact (((((hF.2 c1).2.2 c4).2.2 c7).2 c10).2 c16).2
set_option maxHeartbeats 8000000 in
theorem vTa_advance_344 {E : jE} {μ : jMu} {Q : Option AV → jMu → Prop} {l1 l2 l3 l4 l5 : Int} (hF : ((-2147483648 ≤ ((μ 1 4) + 1) ∧ ((μ 1 4) + 1) < 2147483648) ∧ (-2147483648 ≤ (l1 + 1) ∧ (l1 + 1) < 2147483648)) ∧ (K 121 E mTa_advance 236 [some (jvR 1), some (jvI (l1 + 1)), some (jvI l2), some (jvI l3), some (jvI l4), some (jvI l5)] [] (j_up μ 1 4 ((μ 1 4) + 1)) Q)) : K 121 E mTa_advance 344 [some (jvR 1), some (jvI l1), some (jvI l2), some (jvI l3), some (jvI l4), some (jvI l5)] [] μ Q := by
  refine K_aload_n 0 1 dTa_advance_344 rfl rfl ?_
  refine K_dup dTa_advance_345 (fun _ h => by cases h) ?_
  refine K_getf 8 4 1 (jvI (μ 1 4)) dTa_advance_346 pf_Ta_25 rfl rfl (by decide) rfl rfl ?_
  refine K_iconst 1 dTa_advance_349 rfl ?_
  refine K_iadd dTa_advance_350 (w32_id hF.1.1) ?_
  refine K_putf 8 4 1 (x := ((μ 1 4) + 1)) dTa_advance_351 pf_Ta_25 rfl rfl (by decide) rfl rfl rfl rfl trivial ?_
  refine K_iinc 1 dTa_advance_354 (Nat.le_of_ble_eq_true rfl) rfl (w32_ok hF.1.2) rfl ?_
  refine K_goto 236 dTa_advance_357 (by decide) ?_
  exact hF.2
set_option maxHeartbeats 8000000 in
theorem vPa_readStatement_0 {E : jE} {μ : jMu} {Q : Option AV → jMu → Prop} {b : Nat} (hb : isB b) (hF : ((μ 3 4) = 1 ∧ (μ 3 4) = 1) ∧ (Ci E mTa_isWord [jvR 1, jvI 626398208] μ (fun r4 μ1 => ((r4 = 0 → ((μ1 3 4) = 1) ∧ (Ci E mTa_isWord [jvR 1, jvI 658685952] μ1 (fun r10 μ7 => ((r10 = 0 → ((μ7 3 4) = 1) ∧ (Ci E mTa_isWord [jvR 1, jvI 250654720] μ7 (fun r16 μ13 => ((r16 = 0 → ((μ13 3 4) = 1) ∧ (Ci E mTa_isWord [jvR 1, jvI 609259698] μ13 (fun r22 μ19 => ((r22 = 0 → (Ci E mPa_refuse [jvR 3, jvI 1, jvI (μ 1 3)] μ19 (fun r28 μ25 => (K 121 E mPa_readStatement 158 [some (jvR 3), some (jvI (μ 1 3)), some (jvI r28)] [] μ25 Q)))) ∧ (¬ (r22 = 0) → ((μ19 3 5) = ((b : Nat) : Int)) ∧ ((6 ≤ (μ19 b 14) → (Ci E mPa_refuse [jvR 3, jvI 5, jvI (μ 1 3)] μ19 (fun r34 μ31 => (K 121 E mPa_readStatement 158 [some (jvR 3), some (jvI (μ 1 3)), some (jvI r34)] [] μ31 Q)))) ∧ (¬ (6 ≤ (μ19 b 14)) → (Ci E mPa_readReader [jvR 3] μ19 (fun r38 μ35 => (K 121 E mPa_readStatement 158 [some (jvR 3), some (jvI (μ 1 3)), some (jvI r38)] [] μ35 Q)))))))))) ∧ (¬ (r16 = 0) → (Ci E mPa_readGoal [jvR 3] μ13 (fun r42 μ39 => (K 121 E mPa_readStatement 158 [some (jvR 3), some (jvI (μ 1 3)), some (jvI r42)] [] μ39 Q)))))))) ∧ (¬ (r10 = 0) → ((μ7 3 5) = ((b : Nat) : Int)) ∧ ((40 ≤ (μ7 b 13) → (Ci E mPa_refuse [jvR 3, jvI 5, jvI (μ 1 3)] μ7 (fun r48 μ45 => (K 121 E mPa_readStatement 158 [some (jvR 3), some (jvI (μ 1 3)), some (jvI r48)] [] μ45 Q)))) ∧ (¬ (40 ≤ (μ7 b 13)) → (Ci E mPa_readStep [jvR 3] μ7 (fun r52 μ49 => (K 121 E mPa_readStatement 158 [some (jvR 3), some (jvI (μ 1 3)), some (jvI r52)] [] μ49 Q)))))))))) ∧ (¬ (r4 = 0) → ((μ1 3 5) = ((b : Nat) : Int)) ∧ ((12 ≤ (μ1 b 12) → (Ci E mPa_refuse [jvR 3, jvI 5, jvI (μ 1 3)] μ1 (fun r58 μ55 => (K 121 E mPa_readStatement 158 [some (jvR 3), some (jvI (μ 1 3)), some (jvI r58)] [] μ55 Q)))) ∧ (¬ (12 ≤ (μ1 b 12)) → (Ci E mPa_readRule [jvR 3] μ1 (fun r62 μ59 => (K 121 E mPa_readStatement 158 [some (jvR 3), some (jvI (μ 1 3)), some (jvI r62)] [] μ59 Q)))))))))) : K 121 E mPa_readStatement 0 [some (jvR 3), none, none] [] μ Q := by
  refine K_aload_n 0 3 dPa_readStatement_0 rfl rfl ?_
  refine K_getf 5 4 3 (jvR 1) dPa_readStatement_1 pf_Pa_25 rfl rfl (by decide) rfl (congrArg jvR hF.1.1) ?_
  refine K_getf 8 3 1 (jvI (μ 1 3)) dPa_readStatement_4 pf_Pa_56 rfl rfl (by decide) rfl rfl ?_
  refine K_istore_n 1 dPa_readStatement_7 rfl (Nat.le_of_ble_eq_true rfl) rfl ?_
  refine K_aload_n 0 3 dPa_readStatement_8 rfl rfl ?_
  refine K_getf 5 4 3 (jvR 1) dPa_readStatement_9 pf_Pa_25 rfl rfl (by decide) rfl (congrArg jvR hF.1.2) ?_
  refine K_ldc 626398208 dPa_readStatement_12 pc_Pa_65 rfl ?_
  refine K_callVi mTa_isWord 8 1 [jvI 626398208] dPa_readStatement_14 pm_Pa_66 ⟨_, rfl, rfl⟩ ⟨(Nat.le_of_ble_eq_true rfl), (Nat.le_of_ble_eq_true rfl)⟩ rfl rfl (by decide) (Nat.le_of_ble_eq_true rfl) rfl (Nat.le_of_ble_eq_true rfl) (by decide) (Ci_mono hF.2 (fun r4 μ1 h2 => ?_))
  refine K_if_eq 49 dPa_readStatement_17 (by decide) (fun c5 => ?_) (fun c5 => ?_)
  · refine K_aload_n 0 3 dPa_readStatement_49 rfl rfl ?_
    refine K_getf 5 4 3 (jvR 1) dPa_readStatement_50 pf_Pa_25 rfl rfl (by decide) rfl (congrArg jvR (h2.1 c5).1) ?_
    refine K_ldc 658685952 dPa_readStatement_53 pc_Pa_76 rfl ?_
    refine K_callVi mTa_isWord 8 1 [jvI 658685952] dPa_readStatement_55 pm_Pa_66 ⟨_, rfl, rfl⟩ ⟨(Nat.le_of_ble_eq_true rfl), (Nat.le_of_ble_eq_true rfl)⟩ rfl rfl (by decide) (Nat.le_of_ble_eq_true rfl) rfl (Nat.le_of_ble_eq_true rfl) (by decide) (Ci_mono (h2.1 c5).2 (fun r10 μ7 h8 => ?_))
    refine K_if_eq 90 dPa_readStatement_58 (by decide) (fun c11 => ?_) (fun c11 => ?_)
    · refine K_aload_n 0 3 dPa_readStatement_90 rfl rfl ?_
      refine K_getf 5 4 3 (jvR 1) dPa_readStatement_91 pf_Pa_25 rfl rfl (by decide) rfl (congrArg jvR (h8.1 c11).1) ?_
      refine K_ldc 250654720 dPa_readStatement_94 pc_Pa_80 rfl ?_
      refine K_callVi mTa_isWord 8 1 [jvI 250654720] dPa_readStatement_96 pm_Pa_66 ⟨_, rfl, rfl⟩ ⟨(Nat.le_of_ble_eq_true rfl), (Nat.le_of_ble_eq_true rfl)⟩ rfl rfl (by decide) (Nat.le_of_ble_eq_true rfl) rfl (Nat.le_of_ble_eq_true rfl) (by decide) (Ci_mono (h8.1 c11).2 (fun r16 μ13 h14 => ?_))
      refine K_if_eq 110 dPa_readStatement_99 (by decide) (fun c17 => ?_) (fun c17 => ?_)
      · refine K_aload_n 0 3 dPa_readStatement_110 rfl rfl ?_
        refine K_getf 5 4 3 (jvR 1) dPa_readStatement_111 pf_Pa_25 rfl rfl (by decide) rfl (congrArg jvR (h14.1 c17).1) ?_
        refine K_ldc 609259698 dPa_readStatement_114 pc_Pa_84 rfl ?_
        refine K_callVi mTa_isWord 8 1 [jvI 609259698] dPa_readStatement_116 pm_Pa_66 ⟨_, rfl, rfl⟩ ⟨(Nat.le_of_ble_eq_true rfl), (Nat.le_of_ble_eq_true rfl)⟩ rfl rfl (by decide) (Nat.le_of_ble_eq_true rfl) rfl (Nat.le_of_ble_eq_true rfl) (by decide) (Ci_mono (h14.1 c17).2 (fun r22 μ19 h20 => ?_))
        refine K_if_eq 151 dPa_readStatement_119 (by decide) (fun c23 => ?_) (fun c23 => ?_)
        · refine K_aload_n 0 3 dPa_readStatement_151 rfl rfl ?_
          refine K_iconst 1 dPa_readStatement_152 rfl ?_
          refine K_iload_n 1 (μ 1 3) dPa_readStatement_153 rfl rfl ?_
          refine K_callVi mPa_refuse 5 3 [jvI 1, jvI (μ 1 3)] dPa_readStatement_154 pm_Pa_57 ⟨_, rfl, rfl⟩ ⟨(Nat.le_of_ble_eq_true rfl), (Nat.le_of_ble_eq_true rfl)⟩ rfl rfl (by decide) (Nat.le_of_ble_eq_true rfl) rfl (Nat.le_of_ble_eq_true rfl) (by decide) (Ci_mono (h20.1 c23) (fun r28 μ25 h26 => ?_))
          refine K_istore_n 2 dPa_readStatement_157 rfl (Nat.le_of_ble_eq_true rfl) rfl ?_
          exact h26
        · refine K_aload_n 0 3 dPa_readStatement_122 rfl rfl ?_
          refine K_getf 5 5 3 (jvR ((b : Nat) : Int)) dPa_readStatement_123 pf_Pa_29 rfl rfl (by decide) rfl (congrArg jvR (h20.2 c23).1) ?_
          refine K_getf 2 14 b (jvI (μ19 b 14)) dPa_readStatement_126 pf_Pa_85 rfl (isB_c0 hb) (isB_n 0 (by decide) hb) rfl (isB_f0_14 hb) ?_
          refine K_bipush 6 dPa_readStatement_129 rfl ?_
          refine K_icmp_ge 141 dPa_readStatement_131 (by decide) (fun c29 => ?_) (fun c29 => ?_)
          · refine K_aload_n 0 3 dPa_readStatement_141 rfl rfl ?_
            refine K_iconst 5 dPa_readStatement_142 rfl ?_
            refine K_iload_n 1 (μ 1 3) dPa_readStatement_143 rfl rfl ?_
            refine K_callVi mPa_refuse 5 3 [jvI 5, jvI (μ 1 3)] dPa_readStatement_144 pm_Pa_57 ⟨_, rfl, rfl⟩ ⟨(Nat.le_of_ble_eq_true rfl), (Nat.le_of_ble_eq_true rfl)⟩ rfl rfl (by decide) (Nat.le_of_ble_eq_true rfl) rfl (Nat.le_of_ble_eq_true rfl) (by decide) (Ci_mono ((h20.2 c23).2.1 c29) (fun r34 μ31 h32 => ?_))
            refine K_istore_n 2 dPa_readStatement_147 rfl (Nat.le_of_ble_eq_true rfl) rfl ?_
            refine K_goto 158 dPa_readStatement_148 (by decide) ?_
            exact h32
          · refine K_aload_n 0 3 dPa_readStatement_134 rfl rfl ?_
            refine K_callVi mPa_readReader 5 3 [] dPa_readStatement_135 pm_Pa_88 ⟨_, rfl, rfl⟩ ⟨(Nat.le_of_ble_eq_true rfl), (Nat.le_of_ble_eq_true rfl)⟩ rfl rfl (by decide) (Nat.le_of_ble_eq_true rfl) rfl (Nat.le_of_ble_eq_true rfl) (by decide) (Ci_mono ((h20.2 c23).2.2 c29) (fun r38 μ35 h36 => ?_))
            refine K_goto 147 dPa_readStatement_138 (by decide) ?_
            refine K_istore_n 2 dPa_readStatement_147 rfl (Nat.le_of_ble_eq_true rfl) rfl ?_
            refine K_goto 158 dPa_readStatement_148 (by decide) ?_
            exact h36
      · refine K_aload_n 0 3 dPa_readStatement_102 rfl rfl ?_
        refine K_callVi mPa_readGoal 5 3 [] dPa_readStatement_103 pm_Pa_81 ⟨_, rfl, rfl⟩ ⟨(Nat.le_of_ble_eq_true rfl), (Nat.le_of_ble_eq_true rfl)⟩ rfl rfl (by decide) (Nat.le_of_ble_eq_true rfl) rfl (Nat.le_of_ble_eq_true rfl) (by decide) (Ci_mono (h14.2 c17) (fun r42 μ39 h40 => ?_))
        refine K_istore_n 2 dPa_readStatement_106 rfl (Nat.le_of_ble_eq_true rfl) rfl ?_
        refine K_goto 158 dPa_readStatement_107 (by decide) ?_
        exact h40
    · refine K_aload_n 0 3 dPa_readStatement_61 rfl rfl ?_
      refine K_getf 5 5 3 (jvR ((b : Nat) : Int)) dPa_readStatement_62 pf_Pa_29 rfl rfl (by decide) rfl (congrArg jvR (h8.2 c11).1) ?_
      refine K_getf 2 13 b (jvI (μ7 b 13)) dPa_readStatement_65 pf_Pa_61 rfl (isB_c0 hb) (isB_n 0 (by decide) hb) rfl (isB_f0_13 hb) ?_
      refine K_bipush 40 dPa_readStatement_68 rfl ?_
      refine K_icmp_ge 80 dPa_readStatement_70 (by decide) (fun c43 => ?_) (fun c43 => ?_)
      · refine K_aload_n 0 3 dPa_readStatement_80 rfl rfl ?_
        refine K_iconst 5 dPa_readStatement_81 rfl ?_
        refine K_iload_n 1 (μ 1 3) dPa_readStatement_82 rfl rfl ?_
        refine K_callVi mPa_refuse 5 3 [jvI 5, jvI (μ 1 3)] dPa_readStatement_83 pm_Pa_57 ⟨_, rfl, rfl⟩ ⟨(Nat.le_of_ble_eq_true rfl), (Nat.le_of_ble_eq_true rfl)⟩ rfl rfl (by decide) (Nat.le_of_ble_eq_true rfl) rfl (Nat.le_of_ble_eq_true rfl) (by decide) (Ci_mono ((h8.2 c11).2.1 c43) (fun r48 μ45 h46 => ?_))
        refine K_istore_n 2 dPa_readStatement_86 rfl (Nat.le_of_ble_eq_true rfl) rfl ?_
        refine K_goto 158 dPa_readStatement_87 (by decide) ?_
        exact h46
      · refine K_aload_n 0 3 dPa_readStatement_73 rfl rfl ?_
        refine K_callVi mPa_readStep 5 3 [] dPa_readStatement_74 pm_Pa_77 ⟨_, rfl, rfl⟩ ⟨(Nat.le_of_ble_eq_true rfl), (Nat.le_of_ble_eq_true rfl)⟩ rfl rfl (by decide) (Nat.le_of_ble_eq_true rfl) rfl (Nat.le_of_ble_eq_true rfl) (by decide) (Ci_mono ((h8.2 c11).2.2 c43) (fun r52 μ49 h50 => ?_))
        refine K_goto 86 dPa_readStatement_77 (by decide) ?_
        refine K_istore_n 2 dPa_readStatement_86 rfl (Nat.le_of_ble_eq_true rfl) rfl ?_
        refine K_goto 158 dPa_readStatement_87 (by decide) ?_
        exact h50
  · refine K_aload_n 0 3 dPa_readStatement_20 rfl rfl ?_
    refine K_getf 5 5 3 (jvR ((b : Nat) : Int)) dPa_readStatement_21 pf_Pa_29 rfl rfl (by decide) rfl (congrArg jvR (h2.2 c5).1) ?_
    refine K_getf 2 12 b (jvI (μ1 b 12)) dPa_readStatement_24 pf_Pa_70 rfl (isB_c0 hb) (isB_n 0 (by decide) hb) rfl (isB_f0_12 hb) ?_
    refine K_bipush 12 dPa_readStatement_27 rfl ?_
    refine K_icmp_ge 39 dPa_readStatement_29 (by decide) (fun c53 => ?_) (fun c53 => ?_)
    · refine K_aload_n 0 3 dPa_readStatement_39 rfl rfl ?_
      refine K_iconst 5 dPa_readStatement_40 rfl ?_
      refine K_iload_n 1 (μ 1 3) dPa_readStatement_41 rfl rfl ?_
      refine K_callVi mPa_refuse 5 3 [jvI 5, jvI (μ 1 3)] dPa_readStatement_42 pm_Pa_57 ⟨_, rfl, rfl⟩ ⟨(Nat.le_of_ble_eq_true rfl), (Nat.le_of_ble_eq_true rfl)⟩ rfl rfl (by decide) (Nat.le_of_ble_eq_true rfl) rfl (Nat.le_of_ble_eq_true rfl) (by decide) (Ci_mono ((h2.2 c5).2.1 c53) (fun r58 μ55 h56 => ?_))
      refine K_istore_n 2 dPa_readStatement_45 rfl (Nat.le_of_ble_eq_true rfl) rfl ?_
      refine K_goto 158 dPa_readStatement_46 (by decide) ?_
      exact h56
    · refine K_aload_n 0 3 dPa_readStatement_32 rfl rfl ?_
      refine K_callVi mPa_readRule 5 3 [] dPa_readStatement_33 pm_Pa_73 ⟨_, rfl, rfl⟩ ⟨(Nat.le_of_ble_eq_true rfl), (Nat.le_of_ble_eq_true rfl)⟩ rfl rfl (by decide) (Nat.le_of_ble_eq_true rfl) rfl (Nat.le_of_ble_eq_true rfl) (by decide) (Ci_mono ((h2.2 c5).2.2 c53) (fun r62 μ59 h60 => ?_))
      refine K_goto 45 dPa_readStatement_36 (by decide) ?_
      refine K_istore_n 2 dPa_readStatement_45 rfl (Nat.le_of_ble_eq_true rfl) rfl ?_
      refine K_goto 158 dPa_readStatement_46 (by decide) ?_
      exact h60
set_option maxHeartbeats 8000000 in
theorem vPa_readStatement_158 {E : jE} {μ : jMu} {Q : Option AV → jMu → Prop} {l1 l2 : Int} (hF : ((l2 = 0 → (Q (some (jvI 0)) μ)) ∧ (¬ (l2 = 0) → (Ci E mPa_takeMark [jvR 3, jvI 59] μ (fun r7 μ4 => ((r7 = 0 → (Q (some (jvI 0)) μ4)) ∧ (¬ (r7 = 0) → (Q (some (jvI 1)) μ4)))))))) : K 121 E mPa_readStatement 158 [some (jvR 3), some (jvI l1), some (jvI l2)] [] μ Q := by
  refine K_iload_n 2 l2 dPa_readStatement_158 rfl rfl ?_
  refine K_if_eq 175 dPa_readStatement_159 (by decide) (fun c1 => ?_) (fun c1 => ?_)
  · refine K_iconst 0 dPa_readStatement_175 rfl ?_
    exact K_iret dPa_readStatement_176 (Or.inr ⟨rfl, (by decide)⟩) (hF.1 c1)
  · refine K_aload_n 0 3 dPa_readStatement_162 rfl rfl ?_
    refine K_bipush 59 dPa_readStatement_163 rfl ?_
    refine K_callVi mPa_takeMark 5 3 [jvI 59] dPa_readStatement_165 pm_Pa_91 ⟨_, rfl, rfl⟩ ⟨(Nat.le_of_ble_eq_true rfl), (Nat.le_of_ble_eq_true rfl)⟩ rfl rfl (by decide) (Nat.le_of_ble_eq_true rfl) rfl (Nat.le_of_ble_eq_true rfl) (by decide) (Ci_mono (hF.2 c1) (fun r7 μ4 h5 => ?_))
    refine K_if_eq 175 dPa_readStatement_168 (by decide) (fun c8 => ?_) (fun c8 => ?_)
    · refine K_iconst 0 dPa_readStatement_175 rfl ?_
      exact K_iret dPa_readStatement_176 (Or.inr ⟨rfl, (by decide)⟩) (h5.1 c8)
    · refine K_iconst 1 dPa_readStatement_171 rfl ?_
      refine K_goto 176 dPa_readStatement_172 (by decide) ?_
      exact K_iret dPa_readStatement_176 (Or.inr ⟨rfl, (by decide)⟩) (h5.2 c8)
set_option maxHeartbeats 8000000 in
theorem vTa_isWord_0 {E : jE} {μ : jMu} {Q : Option AV → jMu → Prop} {a0 : Int} (hF : ((¬ (μ 1 2) = 2 → (Q (some (jvI 0)) μ)) ∧ ((μ 1 2) = 2 → ((¬ (μ 1 6) = 0 → (Q (some (jvI 0)) μ)) ∧ ((μ 1 6) = 0 → ((6 < (μ 1 4) → (Q (some (jvI 0)) μ)) ∧ (¬ (6 < (μ 1 4)) → ((¬ (μ 1 5) = a0 → (Q (some (jvI 0)) μ)) ∧ ((μ 1 5) = a0 → (Q (some (jvI 1)) μ)))))))))) : K 121 E mTa_isWord 0 [some (jvR 1), some (jvI a0)] [] μ Q := by
  refine K_aload_n 0 1 dTa_isWord_0 rfl rfl ?_
  refine K_getf 8 2 1 (jvI (μ 1 2)) dTa_isWord_1 pf_Ta_19 rfl rfl (by decide) rfl rfl ?_
  refine K_iconst 2 dTa_isWord_4 rfl ?_
  refine K_icmp_ne 36 dTa_isWord_5 (by decide) (fun c1 => ?_) (fun c1 => ?_)
  · refine K_iconst 0 dTa_isWord_36 rfl ?_
    exact K_iret dTa_isWord_37 (Or.inr ⟨rfl, (by decide)⟩) (hF.1 c1)
  · refine K_aload_n 0 1 dTa_isWord_8 rfl rfl ?_
    refine K_getf 8 6 1 (jvI (μ 1 6)) dTa_isWord_9 pf_Ta_31 rfl rfl (by decide) rfl rfl ?_
    refine K_if_ne 36 dTa_isWord_12 (by decide) (fun c4 => ?_) (fun c4 => ?_)
    · refine K_iconst 0 dTa_isWord_36 rfl ?_
      exact K_iret dTa_isWord_37 (Or.inr ⟨rfl, (by decide)⟩) ((hF.2 c1).1 c4)
    · refine K_aload_n 0 1 dTa_isWord_15 rfl rfl ?_
      refine K_getf 8 4 1 (jvI (μ 1 4)) dTa_isWord_16 pf_Ta_25 rfl rfl (by decide) rfl rfl ?_
      refine K_bipush 6 dTa_isWord_19 rfl ?_
      refine K_icmp_gt 36 dTa_isWord_21 (by decide) (fun c7 => ?_) (fun c7 => ?_)
      · refine K_iconst 0 dTa_isWord_36 rfl ?_
        exact K_iret dTa_isWord_37 (Or.inr ⟨rfl, (by decide)⟩) (((hF.2 c1).2 c4).1 c7)
      · refine K_aload_n 0 1 dTa_isWord_24 rfl rfl ?_
        refine K_getf 8 5 1 (jvI (μ 1 5)) dTa_isWord_25 pf_Ta_35 rfl rfl (by decide) rfl rfl ?_
        refine K_iload_n 1 a0 dTa_isWord_28 rfl rfl ?_
        refine K_icmp_ne 36 dTa_isWord_29 (by decide) (fun c10 => ?_) (fun c10 => ?_)
        · refine K_iconst 0 dTa_isWord_36 rfl ?_
          exact K_iret dTa_isWord_37 (Or.inr ⟨rfl, (by decide)⟩) ((((hF.2 c1).2 c4).2 c7).1 c10)
        · refine K_iconst 1 dTa_isWord_32 rfl ?_
          refine K_goto 37 dTa_isWord_33 (by decide) ?_
          exact K_iret dTa_isWord_37 (Or.inr ⟨rfl, (by decide)⟩) ((((hF.2 c1).2 c4).2 c7).2 c10)
set_option maxHeartbeats 8000000 in
theorem vPa_readRule_0 {E : jE} {μ : jMu} {Q : Option AV → jMu → Prop} {b : Nat} (hb : isB b) (hF : ((μ 3 5) = ((b : Nat) : Int) ∧ (μ 3 4) = 1) ∧ (Cv E mTa_advance [jvR 1] μ (fun μ1 => (Ci E mPa_takeNewName [jvR 3] μ1 (fun r7 μ4 => ((¬ r7 = 0 → ((μ4 3 4) = 1) ∧ (Ci E mTa_isWord [jvR 1, jvI 245044832] μ4 (fun r13 μ10 => ((¬ r13 = 0 → (K 121 E mPa_readRule 47 [some (jvR 3), some (jvI (μ b 12)), some (jvI 0), some (jvI r7), some (jvI 0), none] [] μ10 Q)) ∧ (r13 = 0 → (K 121 E mPa_readRule 47 [some (jvR 3), some (jvI (μ b 12)), some (jvI 0), some (jvI r7), some (jvI 1), none] [] μ10 Q)))))) ∧ (r7 = 0 → (Q (some (jvI 0)) μ4)))))))) : K 121 E mPa_readRule 0 [some (jvR 3), none, none, none, none, none] [] μ Q := by
  refine K_aload_n 0 3 dPa_readRule_0 rfl rfl ?_
  refine K_getf 5 5 3 (jvR ((b : Nat) : Int)) dPa_readRule_1 pf_Pa_29 rfl rfl (by decide) rfl (congrArg jvR hF.1.1) ?_
  refine K_getf 2 12 b (jvI (μ b 12)) dPa_readRule_4 pf_Pa_70 rfl (isB_c0 hb) (isB_n 0 (by decide) hb) rfl (isB_f0_12 hb) ?_
  refine K_istore_n 1 dPa_readRule_7 rfl (Nat.le_of_ble_eq_true rfl) rfl ?_
  refine K_iconst 0 dPa_readRule_8 rfl ?_
  refine K_istore_n 2 dPa_readRule_9 rfl (Nat.le_of_ble_eq_true rfl) rfl ?_
  refine K_aload_n 0 3 dPa_readRule_10 rfl rfl ?_
  refine K_getf 5 4 3 (jvR 1) dPa_readRule_11 pf_Pa_25 rfl rfl (by decide) rfl (congrArg jvR hF.1.2) ?_
  refine K_callVv mTa_advance 8 1 [] dPa_readRule_14 pm_Pa_94 ⟨_, rfl, rfl⟩ ⟨(Nat.le_of_ble_eq_true rfl), (Nat.le_of_ble_eq_true rfl)⟩ rfl rfl (by decide) (Nat.le_of_ble_eq_true rfl) rfl (Nat.le_of_ble_eq_true rfl) (by decide) (Cv_mono hF.2 (fun μ1 h2 => ?_))
  refine K_aload_n 0 3 dPa_readRule_17 rfl rfl ?_
  refine K_callVi mPa_takeNewName 5 3 [] dPa_readRule_18 pm_Pa_97 ⟨_, rfl, rfl⟩ ⟨(Nat.le_of_ble_eq_true rfl), (Nat.le_of_ble_eq_true rfl)⟩ rfl rfl (by decide) (Nat.le_of_ble_eq_true rfl) rfl (Nat.le_of_ble_eq_true rfl) (by decide) (Ci_mono h2 (fun r7 μ4 h5 => ?_))
  refine K_istore_n 3 dPa_readRule_21 rfl (Nat.le_of_ble_eq_true rfl) rfl ?_
  refine K_iload_n 3 r7 dPa_readRule_22 rfl rfl ?_
  refine K_if_ne 28 dPa_readRule_23 (by decide) (fun c8 => ?_) (fun c8 => ?_)
  · refine K_aload_n 0 3 dPa_readRule_28 rfl rfl ?_
    refine K_getf 5 4 3 (jvR 1) dPa_readRule_29 pf_Pa_25 rfl rfl (by decide) rfl (congrArg jvR (h5.1 c8).1) ?_
    refine K_ldc 245044832 dPa_readRule_32 pc_Pa_101 rfl ?_
    refine K_callVi mTa_isWord 8 1 [jvI 245044832] dPa_readRule_34 pm_Pa_66 ⟨_, rfl, rfl⟩ ⟨(Nat.le_of_ble_eq_true rfl), (Nat.le_of_ble_eq_true rfl)⟩ rfl rfl (by decide) (Nat.le_of_ble_eq_true rfl) rfl (Nat.le_of_ble_eq_true rfl) (by decide) (Ci_mono (h5.1 c8).2 (fun r13 μ10 h11 => ?_))
    refine K_if_ne 44 dPa_readRule_37 (by decide) (fun c14 => ?_) (fun c14 => ?_)
    · refine K_iconst 0 dPa_readRule_44 rfl ?_
      refine K_istore 4 dPa_readRule_45 (Nat.le_of_ble_eq_true rfl) rfl ?_
      exact (h11.1 c14)
    · refine K_iconst 1 dPa_readRule_40 rfl ?_
      refine K_goto 45 dPa_readRule_41 (by decide) ?_
      refine K_istore 4 dPa_readRule_45 (Nat.le_of_ble_eq_true rfl) rfl ?_
      exact (h11.2 c14)
  · refine K_iconst 0 dPa_readRule_26 rfl ?_
    exact K_iret dPa_readRule_27 (Or.inr ⟨rfl, (by decide)⟩) (h5.2 c8)
set_option maxHeartbeats 8000000 in
theorem vPa_readRule_47 {E : jE} {μ : jMu} {Q : Option AV → jMu → Prop} {b : Nat} (hb : isB b) {l1 l2 l3 l4 : Int} (hF : ((l4 = 0 → (Ci E mPa_takeWord [jvR 3, jvI 245044832] μ (fun r6 μ3 => ((¬ r6 = 0 → (Ci E mPa_readTerm [jvR 3] μ3 (fun r12 μ9 => ((¬ r12 = (-1) → ((μ9 3 5) = ((b : Nat) : Int)) ∧ (Cv E mBk_addRule [jvR ((b : Nat) : Int), jvI l3, jvI l2, jvI r12] μ9 (fun μ15 => (Q (some (jvI 1)) μ15)))) ∧ (r12 = (-1) → (Q (some (jvI 0)) μ9)))))) ∧ (r6 = 0 → (Q (some (jvI 0)) μ3)))))) ∧ (¬ (l4 = 0) → ((3 ≤ l2 → (Ci E mPa_takeWord [jvR 3, jvI 245044832] μ (fun r26 μ23 => ((¬ r26 = 0 → (Ci E mPa_readTerm [jvR 3] μ23 (fun r32 μ29 => ((¬ r32 = (-1) → ((μ29 3 5) = ((b : Nat) : Int)) ∧ (Cv E mBk_addRule [jvR ((b : Nat) : Int), jvI l3, jvI l2, jvI r32] μ29 (fun μ35 => (Q (some (jvI 1)) μ35)))) ∧ (r32 = (-1) → (Q (some (jvI 0)) μ29)))))) ∧ (r26 = 0 → (Q (some (jvI 0)) μ23)))))) ∧ (¬ (3 ≤ l2) → (Ci E mPa_readTerm [jvR 3] μ (fun r44 μ41 => ((¬ r44 = (-1) → ((μ41 3 5) = ((b : Nat) : Int) ∧ (-2147483648 ≤ (3 * l1) ∧ (3 * l1) < 2147483648) ∧ (-2147483648 ≤ ((3 * l1) + l2) ∧ ((3 * l1) + l2) < 2147483648) ∧ (0 ≤ ((3 * l1) + l2) ∧ ((3 * l1) + l2) < 36) ∧ (-2147483648 ≤ (l2 + 1) ∧ (l2 + 1) < 2147483648)) ∧ ((3 ≤ (l2 + 1) → (K 121 E mPa_readRule 111 [some (jvR 3), some (jvI l1), some (jvI (l2 + 1)), some (jvI l3), some (jvI l4), some (jvI r44)] [jvI 0] (j_up μ41 (b + 10) ((3 * l1) + l2) r44) Q)) ∧ (¬ (3 ≤ (l2 + 1)) → (((j_up μ41 (b + 10) ((3 * l1) + l2) r44) 3 4) = 1) ∧ (Ci E mTa_isMark [jvR 1, jvI 44] (j_up μ41 (b + 10) ((3 * l1) + l2) r44) (fun r52 μ49 => ((r52 = 0 → (K 121 E mPa_readRule 111 [some (jvR 3), some (jvI l1), some (jvI (l2 + 1)), some (jvI l3), some (jvI l4), some (jvI r44)] [jvI 0] μ49 Q)) ∧ (¬ (r52 = 0) → (K 121 E mPa_readRule 111 [some (jvR 3), some (jvI l1), some (jvI (l2 + 1)), some (jvI l3), some (jvI l4), some (jvI r44)] [jvI 1] μ49 Q)))))))) ∧ (r44 = (-1) → (Q (some (jvI 0)) μ41)))))))))) : K 121 E mPa_readRule 47 [some (jvR 3), some (jvI l1), some (jvI l2), some (jvI l3), some (jvI l4), none] [] μ Q := by
  refine K_iload 4 l4 dPa_readRule_47 rfl ?_
  refine K_if_eq 128 dPa_readRule_49 (by decide) (fun c1 => ?_) (fun c1 => ?_)
  · refine K_aload_n 0 3 dPa_readRule_128 rfl rfl ?_
    refine K_ldc 245044832 dPa_readRule_129 pc_Pa_101 rfl ?_
    refine K_callVi mPa_takeWord 5 3 [jvI 245044832] dPa_readRule_131 pm_Pa_111 ⟨_, rfl, rfl⟩ ⟨(Nat.le_of_ble_eq_true rfl), (Nat.le_of_ble_eq_true rfl)⟩ rfl rfl (by decide) (Nat.le_of_ble_eq_true rfl) rfl (Nat.le_of_ble_eq_true rfl) (by decide) (Ci_mono (hF.1 c1) (fun r6 μ3 h4 => ?_))
    refine K_if_ne 139 dPa_readRule_134 (by decide) (fun c7 => ?_) (fun c7 => ?_)
    · refine K_aload_n 0 3 dPa_readRule_139 rfl rfl ?_
      refine K_callVi mPa_readTerm 5 3 [] dPa_readRule_140 pm_Pa_102 ⟨_, rfl, rfl⟩ ⟨(Nat.le_of_ble_eq_true rfl), (Nat.le_of_ble_eq_true rfl)⟩ rfl rfl (by decide) (Nat.le_of_ble_eq_true rfl) rfl (Nat.le_of_ble_eq_true rfl) (by decide) (Ci_mono (h4.1 c7) (fun r12 μ9 h10 => ?_))
      refine K_istore 5 dPa_readRule_143 (Nat.le_of_ble_eq_true rfl) rfl ?_
      refine K_iload 5 r12 dPa_readRule_145 rfl ?_
      refine K_iconst (-1) dPa_readRule_147 rfl ?_
      refine K_icmp_ne 153 dPa_readRule_148 (by decide) (fun c13 => ?_) (fun c13 => ?_)
      · refine K_aload_n 0 3 dPa_readRule_153 rfl rfl ?_
        refine K_getf 5 5 3 (jvR ((b : Nat) : Int)) dPa_readRule_154 pf_Pa_29 rfl rfl (by decide) rfl (congrArg jvR (h10.1 c13).1) ?_
        refine K_iload_n 3 l3 dPa_readRule_157 rfl rfl ?_
        refine K_iload_n 2 l2 dPa_readRule_158 rfl rfl ?_
        refine K_iload 5 r12 dPa_readRule_159 rfl ?_
        refine K_callVv mBk_addRule 2 b [jvI l3, jvI l2, jvI r12] dPa_readRule_161 pm_Pa_114 ⟨_, rfl, rfl⟩ ⟨(Nat.le_of_ble_eq_true rfl), (Nat.le_of_ble_eq_true rfl)⟩ rfl (isB_c0 hb) (isB_n 0 (by decide) hb) (Nat.le_of_ble_eq_true rfl) rfl (Nat.le_of_ble_eq_true rfl) (by decide) (Cv_mono (h10.1 c13).2 (fun μ15 h16 => ?_))
        refine K_iconst 1 dPa_readRule_164 rfl ?_
        exact K_iret dPa_readRule_165 (Or.inr ⟨rfl, (by decide)⟩) h16
      · refine K_iconst 0 dPa_readRule_151 rfl ?_
        exact K_iret dPa_readRule_152 (Or.inr ⟨rfl, (by decide)⟩) (h10.2 c13)
    · refine K_iconst 0 dPa_readRule_137 rfl ?_
      exact K_iret dPa_readRule_138 (Or.inr ⟨rfl, (by decide)⟩) (h4.2 c7)
  · refine K_iload_n 2 l2 dPa_readRule_52 rfl rfl ?_
    refine K_iconst 3 dPa_readRule_53 rfl ?_
    refine K_icmp_ge 128 dPa_readRule_54 (by decide) (fun c21 => ?_) (fun c21 => ?_)
    · refine K_aload_n 0 3 dPa_readRule_128 rfl rfl ?_
      refine K_ldc 245044832 dPa_readRule_129 pc_Pa_101 rfl ?_
      refine K_callVi mPa_takeWord 5 3 [jvI 245044832] dPa_readRule_131 pm_Pa_111 ⟨_, rfl, rfl⟩ ⟨(Nat.le_of_ble_eq_true rfl), (Nat.le_of_ble_eq_true rfl)⟩ rfl rfl (by decide) (Nat.le_of_ble_eq_true rfl) rfl (Nat.le_of_ble_eq_true rfl) (by decide) (Ci_mono ((hF.2 c1).1 c21) (fun r26 μ23 h24 => ?_))
      refine K_if_ne 139 dPa_readRule_134 (by decide) (fun c27 => ?_) (fun c27 => ?_)
      · refine K_aload_n 0 3 dPa_readRule_139 rfl rfl ?_
        refine K_callVi mPa_readTerm 5 3 [] dPa_readRule_140 pm_Pa_102 ⟨_, rfl, rfl⟩ ⟨(Nat.le_of_ble_eq_true rfl), (Nat.le_of_ble_eq_true rfl)⟩ rfl rfl (by decide) (Nat.le_of_ble_eq_true rfl) rfl (Nat.le_of_ble_eq_true rfl) (by decide) (Ci_mono (h24.1 c27) (fun r32 μ29 h30 => ?_))
        refine K_istore 5 dPa_readRule_143 (Nat.le_of_ble_eq_true rfl) rfl ?_
        refine K_iload 5 r32 dPa_readRule_145 rfl ?_
        refine K_iconst (-1) dPa_readRule_147 rfl ?_
        refine K_icmp_ne 153 dPa_readRule_148 (by decide) (fun c33 => ?_) (fun c33 => ?_)
        · refine K_aload_n 0 3 dPa_readRule_153 rfl rfl ?_
          refine K_getf 5 5 3 (jvR ((b : Nat) : Int)) dPa_readRule_154 pf_Pa_29 rfl rfl (by decide) rfl (congrArg jvR (h30.1 c33).1) ?_
          refine K_iload_n 3 l3 dPa_readRule_157 rfl rfl ?_
          refine K_iload_n 2 l2 dPa_readRule_158 rfl rfl ?_
          refine K_iload 5 r32 dPa_readRule_159 rfl ?_
          refine K_callVv mBk_addRule 2 b [jvI l3, jvI l2, jvI r32] dPa_readRule_161 pm_Pa_114 ⟨_, rfl, rfl⟩ ⟨(Nat.le_of_ble_eq_true rfl), (Nat.le_of_ble_eq_true rfl)⟩ rfl (isB_c0 hb) (isB_n 0 (by decide) hb) (Nat.le_of_ble_eq_true rfl) rfl (Nat.le_of_ble_eq_true rfl) (by decide) (Cv_mono (h30.1 c33).2 (fun μ35 h36 => ?_))
          refine K_iconst 1 dPa_readRule_164 rfl ?_
          exact K_iret dPa_readRule_165 (Or.inr ⟨rfl, (by decide)⟩) h36
        · refine K_iconst 0 dPa_readRule_151 rfl ?_
          exact K_iret dPa_readRule_152 (Or.inr ⟨rfl, (by decide)⟩) (h30.2 c33)
      · refine K_iconst 0 dPa_readRule_137 rfl ?_
        exact K_iret dPa_readRule_138 (Or.inr ⟨rfl, (by decide)⟩) (h24.2 c27)
    · refine K_aload_n 0 3 dPa_readRule_57 rfl rfl ?_
      refine K_callVi mPa_readTerm 5 3 [] dPa_readRule_58 pm_Pa_102 ⟨_, rfl, rfl⟩ ⟨(Nat.le_of_ble_eq_true rfl), (Nat.le_of_ble_eq_true rfl)⟩ rfl rfl (by decide) (Nat.le_of_ble_eq_true rfl) rfl (Nat.le_of_ble_eq_true rfl) (by decide) (Ci_mono ((hF.2 c1).2 c21) (fun r44 μ41 h42 => ?_))
      refine K_istore 5 dPa_readRule_61 (Nat.le_of_ble_eq_true rfl) rfl ?_
      refine K_iload 5 r44 dPa_readRule_63 rfl ?_
      refine K_iconst (-1) dPa_readRule_65 rfl ?_
      refine K_icmp_ne 71 dPa_readRule_66 (by decide) (fun c45 => ?_) (fun c45 => ?_)
      · refine K_aload_n 0 3 dPa_readRule_71 rfl rfl ?_
        refine K_getf 5 5 3 (jvR ((b : Nat) : Int)) dPa_readRule_72 pf_Pa_29 rfl rfl (by decide) rfl (congrArg jvR (h42.1 c45).1.1) ?_
        refine K_getf 2 3 b (jvR ((b + 10 : Nat) : Int)) dPa_readRule_75 pf_Pa_105 rfl (isB_c0 hb) (isB_n 0 (by decide) hb) rfl (isB_f0_3 hb) ?_
        refine K_iconst 3 dPa_readRule_78 rfl ?_
        refine K_iload_n 1 l1 dPa_readRule_79 rfl rfl ?_
        refine K_imul dPa_readRule_80 (w32_id (h42.1 c45).1.2.1) ?_
        refine K_iload_n 2 l2 dPa_readRule_81 rfl rfl ?_
        refine K_iadd dPa_readRule_82 (w32_id (h42.1 c45).1.2.2.1) ?_
        refine K_iload 5 r44 dPa_readRule_83 rfl ?_
        refine K_iast (b + 10) 36 dPa_readRule_85 rfl (isB_c10 hb) (isB_n 10 (by decide) hb) (h42.1 c45).1.2.2.2.1 ?_
        refine K_iinc 2 dPa_readRule_86 (Nat.le_of_ble_eq_true rfl) rfl (w32_ok (h42.1 c45).1.2.2.2.2) rfl ?_
        refine K_iload_n 2 (l2 + 1) dPa_readRule_89 rfl rfl ?_
        refine K_iconst 3 dPa_readRule_90 rfl ?_
        refine K_icmp_ge 110 dPa_readRule_91 (by decide) (fun c47 => ?_) (fun c47 => ?_)
        · refine K_iconst 0 dPa_readRule_110 rfl ?_
          exact ((h42.1 c45).2.1 c47)
        · refine K_aload_n 0 3 dPa_readRule_94 rfl rfl ?_
          refine K_getf 5 4 3 (jvR 1) dPa_readRule_95 pf_Pa_25 rfl rfl (by decide) rfl (congrArg jvR ((h42.1 c45).2.2 c47).1) ?_
          refine K_bipush 44 dPa_readRule_98 rfl ?_
          refine K_callVi mTa_isMark 8 1 [jvI 44] dPa_readRule_100 pm_Pa_108 ⟨_, rfl, rfl⟩ ⟨(Nat.le_of_ble_eq_true rfl), (Nat.le_of_ble_eq_true rfl)⟩ rfl rfl (by decide) (Nat.le_of_ble_eq_true rfl) rfl (Nat.le_of_ble_eq_true rfl) (by decide) (Ci_mono ((h42.1 c45).2.2 c47).2 (fun r52 μ49 h50 => ?_))
          refine K_if_eq 110 dPa_readRule_103 (by decide) (fun c53 => ?_) (fun c53 => ?_)
          · refine K_iconst 0 dPa_readRule_110 rfl ?_
            exact (h50.1 c53)
          · refine K_iconst 1 dPa_readRule_106 rfl ?_
            refine K_goto 111 dPa_readRule_107 (by decide) ?_
            exact (h50.2 c53)
      · refine K_iconst 0 dPa_readRule_69 rfl ?_
        exact K_iret dPa_readRule_70 (Or.inr ⟨rfl, (by decide)⟩) (h42.2 c45)
set_option maxHeartbeats 8000000 in
theorem vPa_readRule_111 {E : jE} {μ : jMu} {Q : Option AV → jMu → Prop} {l1 l2 l3 l4 l5 s0 : Int} (hF : ((s0 = 0 → (K 121 E mPa_readRule 47 [some (jvR 3), some (jvI l1), some (jvI l2), some (jvI l3), some (jvI s0), none] [] μ Q)) ∧ (¬ (s0 = 0) → ((μ 3 4) = 1) ∧ (Cv E mTa_advance [jvR 1] μ (fun μ3 => (K 121 E mPa_readRule 47 [some (jvR 3), some (jvI l1), some (jvI l2), some (jvI l3), some (jvI s0), none] [] μ3 Q)))))) : K 121 E mPa_readRule 111 [some (jvR 3), some (jvI l1), some (jvI l2), some (jvI l3), some (jvI l4), some (jvI l5)] [jvI s0] μ Q := by
  refine K_istore 4 dPa_readRule_111 (Nat.le_of_ble_eq_true rfl) rfl ?_
  refine K_iload 4 s0 dPa_readRule_113 rfl ?_
  refine K_if_eq 125 dPa_readRule_115 (by decide) (fun c1 => ?_) (fun c1 => ?_)
  · refine K_goto 47 dPa_readRule_125 (by decide) ?_
    exact K_forget [true, true, true, true, true, false] (hF.1 c1)
  · refine K_aload_n 0 3 dPa_readRule_118 rfl rfl ?_
    refine K_getf 5 4 3 (jvR 1) dPa_readRule_119 pf_Pa_25 rfl rfl (by decide) rfl (congrArg jvR (hF.2 c1).1) ?_
    refine K_callVv mTa_advance 8 1 [] dPa_readRule_122 pm_Pa_94 ⟨_, rfl, rfl⟩ ⟨(Nat.le_of_ble_eq_true rfl), (Nat.le_of_ble_eq_true rfl)⟩ rfl rfl (by decide) (Nat.le_of_ble_eq_true rfl) rfl (Nat.le_of_ble_eq_true rfl) (by decide) (Cv_mono (hF.2 c1).2 (fun μ3 h4 => ?_))
    refine K_goto 47 dPa_readRule_125 (by decide) ?_
    exact K_forget [true, true, true, true, true, false] h4
set_option maxHeartbeats 8000000 in
theorem vPa_takeNewName_0 {E : jE} {μ : jMu} {Q : Option AV → jMu → Prop} {b : Nat} (hb : isB b) (hF : (Ci E mPa_takeName [jvR 3] μ (fun r4 μ1 => ((r4 = 0 → (Q (some (jvI r4)) μ1)) ∧ (¬ (r4 = 0) → ((μ1 3 5) = ((b : Nat) : Int)) ∧ (Ci E mBk_ruleNamed [jvR ((b : Nat) : Int), jvI r4] μ1 (fun r11 μ8 => ((¬ r11 = (-1) → (Ci E mPa_refuse [jvR 3, jvI 3, jvI (μ8 3 7)] μ8 (fun r17 μ14 => (Q (some (jvI 0)) μ14)))) ∧ (r11 = (-1) → ((μ8 3 5) = ((b : Nat) : Int)) ∧ (Ci E mBk_hasReaderNamed [jvR ((b : Nat) : Int), jvI r4] μ8 (fun r22 μ19 => ((r22 = 0 → (Q (some (jvI r4)) μ19)) ∧ (¬ (r22 = 0) → (Ci E mPa_refuse [jvR 3, jvI 3, jvI (μ19 3 7)] μ19 (fun r29 μ26 => (Q (some (jvI 0)) μ26)))))))))))))))) : K 121 E mPa_takeNewName 0 [some (jvR 3), none] [] μ Q := by
  refine K_aload_n 0 3 dPa_takeNewName_0 rfl rfl ?_
  refine K_callVi mPa_takeName 5 3 [] dPa_takeNewName_1 pm_Pa_119 ⟨_, rfl, rfl⟩ ⟨(Nat.le_of_ble_eq_true rfl), (Nat.le_of_ble_eq_true rfl)⟩ rfl rfl (by decide) (Nat.le_of_ble_eq_true rfl) rfl (Nat.le_of_ble_eq_true rfl) (by decide) (Ci_mono hF (fun r4 μ1 h2 => ?_))
  refine K_istore_n 1 dPa_takeNewName_4 rfl (Nat.le_of_ble_eq_true rfl) rfl ?_
  refine K_iload_n 1 r4 dPa_takeNewName_5 rfl rfl ?_
  refine K_if_eq 44 dPa_takeNewName_6 (by decide) (fun c5 => ?_) (fun c5 => ?_)
  · refine K_iload_n 1 r4 dPa_takeNewName_44 rfl rfl ?_
    exact K_iret dPa_takeNewName_45 (Or.inl rfl) (h2.1 c5)
  · refine K_aload_n 0 3 dPa_takeNewName_9 rfl rfl ?_
    refine K_getf 5 5 3 (jvR ((b : Nat) : Int)) dPa_takeNewName_10 pf_Pa_29 rfl rfl (by decide) rfl (congrArg jvR (h2.2 c5).1) ?_
    refine K_iload_n 1 r4 dPa_takeNewName_13 rfl rfl ?_
    refine K_callVi mBk_ruleNamed 2 b [jvI r4] dPa_takeNewName_14 pm_Pa_122 ⟨_, rfl, rfl⟩ ⟨(Nat.le_of_ble_eq_true rfl), (Nat.le_of_ble_eq_true rfl)⟩ rfl (isB_c0 hb) (isB_n 0 (by decide) hb) (Nat.le_of_ble_eq_true rfl) rfl (Nat.le_of_ble_eq_true rfl) (by decide) (Ci_mono (h2.2 c5).2 (fun r11 μ8 h9 => ?_))
    refine K_iconst (-1) dPa_takeNewName_17 rfl ?_
    refine K_icmp_ne 32 dPa_takeNewName_18 (by decide) (fun c12 => ?_) (fun c12 => ?_)
    · refine K_aload_n 0 3 dPa_takeNewName_32 rfl rfl ?_
      refine K_iconst 3 dPa_takeNewName_33 rfl ?_
      refine K_aload_n 0 3 dPa_takeNewName_34 rfl rfl ?_
      refine K_getf 5 7 3 (jvI (μ8 3 7)) dPa_takeNewName_35 pf_Pa_126 rfl rfl (by decide) rfl rfl ?_
      refine K_callVi mPa_refuse 5 3 [jvI 3, jvI (μ8 3 7)] dPa_takeNewName_38 pm_Pa_57 ⟨_, rfl, rfl⟩ ⟨(Nat.le_of_ble_eq_true rfl), (Nat.le_of_ble_eq_true rfl)⟩ rfl rfl (by decide) (Nat.le_of_ble_eq_true rfl) rfl (Nat.le_of_ble_eq_true rfl) (by decide) (Ci_mono (h9.1 c12) (fun r17 μ14 h15 => ?_))
      refine K_pop dPa_takeNewName_41 (fun _ h => by cases h) ?_
      refine K_iconst 0 dPa_takeNewName_42 rfl ?_
      exact K_iret dPa_takeNewName_43 (Or.inl rfl) h15
    · refine K_aload_n 0 3 dPa_takeNewName_21 rfl rfl ?_
      refine K_getf 5 5 3 (jvR ((b : Nat) : Int)) dPa_takeNewName_22 pf_Pa_29 rfl rfl (by decide) rfl (congrArg jvR (h9.2 c12).1) ?_
      refine K_iload_n 1 r4 dPa_takeNewName_25 rfl rfl ?_
      refine K_callVi mBk_hasReaderNamed 2 b [jvI r4] dPa_takeNewName_26 pm_Pa_198 ⟨_, rfl, rfl⟩ ⟨(Nat.le_of_ble_eq_true rfl), (Nat.le_of_ble_eq_true rfl)⟩ rfl (isB_c0 hb) (isB_n 0 (by decide) hb) (Nat.le_of_ble_eq_true rfl) rfl (Nat.le_of_ble_eq_true rfl) (by decide) (Ci_mono (h9.2 c12).2 (fun r22 μ19 h20 => ?_))
      refine K_if_eq 44 dPa_takeNewName_29 (by decide) (fun c23 => ?_) (fun c23 => ?_)
      · refine K_iload_n 1 r4 dPa_takeNewName_44 rfl rfl ?_
        exact K_iret dPa_takeNewName_45 (Or.inl rfl) (h20.1 c23)
      · refine K_aload_n 0 3 dPa_takeNewName_32 rfl rfl ?_
        refine K_iconst 3 dPa_takeNewName_33 rfl ?_
        refine K_aload_n 0 3 dPa_takeNewName_34 rfl rfl ?_
        refine K_getf 5 7 3 (jvI (μ19 3 7)) dPa_takeNewName_35 pf_Pa_126 rfl rfl (by decide) rfl rfl ?_
        refine K_callVi mPa_refuse 5 3 [jvI 3, jvI (μ19 3 7)] dPa_takeNewName_38 pm_Pa_57 ⟨_, rfl, rfl⟩ ⟨(Nat.le_of_ble_eq_true rfl), (Nat.le_of_ble_eq_true rfl)⟩ rfl rfl (by decide) (Nat.le_of_ble_eq_true rfl) rfl (Nat.le_of_ble_eq_true rfl) (by decide) (Ci_mono (h20.2 c23) (fun r29 μ26 h27 => ?_))
        refine K_pop dPa_takeNewName_41 (fun _ h => by cases h) ?_
        refine K_iconst 0 dPa_takeNewName_42 rfl ?_
        exact K_iret dPa_takeNewName_43 (Or.inl rfl) h27
set_option maxHeartbeats 8000000 in
theorem vPa_takeName_0 {E : jE} {μ : jMu} {Q : Option AV → jMu → Prop} (hF : ((μ 3 4) = 1 ∧ (μ 3 4) = 1 ∧ (μ 3 4) = 1) ∧ ((¬ (μ 1 2) = 2 → (Ci E mPa_refuse [jvR 3, jvI 1, jvI (μ 1 3)] (j_up μ 3 7 (μ 1 3)) (fun r6 μ3 => (Q (some (jvI 0)) μ3)))) ∧ ((μ 1 2) = 2 → ((μ 3 4) = 1) ∧ (((μ 1 6) = 0 → ((μ 3 4) = 1) ∧ (((μ 1 4) ≤ 6 → (Ci E mPa_isOwn [jvI (μ 1 5)] (j_up μ 3 7 (μ 1 3)) (fun r15 μ12 => ((r15 = 0 → ((μ12 3 4) = 1) ∧ (Cv E mTa_advance [jvR 1] μ12 (fun μ18 => (Q (some (jvI (μ 1 5))) μ18)))) ∧ (¬ (r15 = 0) → (Ci E mPa_refuse [jvR 3, jvI 1, jvI (μ12 3 7)] μ12 (fun r25 μ22 => (Q (some (jvI 0)) μ22)))))))) ∧ (¬ ((μ 1 4) ≤ 6) → ((-2147483648 ≤ ((μ 1 3) + 6) ∧ ((μ 1 3) + 6) < 2147483648)) ∧ (Ci E mPa_refuse [jvR 3, jvI 1, jvI ((μ 1 3) + 6)] (j_up μ 3 7 (μ 1 3)) (fun r30 μ27 => (Q (some (jvI 0)) μ27)))))) ∧ (¬ ((μ 1 6) = 0) → (Ci E mPa_refuse [jvR 3, jvI 1, jvI (μ 1 3)] (j_up μ 3 7 (μ 1 3)) (fun r35 μ32 => (Q (some (jvI 0)) μ32)))))))) : K 121 E mPa_takeName 0 [some (jvR 3), none] [] μ Q := by
  refine K_aload_n 0 3 dPa_takeName_0 rfl rfl ?_
  refine K_getf 5 4 3 (jvR 1) dPa_takeName_1 pf_Pa_25 rfl rfl (by decide) rfl (congrArg jvR hF.1.1) ?_
  refine K_getf 8 5 1 (jvI (μ 1 5)) dPa_takeName_4 pf_Pa_185 rfl rfl (by decide) rfl rfl ?_
  refine K_istore_n 1 dPa_takeName_7 rfl (Nat.le_of_ble_eq_true rfl) rfl ?_
  refine K_aload_n 0 3 dPa_takeName_8 rfl rfl ?_
  refine K_aload_n 0 3 dPa_takeName_9 rfl rfl ?_
  refine K_getf 5 4 3 (jvR 1) dPa_takeName_10 pf_Pa_25 rfl rfl (by decide) rfl (congrArg jvR hF.1.2.1) ?_
  refine K_getf 8 3 1 (jvI (μ 1 3)) dPa_takeName_13 pf_Pa_56 rfl rfl (by decide) rfl rfl ?_
  refine K_putf 5 7 3 (x := (μ 1 3)) dPa_takeName_16 pf_Pa_126 rfl rfl (by decide) rfl rfl rfl rfl trivial ?_
  refine K_aload_n 0 3 dPa_takeName_19 rfl rfl ?_
  refine K_getf 5 4 3 (jvR 1) dPa_takeName_20 pf_Pa_25 rfl rfl (by decide) rfl (congrArg jvR hF.1.2.2) ?_
  refine K_getf 8 2 1 (jvI (μ 1 2)) dPa_takeName_23 pf_Pa_49 rfl rfl (by decide) rfl rfl ?_
  refine K_iconst 2 dPa_takeName_26 rfl ?_
  refine K_icmp_ne 40 dPa_takeName_27 (by decide) (fun c1 => ?_) (fun c1 => ?_)
  · refine K_aload_n 0 3 dPa_takeName_40 rfl rfl ?_
    refine K_iconst 1 dPa_takeName_41 rfl ?_
    refine K_aload_n 0 3 dPa_takeName_42 rfl rfl ?_
    refine K_getf 5 7 3 (jvI (μ 1 3)) dPa_takeName_43 pf_Pa_126 rfl rfl (by decide) rfl rfl ?_
    refine K_callVi mPa_refuse 5 3 [jvI 1, jvI (μ 1 3)] dPa_takeName_46 pm_Pa_57 ⟨_, rfl, rfl⟩ ⟨(Nat.le_of_ble_eq_true rfl), (Nat.le_of_ble_eq_true rfl)⟩ rfl rfl (by decide) (Nat.le_of_ble_eq_true rfl) rfl (Nat.le_of_ble_eq_true rfl) (by decide) (Ci_mono (hF.2.1 c1) (fun r6 μ3 h4 => ?_))
    refine K_pop dPa_takeName_49 (fun _ h => by cases h) ?_
    refine K_iconst 0 dPa_takeName_50 rfl ?_
    exact K_iret dPa_takeName_51 (Or.inl rfl) h4
  · refine K_aload_n 0 3 dPa_takeName_30 rfl rfl ?_
    refine K_getf 5 4 3 (jvR 1) dPa_takeName_31 pf_Pa_25 rfl rfl (by decide) rfl (congrArg jvR (hF.2.2 c1).1) ?_
    refine K_getf 8 6 1 (jvI (μ 1 6)) dPa_takeName_34 pf_Pa_188 rfl rfl (by decide) rfl rfl ?_
    refine K_if_eq 52 dPa_takeName_37 (by decide) (fun c8 => ?_) (fun c8 => ?_)
    · refine K_aload_n 0 3 dPa_takeName_52 rfl rfl ?_
      refine K_getf 5 4 3 (jvR 1) dPa_takeName_53 pf_Pa_25 rfl rfl (by decide) rfl (congrArg jvR ((hF.2.2 c1).2.1 c8).1) ?_
      refine K_getf 8 4 1 (jvI (μ 1 4)) dPa_takeName_56 pf_Pa_192 rfl rfl (by decide) rfl rfl ?_
      refine K_bipush 6 dPa_takeName_59 rfl ?_
      refine K_icmp_le 79 dPa_takeName_61 (by decide) (fun c10 => ?_) (fun c10 => ?_)
      · refine K_iload_n 1 (μ 1 5) dPa_takeName_79 rfl rfl ?_
        refine K_callSi mPa_isOwn [jvI (μ 1 5)] dPa_takeName_80 pm_Pa_195 ⟨(Nat.le_of_ble_eq_true rfl), (Nat.le_of_ble_eq_true rfl)⟩ (Nat.le_of_ble_eq_true rfl) rfl (Nat.le_of_ble_eq_true rfl) (by decide) (Ci_mono (((hF.2.2 c1).2.1 c8).2.1 c10) (fun r15 μ12 h13 => ?_))
        refine K_if_eq 98 dPa_takeName_83 (by decide) (fun c16 => ?_) (fun c16 => ?_)
        · refine K_aload_n 0 3 dPa_takeName_98 rfl rfl ?_
          refine K_getf 5 4 3 (jvR 1) dPa_takeName_99 pf_Pa_25 rfl rfl (by decide) rfl (congrArg jvR (h13.1 c16).1) ?_
          refine K_callVv mTa_advance 8 1 [] dPa_takeName_102 pm_Pa_94 ⟨_, rfl, rfl⟩ ⟨(Nat.le_of_ble_eq_true rfl), (Nat.le_of_ble_eq_true rfl)⟩ rfl rfl (by decide) (Nat.le_of_ble_eq_true rfl) rfl (Nat.le_of_ble_eq_true rfl) (by decide) (Cv_mono (h13.1 c16).2 (fun μ18 h19 => ?_))
          refine K_iload_n 1 (μ 1 5) dPa_takeName_105 rfl rfl ?_
          exact K_iret dPa_takeName_106 (Or.inl rfl) h19
        · refine K_aload_n 0 3 dPa_takeName_86 rfl rfl ?_
          refine K_iconst 1 dPa_takeName_87 rfl ?_
          refine K_aload_n 0 3 dPa_takeName_88 rfl rfl ?_
          refine K_getf 5 7 3 (jvI (μ12 3 7)) dPa_takeName_89 pf_Pa_126 rfl rfl (by decide) rfl rfl ?_
          refine K_callVi mPa_refuse 5 3 [jvI 1, jvI (μ12 3 7)] dPa_takeName_92 pm_Pa_57 ⟨_, rfl, rfl⟩ ⟨(Nat.le_of_ble_eq_true rfl), (Nat.le_of_ble_eq_true rfl)⟩ rfl rfl (by decide) (Nat.le_of_ble_eq_true rfl) rfl (Nat.le_of_ble_eq_true rfl) (by decide) (Ci_mono (h13.2 c16) (fun r25 μ22 h23 => ?_))
          refine K_pop dPa_takeName_95 (fun _ h => by cases h) ?_
          refine K_iconst 0 dPa_takeName_96 rfl ?_
          exact K_iret dPa_takeName_97 (Or.inl rfl) h23
      · refine K_aload_n 0 3 dPa_takeName_64 rfl rfl ?_
        refine K_iconst 1 dPa_takeName_65 rfl ?_
        refine K_aload_n 0 3 dPa_takeName_66 rfl rfl ?_
        refine K_getf 5 7 3 (jvI (μ 1 3)) dPa_takeName_67 pf_Pa_126 rfl rfl (by decide) rfl rfl ?_
        refine K_bipush 6 dPa_takeName_70 rfl ?_
        refine K_iadd dPa_takeName_72 (w32_id (((hF.2.2 c1).2.1 c8).2.2 c10).1) ?_
        refine K_callVi mPa_refuse 5 3 [jvI 1, jvI ((μ 1 3) + 6)] dPa_takeName_73 pm_Pa_57 ⟨_, rfl, rfl⟩ ⟨(Nat.le_of_ble_eq_true rfl), (Nat.le_of_ble_eq_true rfl)⟩ rfl rfl (by decide) (Nat.le_of_ble_eq_true rfl) rfl (Nat.le_of_ble_eq_true rfl) (by decide) (Ci_mono (((hF.2.2 c1).2.1 c8).2.2 c10).2 (fun r30 μ27 h28 => ?_))
        refine K_pop dPa_takeName_76 (fun _ h => by cases h) ?_
        refine K_iconst 0 dPa_takeName_77 rfl ?_
        exact K_iret dPa_takeName_78 (Or.inl rfl) h28
    · refine K_aload_n 0 3 dPa_takeName_40 rfl rfl ?_
      refine K_iconst 1 dPa_takeName_41 rfl ?_
      refine K_aload_n 0 3 dPa_takeName_42 rfl rfl ?_
      refine K_getf 5 7 3 (jvI (μ 1 3)) dPa_takeName_43 pf_Pa_126 rfl rfl (by decide) rfl rfl ?_
      refine K_callVi mPa_refuse 5 3 [jvI 1, jvI (μ 1 3)] dPa_takeName_46 pm_Pa_57 ⟨_, rfl, rfl⟩ ⟨(Nat.le_of_ble_eq_true rfl), (Nat.le_of_ble_eq_true rfl)⟩ rfl rfl (by decide) (Nat.le_of_ble_eq_true rfl) rfl (Nat.le_of_ble_eq_true rfl) (by decide) (Ci_mono ((hF.2.2 c1).2.2 c8) (fun r35 μ32 h33 => ?_))
      refine K_pop dPa_takeName_49 (fun _ h => by cases h) ?_
      refine K_iconst 0 dPa_takeName_50 rfl ?_
      exact K_iret dPa_takeName_51 (Or.inl rfl) h33
set_option maxHeartbeats 8000000 in
theorem vPa_refuse_0 {E : jE} {μ : jMu} {Q : Option AV → jMu → Prop} {a0 a1 : Int} (hF : (Q (some (jvI 0)) (j_up (j_up μ 3 8 a0) 3 9 a1))) : K 121 E mPa_refuse 0 [some (jvR 3), some (jvI a0), some (jvI a1)] [] μ Q := by
  refine K_aload_n 0 3 dPa_refuse_0 rfl rfl ?_
  refine K_iload_n 1 a0 dPa_refuse_1 rfl rfl ?_
  refine K_putf 5 8 3 (x := a0) dPa_refuse_2 pf_Pa_41 rfl rfl (by decide) rfl rfl rfl rfl trivial ?_
  refine K_aload_n 0 3 dPa_refuse_5 rfl rfl ?_
  refine K_iload_n 2 a1 dPa_refuse_6 rfl rfl ?_
  refine K_putf 5 9 3 (x := a1) dPa_refuse_7 pf_Pa_21 rfl rfl (by decide) rfl rfl rfl rfl trivial ?_
  refine K_iconst 0 dPa_refuse_10 rfl ?_
  exact K_iret dPa_refuse_11 (Or.inr ⟨rfl, (by decide)⟩) hF
set_option maxHeartbeats 8000000 in
theorem vPa_isOwn_0 {E : jE} {μ : jMu} {Q : Option AV → jMu → Prop} {a0 : Int} (hF : ((a0 = 93323264 → (Q (some (jvI 1)) μ)) ∧ (a0 = 220705792 → (Q (some (jvI 1)) μ)) ∧ (a0 = 245044832 → (Q (some (jvI 1)) μ)) ∧ (a0 = 250654720 → (Q (some (jvI 1)) μ)) ∧ (a0 = 507661312 → (Q (some (jvI 1)) μ)) ∧ (a0 = 609259698 → (Q (some (jvI 1)) μ)) ∧ (a0 = 626398208 → (Q (some (jvI 1)) μ)) ∧ (a0 = 658685952 → (Q (some (jvI 1)) μ)) ∧ (a0 = 686817280 → (Q (some (jvI 1)) μ)) ∧ ((¬ a0 = 93323264 ∧ ¬ a0 = 220705792 ∧ ¬ a0 = 245044832 ∧ ¬ a0 = 250654720 ∧ ¬ a0 = 507661312 ∧ ¬ a0 = 609259698 ∧ ¬ a0 = 626398208 ∧ ¬ a0 = 658685952 ∧ ¬ a0 = 686817280) → (Q (some (jvI 0)) μ)))) : K 121 E mPa_isOwn 0 [some (jvI a0)] [] μ Q := by
  refine K_iload_n 0 a0 dPa_isOwn_0 rfl rfl ?_
  refine K_lookup dPa_isOwn_1 (by decide) ?_
  by_cases c20 : a0 = 93323264
  · refine ⟨84, by simp [Op.lookupswitch.offset, c20], ?_⟩
    refine K_iconst 1 dPa_isOwn_84 rfl ?_
    exact K_iret dPa_isOwn_85 (Or.inr ⟨rfl, (by decide)⟩) (hF.1 c20)
  by_cases c21 : a0 = 220705792
  · refine ⟨84, by simp [Op.lookupswitch.offset, Ne.symm c20, c21], ?_⟩
    refine K_iconst 1 dPa_isOwn_84 rfl ?_
    exact K_iret dPa_isOwn_85 (Or.inr ⟨rfl, (by decide)⟩) (hF.2.1 c21)
  by_cases c22 : a0 = 245044832
  · refine ⟨84, by simp [Op.lookupswitch.offset, Ne.symm c20, Ne.symm c21, c22], ?_⟩
    refine K_iconst 1 dPa_isOwn_84 rfl ?_
    exact K_iret dPa_isOwn_85 (Or.inr ⟨rfl, (by decide)⟩) (hF.2.2.1 c22)
  by_cases c23 : a0 = 250654720
  · refine ⟨84, by simp [Op.lookupswitch.offset, Ne.symm c20, Ne.symm c21, Ne.symm c22, c23], ?_⟩
    refine K_iconst 1 dPa_isOwn_84 rfl ?_
    exact K_iret dPa_isOwn_85 (Or.inr ⟨rfl, (by decide)⟩) (hF.2.2.2.1 c23)
  by_cases c24 : a0 = 507661312
  · refine ⟨84, by simp [Op.lookupswitch.offset, Ne.symm c20, Ne.symm c21, Ne.symm c22, Ne.symm c23, c24], ?_⟩
    refine K_iconst 1 dPa_isOwn_84 rfl ?_
    exact K_iret dPa_isOwn_85 (Or.inr ⟨rfl, (by decide)⟩) (hF.2.2.2.2.1 c24)
  by_cases c25 : a0 = 609259698
  · refine ⟨84, by simp [Op.lookupswitch.offset, Ne.symm c20, Ne.symm c21, Ne.symm c22, Ne.symm c23, Ne.symm c24, c25], ?_⟩
    refine K_iconst 1 dPa_isOwn_84 rfl ?_
    exact K_iret dPa_isOwn_85 (Or.inr ⟨rfl, (by decide)⟩) (hF.2.2.2.2.2.1 c25)
  by_cases c26 : a0 = 626398208
  · refine ⟨84, by simp [Op.lookupswitch.offset, Ne.symm c20, Ne.symm c21, Ne.symm c22, Ne.symm c23, Ne.symm c24, Ne.symm c25, c26], ?_⟩
    refine K_iconst 1 dPa_isOwn_84 rfl ?_
    exact K_iret dPa_isOwn_85 (Or.inr ⟨rfl, (by decide)⟩) (hF.2.2.2.2.2.2.1 c26)
  by_cases c27 : a0 = 658685952
  · refine ⟨84, by simp [Op.lookupswitch.offset, Ne.symm c20, Ne.symm c21, Ne.symm c22, Ne.symm c23, Ne.symm c24, Ne.symm c25, Ne.symm c26, c27], ?_⟩
    refine K_iconst 1 dPa_isOwn_84 rfl ?_
    exact K_iret dPa_isOwn_85 (Or.inr ⟨rfl, (by decide)⟩) (hF.2.2.2.2.2.2.2.1 c27)
  by_cases c28 : a0 = 686817280
  · refine ⟨84, by simp [Op.lookupswitch.offset, Ne.symm c20, Ne.symm c21, Ne.symm c22, Ne.symm c23, Ne.symm c24, Ne.symm c25, Ne.symm c26, Ne.symm c27, c28], ?_⟩
    refine K_iconst 1 dPa_isOwn_84 rfl ?_
    exact K_iret dPa_isOwn_85 (Or.inr ⟨rfl, (by decide)⟩) (hF.2.2.2.2.2.2.2.2.1 c28)
  refine ⟨86, by simp [Op.lookupswitch.offset, Ne.symm c20, Ne.symm c21, Ne.symm c22, Ne.symm c23, Ne.symm c24, Ne.symm c25, Ne.symm c26, Ne.symm c27, Ne.symm c28], ?_⟩
  refine K_iconst 0 dPa_isOwn_86 rfl ?_
  exact K_iret dPa_isOwn_87 (Or.inr ⟨rfl, (by decide)⟩) (hF.2.2.2.2.2.2.2.2.2 ⟨c20, c21, c22, c23, c24, c25, c26, c27, c28⟩)
set_option maxHeartbeats 8000000 in
theorem vBk_ruleNamed_0 {E : jE} {μ : jMu} {Q : Option AV → jMu → Prop} {b : Nat} (hb : isB b) {a0 : Int} (hF : (K 121 E mBk_ruleNamed 2 [some (jvR ((b : Nat) : Int)), some (jvI a0), some (jvI 0)] [] μ Q)) : K 121 E mBk_ruleNamed 0 [some (jvR ((b : Nat) : Int)), some (jvI a0), none] [] μ Q := by
  refine K_iconst 0 dBk_ruleNamed_0 rfl ?_
  refine K_istore_n 2 dBk_ruleNamed_1 rfl (Nat.le_of_ble_eq_true rfl) rfl ?_
  exact hF
set_option maxHeartbeats 8000000 in
theorem vBk_ruleNamed_2 {E : jE} {μ : jMu} {Q : Option AV → jMu → Prop} {b : Nat} (hb : isB b) {l1 l2 : Int} (hF : (((μ b 12) ≤ l2 → (Q (some (jvI (-1))) μ)) ∧ (¬ ((μ b 12) ≤ l2) → ((0 ≤ l2 ∧ l2 < 12)) ∧ ((¬ (μ (b + 8) l2) = l1 → ((-2147483648 ≤ (l2 + 1) ∧ (l2 + 1) < 2147483648)) ∧ (K 121 E mBk_ruleNamed 2 [some (jvR ((b : Nat) : Int)), some (jvI l1), some (jvI (l2 + 1))] [] μ Q)) ∧ ((μ (b + 8) l2) = l1 → (Q (some (jvI l2)) μ)))))) : K 121 E mBk_ruleNamed 2 [some (jvR ((b : Nat) : Int)), some (jvI l1), some (jvI l2)] [] μ Q := by
  refine K_iload_n 2 l2 dBk_ruleNamed_2 rfl rfl ?_
  refine K_aload_n 0 ((b : Nat) : Int) dBk_ruleNamed_3 rfl rfl ?_
  refine K_getf 2 12 b (jvI (μ b 12)) dBk_ruleNamed_4 pf_Bk_59 rfl (isB_c0 hb) (isB_n 0 (by decide) hb) rfl (isB_f0_12 hb) ?_
  refine K_icmp_ge 28 dBk_ruleNamed_7 (by decide) (fun c1 => ?_) (fun c1 => ?_)
  · refine K_iconst (-1) dBk_ruleNamed_28 rfl ?_
    exact K_iret dBk_ruleNamed_29 (Or.inl rfl) (hF.1 c1)
  · refine K_aload_n 0 ((b : Nat) : Int) dBk_ruleNamed_10 rfl rfl ?_
    refine K_getf 2 1 b (jvR ((b + 8 : Nat) : Int)) dBk_ruleNamed_11 pf_Bk_18 rfl (isB_c0 hb) (isB_n 0 (by decide) hb) rfl (isB_f0_1 hb) ?_
    refine K_iload_n 2 l2 dBk_ruleNamed_14 rfl rfl ?_
    refine K_iald (b + 8) 12 dBk_ruleNamed_15 rfl (isB_c8 hb) (isB_n 8 (by decide) hb) (hF.2 c1).1 ?_
    refine K_iload_n 1 l1 dBk_ruleNamed_16 rfl rfl ?_
    refine K_icmp_ne 22 dBk_ruleNamed_17 (by decide) (fun c4 => ?_) (fun c4 => ?_)
    · refine K_iinc 2 dBk_ruleNamed_22 (Nat.le_of_ble_eq_true rfl) rfl (w32_ok ((hF.2 c1).2.1 c4).1) rfl ?_
      refine K_goto 2 dBk_ruleNamed_25 (by decide) ?_
      exact ((hF.2 c1).2.1 c4).2
    · refine K_iload_n 2 l2 dBk_ruleNamed_20 rfl rfl ?_
      exact K_iret dBk_ruleNamed_21 (Or.inl rfl) ((hF.2 c1).2.2 c4)
set_option maxHeartbeats 8000000 in
theorem vBk_hasReaderNamed_0 {E : jE} {μ : jMu} {Q : Option AV → jMu → Prop} {b : Nat} (hb : isB b) {a0 : Int} (hF : (K 121 E mBk_hasReaderNamed 2 [some (jvR ((b : Nat) : Int)), some (jvI a0), some (jvI 0)] [] μ Q)) : K 121 E mBk_hasReaderNamed 0 [some (jvR ((b : Nat) : Int)), some (jvI a0), none] [] μ Q := by
  refine K_iconst 0 dBk_hasReaderNamed_0 rfl ?_
  refine K_istore_n 2 dBk_hasReaderNamed_1 rfl (Nat.le_of_ble_eq_true rfl) rfl ?_
  exact hF
set_option maxHeartbeats 8000000 in
theorem vBk_hasReaderNamed_2 {E : jE} {μ : jMu} {Q : Option AV → jMu → Prop} {b : Nat} (hb : isB b) {l1 l2 : Int} (hF : (((μ b 14) ≤ l2 → (Q (some (jvI 0)) μ)) ∧ (¬ ((μ b 14) ≤ l2) → ((0 ≤ l2 ∧ l2 < 6)) ∧ ((¬ (μ (b + 15) l2) = l1 → ((-2147483648 ≤ (l2 + 1) ∧ (l2 + 1) < 2147483648)) ∧ (K 121 E mBk_hasReaderNamed 2 [some (jvR ((b : Nat) : Int)), some (jvI l1), some (jvI (l2 + 1))] [] μ Q)) ∧ ((μ (b + 15) l2) = l1 → (Q (some (jvI 1)) μ)))))) : K 121 E mBk_hasReaderNamed 2 [some (jvR ((b : Nat) : Int)), some (jvI l1), some (jvI l2)] [] μ Q := by
  refine K_iload_n 2 l2 dBk_hasReaderNamed_2 rfl rfl ?_
  refine K_aload_n 0 ((b : Nat) : Int) dBk_hasReaderNamed_3 rfl rfl ?_
  refine K_getf 2 14 b (jvI (μ b 14)) dBk_hasReaderNamed_4 pf_Bk_65 rfl (isB_c0 hb) (isB_n 0 (by decide) hb) rfl (isB_f0_14 hb) ?_
  refine K_icmp_ge 28 dBk_hasReaderNamed_7 (by decide) (fun c1 => ?_) (fun c1 => ?_)
  · refine K_iconst 0 dBk_hasReaderNamed_28 rfl ?_
    exact K_iret dBk_hasReaderNamed_29 (Or.inr ⟨rfl, (by decide)⟩) (hF.1 c1)
  · refine K_aload_n 0 ((b : Nat) : Int) dBk_hasReaderNamed_10 rfl rfl ?_
    refine K_getf 2 8 b (jvR ((b + 15 : Nat) : Int)) dBk_hasReaderNamed_11 pf_Bk_40 rfl (isB_c0 hb) (isB_n 0 (by decide) hb) rfl (isB_f0_8 hb) ?_
    refine K_iload_n 2 l2 dBk_hasReaderNamed_14 rfl rfl ?_
    refine K_iald (b + 15) 6 dBk_hasReaderNamed_15 rfl (isB_c15 hb) (isB_n 15 (by decide) hb) (hF.2 c1).1 ?_
    refine K_iload_n 1 l1 dBk_hasReaderNamed_16 rfl rfl ?_
    refine K_icmp_ne 22 dBk_hasReaderNamed_17 (by decide) (fun c4 => ?_) (fun c4 => ?_)
    · refine K_iinc 2 dBk_hasReaderNamed_22 (Nat.le_of_ble_eq_true rfl) rfl (w32_ok ((hF.2 c1).2.1 c4).1) rfl ?_
      refine K_goto 2 dBk_hasReaderNamed_25 (by decide) ?_
      exact ((hF.2 c1).2.1 c4).2
    · refine K_iconst 1 dBk_hasReaderNamed_20 rfl ?_
      exact K_iret dBk_hasReaderNamed_21 (Or.inr ⟨rfl, (by decide)⟩) ((hF.2 c1).2.2 c4)
set_option maxHeartbeats 8000000 in
theorem vPa_readTerm_0 {E : jE} {μ : jMu} {Q : Option AV → jMu → Prop} {b : Nat} (hb : isB b) (hF : ((μ 3 5) = ((b : Nat) : Int)) ∧ (K 121 E mPa_readTerm 18 [some (jvR 3), some (jvI (μ (b + 1) 8)), some (jvI 0), none, none, none] [] (j_up μ 3 3 0) Q)) : K 121 E mPa_readTerm 0 [some (jvR 3), none, none, none, none, none] [] μ Q := by
  refine K_aload_n 0 3 dPa_readTerm_0 rfl rfl ?_
  refine K_getf 5 5 3 (jvR ((b : Nat) : Int)) dPa_readTerm_1 pf_Pa_29 rfl rfl (by decide) rfl (congrArg jvR hF.1) ?_
  refine K_getf 2 0 b (jvR ((b + 1 : Nat) : Int)) dPa_readTerm_4 pf_Pa_150 rfl (isB_c0 hb) (isB_n 0 (by decide) hb) rfl (isB_f0_0 hb) ?_
  refine K_getf 9 8 (b + 1) (jvI (μ (b + 1) 8)) dPa_readTerm_7 pf_Pa_154 rfl (isB_c1 hb) (isB_n 1 (by decide) hb) rfl (isB_f1_8 hb) ?_
  refine K_istore_n 1 dPa_readTerm_10 rfl (Nat.le_of_ble_eq_true rfl) rfl ?_
  refine K_aload_n 0 3 dPa_readTerm_11 rfl rfl ?_
  refine K_iconst 0 dPa_readTerm_12 rfl ?_
  refine K_putf 5 3 3 (x := 0) dPa_readTerm_13 pf_Pa_159 rfl rfl (by decide) rfl rfl rfl rfl trivial ?_
  refine K_iconst 0 dPa_readTerm_16 rfl ?_
  refine K_istore_n 2 dPa_readTerm_17 rfl (Nat.le_of_ble_eq_true rfl) rfl ?_
  exact hF.2
set_option maxHeartbeats 8000000 in
theorem vPa_readTerm_18 {E : jE} {μ : jMu} {Q : Option AV → jMu → Prop} {l1 l2 : Int} (hF : ((24 < l2 → (Q (some (jvI (-1))) μ)) ∧ (¬ (24 < l2) → (Ci E mPa_readCell [jvR 3, jvI l1] μ (fun r7 μ4 => ((¬ r7 = (-1) → ((100 ≤ r7 → (Ci E mPa_closeBrackets [jvR 3, jvI 0] μ4 (fun r17 μ14 => ((¬ r17 = 0 → ((¬ (μ14 3 3) = 0 → ((-2147483648 ≤ (l2 + 1) ∧ (l2 + 1) < 2147483648)) ∧ (K 121 E mPa_readTerm 18 [some (jvR 3), some (jvI l1), some (jvI (l2 + 1)), none, none, none] [] μ14 Q)) ∧ ((μ14 3 3) = 0 → (Q (some (jvI l1)) μ14)))) ∧ (r17 = 0 → (Q (some (jvI (-1))) μ14)))))) ∧ (¬ (100 ≤ r7) → ((μ4 3 4) = 1) ∧ (Ci E mTa_isMark [jvR 1, jvI 40] μ4 (fun r29 μ26 => ((r29 = 0 → (Ci E mPa_closeBrackets [jvR 3, jvI 1] μ26 (fun r35 μ32 => ((¬ r35 = 0 → ((¬ (μ32 3 3) = 0 → ((-2147483648 ≤ (l2 + 1) ∧ (l2 + 1) < 2147483648)) ∧ (K 121 E mPa_readTerm 18 [some (jvR 3), some (jvI l1), some (jvI (l2 + 1)), none, none, none] [] μ32 Q)) ∧ ((μ32 3 3) = 0 → (Q (some (jvI l1)) μ32)))) ∧ (r35 = 0 → (Q (some (jvI (-1))) μ32)))))) ∧ (¬ (r29 = 0) → (Ci E mPa_openBracket [jvR 3] μ26 (fun r45 μ42 => ((¬ r45 = 0 → ((¬ (μ42 3 3) = 0 → ((-2147483648 ≤ (l2 + 1) ∧ (l2 + 1) < 2147483648)) ∧ (K 121 E mPa_readTerm 18 [some (jvR 3), some (jvI l1), some (jvI (l2 + 1)), none, none, none] [] μ42 Q)) ∧ ((μ42 3 3) = 0 → (Q (some (jvI l1)) μ42)))) ∧ (r45 = 0 → (Q (some (jvI (-1))) μ42)))))))))))) ∧ (r7 = (-1) → (Q (some (jvI (-1))) μ4)))))))) : K 121 E mPa_readTerm 18 [some (jvR 3), some (jvI l1), some (jvI l2), none, none, none] [] μ Q := by
  refine K_iload_n 2 l2 dPa_readTerm_18 rfl rfl ?_
  refine K_bipush 24 dPa_readTerm_19 rfl ?_
  refine K_icmp_gt 104 dPa_readTerm_21 (by decide) (fun c1 => ?_) (fun c1 => ?_)
  · refine K_iconst (-1) dPa_readTerm_104 rfl ?_
    exact K_iret dPa_readTerm_105 (Or.inl rfl) (hF.1 c1)
  · refine K_aload_n 0 3 dPa_readTerm_24 rfl rfl ?_
    refine K_iload_n 1 l1 dPa_readTerm_25 rfl rfl ?_
    refine K_callVi mPa_readCell 5 3 [jvI l1] dPa_readTerm_26 pm_Pa_162 ⟨_, rfl, rfl⟩ ⟨(Nat.le_of_ble_eq_true rfl), (Nat.le_of_ble_eq_true rfl)⟩ rfl rfl (by decide) (Nat.le_of_ble_eq_true rfl) rfl (Nat.le_of_ble_eq_true rfl) (by decide) (Ci_mono (hF.2 c1) (fun r7 μ4 h5 => ?_))
    refine K_istore_n 3 dPa_readTerm_29 rfl (Nat.le_of_ble_eq_true rfl) rfl ?_
    refine K_iload_n 3 r7 dPa_readTerm_30 rfl rfl ?_
    refine K_iconst (-1) dPa_readTerm_31 rfl ?_
    refine K_icmp_ne 37 dPa_readTerm_32 (by decide) (fun c8 => ?_) (fun c8 => ?_)
    · refine K_iload_n 3 r7 dPa_readTerm_37 rfl rfl ?_
      refine K_bipush 100 dPa_readTerm_38 rfl ?_
      refine K_icmp_ge 47 dPa_readTerm_40 (by decide) (fun c10 => ?_) (fun c10 => ?_)
      · refine K_iconst 0 dPa_readTerm_47 rfl ?_
        refine K_istore 4 dPa_readTerm_48 (Nat.le_of_ble_eq_true rfl) rfl ?_
        refine K_iload 4 0 dPa_readTerm_50 rfl ?_
        refine K_if_eq 74 dPa_readTerm_52 (by decide) (fun c12 => ?_) (fun c12 => absurd c12 (by decide))
        refine K_aload_n 0 3 dPa_readTerm_74 rfl rfl ?_
        refine K_iload 4 0 dPa_readTerm_75 rfl ?_
        refine K_callVi mPa_closeBrackets 5 3 [jvI 0] dPa_readTerm_77 pm_Pa_168 ⟨_, rfl, rfl⟩ ⟨(Nat.le_of_ble_eq_true rfl), (Nat.le_of_ble_eq_true rfl)⟩ rfl rfl (by decide) (Nat.le_of_ble_eq_true rfl) rfl (Nat.le_of_ble_eq_true rfl) (by decide) (Ci_mono ((h5.1 c8).1 c10) (fun r17 μ14 h15 => ?_))
        refine K_istore 5 dPa_readTerm_80 (Nat.le_of_ble_eq_true rfl) rfl ?_
        refine K_iload 5 r17 dPa_readTerm_82 rfl ?_
        refine K_if_ne 89 dPa_readTerm_84 (by decide) (fun c18 => ?_) (fun c18 => ?_)
        · refine K_aload_n 0 3 dPa_readTerm_89 rfl rfl ?_
          refine K_getf 5 3 3 (jvI (μ14 3 3)) dPa_readTerm_90 pf_Pa_159 rfl rfl (by decide) rfl rfl ?_
          refine K_if_ne 98 dPa_readTerm_93 (by decide) (fun c20 => ?_) (fun c20 => ?_)
          · refine K_iinc 2 dPa_readTerm_98 (Nat.le_of_ble_eq_true rfl) rfl (w32_ok ((h15.1 c18).1 c20).1) rfl ?_
            refine K_goto 18 dPa_readTerm_101 (by decide) ?_
            exact K_forget [true, true, true, false, false, false] ((h15.1 c18).1 c20).2
          · refine K_iload_n 1 l1 dPa_readTerm_96 rfl rfl ?_
            exact K_iret dPa_readTerm_97 (Or.inl rfl) ((h15.1 c18).2 c20)
        · refine K_iconst (-1) dPa_readTerm_87 rfl ?_
          exact K_iret dPa_readTerm_88 (Or.inl rfl) (h15.2 c18)
      · refine K_iconst 1 dPa_readTerm_43 rfl ?_
        refine K_goto 48 dPa_readTerm_44 (by decide) ?_
        refine K_istore 4 dPa_readTerm_48 (Nat.le_of_ble_eq_true rfl) rfl ?_
        refine K_iload 4 1 dPa_readTerm_50 rfl ?_
        refine K_if_eq 74 dPa_readTerm_52 (by decide) (fun c24 => absurd c24 (by decide)) (fun c24 => ?_)
        refine K_aload_n 0 3 dPa_readTerm_55 rfl rfl ?_
        refine K_getf 5 4 3 (jvR 1) dPa_readTerm_56 pf_Pa_25 rfl rfl (by decide) rfl (congrArg jvR ((h5.1 c8).2 c10).1) ?_
        refine K_bipush 40 dPa_readTerm_59 rfl ?_
        refine K_callVi mTa_isMark 8 1 [jvI 40] dPa_readTerm_61 pm_Pa_108 ⟨_, rfl, rfl⟩ ⟨(Nat.le_of_ble_eq_true rfl), (Nat.le_of_ble_eq_true rfl)⟩ rfl rfl (by decide) (Nat.le_of_ble_eq_true rfl) rfl (Nat.le_of_ble_eq_true rfl) (by decide) (Ci_mono ((h5.1 c8).2 c10).2 (fun r29 μ26 h27 => ?_))
        refine K_if_eq 74 dPa_readTerm_64 (by decide) (fun c30 => ?_) (fun c30 => ?_)
        · refine K_aload_n 0 3 dPa_readTerm_74 rfl rfl ?_
          refine K_iload 4 1 dPa_readTerm_75 rfl ?_
          refine K_callVi mPa_closeBrackets 5 3 [jvI 1] dPa_readTerm_77 pm_Pa_168 ⟨_, rfl, rfl⟩ ⟨(Nat.le_of_ble_eq_true rfl), (Nat.le_of_ble_eq_true rfl)⟩ rfl rfl (by decide) (Nat.le_of_ble_eq_true rfl) rfl (Nat.le_of_ble_eq_true rfl) (by decide) (Ci_mono (h27.1 c30) (fun r35 μ32 h33 => ?_))
          refine K_istore 5 dPa_readTerm_80 (Nat.le_of_ble_eq_true rfl) rfl ?_
          refine K_iload 5 r35 dPa_readTerm_82 rfl ?_
          refine K_if_ne 89 dPa_readTerm_84 (by decide) (fun c36 => ?_) (fun c36 => ?_)
          · refine K_aload_n 0 3 dPa_readTerm_89 rfl rfl ?_
            refine K_getf 5 3 3 (jvI (μ32 3 3)) dPa_readTerm_90 pf_Pa_159 rfl rfl (by decide) rfl rfl ?_
            refine K_if_ne 98 dPa_readTerm_93 (by decide) (fun c38 => ?_) (fun c38 => ?_)
            · refine K_iinc 2 dPa_readTerm_98 (Nat.le_of_ble_eq_true rfl) rfl (w32_ok ((h33.1 c36).1 c38).1) rfl ?_
              refine K_goto 18 dPa_readTerm_101 (by decide) ?_
              exact K_forget [true, true, true, false, false, false] ((h33.1 c36).1 c38).2
            · refine K_iload_n 1 l1 dPa_readTerm_96 rfl rfl ?_
              exact K_iret dPa_readTerm_97 (Or.inl rfl) ((h33.1 c36).2 c38)
          · refine K_iconst (-1) dPa_readTerm_87 rfl ?_
            exact K_iret dPa_readTerm_88 (Or.inl rfl) (h33.2 c36)
        · refine K_aload_n 0 3 dPa_readTerm_67 rfl rfl ?_
          refine K_callVi mPa_openBracket 5 3 [] dPa_readTerm_68 pm_Pa_165 ⟨_, rfl, rfl⟩ ⟨(Nat.le_of_ble_eq_true rfl), (Nat.le_of_ble_eq_true rfl)⟩ rfl rfl (by decide) (Nat.le_of_ble_eq_true rfl) rfl (Nat.le_of_ble_eq_true rfl) (by decide) (Ci_mono (h27.2 c30) (fun r45 μ42 h43 => ?_))
          refine K_goto 80 dPa_readTerm_71 (by decide) ?_
          refine K_istore 5 dPa_readTerm_80 (Nat.le_of_ble_eq_true rfl) rfl ?_
          refine K_iload 5 r45 dPa_readTerm_82 rfl ?_
          refine K_if_ne 89 dPa_readTerm_84 (by decide) (fun c46 => ?_) (fun c46 => ?_)
          · refine K_aload_n 0 3 dPa_readTerm_89 rfl rfl ?_
            refine K_getf 5 3 3 (jvI (μ42 3 3)) dPa_readTerm_90 pf_Pa_159 rfl rfl (by decide) rfl rfl ?_
            refine K_if_ne 98 dPa_readTerm_93 (by decide) (fun c48 => ?_) (fun c48 => ?_)
            · refine K_iinc 2 dPa_readTerm_98 (Nat.le_of_ble_eq_true rfl) rfl (w32_ok ((h43.1 c46).1 c48).1) rfl ?_
              refine K_goto 18 dPa_readTerm_101 (by decide) ?_
              exact K_forget [true, true, true, false, false, false] ((h43.1 c46).1 c48).2
            · refine K_iload_n 1 l1 dPa_readTerm_96 rfl rfl ?_
              exact K_iret dPa_readTerm_97 (Or.inl rfl) ((h43.1 c46).2 c48)
          · refine K_iconst (-1) dPa_readTerm_87 rfl ?_
            exact K_iret dPa_readTerm_88 (Or.inl rfl) (h43.2 c46)
    · refine K_iconst (-1) dPa_readTerm_35 rfl ?_
      exact K_iret dPa_readTerm_36 (Or.inl rfl) (h5.2 c8)
set_option maxHeartbeats 8000000 in
theorem vPa_readCell_0 {E : jE} {μ : jMu} {Q : Option AV → jMu → Prop} {b : Nat} (hb : isB b) {a0 : Int} (hF : ((μ 3 5) = ((b : Nat) : Int) ∧ (μ 3 4) = 1) ∧ (Ci E mTa_isMark [jvR 1, jvI 63] μ (fun r4 μ1 => ((r4 = 0 → (K 121 E mPa_readCell 29 [some (jvR 3), some (jvI a0), some (jvR ((b + 1 : Nat) : Int)), some (jvI r4), none, none] [] μ1 Q)) ∧ (¬ (r4 = 0) → ((μ1 3 4) = 1) ∧ (Cv E mTa_advance [jvR 1] μ1 (fun μ7 => (K 121 E mPa_readCell 29 [some (jvR 3), some (jvI a0), some (jvR ((b + 1 : Nat) : Int)), some (jvI r4), none, none] [] μ7 Q)))))))) : K 121 E mPa_readCell 0 [some (jvR 3), some (jvI a0), none, none, none, none] [] μ Q := by
  refine K_aload_n 0 3 dPa_readCell_0 rfl rfl ?_
  refine K_getf 5 5 3 (jvR ((b : Nat) : Int)) dPa_readCell_1 pf_Pa_29 rfl rfl (by decide) rfl (congrArg jvR hF.1.1) ?_
  refine K_getf 2 0 b (jvR ((b + 1 : Nat) : Int)) dPa_readCell_4 pf_Pa_150 rfl (isB_c0 hb) (isB_n 0 (by decide) hb) rfl (isB_f0_0 hb) ?_
  refine K_astore_n 2 dPa_readCell_7 rfl (Nat.le_of_ble_eq_true rfl) rfl ?_
  refine K_aload_n 0 3 dPa_readCell_8 rfl rfl ?_
  refine K_getf 5 4 3 (jvR 1) dPa_readCell_9 pf_Pa_25 rfl rfl (by decide) rfl (congrArg jvR hF.1.2) ?_
  refine K_bipush 63 dPa_readCell_12 rfl ?_
  refine K_callVi mTa_isMark 8 1 [jvI 63] dPa_readCell_14 pm_Pa_108 ⟨_, rfl, rfl⟩ ⟨(Nat.le_of_ble_eq_true rfl), (Nat.le_of_ble_eq_true rfl)⟩ rfl rfl (by decide) (Nat.le_of_ble_eq_true rfl) rfl (Nat.le_of_ble_eq_true rfl) (by decide) (Ci_mono hF.2 (fun r4 μ1 h2 => ?_))
  refine K_istore_n 3 dPa_readCell_17 rfl (Nat.le_of_ble_eq_true rfl) rfl ?_
  refine K_iload_n 3 r4 dPa_readCell_18 rfl rfl ?_
  refine K_if_eq 29 dPa_readCell_19 (by decide) (fun c5 => ?_) (fun c5 => ?_)
  · exact (h2.1 c5)
  · refine K_aload_n 0 3 dPa_readCell_22 rfl rfl ?_
    refine K_getf 5 4 3 (jvR 1) dPa_readCell_23 pf_Pa_25 rfl rfl (by decide) rfl (congrArg jvR (h2.2 c5).1) ?_
    refine K_callVv mTa_advance 8 1 [] dPa_readCell_26 pm_Pa_94 ⟨_, rfl, rfl⟩ ⟨(Nat.le_of_ble_eq_true rfl), (Nat.le_of_ble_eq_true rfl)⟩ rfl rfl (by decide) (Nat.le_of_ble_eq_true rfl) rfl (Nat.le_of_ble_eq_true rfl) (by decide) (Cv_mono (h2.2 c5).2 (fun μ7 h8 => ?_))
    exact h8
set_option maxHeartbeats 8000000 in
theorem vPa_readCell_29 {E : jE} {μ : jMu} {Q : Option AV → jMu → Prop} {b : Nat} (hb : isB b) {l1 l3 : Int} (hF : (Ci E mPa_takeName [jvR 3] μ (fun r4 μ1 => ((¬ r4 = 0 → ((-2147483648 ≤ ((μ1 (b + 1) 8) - l1) ∧ ((μ1 (b + 1) 8) - l1) < 2147483648)) ∧ ((24 ≤ ((μ1 (b + 1) 8) - l1) → (K 121 E mPa_readCell 87 [some (jvR 3), some (jvI l1), some (jvR ((b + 1 : Nat) : Int)), some (jvI l3), some (jvI r4), some (jvI (-1))] [] μ1 Q)) ∧ (¬ (24 ≤ ((μ1 (b + 1) 8) - l1)) → ((400 ≤ (μ1 (b + 1) 8) → (K 121 E mPa_readCell 87 [some (jvR 3), some (jvI l1), some (jvR ((b + 1 : Nat) : Int)), some (jvI l3), some (jvI r4), some (jvI (-1))] [] μ1 Q)) ∧ (¬ (400 ≤ (μ1 (b + 1) 8)) → ((l3 = 0 → (Ci E mTe_signFor [jvR ((b + 1 : Nat) : Int), jvI r4] μ1 (fun r16 μ13 => (K 121 E mPa_readCell 87 [some (jvR 3), some (jvI l1), some (jvR ((b + 1 : Nat) : Int)), some (jvI l3), some (jvI r4), some (jvI r16)] [] μ13 Q)))) ∧ (¬ (l3 = 0) → (Ci E mTe_holeFor [jvR ((b + 1 : Nat) : Int), jvI r4] μ1 (fun r20 μ17 => (K 121 E mPa_readCell 87 [some (jvR 3), some (jvI l1), some (jvR ((b + 1 : Nat) : Int)), some (jvI l3), some (jvI r4), some (jvI r20)] [] μ17 Q)))))))))) ∧ (r4 = 0 → (Q (some (jvI (-1))) μ1)))))) : K 121 E mPa_readCell 29 [some (jvR 3), some (jvI l1), some (jvR ((b + 1 : Nat) : Int)), some (jvI l3), none, none] [] μ Q := by
  refine K_aload_n 0 3 dPa_readCell_29 rfl rfl ?_
  refine K_callVi mPa_takeName 5 3 [] dPa_readCell_30 pm_Pa_119 ⟨_, rfl, rfl⟩ ⟨(Nat.le_of_ble_eq_true rfl), (Nat.le_of_ble_eq_true rfl)⟩ rfl rfl (by decide) (Nat.le_of_ble_eq_true rfl) rfl (Nat.le_of_ble_eq_true rfl) (by decide) (Ci_mono hF (fun r4 μ1 h2 => ?_))
  refine K_istore 4 dPa_readCell_33 (Nat.le_of_ble_eq_true rfl) rfl ?_
  refine K_iload 4 r4 dPa_readCell_35 rfl ?_
  refine K_if_ne 42 dPa_readCell_37 (by decide) (fun c5 => ?_) (fun c5 => ?_)
  · refine K_iconst (-1) dPa_readCell_42 rfl ?_
    refine K_istore 5 dPa_readCell_43 (Nat.le_of_ble_eq_true rfl) rfl ?_
    refine K_aload_n 2 ((b + 1 : Nat) : Int) dPa_readCell_45 rfl rfl ?_
    refine K_getf 9 8 (b + 1) (jvI (μ1 (b + 1) 8)) dPa_readCell_46 pf_Pa_154 rfl (isB_c1 hb) (isB_n 1 (by decide) hb) rfl (isB_f1_8 hb) ?_
    refine K_iload_n 1 l1 dPa_readCell_49 rfl rfl ?_
    refine K_isub dPa_readCell_50 (w32_id (h2.1 c5).1) ?_
    refine K_bipush 24 dPa_readCell_51 rfl ?_
    refine K_icmp_ge 87 dPa_readCell_53 (by decide) (fun c7 => ?_) (fun c7 => ?_)
    · exact ((h2.1 c5).2.1 c7)
    · refine K_aload_n 2 ((b + 1 : Nat) : Int) dPa_readCell_56 rfl rfl ?_
      refine K_getf 9 8 (b + 1) (jvI (μ1 (b + 1) 8)) dPa_readCell_57 pf_Pa_154 rfl (isB_c1 hb) (isB_n 1 (by decide) hb) rfl (isB_f1_8 hb) ?_
      refine K_sipush 400 dPa_readCell_60 rfl ?_
      refine K_icmp_ge 87 dPa_readCell_63 (by decide) (fun c9 => ?_) (fun c9 => ?_)
      · exact (((h2.1 c5).2.2 c7).1 c9)
      · refine K_iload_n 3 l3 dPa_readCell_66 rfl rfl ?_
        refine K_if_eq 79 dPa_readCell_67 (by decide) (fun c11 => ?_) (fun c11 => ?_)
        · refine K_aload_n 2 ((b + 1 : Nat) : Int) dPa_readCell_79 rfl rfl ?_
          refine K_iload 4 r4 dPa_readCell_80 rfl ?_
          refine K_callVi mTe_signFor 9 (b + 1) [jvI r4] dPa_readCell_82 pm_Pa_175 ⟨_, rfl, rfl⟩ ⟨(Nat.le_of_ble_eq_true rfl), (Nat.le_of_ble_eq_true rfl)⟩ rfl (isB_c1 hb) (isB_n 1 (by decide) hb) (Nat.le_of_ble_eq_true rfl) rfl (Nat.le_of_ble_eq_true rfl) (by decide) (Ci_mono ((((h2.1 c5).2.2 c7).2 c9).1 c11) (fun r16 μ13 h14 => ?_))
          refine K_istore 5 dPa_readCell_85 (Nat.le_of_ble_eq_true rfl) rfl ?_
          exact h14
        · refine K_aload_n 2 ((b + 1 : Nat) : Int) dPa_readCell_70 rfl rfl ?_
          refine K_iload 4 r4 dPa_readCell_71 rfl ?_
          refine K_callVi mTe_holeFor 9 (b + 1) [jvI r4] dPa_readCell_73 pm_Pa_172 ⟨_, rfl, rfl⟩ ⟨(Nat.le_of_ble_eq_true rfl), (Nat.le_of_ble_eq_true rfl)⟩ rfl (isB_c1 hb) (isB_n 1 (by decide) hb) (Nat.le_of_ble_eq_true rfl) rfl (Nat.le_of_ble_eq_true rfl) (by decide) (Ci_mono ((((h2.1 c5).2.2 c7).2 c9).2 c11) (fun r20 μ17 h18 => ?_))
          refine K_goto 85 dPa_readCell_76 (by decide) ?_
          refine K_istore 5 dPa_readCell_85 (Nat.le_of_ble_eq_true rfl) rfl ?_
          exact h18
  · refine K_iconst (-1) dPa_readCell_40 rfl ?_
    exact K_iret dPa_readCell_41 (Or.inl rfl) (h2.2 c5)
set_option maxHeartbeats 8000000 in
theorem vPa_readCell_87 {E : jE} {μ : jMu} {Q : Option AV → jMu → Prop} {b : Nat} (hb : isB b) {l1 l3 l4 l5 : Int} (hF : ((¬ l5 = (-1) → (Cv E mTe_add [jvR ((b + 1 : Nat) : Int), jvI l5] μ (fun μ3 => (Q (some (jvI l5)) μ3)))) ∧ (l5 = (-1) → (Ci E mPa_refuse [jvR 3, jvI 5, jvI (μ 3 7)] μ (fun r10 μ7 => (Q (some (jvI (-1))) μ7)))))) : K 121 E mPa_readCell 87 [some (jvR 3), some (jvI l1), some (jvR ((b + 1 : Nat) : Int)), some (jvI l3), some (jvI l4), some (jvI l5)] [] μ Q := by
  refine K_iload 5 l5 dPa_readCell_87 rfl ?_
  refine K_iconst (-1) dPa_readCell_89 rfl ?_
  refine K_icmp_ne 105 dPa_readCell_90 (by decide) (fun c1 => ?_) (fun c1 => ?_)
  · refine K_aload_n 2 ((b + 1 : Nat) : Int) dPa_readCell_105 rfl rfl ?_
    refine K_iload 5 l5 dPa_readCell_106 rfl ?_
    refine K_callVv mTe_add 9 (b + 1) [jvI l5] dPa_readCell_108 pm_Pa_178 ⟨_, rfl, rfl⟩ ⟨(Nat.le_of_ble_eq_true rfl), (Nat.le_of_ble_eq_true rfl)⟩ rfl (isB_c1 hb) (isB_n 1 (by decide) hb) (Nat.le_of_ble_eq_true rfl) rfl (Nat.le_of_ble_eq_true rfl) (by decide) (Cv_mono (hF.1 c1) (fun μ3 h4 => ?_))
    refine K_iload 5 l5 dPa_readCell_111 rfl ?_
    exact K_iret dPa_readCell_113 (Or.inl rfl) h4
  · refine K_aload_n 0 3 dPa_readCell_93 rfl rfl ?_
    refine K_iconst 5 dPa_readCell_94 rfl ?_
    refine K_aload_n 0 3 dPa_readCell_95 rfl rfl ?_
    refine K_getf 5 7 3 (jvI (μ 3 7)) dPa_readCell_96 pf_Pa_126 rfl rfl (by decide) rfl rfl ?_
    refine K_callVi mPa_refuse 5 3 [jvI 5, jvI (μ 3 7)] dPa_readCell_99 pm_Pa_57 ⟨_, rfl, rfl⟩ ⟨(Nat.le_of_ble_eq_true rfl), (Nat.le_of_ble_eq_true rfl)⟩ rfl rfl (by decide) (Nat.le_of_ble_eq_true rfl) rfl (Nat.le_of_ble_eq_true rfl) (by decide) (Ci_mono (hF.2 c1) (fun r10 μ7 h8 => ?_))
    refine K_pop dPa_readCell_102 (fun _ h => by cases h) ?_
    refine K_iconst (-1) dPa_readCell_103 rfl ?_
    exact K_iret dPa_readCell_104 (Or.inl rfl) h8
set_option maxHeartbeats 8000000 in
theorem vTa_isMark_0 {E : jE} {μ : jMu} {Q : Option AV → jMu → Prop} {a0 : Int} (hF : ((¬ (μ 1 2) = 1 → (Q (some (jvI 0)) μ)) ∧ ((μ 1 2) = 1 → ((¬ (μ 1 5) = a0 → (Q (some (jvI 0)) μ)) ∧ ((μ 1 5) = a0 → (Q (some (jvI 1)) μ)))))) : K 121 E mTa_isMark 0 [some (jvR 1), some (jvI a0)] [] μ Q := by
  refine K_aload_n 0 1 dTa_isMark_0 rfl rfl ?_
  refine K_getf 8 2 1 (jvI (μ 1 2)) dTa_isMark_1 pf_Ta_19 rfl rfl (by decide) rfl rfl ?_
  refine K_iconst 1 dTa_isMark_4 rfl ?_
  refine K_icmp_ne 20 dTa_isMark_5 (by decide) (fun c1 => ?_) (fun c1 => ?_)
  · refine K_iconst 0 dTa_isMark_20 rfl ?_
    exact K_iret dTa_isMark_21 (Or.inr ⟨rfl, (by decide)⟩) (hF.1 c1)
  · refine K_aload_n 0 1 dTa_isMark_8 rfl rfl ?_
    refine K_getf 8 5 1 (jvI (μ 1 5)) dTa_isMark_9 pf_Ta_35 rfl rfl (by decide) rfl rfl ?_
    refine K_iload_n 1 a0 dTa_isMark_12 rfl rfl ?_
    refine K_icmp_ne 20 dTa_isMark_13 (by decide) (fun c4 => ?_) (fun c4 => ?_)
    · refine K_iconst 0 dTa_isMark_20 rfl ?_
      exact K_iret dTa_isMark_21 (Or.inr ⟨rfl, (by decide)⟩) ((hF.2 c1).1 c4)
    · refine K_iconst 1 dTa_isMark_16 rfl ?_
      refine K_goto 21 dTa_isMark_17 (by decide) ?_
      exact K_iret dTa_isMark_21 (Or.inr ⟨rfl, (by decide)⟩) ((hF.2 c1).2 c4)
set_option maxHeartbeats 8000000 in
theorem vTe_holeFor_0 {E : jE} {μ : jMu} {Q : Option AV → jMu → Prop} {b : Nat} (hb : isB b) {a0 : Int} (hF : (K 121 E mTe_holeFor 2 [some (jvR ((b + 1 : Nat) : Int)), some (jvI a0), some (jvI 0)] [] μ Q)) : K 121 E mTe_holeFor 0 [some (jvR ((b + 1 : Nat) : Int)), some (jvI a0), none] [] μ Q := by
  refine K_iconst 0 dTe_holeFor_0 rfl ?_
  refine K_istore_n 2 dTe_holeFor_1 rfl (Nat.le_of_ble_eq_true rfl) rfl ?_
  exact hF
set_option maxHeartbeats 8000000 in
theorem vTe_holeFor_2 {E : jE} {μ : jMu} {Q : Option AV → jMu → Prop} {b : Nat} (hb : isB b) {l1 l2 : Int} (hF : (((μ (b + 1) 7) ≤ l2 → ((¬ (μ (b + 1) 7) = 12 → ((0 ≤ (μ (b + 1) 7) ∧ (μ (b + 1) 7) < 12) ∧ (-2147483648 ≤ (((j_up μ (b + 4) (μ (b + 1) 7) l1) (b + 1) 7) + 1) ∧ (((j_up μ (b + 4) (μ (b + 1) 7) l1) (b + 1) 7) + 1) < 2147483648) ∧ (-2147483648 ≤ (100 + ((j_up (j_up μ (b + 4) (μ (b + 1) 7) l1) (b + 1) 7 (((j_up μ (b + 4) (μ (b + 1) 7) l1) (b + 1) 7) + 1)) (b + 1) 7)) ∧ (100 + ((j_up (j_up μ (b + 4) (μ (b + 1) 7) l1) (b + 1) 7 (((j_up μ (b + 4) (μ (b + 1) 7) l1) (b + 1) 7) + 1)) (b + 1) 7)) < 2147483648) ∧ (-2147483648 ≤ ((100 + ((j_up (j_up μ (b + 4) (μ (b + 1) 7) l1) (b + 1) 7 (((j_up μ (b + 4) (μ (b + 1) 7) l1) (b + 1) 7) + 1)) (b + 1) 7)) - 1) ∧ ((100 + ((j_up (j_up μ (b + 4) (μ (b + 1) 7) l1) (b + 1) 7 (((j_up μ (b + 4) (μ (b + 1) 7) l1) (b + 1) 7) + 1)) (b + 1) 7)) - 1) < 2147483648)) ∧ (Q (some (jvI ((100 + ((j_up (j_up μ (b + 4) (μ (b + 1) 7) l1) (b + 1) 7 (((j_up μ (b + 4) (μ (b + 1) 7) l1) (b + 1) 7) + 1)) (b + 1) 7)) - 1))) (j_up (j_up μ (b + 4) (μ (b + 1) 7) l1) (b + 1) 7 (((j_up μ (b + 4) (μ (b + 1) 7) l1) (b + 1) 7) + 1)))) ∧ ((μ (b + 1) 7) = 12 → (Q (some (jvI (-1))) μ)))) ∧ (¬ ((μ (b + 1) 7) ≤ l2) → ((0 ≤ l2 ∧ l2 < 12)) ∧ ((¬ (μ (b + 4) l2) = l1 → ((-2147483648 ≤ (l2 + 1) ∧ (l2 + 1) < 2147483648)) ∧ (K 121 E mTe_holeFor 2 [some (jvR ((b + 1 : Nat) : Int)), some (jvI l1), some (jvI (l2 + 1))] [] μ Q)) ∧ ((μ (b + 4) l2) = l1 → ((-2147483648 ≤ (100 + l2) ∧ (100 + l2) < 2147483648)) ∧ (Q (some (jvI (100 + l2))) μ)))))) : K 121 E mTe_holeFor 2 [some (jvR ((b + 1 : Nat) : Int)), some (jvI l1), some (jvI l2)] [] μ Q := by
  refine K_iload_n 2 l2 dTe_holeFor_2 rfl rfl ?_
  refine K_aload_n 0 ((b + 1 : Nat) : Int) dTe_holeFor_3 rfl rfl ?_
  refine K_getf 9 7 (b + 1) (jvI (μ (b + 1) 7)) dTe_holeFor_4 pf_Te_34 rfl (isB_c1 hb) (isB_n 1 (by decide) hb) rfl (isB_f1_7 hb) ?_
  refine K_icmp_ge 31 dTe_holeFor_7 (by decide) (fun c1 => ?_) (fun c1 => ?_)
  · refine K_aload_n 0 ((b + 1 : Nat) : Int) dTe_holeFor_31 rfl rfl ?_
    refine K_getf 9 7 (b + 1) (jvI (μ (b + 1) 7)) dTe_holeFor_32 pf_Te_34 rfl (isB_c1 hb) (isB_n 1 (by decide) hb) rfl (isB_f1_7 hb) ?_
    refine K_bipush 12 dTe_holeFor_35 rfl ?_
    refine K_icmp_ne 42 dTe_holeFor_37 (by decide) (fun c3 => ?_) (fun c3 => ?_)
    · refine K_aload_n 0 ((b + 1 : Nat) : Int) dTe_holeFor_42 rfl rfl ?_
      refine K_getf 9 2 (b + 1) (jvR ((b + 4 : Nat) : Int)) dTe_holeFor_43 pf_Te_18 rfl (isB_c1 hb) (isB_n 1 (by decide) hb) rfl (isB_f1_2 hb) ?_
      refine K_aload_n 0 ((b + 1 : Nat) : Int) dTe_holeFor_46 rfl rfl ?_
      refine K_getf 9 7 (b + 1) (jvI (μ (b + 1) 7)) dTe_holeFor_47 pf_Te_34 rfl (isB_c1 hb) (isB_n 1 (by decide) hb) rfl (isB_f1_7 hb) ?_
      refine K_iload_n 1 l1 dTe_holeFor_50 rfl rfl ?_
      refine K_iast (b + 4) 12 dTe_holeFor_51 rfl (isB_c4 hb) (isB_n 4 (by decide) hb) ((hF.1 c1).1 c3).1.1 ?_
      refine K_aload_n 0 ((b + 1 : Nat) : Int) dTe_holeFor_52 rfl rfl ?_
      refine K_dup dTe_holeFor_53 (fun _ h => by cases h) ?_
      refine K_getf 9 7 (b + 1) (jvI ((j_up μ (b + 4) (μ (b + 1) 7) l1) (b + 1) 7)) dTe_holeFor_54 pf_Te_34 rfl (isB_c1 hb) (isB_n 1 (by decide) hb) rfl (isB_f1_7 hb) ?_
      refine K_iconst 1 dTe_holeFor_57 rfl ?_
      refine K_iadd dTe_holeFor_58 (w32_id ((hF.1 c1).1 c3).1.2.1) ?_
      refine K_putf 9 7 (b + 1) (x := (((j_up μ (b + 4) (μ (b + 1) 7) l1) (b + 1) 7) + 1)) dTe_holeFor_59 pf_Te_34 rfl (isB_c1 hb) (isB_n 1 (by decide) hb) rfl rfl (isB_x1_7 hb) rfl trivial ?_
      refine K_bipush 100 dTe_holeFor_62 rfl ?_
      refine K_aload_n 0 ((b + 1 : Nat) : Int) dTe_holeFor_64 rfl rfl ?_
      refine K_getf 9 7 (b + 1) (jvI ((j_up (j_up μ (b + 4) (μ (b + 1) 7) l1) (b + 1) 7 (((j_up μ (b + 4) (μ (b + 1) 7) l1) (b + 1) 7) + 1)) (b + 1) 7)) dTe_holeFor_65 pf_Te_34 rfl (isB_c1 hb) (isB_n 1 (by decide) hb) rfl (isB_f1_7 hb) ?_
      refine K_iadd dTe_holeFor_68 (w32_id ((hF.1 c1).1 c3).1.2.2.1) ?_
      refine K_iconst 1 dTe_holeFor_69 rfl ?_
      refine K_isub dTe_holeFor_70 (w32_id ((hF.1 c1).1 c3).1.2.2.2) ?_
      exact K_iret dTe_holeFor_71 (Or.inl rfl) ((hF.1 c1).1 c3).2
    · refine K_iconst (-1) dTe_holeFor_40 rfl ?_
      exact K_iret dTe_holeFor_41 (Or.inl rfl) ((hF.1 c1).2 c3)
  · refine K_aload_n 0 ((b + 1 : Nat) : Int) dTe_holeFor_10 rfl rfl ?_
    refine K_getf 9 2 (b + 1) (jvR ((b + 4 : Nat) : Int)) dTe_holeFor_11 pf_Te_18 rfl (isB_c1 hb) (isB_n 1 (by decide) hb) rfl (isB_f1_2 hb) ?_
    refine K_iload_n 2 l2 dTe_holeFor_14 rfl rfl ?_
    refine K_iald (b + 4) 12 dTe_holeFor_15 rfl (isB_c4 hb) (isB_n 4 (by decide) hb) (hF.2 c1).1 ?_
    refine K_iload_n 1 l1 dTe_holeFor_16 rfl rfl ?_
    refine K_icmp_ne 25 dTe_holeFor_17 (by decide) (fun c7 => ?_) (fun c7 => ?_)
    · refine K_iinc 2 dTe_holeFor_25 (Nat.le_of_ble_eq_true rfl) rfl (w32_ok ((hF.2 c1).2.1 c7).1) rfl ?_
      refine K_goto 2 dTe_holeFor_28 (by decide) ?_
      exact ((hF.2 c1).2.1 c7).2
    · refine K_bipush 100 dTe_holeFor_20 rfl ?_
      refine K_iload_n 2 l2 dTe_holeFor_22 rfl rfl ?_
      refine K_iadd dTe_holeFor_23 (w32_id ((hF.2 c1).2.2 c7).1) ?_
      exact K_iret dTe_holeFor_24 (Or.inl rfl) ((hF.2 c1).2.2 c7).2
set_option maxHeartbeats 8000000 in
theorem vTe_signFor_0 {E : jE} {μ : jMu} {Q : Option AV → jMu → Prop} {b : Nat} (hb : isB b) {a0 : Int} (hF : (K 121 E mTe_signFor 2 [some (jvR ((b + 1 : Nat) : Int)), some (jvI a0), some (jvI 0)] [] μ Q)) : K 121 E mTe_signFor 0 [some (jvR ((b + 1 : Nat) : Int)), some (jvI a0), none] [] μ Q := by
  refine K_iconst 0 dTe_signFor_0 rfl ?_
  refine K_istore_n 2 dTe_signFor_1 rfl (Nat.le_of_ble_eq_true rfl) rfl ?_
  exact hF
set_option maxHeartbeats 8000000 in
theorem vTe_signFor_2 {E : jE} {μ : jMu} {Q : Option AV → jMu → Prop} {b : Nat} (hb : isB b) {l1 l2 : Int} (hF : (((μ (b + 1) 6) ≤ l2 → ((¬ (μ (b + 1) 6) = 24 → ((0 ≤ (μ (b + 1) 6) ∧ (μ (b + 1) 6) < 24) ∧ (0 ≤ ((j_up μ (b + 2) (μ (b + 1) 6) l1) (b + 1) 6) ∧ ((j_up μ (b + 2) (μ (b + 1) 6) l1) (b + 1) 6) < 24) ∧ (-2147483648 ≤ (((j_up (j_up μ (b + 2) (μ (b + 1) 6) l1) (b + 3) ((j_up μ (b + 2) (μ (b + 1) 6) l1) (b + 1) 6) (-1)) (b + 1) 6) + 1) ∧ (((j_up (j_up μ (b + 2) (μ (b + 1) 6) l1) (b + 3) ((j_up μ (b + 2) (μ (b + 1) 6) l1) (b + 1) 6) (-1)) (b + 1) 6) + 1) < 2147483648) ∧ (-2147483648 ≤ (((j_up (j_up (j_up μ (b + 2) (μ (b + 1) 6) l1) (b + 3) ((j_up μ (b + 2) (μ (b + 1) 6) l1) (b + 1) 6) (-1)) (b + 1) 6 (((j_up (j_up μ (b + 2) (μ (b + 1) 6) l1) (b + 3) ((j_up μ (b + 2) (μ (b + 1) 6) l1) (b + 1) 6) (-1)) (b + 1) 6) + 1)) (b + 1) 6) - 1) ∧ (((j_up (j_up (j_up μ (b + 2) (μ (b + 1) 6) l1) (b + 3) ((j_up μ (b + 2) (μ (b + 1) 6) l1) (b + 1) 6) (-1)) (b + 1) 6 (((j_up (j_up μ (b + 2) (μ (b + 1) 6) l1) (b + 3) ((j_up μ (b + 2) (μ (b + 1) 6) l1) (b + 1) 6) (-1)) (b + 1) 6) + 1)) (b + 1) 6) - 1) < 2147483648)) ∧ (Q (some (jvI (((j_up (j_up (j_up μ (b + 2) (μ (b + 1) 6) l1) (b + 3) ((j_up μ (b + 2) (μ (b + 1) 6) l1) (b + 1) 6) (-1)) (b + 1) 6 (((j_up (j_up μ (b + 2) (μ (b + 1) 6) l1) (b + 3) ((j_up μ (b + 2) (μ (b + 1) 6) l1) (b + 1) 6) (-1)) (b + 1) 6) + 1)) (b + 1) 6) - 1))) (j_up (j_up (j_up μ (b + 2) (μ (b + 1) 6) l1) (b + 3) ((j_up μ (b + 2) (μ (b + 1) 6) l1) (b + 1) 6) (-1)) (b + 1) 6 (((j_up (j_up μ (b + 2) (μ (b + 1) 6) l1) (b + 3) ((j_up μ (b + 2) (μ (b + 1) 6) l1) (b + 1) 6) (-1)) (b + 1) 6) + 1)))) ∧ ((μ (b + 1) 6) = 24 → (Q (some (jvI (-1))) μ)))) ∧ (¬ ((μ (b + 1) 6) ≤ l2) → ((0 ≤ l2 ∧ l2 < 24)) ∧ ((¬ (μ (b + 2) l2) = l1 → ((-2147483648 ≤ (l2 + 1) ∧ (l2 + 1) < 2147483648)) ∧ (K 121 E mTe_signFor 2 [some (jvR ((b + 1 : Nat) : Int)), some (jvI l1), some (jvI (l2 + 1))] [] μ Q)) ∧ ((μ (b + 2) l2) = l1 → (Q (some (jvI l2)) μ)))))) : K 121 E mTe_signFor 2 [some (jvR ((b + 1 : Nat) : Int)), some (jvI l1), some (jvI l2)] [] μ Q := by
  refine K_iload_n 2 l2 dTe_signFor_2 rfl rfl ?_
  refine K_aload_n 0 ((b + 1 : Nat) : Int) dTe_signFor_3 rfl rfl ?_
  refine K_getf 9 6 (b + 1) (jvI (μ (b + 1) 6)) dTe_signFor_4 pf_Te_30 rfl (isB_c1 hb) (isB_n 1 (by decide) hb) rfl (isB_f1_6 hb) ?_
  refine K_icmp_ge 28 dTe_signFor_7 (by decide) (fun c1 => ?_) (fun c1 => ?_)
  · refine K_aload_n 0 ((b + 1 : Nat) : Int) dTe_signFor_28 rfl rfl ?_
    refine K_getf 9 6 (b + 1) (jvI (μ (b + 1) 6)) dTe_signFor_29 pf_Te_30 rfl (isB_c1 hb) (isB_n 1 (by decide) hb) rfl (isB_f1_6 hb) ?_
    refine K_bipush 24 dTe_signFor_32 rfl ?_
    refine K_icmp_ne 39 dTe_signFor_34 (by decide) (fun c3 => ?_) (fun c3 => ?_)
    · refine K_aload_n 0 ((b + 1 : Nat) : Int) dTe_signFor_39 rfl rfl ?_
      refine K_getf 9 0 (b + 1) (jvR ((b + 2 : Nat) : Int)) dTe_signFor_40 pf_Te_11 rfl (isB_c1 hb) (isB_n 1 (by decide) hb) rfl (isB_f1_0 hb) ?_
      refine K_aload_n 0 ((b + 1 : Nat) : Int) dTe_signFor_43 rfl rfl ?_
      refine K_getf 9 6 (b + 1) (jvI (μ (b + 1) 6)) dTe_signFor_44 pf_Te_30 rfl (isB_c1 hb) (isB_n 1 (by decide) hb) rfl (isB_f1_6 hb) ?_
      refine K_iload_n 1 l1 dTe_signFor_47 rfl rfl ?_
      refine K_iast (b + 2) 24 dTe_signFor_48 rfl (isB_c2 hb) (isB_n 2 (by decide) hb) ((hF.1 c1).1 c3).1.1 ?_
      refine K_aload_n 0 ((b + 1 : Nat) : Int) dTe_signFor_49 rfl rfl ?_
      refine K_getf 9 1 (b + 1) (jvR ((b + 3 : Nat) : Int)) dTe_signFor_50 pf_Te_15 rfl (isB_c1 hb) (isB_n 1 (by decide) hb) rfl (isB_f1_1 hb) ?_
      refine K_aload_n 0 ((b + 1 : Nat) : Int) dTe_signFor_53 rfl rfl ?_
      refine K_getf 9 6 (b + 1) (jvI ((j_up μ (b + 2) (μ (b + 1) 6) l1) (b + 1) 6)) dTe_signFor_54 pf_Te_30 rfl (isB_c1 hb) (isB_n 1 (by decide) hb) rfl (isB_f1_6 hb) ?_
      refine K_iconst (-1) dTe_signFor_57 rfl ?_
      refine K_iast (b + 3) 24 dTe_signFor_58 rfl (isB_c3 hb) (isB_n 3 (by decide) hb) ((hF.1 c1).1 c3).1.2.1 ?_
      refine K_aload_n 0 ((b + 1 : Nat) : Int) dTe_signFor_59 rfl rfl ?_
      refine K_dup dTe_signFor_60 (fun _ h => by cases h) ?_
      refine K_getf 9 6 (b + 1) (jvI ((j_up (j_up μ (b + 2) (μ (b + 1) 6) l1) (b + 3) ((j_up μ (b + 2) (μ (b + 1) 6) l1) (b + 1) 6) (-1)) (b + 1) 6)) dTe_signFor_61 pf_Te_30 rfl (isB_c1 hb) (isB_n 1 (by decide) hb) rfl (isB_f1_6 hb) ?_
      refine K_iconst 1 dTe_signFor_64 rfl ?_
      refine K_iadd dTe_signFor_65 (w32_id ((hF.1 c1).1 c3).1.2.2.1) ?_
      refine K_putf 9 6 (b + 1) (x := (((j_up (j_up μ (b + 2) (μ (b + 1) 6) l1) (b + 3) ((j_up μ (b + 2) (μ (b + 1) 6) l1) (b + 1) 6) (-1)) (b + 1) 6) + 1)) dTe_signFor_66 pf_Te_30 rfl (isB_c1 hb) (isB_n 1 (by decide) hb) rfl rfl (isB_x1_6 hb) rfl trivial ?_
      refine K_aload_n 0 ((b + 1 : Nat) : Int) dTe_signFor_69 rfl rfl ?_
      refine K_getf 9 6 (b + 1) (jvI ((j_up (j_up (j_up μ (b + 2) (μ (b + 1) 6) l1) (b + 3) ((j_up μ (b + 2) (μ (b + 1) 6) l1) (b + 1) 6) (-1)) (b + 1) 6 (((j_up (j_up μ (b + 2) (μ (b + 1) 6) l1) (b + 3) ((j_up μ (b + 2) (μ (b + 1) 6) l1) (b + 1) 6) (-1)) (b + 1) 6) + 1)) (b + 1) 6)) dTe_signFor_70 pf_Te_30 rfl (isB_c1 hb) (isB_n 1 (by decide) hb) rfl (isB_f1_6 hb) ?_
      refine K_iconst 1 dTe_signFor_73 rfl ?_
      refine K_isub dTe_signFor_74 (w32_id ((hF.1 c1).1 c3).1.2.2.2) ?_
      exact K_iret dTe_signFor_75 (Or.inl rfl) ((hF.1 c1).1 c3).2
    · refine K_iconst (-1) dTe_signFor_37 rfl ?_
      exact K_iret dTe_signFor_38 (Or.inl rfl) ((hF.1 c1).2 c3)
  · refine K_aload_n 0 ((b + 1 : Nat) : Int) dTe_signFor_10 rfl rfl ?_
    refine K_getf 9 0 (b + 1) (jvR ((b + 2 : Nat) : Int)) dTe_signFor_11 pf_Te_11 rfl (isB_c1 hb) (isB_n 1 (by decide) hb) rfl (isB_f1_0 hb) ?_
    refine K_iload_n 2 l2 dTe_signFor_14 rfl rfl ?_
    refine K_iald (b + 2) 24 dTe_signFor_15 rfl (isB_c2 hb) (isB_n 2 (by decide) hb) (hF.2 c1).1 ?_
    refine K_iload_n 1 l1 dTe_signFor_16 rfl rfl ?_
    refine K_icmp_ne 22 dTe_signFor_17 (by decide) (fun c7 => ?_) (fun c7 => ?_)
    · refine K_iinc 2 dTe_signFor_22 (Nat.le_of_ble_eq_true rfl) rfl (w32_ok ((hF.2 c1).2.1 c7).1) rfl ?_
      refine K_goto 2 dTe_signFor_25 (by decide) ?_
      exact ((hF.2 c1).2.1 c7).2
    · refine K_iload_n 2 l2 dTe_signFor_20 rfl rfl ?_
      exact K_iret dTe_signFor_21 (Or.inl rfl) ((hF.2 c1).2.2 c7)
set_option maxHeartbeats 8000000 in
theorem vTe_add_0 {E : jE} {μ : jMu} {Q : Option AV → jMu → Prop} {b : Nat} (hb : isB b) {a0 : Int} (hF : ((400 ≤ (μ (b + 1) 8) → (Q none μ)) ∧ (¬ (400 ≤ (μ (b + 1) 8)) → ((0 ≤ (μ (b + 1) 8) ∧ (μ (b + 1) 8) < 400) ∧ (-2147483648 ≤ (((j_up μ (b + 5) (μ (b + 1) 8) a0) (b + 1) 8) + 1) ∧ (((j_up μ (b + 5) (μ (b + 1) 8) a0) (b + 1) 8) + 1) < 2147483648) ∧ (0 ≤ ((j_up μ (b + 5) (μ (b + 1) 8) a0) (b + 1) 8) ∧ ((j_up μ (b + 5) (μ (b + 1) 8) a0) (b + 1) 8) < 400) ∧ (-2147483648 ≤ (((j_up (j_up μ (b + 5) (μ (b + 1) 8) a0) (b + 6) ((j_up μ (b + 5) (μ (b + 1) 8) a0) (b + 1) 8) (((j_up μ (b + 5) (μ (b + 1) 8) a0) (b + 1) 8) + 1)) (b + 1) 8) + 1) ∧ (((j_up (j_up μ (b + 5) (μ (b + 1) 8) a0) (b + 6) ((j_up μ (b + 5) (μ (b + 1) 8) a0) (b + 1) 8) (((j_up μ (b + 5) (μ (b + 1) 8) a0) (b + 1) 8) + 1)) (b + 1) 8) + 1) < 2147483648)) ∧ (Q none (j_up (j_up (j_up μ (b + 5) (μ (b + 1) 8) a0) (b + 6) ((j_up μ (b + 5) (μ (b + 1) 8) a0) (b + 1) 8) (((j_up μ (b + 5) (μ (b + 1) 8) a0) (b + 1) 8) + 1)) (b + 1) 8 (((j_up (j_up μ (b + 5) (μ (b + 1) 8) a0) (b + 6) ((j_up μ (b + 5) (μ (b + 1) 8) a0) (b + 1) 8) (((j_up μ (b + 5) (μ (b + 1) 8) a0) (b + 1) 8) + 1)) (b + 1) 8) + 1)))))) : K 121 E mTe_add 0 [some (jvR ((b + 1 : Nat) : Int)), some (jvI a0)] [] μ Q := by
  refine K_aload_n 0 ((b + 1 : Nat) : Int) dTe_add_0 rfl rfl ?_
  refine K_getf 9 8 (b + 1) (jvI (μ (b + 1) 8)) dTe_add_1 pf_Te_37 rfl (isB_c1 hb) (isB_n 1 (by decide) hb) rfl (isB_f1_8 hb) ?_
  refine K_sipush 400 dTe_add_4 rfl ?_
  refine K_icmp_ge 45 dTe_add_7 (by decide) (fun c1 => ?_) (fun c1 => ?_)
  · exact K_vret dTe_add_45 rfl (hF.1 c1)
  · refine K_aload_n 0 ((b + 1 : Nat) : Int) dTe_add_10 rfl rfl ?_
    refine K_getf 9 3 (b + 1) (jvR ((b + 5 : Nat) : Int)) dTe_add_11 pf_Te_21 rfl (isB_c1 hb) (isB_n 1 (by decide) hb) rfl (isB_f1_3 hb) ?_
    refine K_aload_n 0 ((b + 1 : Nat) : Int) dTe_add_14 rfl rfl ?_
    refine K_getf 9 8 (b + 1) (jvI (μ (b + 1) 8)) dTe_add_15 pf_Te_37 rfl (isB_c1 hb) (isB_n 1 (by decide) hb) rfl (isB_f1_8 hb) ?_
    refine K_iload_n 1 a0 dTe_add_18 rfl rfl ?_
    refine K_iast (b + 5) 400 dTe_add_19 rfl (isB_c5 hb) (isB_n 5 (by decide) hb) (hF.2 c1).1.1 ?_
    refine K_aload_n 0 ((b + 1 : Nat) : Int) dTe_add_20 rfl rfl ?_
    refine K_getf 9 4 (b + 1) (jvR ((b + 6 : Nat) : Int)) dTe_add_21 pf_Te_24 rfl (isB_c1 hb) (isB_n 1 (by decide) hb) rfl (isB_f1_4 hb) ?_
    refine K_aload_n 0 ((b + 1 : Nat) : Int) dTe_add_24 rfl rfl ?_
    refine K_getf 9 8 (b + 1) (jvI ((j_up μ (b + 5) (μ (b + 1) 8) a0) (b + 1) 8)) dTe_add_25 pf_Te_37 rfl (isB_c1 hb) (isB_n 1 (by decide) hb) rfl (isB_f1_8 hb) ?_
    refine K_aload_n 0 ((b + 1 : Nat) : Int) dTe_add_28 rfl rfl ?_
    refine K_getf 9 8 (b + 1) (jvI ((j_up μ (b + 5) (μ (b + 1) 8) a0) (b + 1) 8)) dTe_add_29 pf_Te_37 rfl (isB_c1 hb) (isB_n 1 (by decide) hb) rfl (isB_f1_8 hb) ?_
    refine K_iconst 1 dTe_add_32 rfl ?_
    refine K_iadd dTe_add_33 (w32_id (hF.2 c1).1.2.1) ?_
    refine K_iast (b + 6) 400 dTe_add_34 rfl (isB_c6 hb) (isB_n 6 (by decide) hb) (hF.2 c1).1.2.2.1 ?_
    refine K_aload_n 0 ((b + 1 : Nat) : Int) dTe_add_35 rfl rfl ?_
    refine K_dup dTe_add_36 (fun _ h => by cases h) ?_
    refine K_getf 9 8 (b + 1) (jvI ((j_up (j_up μ (b + 5) (μ (b + 1) 8) a0) (b + 6) ((j_up μ (b + 5) (μ (b + 1) 8) a0) (b + 1) 8) (((j_up μ (b + 5) (μ (b + 1) 8) a0) (b + 1) 8) + 1)) (b + 1) 8)) dTe_add_37 pf_Te_37 rfl (isB_c1 hb) (isB_n 1 (by decide) hb) rfl (isB_f1_8 hb) ?_
    refine K_iconst 1 dTe_add_40 rfl ?_
    refine K_iadd dTe_add_41 (w32_id (hF.2 c1).1.2.2.2) ?_
    refine K_putf 9 8 (b + 1) (x := (((j_up (j_up μ (b + 5) (μ (b + 1) 8) a0) (b + 6) ((j_up μ (b + 5) (μ (b + 1) 8) a0) (b + 1) 8) (((j_up μ (b + 5) (μ (b + 1) 8) a0) (b + 1) 8) + 1)) (b + 1) 8) + 1)) dTe_add_42 pf_Te_37 rfl (isB_c1 hb) (isB_n 1 (by decide) hb) rfl rfl (isB_x1_8 hb) rfl trivial ?_
    exact K_vret dTe_add_45 rfl (hF.2 c1).2
set_option maxHeartbeats 8000000 in
theorem vPa_openBracket_0 {E : jE} {μ : jMu} {Q : Option AV → jMu → Prop} {b : Nat} (hb : isB b) (hF : (((μ 3 3) < 6 → ((μ 3 5) = ((b : Nat) : Int) ∧ (-2147483648 ≤ ((μ (b + 1) 8) - 1) ∧ ((μ (b + 1) 8) - 1) < 2147483648) ∧ (0 ≤ (μ 3 3) ∧ (μ 3 3) < 6) ∧ (0 ≤ (μ 3 3) ∧ (μ 3 3) < 6) ∧ (0 ≤ (μ 3 3) ∧ (μ 3 3) < 6) ∧ (-2147483648 ≤ ((μ 3 3) + 1) ∧ ((μ 3 3) + 1) < 2147483648) ∧ (μ 3 4) = 1) ∧ (Cv E mTa_advance [jvR 1] (j_up (j_up (j_up (j_up μ 4 (μ 3 3) ((μ (b + 1) 8) - 1)) 5 (μ 3 3) (μ 3 7)) 6 (μ 3 3) 1) 3 3 ((μ 3 3) + 1)) (fun μ3 => (Q (some (jvI 1)) μ3)))) ∧ (¬ ((μ 3 3) < 6) → ((μ 3 4) = 1) ∧ (Ci E mPa_refuse [jvR 3, jvI 4, jvI (μ 1 3)] μ (fun r10 μ7 => ((r10 = 0 ∨ r10 = 1)) ∧ (Q (some (jvI r10)) μ7)))))) : K 121 E mPa_openBracket 0 [some (jvR 3)] [] μ Q := by
  refine K_aload_n 0 3 dPa_openBracket_0 rfl rfl ?_
  refine K_getf 5 3 3 (jvI (μ 3 3)) dPa_openBracket_1 pf_Pa_159 rfl rfl (by decide) rfl rfl ?_
  refine K_bipush 6 dPa_openBracket_4 rfl ?_
  refine K_icmp_lt 22 dPa_openBracket_6 (by decide) (fun c1 => ?_) (fun c1 => ?_)
  · refine K_aload_n 0 3 dPa_openBracket_22 rfl rfl ?_
    refine K_getf 5 0 3 (jvR 4) dPa_openBracket_23 pf_Pa_11 rfl rfl (by decide) rfl rfl ?_
    refine K_aload_n 0 3 dPa_openBracket_26 rfl rfl ?_
    refine K_getf 5 3 3 (jvI (μ 3 3)) dPa_openBracket_27 pf_Pa_159 rfl rfl (by decide) rfl rfl ?_
    refine K_aload_n 0 3 dPa_openBracket_30 rfl rfl ?_
    refine K_getf 5 5 3 (jvR ((b : Nat) : Int)) dPa_openBracket_31 pf_Pa_29 rfl rfl (by decide) rfl (congrArg jvR (hF.1 c1).1.1) ?_
    refine K_getf 2 0 b (jvR ((b + 1 : Nat) : Int)) dPa_openBracket_34 pf_Pa_150 rfl (isB_c0 hb) (isB_n 0 (by decide) hb) rfl (isB_f0_0 hb) ?_
    refine K_getf 9 8 (b + 1) (jvI (μ (b + 1) 8)) dPa_openBracket_37 pf_Pa_154 rfl (isB_c1 hb) (isB_n 1 (by decide) hb) rfl (isB_f1_8 hb) ?_
    refine K_iconst 1 dPa_openBracket_40 rfl ?_
    refine K_isub dPa_openBracket_41 (w32_id (hF.1 c1).1.2.1) ?_
    refine K_iast 4 6 dPa_openBracket_42 rfl rfl (by decide) (hF.1 c1).1.2.2.1 ?_
    refine K_aload_n 0 3 dPa_openBracket_43 rfl rfl ?_
    refine K_getf 5 1 3 (jvR 5) dPa_openBracket_44 pf_Pa_15 rfl rfl (by decide) rfl rfl ?_
    refine K_aload_n 0 3 dPa_openBracket_47 rfl rfl ?_
    refine K_getf 5 3 3 (jvI (μ 3 3)) dPa_openBracket_48 pf_Pa_159 rfl rfl (by decide) rfl rfl ?_
    refine K_aload_n 0 3 dPa_openBracket_51 rfl rfl ?_
    refine K_getf 5 7 3 (jvI (μ 3 7)) dPa_openBracket_52 pf_Pa_126 rfl rfl (by decide) rfl rfl ?_
    refine K_iast 5 6 dPa_openBracket_55 rfl rfl (by decide) (hF.1 c1).1.2.2.2.1 ?_
    refine K_aload_n 0 3 dPa_openBracket_56 rfl rfl ?_
    refine K_getf 5 2 3 (jvR 6) dPa_openBracket_57 pf_Pa_18 rfl rfl (by decide) rfl rfl ?_
    refine K_aload_n 0 3 dPa_openBracket_60 rfl rfl ?_
    refine K_getf 5 3 3 (jvI (μ 3 3)) dPa_openBracket_61 pf_Pa_159 rfl rfl (by decide) rfl rfl ?_
    refine K_iconst 1 dPa_openBracket_64 rfl ?_
    refine K_iast 6 6 dPa_openBracket_65 rfl rfl (by decide) (hF.1 c1).1.2.2.2.2.1 ?_
    refine K_aload_n 0 3 dPa_openBracket_66 rfl rfl ?_
    refine K_dup dPa_openBracket_67 (fun _ h => by cases h) ?_
    refine K_getf 5 3 3 (jvI (μ 3 3)) dPa_openBracket_68 pf_Pa_159 rfl rfl (by decide) rfl rfl ?_
    refine K_iconst 1 dPa_openBracket_71 rfl ?_
    refine K_iadd dPa_openBracket_72 (w32_id (hF.1 c1).1.2.2.2.2.2.1) ?_
    refine K_putf 5 3 3 (x := ((μ 3 3) + 1)) dPa_openBracket_73 pf_Pa_159 rfl rfl (by decide) rfl rfl rfl rfl trivial ?_
    refine K_aload_n 0 3 dPa_openBracket_76 rfl rfl ?_
    refine K_getf 5 4 3 (jvR 1) dPa_openBracket_77 pf_Pa_25 rfl rfl (by decide) rfl (congrArg jvR (hF.1 c1).1.2.2.2.2.2.2) ?_
    refine K_callVv mTa_advance 8 1 [] dPa_openBracket_80 pm_Pa_94 ⟨_, rfl, rfl⟩ ⟨(Nat.le_of_ble_eq_true rfl), (Nat.le_of_ble_eq_true rfl)⟩ rfl rfl (by decide) (Nat.le_of_ble_eq_true rfl) rfl (Nat.le_of_ble_eq_true rfl) (by decide) (Cv_mono (hF.1 c1).2 (fun μ3 h4 => ?_))
    refine K_iconst 1 dPa_openBracket_83 rfl ?_
    exact K_iret dPa_openBracket_84 (Or.inr ⟨rfl, (by decide)⟩) h4
  · refine K_aload_n 0 3 dPa_openBracket_9 rfl rfl ?_
    refine K_iconst 4 dPa_openBracket_10 rfl ?_
    refine K_aload_n 0 3 dPa_openBracket_11 rfl rfl ?_
    refine K_getf 5 4 3 (jvR 1) dPa_openBracket_12 pf_Pa_25 rfl rfl (by decide) rfl (congrArg jvR (hF.2 c1).1) ?_
    refine K_getf 8 3 1 (jvI (μ 1 3)) dPa_openBracket_15 pf_Pa_56 rfl rfl (by decide) rfl rfl ?_
    refine K_callVi mPa_refuse 5 3 [jvI 4, jvI (μ 1 3)] dPa_openBracket_18 pm_Pa_57 ⟨_, rfl, rfl⟩ ⟨(Nat.le_of_ble_eq_true rfl), (Nat.le_of_ble_eq_true rfl)⟩ rfl rfl (by decide) (Nat.le_of_ble_eq_true rfl) rfl (Nat.le_of_ble_eq_true rfl) (by decide) (Ci_mono (hF.2 c1).2 (fun r10 μ7 h8 => ?_))
    exact K_iret dPa_openBracket_21 (Or.inr ⟨rfl, h8.1⟩) h8.2
set_option maxHeartbeats 8000000 in
theorem vPa_closeBrackets_0 {E : jE} {μ : jMu} {Q : Option AV → jMu → Prop} {b : Nat} (hb : isB b) {a0 : Int} (hF : ((a0 = 0 → ((-2147483648 ≤ ((μ 3 3) - 1) ∧ ((μ 3 3) - 1) < 2147483648)) ∧ (K 121 E mPa_closeBrackets 47 [some (jvR 3), some (jvI a0), some (jvI ((μ 3 3) - 1))] [] μ Q)) ∧ (¬ (a0 = 0) → ((μ 3 5) = ((b : Nat) : Int) ∧ (μ 3 5) = ((b : Nat) : Int) ∧ (-2147483648 ≤ ((μ (b + 1) 8) - 1) ∧ ((μ (b + 1) 8) - 1) < 2147483648)) ∧ (Ci E mTe_endParts [jvR ((b + 1 : Nat) : Int), jvI ((μ (b + 1) 8) - 1), jvI 0] μ (fun r6 μ3 => ((¬ r6 = 0 → ((-2147483648 ≤ ((μ3 3 3) - 1) ∧ ((μ3 3 3) - 1) < 2147483648)) ∧ (K 121 E mPa_closeBrackets 47 [some (jvR 3), some (jvI a0), some (jvI ((μ3 3 3) - 1))] [] μ3 Q)) ∧ (r6 = 0 → (Ci E mPa_refuse [jvR 3, jvI 3, jvI (μ3 3 7)] μ3 (fun r12 μ9 => ((r12 = 0 ∨ r12 = 1)) ∧ (Q (some (jvI r12)) μ9)))))))))) : K 121 E mPa_closeBrackets 0 [some (jvR 3), some (jvI a0), none] [] μ Q := by
  refine K_iload_n 1 a0 dPa_closeBrackets_0 rfl rfl ?_
  refine K_if_eq 40 dPa_closeBrackets_1 (by decide) (fun c1 => ?_) (fun c1 => ?_)
  · refine K_aload_n 0 3 dPa_closeBrackets_40 rfl rfl ?_
    refine K_getf 5 3 3 (jvI (μ 3 3)) dPa_closeBrackets_41 pf_Pa_159 rfl rfl (by decide) rfl rfl ?_
    refine K_iconst 1 dPa_closeBrackets_44 rfl ?_
    refine K_isub dPa_closeBrackets_45 (w32_id (hF.1 c1).1) ?_
    refine K_istore_n 2 dPa_closeBrackets_46 rfl (Nat.le_of_ble_eq_true rfl) rfl ?_
    exact (hF.1 c1).2
  · refine K_aload_n 0 3 dPa_closeBrackets_4 rfl rfl ?_
    refine K_getf 5 5 3 (jvR ((b : Nat) : Int)) dPa_closeBrackets_5 pf_Pa_29 rfl rfl (by decide) rfl (congrArg jvR (hF.2 c1).1.1) ?_
    refine K_getf 2 0 b (jvR ((b + 1 : Nat) : Int)) dPa_closeBrackets_8 pf_Pa_150 rfl (isB_c0 hb) (isB_n 0 (by decide) hb) rfl (isB_f0_0 hb) ?_
    refine K_aload_n 0 3 dPa_closeBrackets_11 rfl rfl ?_
    refine K_getf 5 5 3 (jvR ((b : Nat) : Int)) dPa_closeBrackets_12 pf_Pa_29 rfl rfl (by decide) rfl (congrArg jvR (hF.2 c1).1.2.1) ?_
    refine K_getf 2 0 b (jvR ((b + 1 : Nat) : Int)) dPa_closeBrackets_15 pf_Pa_150 rfl (isB_c0 hb) (isB_n 0 (by decide) hb) rfl (isB_f0_0 hb) ?_
    refine K_getf 9 8 (b + 1) (jvI (μ (b + 1) 8)) dPa_closeBrackets_18 pf_Pa_154 rfl (isB_c1 hb) (isB_n 1 (by decide) hb) rfl (isB_f1_8 hb) ?_
    refine K_iconst 1 dPa_closeBrackets_21 rfl ?_
    refine K_isub dPa_closeBrackets_22 (w32_id (hF.2 c1).1.2.2) ?_
    refine K_iconst 0 dPa_closeBrackets_23 rfl ?_
    refine K_callVi mTe_endParts 9 (b + 1) [jvI ((μ (b + 1) 8) - 1), jvI 0] dPa_closeBrackets_24 pm_Pa_182 ⟨_, rfl, rfl⟩ ⟨(Nat.le_of_ble_eq_true rfl), (Nat.le_of_ble_eq_true rfl)⟩ rfl (isB_c1 hb) (isB_n 1 (by decide) hb) (Nat.le_of_ble_eq_true rfl) rfl (Nat.le_of_ble_eq_true rfl) (by decide) (Ci_mono (hF.2 c1).2 (fun r6 μ3 h4 => ?_))
    refine K_if_ne 40 dPa_closeBrackets_27 (by decide) (fun c7 => ?_) (fun c7 => ?_)
    · refine K_aload_n 0 3 dPa_closeBrackets_40 rfl rfl ?_
      refine K_getf 5 3 3 (jvI (μ3 3 3)) dPa_closeBrackets_41 pf_Pa_159 rfl rfl (by decide) rfl rfl ?_
      refine K_iconst 1 dPa_closeBrackets_44 rfl ?_
      refine K_isub dPa_closeBrackets_45 (w32_id (h4.1 c7).1) ?_
      refine K_istore_n 2 dPa_closeBrackets_46 rfl (Nat.le_of_ble_eq_true rfl) rfl ?_
      exact (h4.1 c7).2
    · refine K_aload_n 0 3 dPa_closeBrackets_30 rfl rfl ?_
      refine K_iconst 3 dPa_closeBrackets_31 rfl ?_
      refine K_aload_n 0 3 dPa_closeBrackets_32 rfl rfl ?_
      refine K_getf 5 7 3 (jvI (μ3 3 7)) dPa_closeBrackets_33 pf_Pa_126 rfl rfl (by decide) rfl rfl ?_
      refine K_callVi mPa_refuse 5 3 [jvI 3, jvI (μ3 3 7)] dPa_closeBrackets_36 pm_Pa_57 ⟨_, rfl, rfl⟩ ⟨(Nat.le_of_ble_eq_true rfl), (Nat.le_of_ble_eq_true rfl)⟩ rfl rfl (by decide) (Nat.le_of_ble_eq_true rfl) rfl (Nat.le_of_ble_eq_true rfl) (by decide) (Ci_mono (h4.2 c7) (fun r12 μ9 h10 => ?_))
      exact K_iret dPa_closeBrackets_39 (Or.inr ⟨rfl, h10.1⟩) h10.2
set_option maxHeartbeats 8000000 in
theorem vPa_closeBrackets_47 {E : jE} {μ : jMu} {Q : Option AV → jMu → Prop} {b : Nat} (hb : isB b) {l1 l2 : Int} (hF : ((l2 < 0 → (Q (some (jvI 1)) μ)) ∧ (¬ (l2 < 0) → ((0 ≤ l2 ∧ l2 < 6)) ∧ ((3 ≤ (μ 6 l2) → (Ci E mPa_takeMark [jvR 3, jvI 41] μ (fun r9 μ6 => ((¬ r9 = 0 → ((μ6 3 5) = ((b : Nat) : Int) ∧ (0 ≤ l2 ∧ l2 < 6) ∧ (0 ≤ l2 ∧ l2 < 6)) ∧ (Ci E mTe_endParts [jvR ((b + 1 : Nat) : Int), jvI (μ6 4 l2), jvI (μ6 6 l2)] μ6 (fun r15 μ12 => ((¬ r15 = 0 → ((-2147483648 ≤ (l2 - 1) ∧ (l2 - 1) < 2147483648)) ∧ (K 121 E mPa_closeBrackets 47 [some (jvR 3), some (jvI l1), some (jvI (l2 - 1))] [] (j_up μ12 3 3 l2) Q)) ∧ (r15 = 0 → ((0 ≤ l2 ∧ l2 < 6)) ∧ (Ci E mPa_refuse [jvR 3, jvI 3, jvI (μ12 5 l2)] μ12 (fun r21 μ18 => ((r21 = 0 ∨ r21 = 1)) ∧ (Q (some (jvI r21)) μ18)))))))) ∧ (r9 = 0 → (Q (some (jvI 0)) μ6)))))) ∧ (¬ (3 ≤ (μ 6 l2)) → ((μ 3 4) = 1) ∧ (Ci E mTa_isMark [jvR 1, jvI 44] μ (fun r27 μ24 => ((r27 = 0 → (Ci E mPa_takeMark [jvR 3, jvI 41] μ24 (fun r33 μ30 => ((¬ r33 = 0 → ((μ30 3 5) = ((b : Nat) : Int) ∧ (0 ≤ l2 ∧ l2 < 6) ∧ (0 ≤ l2 ∧ l2 < 6)) ∧ (Ci E mTe_endParts [jvR ((b + 1 : Nat) : Int), jvI (μ30 4 l2), jvI (μ30 6 l2)] μ30 (fun r39 μ36 => ((¬ r39 = 0 → ((-2147483648 ≤ (l2 - 1) ∧ (l2 - 1) < 2147483648)) ∧ (K 121 E mPa_closeBrackets 47 [some (jvR 3), some (jvI l1), some (jvI (l2 - 1))] [] (j_up μ36 3 3 l2) Q)) ∧ (r39 = 0 → ((0 ≤ l2 ∧ l2 < 6)) ∧ (Ci E mPa_refuse [jvR 3, jvI 3, jvI (μ36 5 l2)] μ36 (fun r45 μ42 => ((r45 = 0 ∨ r45 = 1)) ∧ (Q (some (jvI r45)) μ42)))))))) ∧ (r33 = 0 → (Q (some (jvI 0)) μ30)))))) ∧ (¬ (r27 = 0) → ((0 ≤ l2 ∧ l2 < 6) ∧ (-2147483648 ≤ ((μ24 6 l2) + 1) ∧ ((μ24 6 l2) + 1) < 2147483648) ∧ (0 ≤ l2 ∧ l2 < 6) ∧ (μ24 3 4) = 1) ∧ (Cv E mTa_advance [jvR 1] (j_up μ24 6 l2 ((μ24 6 l2) + 1)) (fun μ48 => (Q (some (jvI 1)) μ48)))))))))))) : K 121 E mPa_closeBrackets 47 [some (jvR 3), some (jvI l1), some (jvI l2)] [] μ Q := by
  refine K_iload_n 2 l2 dPa_closeBrackets_47 rfl rfl ?_
  refine K_if_lt 151 dPa_closeBrackets_48 (by decide) (fun c1 => ?_) (fun c1 => ?_)
  · refine K_iconst 1 dPa_closeBrackets_151 rfl ?_
    exact K_iret dPa_closeBrackets_152 (Or.inr ⟨rfl, (by decide)⟩) (hF.1 c1)
  · refine K_aload_n 0 3 dPa_closeBrackets_51 rfl rfl ?_
    refine K_getf 5 2 3 (jvR 6) dPa_closeBrackets_52 pf_Pa_18 rfl rfl (by decide) rfl rfl ?_
    refine K_iload_n 2 l2 dPa_closeBrackets_55 rfl rfl ?_
    refine K_iald 6 6 dPa_closeBrackets_56 rfl rfl (by decide) (hF.2 c1).1 ?_
    refine K_iconst 3 dPa_closeBrackets_57 rfl ?_
    refine K_icmp_ge 92 dPa_closeBrackets_58 (by decide) (fun c4 => ?_) (fun c4 => ?_)
    · refine K_aload_n 0 3 dPa_closeBrackets_92 rfl rfl ?_
      refine K_bipush 41 dPa_closeBrackets_93 rfl ?_
      refine K_callVi mPa_takeMark 5 3 [jvI 41] dPa_closeBrackets_95 pm_Pa_91 ⟨_, rfl, rfl⟩ ⟨(Nat.le_of_ble_eq_true rfl), (Nat.le_of_ble_eq_true rfl)⟩ rfl rfl (by decide) (Nat.le_of_ble_eq_true rfl) rfl (Nat.le_of_ble_eq_true rfl) (by decide) (Ci_mono ((hF.2 c1).2.1 c4) (fun r9 μ6 h7 => ?_))
      refine K_if_ne 103 dPa_closeBrackets_98 (by decide) (fun c10 => ?_) (fun c10 => ?_)
      · refine K_aload_n 0 3 dPa_closeBrackets_103 rfl rfl ?_
        refine K_getf 5 5 3 (jvR ((b : Nat) : Int)) dPa_closeBrackets_104 pf_Pa_29 rfl rfl (by decide) rfl (congrArg jvR (h7.1 c10).1.1) ?_
        refine K_getf 2 0 b (jvR ((b + 1 : Nat) : Int)) dPa_closeBrackets_107 pf_Pa_150 rfl (isB_c0 hb) (isB_n 0 (by decide) hb) rfl (isB_f0_0 hb) ?_
        refine K_aload_n 0 3 dPa_closeBrackets_110 rfl rfl ?_
        refine K_getf 5 0 3 (jvR 4) dPa_closeBrackets_111 pf_Pa_11 rfl rfl (by decide) rfl rfl ?_
        refine K_iload_n 2 l2 dPa_closeBrackets_114 rfl rfl ?_
        refine K_iald 4 6 dPa_closeBrackets_115 rfl rfl (by decide) (h7.1 c10).1.2.1 ?_
        refine K_aload_n 0 3 dPa_closeBrackets_116 rfl rfl ?_
        refine K_getf 5 2 3 (jvR 6) dPa_closeBrackets_117 pf_Pa_18 rfl rfl (by decide) rfl rfl ?_
        refine K_iload_n 2 l2 dPa_closeBrackets_120 rfl rfl ?_
        refine K_iald 6 6 dPa_closeBrackets_121 rfl rfl (by decide) (h7.1 c10).1.2.2 ?_
        refine K_callVi mTe_endParts 9 (b + 1) [jvI (μ6 4 l2), jvI (μ6 6 l2)] dPa_closeBrackets_122 pm_Pa_182 ⟨_, rfl, rfl⟩ ⟨(Nat.le_of_ble_eq_true rfl), (Nat.le_of_ble_eq_true rfl)⟩ rfl (isB_c1 hb) (isB_n 1 (by decide) hb) (Nat.le_of_ble_eq_true rfl) rfl (Nat.le_of_ble_eq_true rfl) (by decide) (Ci_mono (h7.1 c10).2 (fun r15 μ12 h13 => ?_))
        refine K_if_ne 140 dPa_closeBrackets_125 (by decide) (fun c16 => ?_) (fun c16 => ?_)
        · refine K_aload_n 0 3 dPa_closeBrackets_140 rfl rfl ?_
          refine K_iload_n 2 l2 dPa_closeBrackets_141 rfl rfl ?_
          refine K_putf 5 3 3 (x := l2) dPa_closeBrackets_142 pf_Pa_159 rfl rfl (by decide) rfl rfl rfl rfl trivial ?_
          refine K_iinc 2 dPa_closeBrackets_145 (Nat.le_of_ble_eq_true rfl) rfl (w32_okn (h13.1 c16).1) rfl ?_
          refine K_goto 47 dPa_closeBrackets_148 (by decide) ?_
          exact (h13.1 c16).2
        · refine K_aload_n 0 3 dPa_closeBrackets_128 rfl rfl ?_
          refine K_iconst 3 dPa_closeBrackets_129 rfl ?_
          refine K_aload_n 0 3 dPa_closeBrackets_130 rfl rfl ?_
          refine K_getf 5 1 3 (jvR 5) dPa_closeBrackets_131 pf_Pa_15 rfl rfl (by decide) rfl rfl ?_
          refine K_iload_n 2 l2 dPa_closeBrackets_134 rfl rfl ?_
          refine K_iald 5 6 dPa_closeBrackets_135 rfl rfl (by decide) (h13.2 c16).1 ?_
          refine K_callVi mPa_refuse 5 3 [jvI 3, jvI (μ12 5 l2)] dPa_closeBrackets_136 pm_Pa_57 ⟨_, rfl, rfl⟩ ⟨(Nat.le_of_ble_eq_true rfl), (Nat.le_of_ble_eq_true rfl)⟩ rfl rfl (by decide) (Nat.le_of_ble_eq_true rfl) rfl (Nat.le_of_ble_eq_true rfl) (by decide) (Ci_mono (h13.2 c16).2 (fun r21 μ18 h19 => ?_))
          exact K_iret dPa_closeBrackets_139 (Or.inr ⟨rfl, h19.1⟩) h19.2
      · refine K_iconst 0 dPa_closeBrackets_101 rfl ?_
        exact K_iret dPa_closeBrackets_102 (Or.inr ⟨rfl, (by decide)⟩) (h7.2 c10)
    · refine K_aload_n 0 3 dPa_closeBrackets_61 rfl rfl ?_
      refine K_getf 5 4 3 (jvR 1) dPa_closeBrackets_62 pf_Pa_25 rfl rfl (by decide) rfl (congrArg jvR ((hF.2 c1).2.2 c4).1) ?_
      refine K_bipush 44 dPa_closeBrackets_65 rfl ?_
      refine K_callVi mTa_isMark 8 1 [jvI 44] dPa_closeBrackets_67 pm_Pa_108 ⟨_, rfl, rfl⟩ ⟨(Nat.le_of_ble_eq_true rfl), (Nat.le_of_ble_eq_true rfl)⟩ rfl rfl (by decide) (Nat.le_of_ble_eq_true rfl) rfl (Nat.le_of_ble_eq_true rfl) (by decide) (Ci_mono ((hF.2 c1).2.2 c4).2 (fun r27 μ24 h25 => ?_))
      refine K_if_eq 92 dPa_closeBrackets_70 (by decide) (fun c28 => ?_) (fun c28 => ?_)
      · refine K_aload_n 0 3 dPa_closeBrackets_92 rfl rfl ?_
        refine K_bipush 41 dPa_closeBrackets_93 rfl ?_
        refine K_callVi mPa_takeMark 5 3 [jvI 41] dPa_closeBrackets_95 pm_Pa_91 ⟨_, rfl, rfl⟩ ⟨(Nat.le_of_ble_eq_true rfl), (Nat.le_of_ble_eq_true rfl)⟩ rfl rfl (by decide) (Nat.le_of_ble_eq_true rfl) rfl (Nat.le_of_ble_eq_true rfl) (by decide) (Ci_mono (h25.1 c28) (fun r33 μ30 h31 => ?_))
        refine K_if_ne 103 dPa_closeBrackets_98 (by decide) (fun c34 => ?_) (fun c34 => ?_)
        · refine K_aload_n 0 3 dPa_closeBrackets_103 rfl rfl ?_
          refine K_getf 5 5 3 (jvR ((b : Nat) : Int)) dPa_closeBrackets_104 pf_Pa_29 rfl rfl (by decide) rfl (congrArg jvR (h31.1 c34).1.1) ?_
          refine K_getf 2 0 b (jvR ((b + 1 : Nat) : Int)) dPa_closeBrackets_107 pf_Pa_150 rfl (isB_c0 hb) (isB_n 0 (by decide) hb) rfl (isB_f0_0 hb) ?_
          refine K_aload_n 0 3 dPa_closeBrackets_110 rfl rfl ?_
          refine K_getf 5 0 3 (jvR 4) dPa_closeBrackets_111 pf_Pa_11 rfl rfl (by decide) rfl rfl ?_
          refine K_iload_n 2 l2 dPa_closeBrackets_114 rfl rfl ?_
          refine K_iald 4 6 dPa_closeBrackets_115 rfl rfl (by decide) (h31.1 c34).1.2.1 ?_
          refine K_aload_n 0 3 dPa_closeBrackets_116 rfl rfl ?_
          refine K_getf 5 2 3 (jvR 6) dPa_closeBrackets_117 pf_Pa_18 rfl rfl (by decide) rfl rfl ?_
          refine K_iload_n 2 l2 dPa_closeBrackets_120 rfl rfl ?_
          refine K_iald 6 6 dPa_closeBrackets_121 rfl rfl (by decide) (h31.1 c34).1.2.2 ?_
          refine K_callVi mTe_endParts 9 (b + 1) [jvI (μ30 4 l2), jvI (μ30 6 l2)] dPa_closeBrackets_122 pm_Pa_182 ⟨_, rfl, rfl⟩ ⟨(Nat.le_of_ble_eq_true rfl), (Nat.le_of_ble_eq_true rfl)⟩ rfl (isB_c1 hb) (isB_n 1 (by decide) hb) (Nat.le_of_ble_eq_true rfl) rfl (Nat.le_of_ble_eq_true rfl) (by decide) (Ci_mono (h31.1 c34).2 (fun r39 μ36 h37 => ?_))
          refine K_if_ne 140 dPa_closeBrackets_125 (by decide) (fun c40 => ?_) (fun c40 => ?_)
          · refine K_aload_n 0 3 dPa_closeBrackets_140 rfl rfl ?_
            refine K_iload_n 2 l2 dPa_closeBrackets_141 rfl rfl ?_
            refine K_putf 5 3 3 (x := l2) dPa_closeBrackets_142 pf_Pa_159 rfl rfl (by decide) rfl rfl rfl rfl trivial ?_
            refine K_iinc 2 dPa_closeBrackets_145 (Nat.le_of_ble_eq_true rfl) rfl (w32_okn (h37.1 c40).1) rfl ?_
            refine K_goto 47 dPa_closeBrackets_148 (by decide) ?_
            exact (h37.1 c40).2
          · refine K_aload_n 0 3 dPa_closeBrackets_128 rfl rfl ?_
            refine K_iconst 3 dPa_closeBrackets_129 rfl ?_
            refine K_aload_n 0 3 dPa_closeBrackets_130 rfl rfl ?_
            refine K_getf 5 1 3 (jvR 5) dPa_closeBrackets_131 pf_Pa_15 rfl rfl (by decide) rfl rfl ?_
            refine K_iload_n 2 l2 dPa_closeBrackets_134 rfl rfl ?_
            refine K_iald 5 6 dPa_closeBrackets_135 rfl rfl (by decide) (h37.2 c40).1 ?_
            refine K_callVi mPa_refuse 5 3 [jvI 3, jvI (μ36 5 l2)] dPa_closeBrackets_136 pm_Pa_57 ⟨_, rfl, rfl⟩ ⟨(Nat.le_of_ble_eq_true rfl), (Nat.le_of_ble_eq_true rfl)⟩ rfl rfl (by decide) (Nat.le_of_ble_eq_true rfl) rfl (Nat.le_of_ble_eq_true rfl) (by decide) (Ci_mono (h37.2 c40).2 (fun r45 μ42 h43 => ?_))
            exact K_iret dPa_closeBrackets_139 (Or.inr ⟨rfl, h43.1⟩) h43.2
        · refine K_iconst 0 dPa_closeBrackets_101 rfl ?_
          exact K_iret dPa_closeBrackets_102 (Or.inr ⟨rfl, (by decide)⟩) (h31.2 c34)
      · refine K_aload_n 0 3 dPa_closeBrackets_73 rfl rfl ?_
        refine K_getf 5 2 3 (jvR 6) dPa_closeBrackets_74 pf_Pa_18 rfl rfl (by decide) rfl rfl ?_
        refine K_iload_n 2 l2 dPa_closeBrackets_77 rfl rfl ?_
        refine K_dup2 dPa_closeBrackets_78 (fun _ h => by cases h) (fun _ h => by cases h) ?_
        refine K_iald 6 6 dPa_closeBrackets_79 rfl rfl (by decide) (h25.2 c28).1.1 ?_
        refine K_iconst 1 dPa_closeBrackets_80 rfl ?_
        refine K_iadd dPa_closeBrackets_81 (w32_id (h25.2 c28).1.2.1) ?_
        refine K_iast 6 6 dPa_closeBrackets_82 rfl rfl (by decide) (h25.2 c28).1.2.2.1 ?_
        refine K_aload_n 0 3 dPa_closeBrackets_83 rfl rfl ?_
        refine K_getf 5 4 3 (jvR 1) dPa_closeBrackets_84 pf_Pa_25 rfl rfl (by decide) rfl (congrArg jvR (h25.2 c28).1.2.2.2) ?_
        refine K_callVv mTa_advance 8 1 [] dPa_closeBrackets_87 pm_Pa_94 ⟨_, rfl, rfl⟩ ⟨(Nat.le_of_ble_eq_true rfl), (Nat.le_of_ble_eq_true rfl)⟩ rfl rfl (by decide) (Nat.le_of_ble_eq_true rfl) rfl (Nat.le_of_ble_eq_true rfl) (by decide) (Cv_mono (h25.2 c28).2 (fun μ48 h49 => ?_))
        refine K_iconst 1 dPa_closeBrackets_90 rfl ?_
        exact K_iret dPa_closeBrackets_91 (Or.inr ⟨rfl, (by decide)⟩) h49
set_option maxHeartbeats 8000000 in
theorem vTe_endParts_0 {E : jE} {μ : jMu} {Q : Option AV → jMu → Prop} {b : Nat} (hb : isB b) {a0 a1 : Int} (hF : ((0 ≤ a0 ∧ a0 < 400) ∧ (0 ≤ a0 ∧ a0 < 400) ∧ (0 ≤ (μ (b + 5) a0) ∧ (μ (b + 5) a0) < 24)) ∧ ((¬ ((j_up μ (b + 6) a0 (μ (b + 1) 8)) (b + 3) (μ (b + 5) a0)) = (-1) → ((0 ≤ (μ (b + 5) a0) ∧ (μ (b + 5) a0) < 24)) ∧ ((¬ ((j_up μ (b + 6) a0 (μ (b + 1) 8)) (b + 3) (μ (b + 5) a0)) = a1 → (Q (some (jvI 0)) (j_up μ (b + 6) a0 (μ (b + 1) 8)))) ∧ (((j_up μ (b + 6) a0 (μ (b + 1) 8)) (b + 3) (μ (b + 5) a0)) = a1 → (Q (some (jvI 1)) (j_up μ (b + 6) a0 (μ (b + 1) 8)))))) ∧ (((j_up μ (b + 6) a0 (μ (b + 1) 8)) (b + 3) (μ (b + 5) a0)) = (-1) → ((0 ≤ (μ (b + 5) a0) ∧ (μ (b + 5) a0) < 24) ∧ (0 ≤ (μ (b + 5) a0) ∧ (μ (b + 5) a0) < 24)) ∧ ((¬ ((j_up (j_up μ (b + 6) a0 (μ (b + 1) 8)) (b + 3) (μ (b + 5) a0) a1) (b + 3) (μ (b + 5) a0)) = a1 → (Q (some (jvI 0)) (j_up (j_up μ (b + 6) a0 (μ (b + 1) 8)) (b + 3) (μ (b + 5) a0) a1))) ∧ (((j_up (j_up μ (b + 6) a0 (μ (b + 1) 8)) (b + 3) (μ (b + 5) a0) a1) (b + 3) (μ (b + 5) a0)) = a1 → (Q (some (jvI 1)) (j_up (j_up μ (b + 6) a0 (μ (b + 1) 8)) (b + 3) (μ (b + 5) a0) a1))))))) : K 121 E mTe_endParts 0 [some (jvR ((b + 1 : Nat) : Int)), some (jvI a0), some (jvI a1), none] [] μ Q := by
  refine K_aload_n 0 ((b + 1 : Nat) : Int) dTe_endParts_0 rfl rfl ?_
  refine K_getf 9 3 (b + 1) (jvR ((b + 5 : Nat) : Int)) dTe_endParts_1 pf_Te_21 rfl (isB_c1 hb) (isB_n 1 (by decide) hb) rfl (isB_f1_3 hb) ?_
  refine K_iload_n 1 a0 dTe_endParts_4 rfl rfl ?_
  refine K_iald (b + 5) 400 dTe_endParts_5 rfl (isB_c5 hb) (isB_n 5 (by decide) hb) hF.1.1 ?_
  refine K_istore_n 3 dTe_endParts_6 rfl (Nat.le_of_ble_eq_true rfl) rfl ?_
  refine K_aload_n 0 ((b + 1 : Nat) : Int) dTe_endParts_7 rfl rfl ?_
  refine K_getf 9 4 (b + 1) (jvR ((b + 6 : Nat) : Int)) dTe_endParts_8 pf_Te_24 rfl (isB_c1 hb) (isB_n 1 (by decide) hb) rfl (isB_f1_4 hb) ?_
  refine K_iload_n 1 a0 dTe_endParts_11 rfl rfl ?_
  refine K_aload_n 0 ((b + 1 : Nat) : Int) dTe_endParts_12 rfl rfl ?_
  refine K_getf 9 8 (b + 1) (jvI (μ (b + 1) 8)) dTe_endParts_13 pf_Te_37 rfl (isB_c1 hb) (isB_n 1 (by decide) hb) rfl (isB_f1_8 hb) ?_
  refine K_iast (b + 6) 400 dTe_endParts_16 rfl (isB_c6 hb) (isB_n 6 (by decide) hb) hF.1.2.1 ?_
  refine K_aload_n 0 ((b + 1 : Nat) : Int) dTe_endParts_17 rfl rfl ?_
  refine K_getf 9 1 (b + 1) (jvR ((b + 3 : Nat) : Int)) dTe_endParts_18 pf_Te_15 rfl (isB_c1 hb) (isB_n 1 (by decide) hb) rfl (isB_f1_1 hb) ?_
  refine K_iload_n 3 (μ (b + 5) a0) dTe_endParts_21 rfl rfl ?_
  refine K_iald (b + 3) 24 dTe_endParts_22 rfl (isB_c3 hb) (isB_n 3 (by decide) hb) hF.1.2.2 ?_
  refine K_iconst (-1) dTe_endParts_23 rfl ?_
  refine K_icmp_ne 34 dTe_endParts_24 (by decide) (fun c1 => ?_) (fun c1 => ?_)
  · refine K_aload_n 0 ((b + 1 : Nat) : Int) dTe_endParts_34 rfl rfl ?_
    refine K_getf 9 1 (b + 1) (jvR ((b + 3 : Nat) : Int)) dTe_endParts_35 pf_Te_15 rfl (isB_c1 hb) (isB_n 1 (by decide) hb) rfl (isB_f1_1 hb) ?_
    refine K_iload_n 3 (μ (b + 5) a0) dTe_endParts_38 rfl rfl ?_
    refine K_iald (b + 3) 24 dTe_endParts_39 rfl (isB_c3 hb) (isB_n 3 (by decide) hb) (hF.2.1 c1).1 ?_
    refine K_iload_n 2 a1 dTe_endParts_40 rfl rfl ?_
    refine K_icmp_ne 48 dTe_endParts_41 (by decide) (fun c3 => ?_) (fun c3 => ?_)
    · refine K_iconst 0 dTe_endParts_48 rfl ?_
      exact K_iret dTe_endParts_49 (Or.inr ⟨rfl, (by decide)⟩) ((hF.2.1 c1).2.1 c3)
    · refine K_iconst 1 dTe_endParts_44 rfl ?_
      refine K_goto 49 dTe_endParts_45 (by decide) ?_
      exact K_iret dTe_endParts_49 (Or.inr ⟨rfl, (by decide)⟩) ((hF.2.1 c1).2.2 c3)
  · refine K_aload_n 0 ((b + 1 : Nat) : Int) dTe_endParts_27 rfl rfl ?_
    refine K_getf 9 1 (b + 1) (jvR ((b + 3 : Nat) : Int)) dTe_endParts_28 pf_Te_15 rfl (isB_c1 hb) (isB_n 1 (by decide) hb) rfl (isB_f1_1 hb) ?_
    refine K_iload_n 3 (μ (b + 5) a0) dTe_endParts_31 rfl rfl ?_
    refine K_iload_n 2 a1 dTe_endParts_32 rfl rfl ?_
    refine K_iast (b + 3) 24 dTe_endParts_33 rfl (isB_c3 hb) (isB_n 3 (by decide) hb) (hF.2.2 c1).1.1 ?_
    refine K_aload_n 0 ((b + 1 : Nat) : Int) dTe_endParts_34 rfl rfl ?_
    refine K_getf 9 1 (b + 1) (jvR ((b + 3 : Nat) : Int)) dTe_endParts_35 pf_Te_15 rfl (isB_c1 hb) (isB_n 1 (by decide) hb) rfl (isB_f1_1 hb) ?_
    refine K_iload_n 3 (μ (b + 5) a0) dTe_endParts_38 rfl rfl ?_
    refine K_iald (b + 3) 24 dTe_endParts_39 rfl (isB_c3 hb) (isB_n 3 (by decide) hb) (hF.2.2 c1).1.2 ?_
    refine K_iload_n 2 a1 dTe_endParts_40 rfl rfl ?_
    refine K_icmp_ne 48 dTe_endParts_41 (by decide) (fun c7 => ?_) (fun c7 => ?_)
    · refine K_iconst 0 dTe_endParts_48 rfl ?_
      exact K_iret dTe_endParts_49 (Or.inr ⟨rfl, (by decide)⟩) ((hF.2.2 c1).2.1 c7)
    · refine K_iconst 1 dTe_endParts_44 rfl ?_
      refine K_goto 49 dTe_endParts_45 (by decide) ?_
      exact K_iret dTe_endParts_49 (Or.inr ⟨rfl, (by decide)⟩) ((hF.2.2 c1).2.2 c7)
set_option maxHeartbeats 8000000 in
theorem vPa_takeMark_0 {E : jE} {μ : jMu} {Q : Option AV → jMu → Prop} {a0 : Int} (hF : ((μ 3 4) = 1) ∧ (Ci E mTa_isMark [jvR 1, jvI a0] μ (fun r4 μ1 => ((¬ r4 = 0 → ((μ1 3 4) = 1) ∧ (Cv E mTa_advance [jvR 1] μ1 (fun μ7 => (Q (some (jvI 1)) μ7)))) ∧ (r4 = 0 → ((μ1 3 4) = 1) ∧ (Ci E mPa_refuse [jvR 3, jvI 1, jvI (μ1 1 3)] μ1 (fun r14 μ11 => ((r14 = 0 ∨ r14 = 1)) ∧ (Q (some (jvI r14)) μ11)))))))) : K 121 E mPa_takeMark 0 [some (jvR 3), some (jvI a0)] [] μ Q := by
  refine K_aload_n 0 3 dPa_takeMark_0 rfl rfl ?_
  refine K_getf 5 4 3 (jvR 1) dPa_takeMark_1 pf_Pa_25 rfl rfl (by decide) rfl (congrArg jvR hF.1) ?_
  refine K_iload_n 1 a0 dPa_takeMark_4 rfl rfl ?_
  refine K_callVi mTa_isMark 8 1 [jvI a0] dPa_takeMark_5 pm_Pa_108 ⟨_, rfl, rfl⟩ ⟨(Nat.le_of_ble_eq_true rfl), (Nat.le_of_ble_eq_true rfl)⟩ rfl rfl (by decide) (Nat.le_of_ble_eq_true rfl) rfl (Nat.le_of_ble_eq_true rfl) (by decide) (Ci_mono hF.2 (fun r4 μ1 h2 => ?_))
  refine K_if_ne 24 dPa_takeMark_8 (by decide) (fun c5 => ?_) (fun c5 => ?_)
  · refine K_aload_n 0 3 dPa_takeMark_24 rfl rfl ?_
    refine K_getf 5 4 3 (jvR 1) dPa_takeMark_25 pf_Pa_25 rfl rfl (by decide) rfl (congrArg jvR (h2.1 c5).1) ?_
    refine K_callVv mTa_advance 8 1 [] dPa_takeMark_28 pm_Pa_94 ⟨_, rfl, rfl⟩ ⟨(Nat.le_of_ble_eq_true rfl), (Nat.le_of_ble_eq_true rfl)⟩ rfl rfl (by decide) (Nat.le_of_ble_eq_true rfl) rfl (Nat.le_of_ble_eq_true rfl) (by decide) (Cv_mono (h2.1 c5).2 (fun μ7 h8 => ?_))
    refine K_iconst 1 dPa_takeMark_31 rfl ?_
    exact K_iret dPa_takeMark_32 (Or.inr ⟨rfl, (by decide)⟩) h8
  · refine K_aload_n 0 3 dPa_takeMark_11 rfl rfl ?_
    refine K_iconst 1 dPa_takeMark_12 rfl ?_
    refine K_aload_n 0 3 dPa_takeMark_13 rfl rfl ?_
    refine K_getf 5 4 3 (jvR 1) dPa_takeMark_14 pf_Pa_25 rfl rfl (by decide) rfl (congrArg jvR (h2.2 c5).1) ?_
    refine K_getf 8 3 1 (jvI (μ1 1 3)) dPa_takeMark_17 pf_Pa_56 rfl rfl (by decide) rfl rfl ?_
    refine K_callVi mPa_refuse 5 3 [jvI 1, jvI (μ1 1 3)] dPa_takeMark_20 pm_Pa_57 ⟨_, rfl, rfl⟩ ⟨(Nat.le_of_ble_eq_true rfl), (Nat.le_of_ble_eq_true rfl)⟩ rfl rfl (by decide) (Nat.le_of_ble_eq_true rfl) rfl (Nat.le_of_ble_eq_true rfl) (by decide) (Ci_mono (h2.2 c5).2 (fun r14 μ11 h12 => ?_))
    exact K_iret dPa_takeMark_23 (Or.inr ⟨rfl, h12.1⟩) h12.2
set_option maxHeartbeats 8000000 in
theorem vPa_takeWord_0 {E : jE} {μ : jMu} {Q : Option AV → jMu → Prop} {a0 : Int} (hF : ((μ 3 4) = 1) ∧ (Ci E mTa_isWord [jvR 1, jvI a0] μ (fun r4 μ1 => ((¬ r4 = 0 → ((μ1 3 4) = 1) ∧ (Cv E mTa_advance [jvR 1] μ1 (fun μ7 => (Q (some (jvI 1)) μ7)))) ∧ (r4 = 0 → ((μ1 3 4) = 1) ∧ (Ci E mPa_refuse [jvR 3, jvI 1, jvI (μ1 1 3)] μ1 (fun r14 μ11 => ((r14 = 0 ∨ r14 = 1)) ∧ (Q (some (jvI r14)) μ11)))))))) : K 121 E mPa_takeWord 0 [some (jvR 3), some (jvI a0)] [] μ Q := by
  refine K_aload_n 0 3 dPa_takeWord_0 rfl rfl ?_
  refine K_getf 5 4 3 (jvR 1) dPa_takeWord_1 pf_Pa_25 rfl rfl (by decide) rfl (congrArg jvR hF.1) ?_
  refine K_iload_n 1 a0 dPa_takeWord_4 rfl rfl ?_
  refine K_callVi mTa_isWord 8 1 [jvI a0] dPa_takeWord_5 pm_Pa_66 ⟨_, rfl, rfl⟩ ⟨(Nat.le_of_ble_eq_true rfl), (Nat.le_of_ble_eq_true rfl)⟩ rfl rfl (by decide) (Nat.le_of_ble_eq_true rfl) rfl (Nat.le_of_ble_eq_true rfl) (by decide) (Ci_mono hF.2 (fun r4 μ1 h2 => ?_))
  refine K_if_ne 24 dPa_takeWord_8 (by decide) (fun c5 => ?_) (fun c5 => ?_)
  · refine K_aload_n 0 3 dPa_takeWord_24 rfl rfl ?_
    refine K_getf 5 4 3 (jvR 1) dPa_takeWord_25 pf_Pa_25 rfl rfl (by decide) rfl (congrArg jvR (h2.1 c5).1) ?_
    refine K_callVv mTa_advance 8 1 [] dPa_takeWord_28 pm_Pa_94 ⟨_, rfl, rfl⟩ ⟨(Nat.le_of_ble_eq_true rfl), (Nat.le_of_ble_eq_true rfl)⟩ rfl rfl (by decide) (Nat.le_of_ble_eq_true rfl) rfl (Nat.le_of_ble_eq_true rfl) (by decide) (Cv_mono (h2.1 c5).2 (fun μ7 h8 => ?_))
    refine K_iconst 1 dPa_takeWord_31 rfl ?_
    exact K_iret dPa_takeWord_32 (Or.inr ⟨rfl, (by decide)⟩) h8
  · refine K_aload_n 0 3 dPa_takeWord_11 rfl rfl ?_
    refine K_iconst 1 dPa_takeWord_12 rfl ?_
    refine K_aload_n 0 3 dPa_takeWord_13 rfl rfl ?_
    refine K_getf 5 4 3 (jvR 1) dPa_takeWord_14 pf_Pa_25 rfl rfl (by decide) rfl (congrArg jvR (h2.2 c5).1) ?_
    refine K_getf 8 3 1 (jvI (μ1 1 3)) dPa_takeWord_17 pf_Pa_56 rfl rfl (by decide) rfl rfl ?_
    refine K_callVi mPa_refuse 5 3 [jvI 1, jvI (μ1 1 3)] dPa_takeWord_20 pm_Pa_57 ⟨_, rfl, rfl⟩ ⟨(Nat.le_of_ble_eq_true rfl), (Nat.le_of_ble_eq_true rfl)⟩ rfl rfl (by decide) (Nat.le_of_ble_eq_true rfl) rfl (Nat.le_of_ble_eq_true rfl) (by decide) (Ci_mono (h2.2 c5).2 (fun r14 μ11 h12 => ?_))
    exact K_iret dPa_takeWord_23 (Or.inr ⟨rfl, h12.1⟩) h12.2
set_option maxHeartbeats 8000000 in
theorem vBk_addRule_0 {E : jE} {μ : jMu} {Q : Option AV → jMu → Prop} {b : Nat} (hb : isB b) {a0 a1 a2 : Int} (hF : ((0 ≤ (μ b 12) ∧ (μ b 12) < 12) ∧ (0 ≤ ((j_up μ (b + 8) (μ b 12) a0) b 12) ∧ ((j_up μ (b + 8) (μ b 12) a0) b 12) < 12) ∧ (0 ≤ ((j_up (j_up μ (b + 8) (μ b 12) a0) (b + 9) ((j_up μ (b + 8) (μ b 12) a0) b 12) a1) b 12) ∧ ((j_up (j_up μ (b + 8) (μ b 12) a0) (b + 9) ((j_up μ (b + 8) (μ b 12) a0) b 12) a1) b 12) < 12) ∧ (-2147483648 ≤ (((j_up (j_up (j_up μ (b + 8) (μ b 12) a0) (b + 9) ((j_up μ (b + 8) (μ b 12) a0) b 12) a1) (b + 11) ((j_up (j_up μ (b + 8) (μ b 12) a0) (b + 9) ((j_up μ (b + 8) (μ b 12) a0) b 12) a1) b 12) a2) b 12) + 1) ∧ (((j_up (j_up (j_up μ (b + 8) (μ b 12) a0) (b + 9) ((j_up μ (b + 8) (μ b 12) a0) b 12) a1) (b + 11) ((j_up (j_up μ (b + 8) (μ b 12) a0) (b + 9) ((j_up μ (b + 8) (μ b 12) a0) b 12) a1) b 12) a2) b 12) + 1) < 2147483648)) ∧ (Q none (j_up (j_up (j_up (j_up μ (b + 8) (μ b 12) a0) (b + 9) ((j_up μ (b + 8) (μ b 12) a0) b 12) a1) (b + 11) ((j_up (j_up μ (b + 8) (μ b 12) a0) (b + 9) ((j_up μ (b + 8) (μ b 12) a0) b 12) a1) b 12) a2) b 12 (((j_up (j_up (j_up μ (b + 8) (μ b 12) a0) (b + 9) ((j_up μ (b + 8) (μ b 12) a0) b 12) a1) (b + 11) ((j_up (j_up μ (b + 8) (μ b 12) a0) (b + 9) ((j_up μ (b + 8) (μ b 12) a0) b 12) a1) b 12) a2) b 12) + 1)))) : K 121 E mBk_addRule 0 [some (jvR ((b : Nat) : Int)), some (jvI a0), some (jvI a1), some (jvI a2)] [] μ Q := by
  refine K_aload_n 0 ((b : Nat) : Int) dBk_addRule_0 rfl rfl ?_
  refine K_getf 2 1 b (jvR ((b + 8 : Nat) : Int)) dBk_addRule_1 pf_Bk_18 rfl (isB_c0 hb) (isB_n 0 (by decide) hb) rfl (isB_f0_1 hb) ?_
  refine K_aload_n 0 ((b : Nat) : Int) dBk_addRule_4 rfl rfl ?_
  refine K_getf 2 12 b (jvI (μ b 12)) dBk_addRule_5 pf_Bk_59 rfl (isB_c0 hb) (isB_n 0 (by decide) hb) rfl (isB_f0_12 hb) ?_
  refine K_iload_n 1 a0 dBk_addRule_8 rfl rfl ?_
  refine K_iast (b + 8) 12 dBk_addRule_9 rfl (isB_c8 hb) (isB_n 8 (by decide) hb) hF.1.1 ?_
  refine K_aload_n 0 ((b : Nat) : Int) dBk_addRule_10 rfl rfl ?_
  refine K_getf 2 2 b (jvR ((b + 9 : Nat) : Int)) dBk_addRule_11 pf_Bk_22 rfl (isB_c0 hb) (isB_n 0 (by decide) hb) rfl (isB_f0_2 hb) ?_
  refine K_aload_n 0 ((b : Nat) : Int) dBk_addRule_14 rfl rfl ?_
  refine K_getf 2 12 b (jvI ((j_up μ (b + 8) (μ b 12) a0) b 12)) dBk_addRule_15 pf_Bk_59 rfl (isB_c0 hb) (isB_n 0 (by decide) hb) rfl (isB_f0_12 hb) ?_
  refine K_iload_n 2 a1 dBk_addRule_18 rfl rfl ?_
  refine K_iast (b + 9) 12 dBk_addRule_19 rfl (isB_c9 hb) (isB_n 9 (by decide) hb) hF.1.2.1 ?_
  refine K_aload_n 0 ((b : Nat) : Int) dBk_addRule_20 rfl rfl ?_
  refine K_getf 2 4 b (jvR ((b + 11 : Nat) : Int)) dBk_addRule_21 pf_Bk_28 rfl (isB_c0 hb) (isB_n 0 (by decide) hb) rfl (isB_f0_4 hb) ?_
  refine K_aload_n 0 ((b : Nat) : Int) dBk_addRule_24 rfl rfl ?_
  refine K_getf 2 12 b (jvI ((j_up (j_up μ (b + 8) (μ b 12) a0) (b + 9) ((j_up μ (b + 8) (μ b 12) a0) b 12) a1) b 12)) dBk_addRule_25 pf_Bk_59 rfl (isB_c0 hb) (isB_n 0 (by decide) hb) rfl (isB_f0_12 hb) ?_
  refine K_iload_n 3 a2 dBk_addRule_28 rfl rfl ?_
  refine K_iast (b + 11) 12 dBk_addRule_29 rfl (isB_c11 hb) (isB_n 11 (by decide) hb) hF.1.2.2.1 ?_
  refine K_aload_n 0 ((b : Nat) : Int) dBk_addRule_30 rfl rfl ?_
  refine K_dup dBk_addRule_31 (fun _ h => by cases h) ?_
  refine K_getf 2 12 b (jvI ((j_up (j_up (j_up μ (b + 8) (μ b 12) a0) (b + 9) ((j_up μ (b + 8) (μ b 12) a0) b 12) a1) (b + 11) ((j_up (j_up μ (b + 8) (μ b 12) a0) (b + 9) ((j_up μ (b + 8) (μ b 12) a0) b 12) a1) b 12) a2) b 12)) dBk_addRule_32 pf_Bk_59 rfl (isB_c0 hb) (isB_n 0 (by decide) hb) rfl (isB_f0_12 hb) ?_
  refine K_iconst 1 dBk_addRule_35 rfl ?_
  refine K_iadd dBk_addRule_36 (w32_id hF.1.2.2.2) ?_
  refine K_putf 2 12 b (x := (((j_up (j_up (j_up μ (b + 8) (μ b 12) a0) (b + 9) ((j_up μ (b + 8) (μ b 12) a0) b 12) a1) (b + 11) ((j_up (j_up μ (b + 8) (μ b 12) a0) (b + 9) ((j_up μ (b + 8) (μ b 12) a0) b 12) a1) b 12) a2) b 12) + 1)) dBk_addRule_37 pf_Bk_59 rfl (isB_c0 hb) (isB_n 0 (by decide) hb) rfl rfl (isB_x0_12 hb) rfl trivial ?_
  exact K_vret dBk_addRule_40 rfl hF.2
set_option maxHeartbeats 8000000 in
theorem vPa_readStep_0 {E : jE} {μ : jMu} {Q : Option AV → jMu → Prop} {b : Nat} (hb : isB b) (hF : ((μ 3 5) = ((b : Nat) : Int) ∧ (μ 3 4) = 1) ∧ (Cv E mTa_advance [jvR 1] μ (fun μ1 => (Ci E mPa_readTerm [jvR 3] μ1 (fun r7 μ4 => ((r7 = (-1) → (Q (some (jvI 0)) μ4)) ∧ (¬ (r7 = (-1)) → (Ci E mPa_takeWord [jvR 3, jvI 93323264] μ4 (fun r14 μ11 => ((¬ r14 = 0 → (Ci E mPa_takeName [jvR 3] μ11 (fun r20 μ17 => ((¬ r20 = 0 → ((μ17 3 5) = ((b : Nat) : Int)) ∧ (Ci E mBk_ruleNamed [jvR ((b : Nat) : Int), jvI r20] μ17 (fun r26 μ23 => ((¬ r26 = (-1) → (K 121 E mPa_readStep 76 [some (jvR 3), some (jvI (μ b 13)), some (jvI r7), some (jvI r20), some (jvI r26), some (jvI 0), none] [] μ23 Q)) ∧ (r26 = (-1) → (Ci E mPa_refuse [jvR 3, jvI 3, jvI (μ23 3 7)] μ23 (fun r32 μ29 => ((r32 = 0 ∨ r32 = 1)) ∧ (Q (some (jvI r32)) μ29)))))))) ∧ (r20 = 0 → (Q (some (jvI 0)) μ17)))))) ∧ (r14 = 0 → (Q (some (jvI 0)) μ11)))))))))))) : K 121 E mPa_readStep 0 [some (jvR 3), none, none, none, none, none, none] [] μ Q := by
  refine K_aload_n 0 3 dPa_readStep_0 rfl rfl ?_
  refine K_getf 5 5 3 (jvR ((b : Nat) : Int)) dPa_readStep_1 pf_Pa_29 rfl rfl (by decide) rfl (congrArg jvR hF.1.1) ?_
  refine K_getf 2 13 b (jvI (μ b 13)) dPa_readStep_4 pf_Pa_61 rfl (isB_c0 hb) (isB_n 0 (by decide) hb) rfl (isB_f0_13 hb) ?_
  refine K_istore_n 1 dPa_readStep_7 rfl (Nat.le_of_ble_eq_true rfl) rfl ?_
  refine K_aload_n 0 3 dPa_readStep_8 rfl rfl ?_
  refine K_getf 5 4 3 (jvR 1) dPa_readStep_9 pf_Pa_25 rfl rfl (by decide) rfl (congrArg jvR hF.1.2) ?_
  refine K_callVv mTa_advance 8 1 [] dPa_readStep_12 pm_Pa_94 ⟨_, rfl, rfl⟩ ⟨(Nat.le_of_ble_eq_true rfl), (Nat.le_of_ble_eq_true rfl)⟩ rfl rfl (by decide) (Nat.le_of_ble_eq_true rfl) rfl (Nat.le_of_ble_eq_true rfl) (by decide) (Cv_mono hF.2 (fun μ1 h2 => ?_))
  refine K_aload_n 0 3 dPa_readStep_15 rfl rfl ?_
  refine K_callVi mPa_readTerm 5 3 [] dPa_readStep_16 pm_Pa_102 ⟨_, rfl, rfl⟩ ⟨(Nat.le_of_ble_eq_true rfl), (Nat.le_of_ble_eq_true rfl)⟩ rfl rfl (by decide) (Nat.le_of_ble_eq_true rfl) rfl (Nat.le_of_ble_eq_true rfl) (by decide) (Ci_mono h2 (fun r7 μ4 h5 => ?_))
  refine K_istore_n 2 dPa_readStep_19 rfl (Nat.le_of_ble_eq_true rfl) rfl ?_
  refine K_iload_n 2 r7 dPa_readStep_20 rfl rfl ?_
  refine K_iconst (-1) dPa_readStep_21 rfl ?_
  refine K_icmp_eq 34 dPa_readStep_22 (by decide) (fun c8 => ?_) (fun c8 => ?_)
  · refine K_iconst 0 dPa_readStep_34 rfl ?_
    exact K_iret dPa_readStep_35 (Or.inr ⟨rfl, (by decide)⟩) (h5.1 c8)
  · refine K_aload_n 0 3 dPa_readStep_25 rfl rfl ?_
    refine K_ldc 93323264 dPa_readStep_26 pc_Pa_118 rfl ?_
    refine K_callVi mPa_takeWord 5 3 [jvI 93323264] dPa_readStep_28 pm_Pa_111 ⟨_, rfl, rfl⟩ ⟨(Nat.le_of_ble_eq_true rfl), (Nat.le_of_ble_eq_true rfl)⟩ rfl rfl (by decide) (Nat.le_of_ble_eq_true rfl) rfl (Nat.le_of_ble_eq_true rfl) (by decide) (Ci_mono (h5.2 c8) (fun r14 μ11 h12 => ?_))
    refine K_if_ne 36 dPa_readStep_31 (by decide) (fun c15 => ?_) (fun c15 => ?_)
    · refine K_aload_n 0 3 dPa_readStep_36 rfl rfl ?_
      refine K_callVi mPa_takeName 5 3 [] dPa_readStep_37 pm_Pa_119 ⟨_, rfl, rfl⟩ ⟨(Nat.le_of_ble_eq_true rfl), (Nat.le_of_ble_eq_true rfl)⟩ rfl rfl (by decide) (Nat.le_of_ble_eq_true rfl) rfl (Nat.le_of_ble_eq_true rfl) (by decide) (Ci_mono (h12.1 c15) (fun r20 μ17 h18 => ?_))
      refine K_istore_n 3 dPa_readStep_40 rfl (Nat.le_of_ble_eq_true rfl) rfl ?_
      refine K_iload_n 3 r20 dPa_readStep_41 rfl rfl ?_
      refine K_if_ne 47 dPa_readStep_42 (by decide) (fun c21 => ?_) (fun c21 => ?_)
      · refine K_aload_n 0 3 dPa_readStep_47 rfl rfl ?_
        refine K_getf 5 5 3 (jvR ((b : Nat) : Int)) dPa_readStep_48 pf_Pa_29 rfl rfl (by decide) rfl (congrArg jvR (h18.1 c21).1) ?_
        refine K_iload_n 3 r20 dPa_readStep_51 rfl rfl ?_
        refine K_callVi mBk_ruleNamed 2 b [jvI r20] dPa_readStep_52 pm_Pa_122 ⟨_, rfl, rfl⟩ ⟨(Nat.le_of_ble_eq_true rfl), (Nat.le_of_ble_eq_true rfl)⟩ rfl (isB_c0 hb) (isB_n 0 (by decide) hb) (Nat.le_of_ble_eq_true rfl) rfl (Nat.le_of_ble_eq_true rfl) (by decide) (Ci_mono (h18.1 c21).2 (fun r26 μ23 h24 => ?_))
        refine K_istore 4 dPa_readStep_55 (Nat.le_of_ble_eq_true rfl) rfl ?_
        refine K_iload 4 r26 dPa_readStep_57 rfl ?_
        refine K_iconst (-1) dPa_readStep_59 rfl ?_
        refine K_icmp_ne 73 dPa_readStep_60 (by decide) (fun c27 => ?_) (fun c27 => ?_)
        · refine K_iconst 0 dPa_readStep_73 rfl ?_
          refine K_istore 5 dPa_readStep_74 (Nat.le_of_ble_eq_true rfl) rfl ?_
          exact (h24.1 c27)
        · refine K_aload_n 0 3 dPa_readStep_63 rfl rfl ?_
          refine K_iconst 3 dPa_readStep_64 rfl ?_
          refine K_aload_n 0 3 dPa_readStep_65 rfl rfl ?_
          refine K_getf 5 7 3 (jvI (μ23 3 7)) dPa_readStep_66 pf_Pa_126 rfl rfl (by decide) rfl rfl ?_
          refine K_callVi mPa_refuse 5 3 [jvI 3, jvI (μ23 3 7)] dPa_readStep_69 pm_Pa_57 ⟨_, rfl, rfl⟩ ⟨(Nat.le_of_ble_eq_true rfl), (Nat.le_of_ble_eq_true rfl)⟩ rfl rfl (by decide) (Nat.le_of_ble_eq_true rfl) rfl (Nat.le_of_ble_eq_true rfl) (by decide) (Ci_mono (h24.2 c27) (fun r32 μ29 h30 => ?_))
          exact K_iret dPa_readStep_72 (Or.inr ⟨rfl, h30.1⟩) h30.2
      · refine K_iconst 0 dPa_readStep_45 rfl ?_
        exact K_iret dPa_readStep_46 (Or.inr ⟨rfl, (by decide)⟩) (h18.2 c21)
    · refine K_iconst 0 dPa_readStep_34 rfl ?_
      exact K_iret dPa_readStep_35 (Or.inr ⟨rfl, (by decide)⟩) (h12.2 c15)
set_option maxHeartbeats 8000000 in
theorem vPa_readStep_76 {E : jE} {μ : jMu} {Q : Option AV → jMu → Prop} {b : Nat} (hb : isB b) {l1 l2 l3 l4 l5 : Int} (hF : ((μ 3 5) = ((b : Nat) : Int) ∧ (0 ≤ l4 ∧ l4 < 12)) ∧ (((μ (b + 9) l4) ≤ l5 → ((μ 3 5) = ((b : Nat) : Int)) ∧ (Cv E mBk_addStep [jvR ((b : Nat) : Int), jvI l2, jvI l4] μ (fun μ3 => (Q (some (jvI 1)) μ3)))) ∧ (¬ ((μ (b + 9) l4) ≤ l5) → ((-2147483648 ≤ (l1 - 1) ∧ (l1 - 1) < 2147483648)) ∧ (Ci E mPa_takeNumber [jvR 3, jvI 0, jvI (l1 - 1)] μ (fun r10 μ7 => ((¬ r10 = (-1) → ((μ7 3 5) = ((b : Nat) : Int) ∧ (-2147483648 ≤ (3 * l1) ∧ (3 * l1) < 2147483648) ∧ (-2147483648 ≤ ((3 * l1) + l5) ∧ ((3 * l1) + l5) < 2147483648) ∧ (0 ≤ ((3 * l1) + l5) ∧ ((3 * l1) + l5) < 120) ∧ (-2147483648 ≤ (l5 + 1) ∧ (l5 + 1) < 2147483648)) ∧ (K 121 E mPa_readStep 76 [some (jvR 3), some (jvI l1), some (jvI l2), some (jvI l3), some (jvI l4), some (jvI (l5 + 1)), none] [] (j_up μ7 (b + 14) ((3 * l1) + l5) r10) Q)) ∧ (r10 = (-1) → (Q (some (jvI 0)) μ7)))))))) : K 121 E mPa_readStep 76 [some (jvR 3), some (jvI l1), some (jvI l2), some (jvI l3), some (jvI l4), some (jvI l5), none] [] μ Q := by
  refine K_iload 5 l5 dPa_readStep_76 rfl ?_
  refine K_aload_n 0 3 dPa_readStep_78 rfl rfl ?_
  refine K_getf 5 5 3 (jvR ((b : Nat) : Int)) dPa_readStep_79 pf_Pa_29 rfl rfl (by decide) rfl (congrArg jvR hF.1.1) ?_
  refine K_getf 2 2 b (jvR ((b + 9 : Nat) : Int)) dPa_readStep_82 pf_Pa_129 rfl (isB_c0 hb) (isB_n 0 (by decide) hb) rfl (isB_f0_2 hb) ?_
  refine K_iload 4 l4 dPa_readStep_85 rfl ?_
  refine K_iald (b + 9) 12 dPa_readStep_87 rfl (isB_c9 hb) (isB_n 9 (by decide) hb) hF.1.2 ?_
  refine K_icmp_ge 131 dPa_readStep_88 (by decide) (fun c1 => ?_) (fun c1 => ?_)
  · refine K_aload_n 0 3 dPa_readStep_131 rfl rfl ?_
    refine K_getf 5 5 3 (jvR ((b : Nat) : Int)) dPa_readStep_132 pf_Pa_29 rfl rfl (by decide) rfl (congrArg jvR (hF.2.1 c1).1) ?_
    refine K_iload_n 2 l2 dPa_readStep_135 rfl rfl ?_
    refine K_iload 4 l4 dPa_readStep_136 rfl ?_
    refine K_callVv mBk_addStep 2 b [jvI l2, jvI l4] dPa_readStep_138 pm_Pa_139 ⟨_, rfl, rfl⟩ ⟨(Nat.le_of_ble_eq_true rfl), (Nat.le_of_ble_eq_true rfl)⟩ rfl (isB_c0 hb) (isB_n 0 (by decide) hb) (Nat.le_of_ble_eq_true rfl) rfl (Nat.le_of_ble_eq_true rfl) (by decide) (Cv_mono (hF.2.1 c1).2 (fun μ3 h4 => ?_))
    refine K_iconst 1 dPa_readStep_141 rfl ?_
    exact K_iret dPa_readStep_142 (Or.inr ⟨rfl, (by decide)⟩) h4
  · refine K_aload_n 0 3 dPa_readStep_91 rfl rfl ?_
    refine K_iconst 0 dPa_readStep_92 rfl ?_
    refine K_iload_n 1 l1 dPa_readStep_93 rfl rfl ?_
    refine K_iconst 1 dPa_readStep_94 rfl ?_
    refine K_isub dPa_readStep_95 (w32_id (hF.2.2 c1).1) ?_
    refine K_callVi mPa_takeNumber 5 3 [jvI 0, jvI (l1 - 1)] dPa_readStep_96 pm_Pa_132 ⟨_, rfl, rfl⟩ ⟨(Nat.le_of_ble_eq_true rfl), (Nat.le_of_ble_eq_true rfl)⟩ rfl rfl (by decide) (Nat.le_of_ble_eq_true rfl) rfl (Nat.le_of_ble_eq_true rfl) (by decide) (Ci_mono (hF.2.2 c1).2 (fun r10 μ7 h8 => ?_))
    refine K_istore 6 dPa_readStep_99 (Nat.le_of_ble_eq_true rfl) rfl ?_
    refine K_iload 6 r10 dPa_readStep_101 rfl ?_
    refine K_iconst (-1) dPa_readStep_103 rfl ?_
    refine K_icmp_ne 109 dPa_readStep_104 (by decide) (fun c11 => ?_) (fun c11 => ?_)
    · refine K_aload_n 0 3 dPa_readStep_109 rfl rfl ?_
      refine K_getf 5 5 3 (jvR ((b : Nat) : Int)) dPa_readStep_110 pf_Pa_29 rfl rfl (by decide) rfl (congrArg jvR (h8.1 c11).1.1) ?_
      refine K_getf 2 7 b (jvR ((b + 14 : Nat) : Int)) dPa_readStep_113 pf_Pa_136 rfl (isB_c0 hb) (isB_n 0 (by decide) hb) rfl (isB_f0_7 hb) ?_
      refine K_iconst 3 dPa_readStep_116 rfl ?_
      refine K_iload_n 1 l1 dPa_readStep_117 rfl rfl ?_
      refine K_imul dPa_readStep_118 (w32_id (h8.1 c11).1.2.1) ?_
      refine K_iload 5 l5 dPa_readStep_119 rfl ?_
      refine K_iadd dPa_readStep_121 (w32_id (h8.1 c11).1.2.2.1) ?_
      refine K_iload 6 r10 dPa_readStep_122 rfl ?_
      refine K_iast (b + 14) 120 dPa_readStep_124 rfl (isB_c14 hb) (isB_n 14 (by decide) hb) (h8.1 c11).1.2.2.2.1 ?_
      refine K_iinc 5 dPa_readStep_125 (Nat.le_of_ble_eq_true rfl) rfl (w32_ok (h8.1 c11).1.2.2.2.2) rfl ?_
      refine K_goto 76 dPa_readStep_128 (by decide) ?_
      exact K_forget [true, true, true, true, true, true, false] (h8.1 c11).2
    · refine K_iconst 0 dPa_readStep_107 rfl ?_
      exact K_iret dPa_readStep_108 (Or.inr ⟨rfl, (by decide)⟩) (h8.2 c11)
set_option maxHeartbeats 8000000 in
theorem vPa_takeNumber_0 {E : jE} {μ : jMu} {Q : Option AV → jMu → Prop} {a0 a1 : Int} (hF : ((μ 3 4) = 1 ∧ (μ 3 4) = 1 ∧ (μ 3 4) = 1) ∧ ((¬ (μ 1 2) = 3 → (Ci E mPa_refuse [jvR 3, jvI 1, jvI (μ 1 3)] μ (fun r6 μ3 => (Q (some (jvI (-1))) μ3)))) ∧ ((μ 1 2) = 3 → ((μ 3 4) = 1) ∧ (((μ 1 6) = 0 → ((μ 3 4) = 1) ∧ (((μ 1 4) ≤ 4 → (((μ 1 5) < a0 → (Ci E mPa_refuse [jvR 3, jvI 2, jvI (μ 1 3)] μ (fun r17 μ14 => (Q (some (jvI (-1))) μ14)))) ∧ (¬ ((μ 1 5) < a0) → (((μ 1 5) ≤ a1 → ((μ 3 4) = 1) ∧ (Cv E mTa_advance [jvR 1] μ (fun μ21 => (Q (some (jvI (μ 1 5))) μ21)))) ∧ (¬ ((μ 1 5) ≤ a1) → (Ci E mPa_refuse [jvR 3, jvI 2, jvI (μ 1 3)] μ (fun r28 μ25 => (Q (some (jvI (-1))) μ25)))))))) ∧ (¬ ((μ 1 4) ≤ 4) → ((-2147483648 ≤ ((μ 1 3) + 4) ∧ ((μ 1 3) + 4) < 2147483648)) ∧ (Ci E mPa_refuse [jvR 3, jvI 1, jvI ((μ 1 3) + 4)] μ (fun r33 μ30 => (Q (some (jvI (-1))) μ30)))))) ∧ (¬ ((μ 1 6) = 0) → (Ci E mPa_refuse [jvR 3, jvI 1, jvI (μ 1 3)] μ (fun r38 μ35 => (Q (some (jvI (-1))) μ35)))))))) : K 121 E mPa_takeNumber 0 [some (jvR 3), some (jvI a0), some (jvI a1), none, none] [] μ Q := by
  refine K_aload_n 0 3 dPa_takeNumber_0 rfl rfl ?_
  refine K_getf 5 4 3 (jvR 1) dPa_takeNumber_1 pf_Pa_25 rfl rfl (by decide) rfl (congrArg jvR hF.1.1) ?_
  refine K_getf 8 5 1 (jvI (μ 1 5)) dPa_takeNumber_4 pf_Pa_185 rfl rfl (by decide) rfl rfl ?_
  refine K_istore_n 3 dPa_takeNumber_7 rfl (Nat.le_of_ble_eq_true rfl) rfl ?_
  refine K_aload_n 0 3 dPa_takeNumber_8 rfl rfl ?_
  refine K_getf 5 4 3 (jvR 1) dPa_takeNumber_9 pf_Pa_25 rfl rfl (by decide) rfl (congrArg jvR hF.1.2.1) ?_
  refine K_getf 8 3 1 (jvI (μ 1 3)) dPa_takeNumber_12 pf_Pa_56 rfl rfl (by decide) rfl rfl ?_
  refine K_istore 4 dPa_takeNumber_15 (Nat.le_of_ble_eq_true rfl) rfl ?_
  refine K_aload_n 0 3 dPa_takeNumber_17 rfl rfl ?_
  refine K_getf 5 4 3 (jvR 1) dPa_takeNumber_18 pf_Pa_25 rfl rfl (by decide) rfl (congrArg jvR hF.1.2.2) ?_
  refine K_getf 8 2 1 (jvI (μ 1 2)) dPa_takeNumber_21 pf_Pa_49 rfl rfl (by decide) rfl rfl ?_
  refine K_iconst 3 dPa_takeNumber_24 rfl ?_
  refine K_icmp_ne 38 dPa_takeNumber_25 (by decide) (fun c1 => ?_) (fun c1 => ?_)
  · refine K_aload_n 0 3 dPa_takeNumber_38 rfl rfl ?_
    refine K_iconst 1 dPa_takeNumber_39 rfl ?_
    refine K_iload 4 (μ 1 3) dPa_takeNumber_40 rfl ?_
    refine K_callVi mPa_refuse 5 3 [jvI 1, jvI (μ 1 3)] dPa_takeNumber_42 pm_Pa_57 ⟨_, rfl, rfl⟩ ⟨(Nat.le_of_ble_eq_true rfl), (Nat.le_of_ble_eq_true rfl)⟩ rfl rfl (by decide) (Nat.le_of_ble_eq_true rfl) rfl (Nat.le_of_ble_eq_true rfl) (by decide) (Ci_mono (hF.2.1 c1) (fun r6 μ3 h4 => ?_))
    refine K_pop dPa_takeNumber_45 (fun _ h => by cases h) ?_
    refine K_iconst (-1) dPa_takeNumber_46 rfl ?_
    exact K_iret dPa_takeNumber_47 (Or.inl rfl) h4
  · refine K_aload_n 0 3 dPa_takeNumber_28 rfl rfl ?_
    refine K_getf 5 4 3 (jvR 1) dPa_takeNumber_29 pf_Pa_25 rfl rfl (by decide) rfl (congrArg jvR (hF.2.2 c1).1) ?_
    refine K_getf 8 6 1 (jvI (μ 1 6)) dPa_takeNumber_32 pf_Pa_188 rfl rfl (by decide) rfl rfl ?_
    refine K_if_eq 48 dPa_takeNumber_35 (by decide) (fun c8 => ?_) (fun c8 => ?_)
    · refine K_aload_n 0 3 dPa_takeNumber_48 rfl rfl ?_
      refine K_getf 5 4 3 (jvR 1) dPa_takeNumber_49 pf_Pa_25 rfl rfl (by decide) rfl (congrArg jvR ((hF.2.2 c1).2.1 c8).1) ?_
      refine K_getf 8 4 1 (jvI (μ 1 4)) dPa_takeNumber_52 pf_Pa_192 rfl rfl (by decide) rfl rfl ?_
      refine K_iconst 4 dPa_takeNumber_55 rfl ?_
      refine K_icmp_le 71 dPa_takeNumber_56 (by decide) (fun c10 => ?_) (fun c10 => ?_)
      · refine K_iload_n 3 (μ 1 5) dPa_takeNumber_71 rfl rfl ?_
        refine K_iload_n 1 a0 dPa_takeNumber_72 rfl rfl ?_
        refine K_icmp_lt 81 dPa_takeNumber_73 (by decide) (fun c12 => ?_) (fun c12 => ?_)
        · refine K_aload_n 0 3 dPa_takeNumber_81 rfl rfl ?_
          refine K_iconst 2 dPa_takeNumber_82 rfl ?_
          refine K_iload 4 (μ 1 3) dPa_takeNumber_83 rfl ?_
          refine K_callVi mPa_refuse 5 3 [jvI 2, jvI (μ 1 3)] dPa_takeNumber_85 pm_Pa_57 ⟨_, rfl, rfl⟩ ⟨(Nat.le_of_ble_eq_true rfl), (Nat.le_of_ble_eq_true rfl)⟩ rfl rfl (by decide) (Nat.le_of_ble_eq_true rfl) rfl (Nat.le_of_ble_eq_true rfl) (by decide) (Ci_mono ((((hF.2.2 c1).2.1 c8).2.1 c10).1 c12) (fun r17 μ14 h15 => ?_))
          refine K_pop dPa_takeNumber_88 (fun _ h => by cases h) ?_
          refine K_iconst (-1) dPa_takeNumber_89 rfl ?_
          exact K_iret dPa_takeNumber_90 (Or.inl rfl) h15
        · refine K_iload_n 3 (μ 1 5) dPa_takeNumber_76 rfl rfl ?_
          refine K_iload_n 2 a1 dPa_takeNumber_77 rfl rfl ?_
          refine K_icmp_le 91 dPa_takeNumber_78 (by decide) (fun c19 => ?_) (fun c19 => ?_)
          · refine K_aload_n 0 3 dPa_takeNumber_91 rfl rfl ?_
            refine K_getf 5 4 3 (jvR 1) dPa_takeNumber_92 pf_Pa_25 rfl rfl (by decide) rfl (congrArg jvR (((((hF.2.2 c1).2.1 c8).2.1 c10).2 c12).1 c19).1) ?_
            refine K_callVv mTa_advance 8 1 [] dPa_takeNumber_95 pm_Pa_94 ⟨_, rfl, rfl⟩ ⟨(Nat.le_of_ble_eq_true rfl), (Nat.le_of_ble_eq_true rfl)⟩ rfl rfl (by decide) (Nat.le_of_ble_eq_true rfl) rfl (Nat.le_of_ble_eq_true rfl) (by decide) (Cv_mono (((((hF.2.2 c1).2.1 c8).2.1 c10).2 c12).1 c19).2 (fun μ21 h22 => ?_))
            refine K_iload_n 3 (μ 1 5) dPa_takeNumber_98 rfl rfl ?_
            exact K_iret dPa_takeNumber_99 (Or.inl rfl) h22
          · refine K_aload_n 0 3 dPa_takeNumber_81 rfl rfl ?_
            refine K_iconst 2 dPa_takeNumber_82 rfl ?_
            refine K_iload 4 (μ 1 3) dPa_takeNumber_83 rfl ?_
            refine K_callVi mPa_refuse 5 3 [jvI 2, jvI (μ 1 3)] dPa_takeNumber_85 pm_Pa_57 ⟨_, rfl, rfl⟩ ⟨(Nat.le_of_ble_eq_true rfl), (Nat.le_of_ble_eq_true rfl)⟩ rfl rfl (by decide) (Nat.le_of_ble_eq_true rfl) rfl (Nat.le_of_ble_eq_true rfl) (by decide) (Ci_mono (((((hF.2.2 c1).2.1 c8).2.1 c10).2 c12).2 c19) (fun r28 μ25 h26 => ?_))
            refine K_pop dPa_takeNumber_88 (fun _ h => by cases h) ?_
            refine K_iconst (-1) dPa_takeNumber_89 rfl ?_
            exact K_iret dPa_takeNumber_90 (Or.inl rfl) h26
      · refine K_aload_n 0 3 dPa_takeNumber_59 rfl rfl ?_
        refine K_iconst 1 dPa_takeNumber_60 rfl ?_
        refine K_iload 4 (μ 1 3) dPa_takeNumber_61 rfl ?_
        refine K_iconst 4 dPa_takeNumber_63 rfl ?_
        refine K_iadd dPa_takeNumber_64 (w32_id (((hF.2.2 c1).2.1 c8).2.2 c10).1) ?_
        refine K_callVi mPa_refuse 5 3 [jvI 1, jvI ((μ 1 3) + 4)] dPa_takeNumber_65 pm_Pa_57 ⟨_, rfl, rfl⟩ ⟨(Nat.le_of_ble_eq_true rfl), (Nat.le_of_ble_eq_true rfl)⟩ rfl rfl (by decide) (Nat.le_of_ble_eq_true rfl) rfl (Nat.le_of_ble_eq_true rfl) (by decide) (Ci_mono (((hF.2.2 c1).2.1 c8).2.2 c10).2 (fun r33 μ30 h31 => ?_))
        refine K_pop dPa_takeNumber_68 (fun _ h => by cases h) ?_
        refine K_iconst (-1) dPa_takeNumber_69 rfl ?_
        exact K_iret dPa_takeNumber_70 (Or.inl rfl) h31
    · refine K_aload_n 0 3 dPa_takeNumber_38 rfl rfl ?_
      refine K_iconst 1 dPa_takeNumber_39 rfl ?_
      refine K_iload 4 (μ 1 3) dPa_takeNumber_40 rfl ?_
      refine K_callVi mPa_refuse 5 3 [jvI 1, jvI (μ 1 3)] dPa_takeNumber_42 pm_Pa_57 ⟨_, rfl, rfl⟩ ⟨(Nat.le_of_ble_eq_true rfl), (Nat.le_of_ble_eq_true rfl)⟩ rfl rfl (by decide) (Nat.le_of_ble_eq_true rfl) rfl (Nat.le_of_ble_eq_true rfl) (by decide) (Ci_mono ((hF.2.2 c1).2.2 c8) (fun r38 μ35 h36 => ?_))
      refine K_pop dPa_takeNumber_45 (fun _ h => by cases h) ?_
      refine K_iconst (-1) dPa_takeNumber_46 rfl ?_
      exact K_iret dPa_takeNumber_47 (Or.inl rfl) h36
set_option maxHeartbeats 8000000 in
theorem vBk_addStep_0 {E : jE} {μ : jMu} {Q : Option AV → jMu → Prop} {b : Nat} (hb : isB b) {a0 a1 : Int} (hF : ((0 ≤ (μ b 13) ∧ (μ b 13) < 40) ∧ (0 ≤ ((j_up μ (b + 13) (μ b 13) a0) b 13) ∧ ((j_up μ (b + 13) (μ b 13) a0) b 13) < 40) ∧ (-2147483648 ≤ (((j_up (j_up μ (b + 13) (μ b 13) a0) (b + 12) ((j_up μ (b + 13) (μ b 13) a0) b 13) a1) b 13) + 1) ∧ (((j_up (j_up μ (b + 13) (μ b 13) a0) (b + 12) ((j_up μ (b + 13) (μ b 13) a0) b 13) a1) b 13) + 1) < 2147483648)) ∧ (Q none (j_up (j_up (j_up μ (b + 13) (μ b 13) a0) (b + 12) ((j_up μ (b + 13) (μ b 13) a0) b 13) a1) b 13 (((j_up (j_up μ (b + 13) (μ b 13) a0) (b + 12) ((j_up μ (b + 13) (μ b 13) a0) b 13) a1) b 13) + 1)))) : K 121 E mBk_addStep 0 [some (jvR ((b : Nat) : Int)), some (jvI a0), some (jvI a1)] [] μ Q := by
  refine K_aload_n 0 ((b : Nat) : Int) dBk_addStep_0 rfl rfl ?_
  refine K_getf 2 6 b (jvR ((b + 13 : Nat) : Int)) dBk_addStep_1 pf_Bk_34 rfl (isB_c0 hb) (isB_n 0 (by decide) hb) rfl (isB_f0_6 hb) ?_
  refine K_aload_n 0 ((b : Nat) : Int) dBk_addStep_4 rfl rfl ?_
  refine K_getf 2 13 b (jvI (μ b 13)) dBk_addStep_5 pf_Bk_62 rfl (isB_c0 hb) (isB_n 0 (by decide) hb) rfl (isB_f0_13 hb) ?_
  refine K_iload_n 1 a0 dBk_addStep_8 rfl rfl ?_
  refine K_iast (b + 13) 40 dBk_addStep_9 rfl (isB_c13 hb) (isB_n 13 (by decide) hb) hF.1.1 ?_
  refine K_aload_n 0 ((b : Nat) : Int) dBk_addStep_10 rfl rfl ?_
  refine K_getf 2 5 b (jvR ((b + 12 : Nat) : Int)) dBk_addStep_11 pf_Bk_31 rfl (isB_c0 hb) (isB_n 0 (by decide) hb) rfl (isB_f0_5 hb) ?_
  refine K_aload_n 0 ((b : Nat) : Int) dBk_addStep_14 rfl rfl ?_
  refine K_getf 2 13 b (jvI ((j_up μ (b + 13) (μ b 13) a0) b 13)) dBk_addStep_15 pf_Bk_62 rfl (isB_c0 hb) (isB_n 0 (by decide) hb) rfl (isB_f0_13 hb) ?_
  refine K_iload_n 2 a1 dBk_addStep_18 rfl rfl ?_
  refine K_iast (b + 12) 40 dBk_addStep_19 rfl (isB_c12 hb) (isB_n 12 (by decide) hb) hF.1.2.1 ?_
  refine K_aload_n 0 ((b : Nat) : Int) dBk_addStep_20 rfl rfl ?_
  refine K_dup dBk_addStep_21 (fun _ h => by cases h) ?_
  refine K_getf 2 13 b (jvI ((j_up (j_up μ (b + 13) (μ b 13) a0) (b + 12) ((j_up μ (b + 13) (μ b 13) a0) b 13) a1) b 13)) dBk_addStep_22 pf_Bk_62 rfl (isB_c0 hb) (isB_n 0 (by decide) hb) rfl (isB_f0_13 hb) ?_
  refine K_iconst 1 dBk_addStep_25 rfl ?_
  refine K_iadd dBk_addStep_26 (w32_id hF.1.2.2) ?_
  refine K_putf 2 13 b (x := (((j_up (j_up μ (b + 13) (μ b 13) a0) (b + 12) ((j_up μ (b + 13) (μ b 13) a0) b 13) a1) b 13) + 1)) dBk_addStep_27 pf_Bk_62 rfl (isB_c0 hb) (isB_n 0 (by decide) hb) rfl rfl (isB_x0_13 hb) rfl trivial ?_
  exact K_vret dBk_addStep_30 rfl hF.2
set_option maxHeartbeats 8000000 in
theorem vPa_readGoal_0 {E : jE} {μ : jMu} {Q : Option AV → jMu → Prop} {b : Nat} (hb : isB b) (hF : ((μ 3 4) = 1) ∧ (Cv E mTa_advance [jvR 1] μ (fun μ1 => ((μ1 3 5) = ((b : Nat) : Int) ∧ (-2147483648 ≤ ((μ1 b 13) - 1) ∧ ((μ1 b 13) - 1) < 2147483648)) ∧ (Ci E mPa_takeNumber [jvR 3, jvI 0, jvI ((μ1 b 13) - 1)] μ1 (fun r7 μ4 => ((¬ r7 = (-1) → (Q (some (jvI 1)) (j_up μ4 3 6 r7))) ∧ (r7 = (-1) → (Q (some (jvI 0)) μ4)))))))) : K 121 E mPa_readGoal 0 [some (jvR 3), none] [] μ Q := by
  refine K_aload_n 0 3 dPa_readGoal_0 rfl rfl ?_
  refine K_getf 5 4 3 (jvR 1) dPa_readGoal_1 pf_Pa_25 rfl rfl (by decide) rfl (congrArg jvR hF.1) ?_
  refine K_callVv mTa_advance 8 1 [] dPa_readGoal_4 pm_Pa_94 ⟨_, rfl, rfl⟩ ⟨(Nat.le_of_ble_eq_true rfl), (Nat.le_of_ble_eq_true rfl)⟩ rfl rfl (by decide) (Nat.le_of_ble_eq_true rfl) rfl (Nat.le_of_ble_eq_true rfl) (by decide) (Cv_mono hF.2 (fun μ1 h2 => ?_))
  refine K_aload_n 0 3 dPa_readGoal_7 rfl rfl ?_
  refine K_iconst 0 dPa_readGoal_8 rfl ?_
  refine K_aload_n 0 3 dPa_readGoal_9 rfl rfl ?_
  refine K_getf 5 5 3 (jvR ((b : Nat) : Int)) dPa_readGoal_10 pf_Pa_29 rfl rfl (by decide) rfl (congrArg jvR h2.1.1) ?_
  refine K_getf 2 13 b (jvI (μ1 b 13)) dPa_readGoal_13 pf_Pa_61 rfl (isB_c0 hb) (isB_n 0 (by decide) hb) rfl (isB_f0_13 hb) ?_
  refine K_iconst 1 dPa_readGoal_16 rfl ?_
  refine K_isub dPa_readGoal_17 (w32_id h2.1.2) ?_
  refine K_callVi mPa_takeNumber 5 3 [jvI 0, jvI ((μ1 b 13) - 1)] dPa_readGoal_18 pm_Pa_132 ⟨_, rfl, rfl⟩ ⟨(Nat.le_of_ble_eq_true rfl), (Nat.le_of_ble_eq_true rfl)⟩ rfl rfl (by decide) (Nat.le_of_ble_eq_true rfl) rfl (Nat.le_of_ble_eq_true rfl) (by decide) (Ci_mono h2.2 (fun r7 μ4 h5 => ?_))
  refine K_istore_n 1 dPa_readGoal_21 rfl (Nat.le_of_ble_eq_true rfl) rfl ?_
  refine K_iload_n 1 r7 dPa_readGoal_22 rfl rfl ?_
  refine K_iconst (-1) dPa_readGoal_23 rfl ?_
  refine K_icmp_ne 29 dPa_readGoal_24 (by decide) (fun c8 => ?_) (fun c8 => ?_)
  · refine K_aload_n 0 3 dPa_readGoal_29 rfl rfl ?_
    refine K_iload_n 1 r7 dPa_readGoal_30 rfl rfl ?_
    refine K_putf 5 6 3 (x := r7) dPa_readGoal_31 pf_Pa_38 rfl rfl (by decide) rfl rfl rfl rfl trivial ?_
    refine K_iconst 1 dPa_readGoal_34 rfl ?_
    exact K_iret dPa_readGoal_35 (Or.inr ⟨rfl, (by decide)⟩) (h5.1 c8)
  · refine K_iconst 0 dPa_readGoal_27 rfl ?_
    exact K_iret dPa_readGoal_28 (Or.inr ⟨rfl, (by decide)⟩) (h5.2 c8)
set_option maxHeartbeats 8000000 in
theorem vPa_readReader_0 {E : jE} {μ : jMu} {Q : Option AV → jMu → Prop} {b : Nat} (hb : isB b) (hF : ((μ 3 4) = 1) ∧ (Cv E mTa_advance [jvR 1] μ (fun μ1 => (Ci E mPa_takeNewName [jvR 3] μ1 (fun r7 μ4 => ((r7 = 0 → (Q (some (jvI 0)) μ4)) ∧ (¬ (r7 = 0) → (Ci E mPa_takeWord [jvR 3, jvI 507661312] μ4 (fun r14 μ11 => ((¬ r14 = 0 → (Ci E mPa_takeNumber [jvR 3, jvI 0, jvI 100] μ11 (fun r20 μ17 => ((r20 = (-1) → (Q (some (jvI 0)) μ17)) ∧ (¬ (r20 = (-1)) → (Ci E mPa_takeWord [jvR 3, jvI 220705792] μ17 (fun r27 μ24 => ((¬ r27 = 0 → ((μ24 3 5) = ((b : Nat) : Int) ∧ (-2147483648 ≤ ((μ24 b 13) - 1) ∧ ((μ24 b 13) - 1) < 2147483648)) ∧ (Ci E mPa_takeNumber [jvR 3, jvI 0, jvI ((μ24 b 13) - 1)] μ24 (fun r33 μ30 => ((r33 = (-1) → (Q (some (jvI 0)) μ30)) ∧ (¬ (r33 = (-1)) → (Ci E mPa_takeWord [jvR 3, jvI 686817280] μ30 (fun r40 μ37 => ((¬ r40 = 0 → ((μ37 3 5) = ((b : Nat) : Int) ∧ (-2147483648 ≤ ((μ37 b 13) - 1) ∧ ((μ37 b 13) - 1) < 2147483648)) ∧ (Ci E mPa_takeNumber [jvR 3, jvI r33, jvI ((μ37 b 13) - 1)] μ37 (fun r46 μ43 => ((¬ r46 = (-1) → ((μ43 3 5) = ((b : Nat) : Int)) ∧ (Cv E mBk_addReader [jvR ((b : Nat) : Int), jvI r7, jvI r20, jvI r33, jvI r46] μ43 (fun μ49 => (Q (some (jvI 1)) μ49)))) ∧ (r46 = (-1) → (Q (some (jvI 0)) μ43)))))) ∧ (r40 = 0 → (Q (some (jvI 0)) μ37)))))))))) ∧ (r27 = 0 → (Q (some (jvI 0)) μ24)))))))))) ∧ (r14 = 0 → (Q (some (jvI 0)) μ11)))))))))))) : K 121 E mPa_readReader 0 [some (jvR 3), none, none, none, none] [] μ Q := by
  refine K_aload_n 0 3 dPa_readReader_0 rfl rfl ?_
  refine K_getf 5 4 3 (jvR 1) dPa_readReader_1 pf_Pa_25 rfl rfl (by decide) rfl (congrArg jvR hF.1) ?_
  refine K_callVv mTa_advance 8 1 [] dPa_readReader_4 pm_Pa_94 ⟨_, rfl, rfl⟩ ⟨(Nat.le_of_ble_eq_true rfl), (Nat.le_of_ble_eq_true rfl)⟩ rfl rfl (by decide) (Nat.le_of_ble_eq_true rfl) rfl (Nat.le_of_ble_eq_true rfl) (by decide) (Cv_mono hF.2 (fun μ1 h2 => ?_))
  refine K_aload_n 0 3 dPa_readReader_7 rfl rfl ?_
  refine K_callVi mPa_takeNewName 5 3 [] dPa_readReader_8 pm_Pa_97 ⟨_, rfl, rfl⟩ ⟨(Nat.le_of_ble_eq_true rfl), (Nat.le_of_ble_eq_true rfl)⟩ rfl rfl (by decide) (Nat.le_of_ble_eq_true rfl) rfl (Nat.le_of_ble_eq_true rfl) (by decide) (Ci_mono h2 (fun r7 μ4 h5 => ?_))
  refine K_istore_n 1 dPa_readReader_11 rfl (Nat.le_of_ble_eq_true rfl) rfl ?_
  refine K_iload_n 1 r7 dPa_readReader_12 rfl rfl ?_
  refine K_if_eq 25 dPa_readReader_13 (by decide) (fun c8 => ?_) (fun c8 => ?_)
  · refine K_iconst 0 dPa_readReader_25 rfl ?_
    exact K_iret dPa_readReader_26 (Or.inr ⟨rfl, (by decide)⟩) (h5.1 c8)
  · refine K_aload_n 0 3 dPa_readReader_16 rfl rfl ?_
    refine K_ldc 507661312 dPa_readReader_17 pc_Pa_143 rfl ?_
    refine K_callVi mPa_takeWord 5 3 [jvI 507661312] dPa_readReader_19 pm_Pa_111 ⟨_, rfl, rfl⟩ ⟨(Nat.le_of_ble_eq_true rfl), (Nat.le_of_ble_eq_true rfl)⟩ rfl rfl (by decide) (Nat.le_of_ble_eq_true rfl) rfl (Nat.le_of_ble_eq_true rfl) (by decide) (Ci_mono (h5.2 c8) (fun r14 μ11 h12 => ?_))
    refine K_if_ne 27 dPa_readReader_22 (by decide) (fun c15 => ?_) (fun c15 => ?_)
    · refine K_aload_n 0 3 dPa_readReader_27 rfl rfl ?_
      refine K_iconst 0 dPa_readReader_28 rfl ?_
      refine K_bipush 100 dPa_readReader_29 rfl ?_
      refine K_callVi mPa_takeNumber 5 3 [jvI 0, jvI 100] dPa_readReader_31 pm_Pa_132 ⟨_, rfl, rfl⟩ ⟨(Nat.le_of_ble_eq_true rfl), (Nat.le_of_ble_eq_true rfl)⟩ rfl rfl (by decide) (Nat.le_of_ble_eq_true rfl) rfl (Nat.le_of_ble_eq_true rfl) (by decide) (Ci_mono (h12.1 c15) (fun r20 μ17 h18 => ?_))
      refine K_istore_n 2 dPa_readReader_34 rfl (Nat.le_of_ble_eq_true rfl) rfl ?_
      refine K_iload_n 2 r20 dPa_readReader_35 rfl rfl ?_
      refine K_iconst (-1) dPa_readReader_36 rfl ?_
      refine K_icmp_eq 49 dPa_readReader_37 (by decide) (fun c21 => ?_) (fun c21 => ?_)
      · refine K_iconst 0 dPa_readReader_49 rfl ?_
        exact K_iret dPa_readReader_50 (Or.inr ⟨rfl, (by decide)⟩) (h18.1 c21)
      · refine K_aload_n 0 3 dPa_readReader_40 rfl rfl ?_
        refine K_ldc 220705792 dPa_readReader_41 pc_Pa_144 rfl ?_
        refine K_callVi mPa_takeWord 5 3 [jvI 220705792] dPa_readReader_43 pm_Pa_111 ⟨_, rfl, rfl⟩ ⟨(Nat.le_of_ble_eq_true rfl), (Nat.le_of_ble_eq_true rfl)⟩ rfl rfl (by decide) (Nat.le_of_ble_eq_true rfl) rfl (Nat.le_of_ble_eq_true rfl) (by decide) (Ci_mono (h18.2 c21) (fun r27 μ24 h25 => ?_))
        refine K_if_ne 51 dPa_readReader_46 (by decide) (fun c28 => ?_) (fun c28 => ?_)
        · refine K_aload_n 0 3 dPa_readReader_51 rfl rfl ?_
          refine K_iconst 0 dPa_readReader_52 rfl ?_
          refine K_aload_n 0 3 dPa_readReader_53 rfl rfl ?_
          refine K_getf 5 5 3 (jvR ((b : Nat) : Int)) dPa_readReader_54 pf_Pa_29 rfl rfl (by decide) rfl (congrArg jvR (h25.1 c28).1.1) ?_
          refine K_getf 2 13 b (jvI (μ24 b 13)) dPa_readReader_57 pf_Pa_61 rfl (isB_c0 hb) (isB_n 0 (by decide) hb) rfl (isB_f0_13 hb) ?_
          refine K_iconst 1 dPa_readReader_60 rfl ?_
          refine K_isub dPa_readReader_61 (w32_id (h25.1 c28).1.2) ?_
          refine K_callVi mPa_takeNumber 5 3 [jvI 0, jvI ((μ24 b 13) - 1)] dPa_readReader_62 pm_Pa_132 ⟨_, rfl, rfl⟩ ⟨(Nat.le_of_ble_eq_true rfl), (Nat.le_of_ble_eq_true rfl)⟩ rfl rfl (by decide) (Nat.le_of_ble_eq_true rfl) rfl (Nat.le_of_ble_eq_true rfl) (by decide) (Ci_mono (h25.1 c28).2 (fun r33 μ30 h31 => ?_))
          refine K_istore_n 3 dPa_readReader_65 rfl (Nat.le_of_ble_eq_true rfl) rfl ?_
          refine K_iload_n 3 r33 dPa_readReader_66 rfl rfl ?_
          refine K_iconst (-1) dPa_readReader_67 rfl ?_
          refine K_icmp_eq 80 dPa_readReader_68 (by decide) (fun c34 => ?_) (fun c34 => ?_)
          · refine K_iconst 0 dPa_readReader_80 rfl ?_
            exact K_iret dPa_readReader_81 (Or.inr ⟨rfl, (by decide)⟩) (h31.1 c34)
          · refine K_aload_n 0 3 dPa_readReader_71 rfl rfl ?_
            refine K_ldc 686817280 dPa_readReader_72 pc_Pa_145 rfl ?_
            refine K_callVi mPa_takeWord 5 3 [jvI 686817280] dPa_readReader_74 pm_Pa_111 ⟨_, rfl, rfl⟩ ⟨(Nat.le_of_ble_eq_true rfl), (Nat.le_of_ble_eq_true rfl)⟩ rfl rfl (by decide) (Nat.le_of_ble_eq_true rfl) rfl (Nat.le_of_ble_eq_true rfl) (by decide) (Ci_mono (h31.2 c34) (fun r40 μ37 h38 => ?_))
            refine K_if_ne 82 dPa_readReader_77 (by decide) (fun c41 => ?_) (fun c41 => ?_)
            · refine K_aload_n 0 3 dPa_readReader_82 rfl rfl ?_
              refine K_iload_n 3 r33 dPa_readReader_83 rfl rfl ?_
              refine K_aload_n 0 3 dPa_readReader_84 rfl rfl ?_
              refine K_getf 5 5 3 (jvR ((b : Nat) : Int)) dPa_readReader_85 pf_Pa_29 rfl rfl (by decide) rfl (congrArg jvR (h38.1 c41).1.1) ?_
              refine K_getf 2 13 b (jvI (μ37 b 13)) dPa_readReader_88 pf_Pa_61 rfl (isB_c0 hb) (isB_n 0 (by decide) hb) rfl (isB_f0_13 hb) ?_
              refine K_iconst 1 dPa_readReader_91 rfl ?_
              refine K_isub dPa_readReader_92 (w32_id (h38.1 c41).1.2) ?_
              refine K_callVi mPa_takeNumber 5 3 [jvI r33, jvI ((μ37 b 13) - 1)] dPa_readReader_93 pm_Pa_132 ⟨_, rfl, rfl⟩ ⟨(Nat.le_of_ble_eq_true rfl), (Nat.le_of_ble_eq_true rfl)⟩ rfl rfl (by decide) (Nat.le_of_ble_eq_true rfl) rfl (Nat.le_of_ble_eq_true rfl) (by decide) (Ci_mono (h38.1 c41).2 (fun r46 μ43 h44 => ?_))
              refine K_istore 4 dPa_readReader_96 (Nat.le_of_ble_eq_true rfl) rfl ?_
              refine K_iload 4 r46 dPa_readReader_98 rfl ?_
              refine K_iconst (-1) dPa_readReader_100 rfl ?_
              refine K_icmp_ne 106 dPa_readReader_101 (by decide) (fun c47 => ?_) (fun c47 => ?_)
              · refine K_aload_n 0 3 dPa_readReader_106 rfl rfl ?_
                refine K_getf 5 5 3 (jvR ((b : Nat) : Int)) dPa_readReader_107 pf_Pa_29 rfl rfl (by decide) rfl (congrArg jvR (h44.1 c47).1) ?_
                refine K_iload_n 1 r7 dPa_readReader_110 rfl rfl ?_
                refine K_iload_n 2 r20 dPa_readReader_111 rfl rfl ?_
                refine K_iload_n 3 r33 dPa_readReader_112 rfl rfl ?_
                refine K_iload 4 r46 dPa_readReader_113 rfl ?_
                refine K_callVv mBk_addReader 2 b [jvI r7, jvI r20, jvI r33, jvI r46] dPa_readReader_115 pm_Pa_146 ⟨_, rfl, rfl⟩ ⟨(Nat.le_of_ble_eq_true rfl), (Nat.le_of_ble_eq_true rfl)⟩ rfl (isB_c0 hb) (isB_n 0 (by decide) hb) (Nat.le_of_ble_eq_true rfl) rfl (Nat.le_of_ble_eq_true rfl) (by decide) (Cv_mono (h44.1 c47).2 (fun μ49 h50 => ?_))
                refine K_iconst 1 dPa_readReader_118 rfl ?_
                exact K_iret dPa_readReader_119 (Or.inr ⟨rfl, (by decide)⟩) h50
              · refine K_iconst 0 dPa_readReader_104 rfl ?_
                exact K_iret dPa_readReader_105 (Or.inr ⟨rfl, (by decide)⟩) (h44.2 c47)
            · refine K_iconst 0 dPa_readReader_80 rfl ?_
              exact K_iret dPa_readReader_81 (Or.inr ⟨rfl, (by decide)⟩) (h38.2 c41)
        · refine K_iconst 0 dPa_readReader_49 rfl ?_
          exact K_iret dPa_readReader_50 (Or.inr ⟨rfl, (by decide)⟩) (h25.2 c28)
    · refine K_iconst 0 dPa_readReader_25 rfl ?_
      exact K_iret dPa_readReader_26 (Or.inr ⟨rfl, (by decide)⟩) (h12.2 c15)
set_option maxHeartbeats 8000000 in
theorem vBk_addReader_0 {E : jE} {μ : jMu} {Q : Option AV → jMu → Prop} {b : Nat} (hb : isB b) {a0 a1 a2 a3 : Int} (hF : ((0 ≤ (μ b 14) ∧ (μ b 14) < 6) ∧ (0 ≤ ((j_up μ (b + 15) (μ b 14) a0) b 14) ∧ ((j_up μ (b + 15) (μ b 14) a0) b 14) < 6) ∧ (0 ≤ ((j_up (j_up μ (b + 15) (μ b 14) a0) (b + 16) ((j_up μ (b + 15) (μ b 14) a0) b 14) a1) b 14) ∧ ((j_up (j_up μ (b + 15) (μ b 14) a0) (b + 16) ((j_up μ (b + 15) (μ b 14) a0) b 14) a1) b 14) < 6) ∧ (0 ≤ ((j_up (j_up (j_up μ (b + 15) (μ b 14) a0) (b + 16) ((j_up μ (b + 15) (μ b 14) a0) b 14) a1) (b + 17) ((j_up (j_up μ (b + 15) (μ b 14) a0) (b + 16) ((j_up μ (b + 15) (μ b 14) a0) b 14) a1) b 14) a2) b 14) ∧ ((j_up (j_up (j_up μ (b + 15) (μ b 14) a0) (b + 16) ((j_up μ (b + 15) (μ b 14) a0) b 14) a1) (b + 17) ((j_up (j_up μ (b + 15) (μ b 14) a0) (b + 16) ((j_up μ (b + 15) (μ b 14) a0) b 14) a1) b 14) a2) b 14) < 6) ∧ (-2147483648 ≤ (((j_up (j_up (j_up (j_up μ (b + 15) (μ b 14) a0) (b + 16) ((j_up μ (b + 15) (μ b 14) a0) b 14) a1) (b + 17) ((j_up (j_up μ (b + 15) (μ b 14) a0) (b + 16) ((j_up μ (b + 15) (μ b 14) a0) b 14) a1) b 14) a2) (b + 18) ((j_up (j_up (j_up μ (b + 15) (μ b 14) a0) (b + 16) ((j_up μ (b + 15) (μ b 14) a0) b 14) a1) (b + 17) ((j_up (j_up μ (b + 15) (μ b 14) a0) (b + 16) ((j_up μ (b + 15) (μ b 14) a0) b 14) a1) b 14) a2) b 14) a3) b 14) + 1) ∧ (((j_up (j_up (j_up (j_up μ (b + 15) (μ b 14) a0) (b + 16) ((j_up μ (b + 15) (μ b 14) a0) b 14) a1) (b + 17) ((j_up (j_up μ (b + 15) (μ b 14) a0) (b + 16) ((j_up μ (b + 15) (μ b 14) a0) b 14) a1) b 14) a2) (b + 18) ((j_up (j_up (j_up μ (b + 15) (μ b 14) a0) (b + 16) ((j_up μ (b + 15) (μ b 14) a0) b 14) a1) (b + 17) ((j_up (j_up μ (b + 15) (μ b 14) a0) (b + 16) ((j_up μ (b + 15) (μ b 14) a0) b 14) a1) b 14) a2) b 14) a3) b 14) + 1) < 2147483648)) ∧ (Q none (j_up (j_up (j_up (j_up (j_up μ (b + 15) (μ b 14) a0) (b + 16) ((j_up μ (b + 15) (μ b 14) a0) b 14) a1) (b + 17) ((j_up (j_up μ (b + 15) (μ b 14) a0) (b + 16) ((j_up μ (b + 15) (μ b 14) a0) b 14) a1) b 14) a2) (b + 18) ((j_up (j_up (j_up μ (b + 15) (μ b 14) a0) (b + 16) ((j_up μ (b + 15) (μ b 14) a0) b 14) a1) (b + 17) ((j_up (j_up μ (b + 15) (μ b 14) a0) (b + 16) ((j_up μ (b + 15) (μ b 14) a0) b 14) a1) b 14) a2) b 14) a3) b 14 (((j_up (j_up (j_up (j_up μ (b + 15) (μ b 14) a0) (b + 16) ((j_up μ (b + 15) (μ b 14) a0) b 14) a1) (b + 17) ((j_up (j_up μ (b + 15) (μ b 14) a0) (b + 16) ((j_up μ (b + 15) (μ b 14) a0) b 14) a1) b 14) a2) (b + 18) ((j_up (j_up (j_up μ (b + 15) (μ b 14) a0) (b + 16) ((j_up μ (b + 15) (μ b 14) a0) b 14) a1) (b + 17) ((j_up (j_up μ (b + 15) (μ b 14) a0) (b + 16) ((j_up μ (b + 15) (μ b 14) a0) b 14) a1) b 14) a2) b 14) a3) b 14) + 1)))) : K 121 E mBk_addReader 0 [some (jvR ((b : Nat) : Int)), some (jvI a0), some (jvI a1), some (jvI a2), some (jvI a3)] [] μ Q := by
  refine K_aload_n 0 ((b : Nat) : Int) dBk_addReader_0 rfl rfl ?_
  refine K_getf 2 8 b (jvR ((b + 15 : Nat) : Int)) dBk_addReader_1 pf_Bk_40 rfl (isB_c0 hb) (isB_n 0 (by decide) hb) rfl (isB_f0_8 hb) ?_
  refine K_aload_n 0 ((b : Nat) : Int) dBk_addReader_4 rfl rfl ?_
  refine K_getf 2 14 b (jvI (μ b 14)) dBk_addReader_5 pf_Bk_65 rfl (isB_c0 hb) (isB_n 0 (by decide) hb) rfl (isB_f0_14 hb) ?_
  refine K_iload_n 1 a0 dBk_addReader_8 rfl rfl ?_
  refine K_iast (b + 15) 6 dBk_addReader_9 rfl (isB_c15 hb) (isB_n 15 (by decide) hb) hF.1.1 ?_
  refine K_aload_n 0 ((b : Nat) : Int) dBk_addReader_10 rfl rfl ?_
  refine K_getf 2 9 b (jvR ((b + 16 : Nat) : Int)) dBk_addReader_11 pf_Bk_43 rfl (isB_c0 hb) (isB_n 0 (by decide) hb) rfl (isB_f0_9 hb) ?_
  refine K_aload_n 0 ((b : Nat) : Int) dBk_addReader_14 rfl rfl ?_
  refine K_getf 2 14 b (jvI ((j_up μ (b + 15) (μ b 14) a0) b 14)) dBk_addReader_15 pf_Bk_65 rfl (isB_c0 hb) (isB_n 0 (by decide) hb) rfl (isB_f0_14 hb) ?_
  refine K_iload_n 2 a1 dBk_addReader_18 rfl rfl ?_
  refine K_iast (b + 16) 6 dBk_addReader_19 rfl (isB_c16 hb) (isB_n 16 (by decide) hb) hF.1.2.1 ?_
  refine K_aload_n 0 ((b : Nat) : Int) dBk_addReader_20 rfl rfl ?_
  refine K_getf 2 10 b (jvR ((b + 17 : Nat) : Int)) dBk_addReader_21 pf_Bk_46 rfl (isB_c0 hb) (isB_n 0 (by decide) hb) rfl (isB_f0_10 hb) ?_
  refine K_aload_n 0 ((b : Nat) : Int) dBk_addReader_24 rfl rfl ?_
  refine K_getf 2 14 b (jvI ((j_up (j_up μ (b + 15) (μ b 14) a0) (b + 16) ((j_up μ (b + 15) (μ b 14) a0) b 14) a1) b 14)) dBk_addReader_25 pf_Bk_65 rfl (isB_c0 hb) (isB_n 0 (by decide) hb) rfl (isB_f0_14 hb) ?_
  refine K_iload_n 3 a2 dBk_addReader_28 rfl rfl ?_
  refine K_iast (b + 17) 6 dBk_addReader_29 rfl (isB_c17 hb) (isB_n 17 (by decide) hb) hF.1.2.2.1 ?_
  refine K_aload_n 0 ((b : Nat) : Int) dBk_addReader_30 rfl rfl ?_
  refine K_getf 2 11 b (jvR ((b + 18 : Nat) : Int)) dBk_addReader_31 pf_Bk_49 rfl (isB_c0 hb) (isB_n 0 (by decide) hb) rfl (isB_f0_11 hb) ?_
  refine K_aload_n 0 ((b : Nat) : Int) dBk_addReader_34 rfl rfl ?_
  refine K_getf 2 14 b (jvI ((j_up (j_up (j_up μ (b + 15) (μ b 14) a0) (b + 16) ((j_up μ (b + 15) (μ b 14) a0) b 14) a1) (b + 17) ((j_up (j_up μ (b + 15) (μ b 14) a0) (b + 16) ((j_up μ (b + 15) (μ b 14) a0) b 14) a1) b 14) a2) b 14)) dBk_addReader_35 pf_Bk_65 rfl (isB_c0 hb) (isB_n 0 (by decide) hb) rfl (isB_f0_14 hb) ?_
  refine K_iload 4 a3 dBk_addReader_38 rfl ?_
  refine K_iast (b + 18) 6 dBk_addReader_40 rfl (isB_c18 hb) (isB_n 18 (by decide) hb) hF.1.2.2.2.1 ?_
  refine K_aload_n 0 ((b : Nat) : Int) dBk_addReader_41 rfl rfl ?_
  refine K_dup dBk_addReader_42 (fun _ h => by cases h) ?_
  refine K_getf 2 14 b (jvI ((j_up (j_up (j_up (j_up μ (b + 15) (μ b 14) a0) (b + 16) ((j_up μ (b + 15) (μ b 14) a0) b 14) a1) (b + 17) ((j_up (j_up μ (b + 15) (μ b 14) a0) (b + 16) ((j_up μ (b + 15) (μ b 14) a0) b 14) a1) b 14) a2) (b + 18) ((j_up (j_up (j_up μ (b + 15) (μ b 14) a0) (b + 16) ((j_up μ (b + 15) (μ b 14) a0) b 14) a1) (b + 17) ((j_up (j_up μ (b + 15) (μ b 14) a0) (b + 16) ((j_up μ (b + 15) (μ b 14) a0) b 14) a1) b 14) a2) b 14) a3) b 14)) dBk_addReader_43 pf_Bk_65 rfl (isB_c0 hb) (isB_n 0 (by decide) hb) rfl (isB_f0_14 hb) ?_
  refine K_iconst 1 dBk_addReader_46 rfl ?_
  refine K_iadd dBk_addReader_47 (w32_id hF.1.2.2.2.2) ?_
  refine K_putf 2 14 b (x := (((j_up (j_up (j_up (j_up μ (b + 15) (μ b 14) a0) (b + 16) ((j_up μ (b + 15) (μ b 14) a0) b 14) a1) (b + 17) ((j_up (j_up μ (b + 15) (μ b 14) a0) (b + 16) ((j_up μ (b + 15) (μ b 14) a0) b 14) a1) b 14) a2) (b + 18) ((j_up (j_up (j_up μ (b + 15) (μ b 14) a0) (b + 16) ((j_up μ (b + 15) (μ b 14) a0) b 14) a1) (b + 17) ((j_up (j_up μ (b + 15) (μ b 14) a0) (b + 16) ((j_up μ (b + 15) (μ b 14) a0) b 14) a1) b 14) a2) b 14) a3) b 14) + 1)) dBk_addReader_48 pf_Bk_65 rfl (isB_c0 hb) (isB_n 0 (by decide) hb) rfl rfl (isB_x0_14 hb) rfl trivial ?_
  exact K_vret dBk_addReader_51 rfl hF.2
set_option maxHeartbeats 8000000 in
theorem vFa_study_0 {E : jE} {μ : jMu} {Q : Option AV → jMu → Prop} {b : Nat} (hb : isB b) (hF : (K 121 E mFa_study 27 [some (jvR 45), some (jvR ((b : Nat) : Int)), some (jvI 0)] [] (j_up (j_up (j_up (j_up (j_up μ 45 7 b) 45 8 0) 45 10 0) 45 11 0) 45 12 0) Q)) : K 121 E mFa_study 0 [some (jvR 45), some (jvR ((b : Nat) : Int)), none] [] μ Q := by
  refine K_aload_n 0 45 dFa_study_0 rfl rfl ?_
  refine K_aload_n 1 ((b : Nat) : Int) dFa_study_1 rfl rfl ?_
  refine K_putf 3 7 45 (x := ((b : Nat) : Int)) dFa_study_2 pf_Fa_40 rfl rfl (by decide) rfl rfl rfl rfl trivial ?_
  refine K_aload_n 0 45 dFa_study_5 rfl rfl ?_
  refine K_lconst 0 dFa_study_6 rfl ?_
  refine K_putf 3 8 45 (x := 0) dFa_study_7 pf_Fa_44 rfl rfl (by decide) rfl rfl rfl rfl trivial ?_
  refine K_aload_n 0 45 dFa_study_10 rfl rfl ?_
  refine K_lconst 0 dFa_study_11 rfl ?_
  refine K_putf 3 10 45 (x := 0) dFa_study_12 pf_Fa_48 rfl rfl (by decide) rfl rfl rfl rfl trivial ?_
  refine K_aload_n 0 45 dFa_study_15 rfl rfl ?_
  refine K_lconst 0 dFa_study_16 rfl ?_
  refine K_putf 3 11 45 (x := 0) dFa_study_17 pf_Fa_51 rfl rfl (by decide) rfl rfl rfl rfl trivial ?_
  refine K_aload_n 0 45 dFa_study_20 rfl rfl ?_
  refine K_lconst 0 dFa_study_21 rfl ?_
  refine K_putf 3 12 45 (x := 0) dFa_study_22 pf_Fa_54 rfl rfl (by decide) rfl rfl rfl rfl trivial ?_
  refine K_iconst 0 dFa_study_25 rfl ?_
  refine K_istore_n 2 dFa_study_26 rfl (Nat.le_of_ble_eq_true rfl) rfl ?_
  exact hF
set_option maxHeartbeats 8000000 in
theorem vFa_study_27 {E : jE} {μ : jMu} {Q : Option AV → jMu → Prop} {b : Nat} (hb : isB b) {l2 : Int} (hF : ((μ 45 7) = ((b : Nat) : Int)) ∧ (((μ b 13) ≤ l2 → ((μ 45 7) = ((b : Nat) : Int)) ∧ ((¬ (μ b 13) = 0 → ((μ 45 7) = ((b : Nat) : Int)) ∧ (Cl E mX_bit [jvI (μ b 15)] μ (fun r8 μ5 => ((μ5 45 7) = ((b : Nat) : Int) ∧ (0 ≤ (μ5 b 15) ∧ (μ5 b 15) < 40)) ∧ (K 121 E mFa_study 118 [some (jvR 45), some (jvR ((b : Nat) : Int)), some (jvI 0)] [] (j_up μ5 45 9 (ior64 r8 (μ5 50 (μ5 b 15)))) Q)))) ∧ ((μ b 13) = 0 → (K 121 E mFa_study 118 [some (jvR 45), some (jvR ((b : Nat) : Int)), some (jvI 0)] [] (j_up μ 45 9 0) Q)))) ∧ (¬ ((μ b 13) ≤ l2) → (Cv E mFa_compare [jvR 45, jvI l2] μ (fun μ9 => (Cv E mFa_follow [jvR 45, jvI l2] μ9 (fun μ12 => (Ci E mFa_isRight [jvR 45, jvI l2] μ12 (fun r18 μ15 => ((r18 = 0 → ((-2147483648 ≤ (l2 + 1) ∧ (l2 + 1) < 2147483648)) ∧ (K 121 E mFa_study 27 [some (jvR 45), some (jvR ((b : Nat) : Int)), some (jvI (l2 + 1))] [] μ15 Q)) ∧ (¬ (r18 = 0) → (Cl E mX_bit [jvI l2] μ15 (fun r24 μ21 => ((-2147483648 ≤ (l2 + 1) ∧ (l2 + 1) < 2147483648)) ∧ (K 121 E mFa_study 27 [some (jvR 45), some (jvR ((b : Nat) : Int)), some (jvI (l2 + 1))] [] (j_up μ21 45 8 (ior64 (μ15 45 8) r24)) Q)))))))))))))) : K 121 E mFa_study 27 [some (jvR 45), some (jvR ((b : Nat) : Int)), some (jvI l2)] [] μ Q := by
  refine K_iload_n 2 l2 dFa_study_27 rfl rfl ?_
  refine K_aload_n 0 45 dFa_study_28 rfl rfl ?_
  refine K_getf 3 7 45 (jvR ((b : Nat) : Int)) dFa_study_29 pf_Fa_40 rfl rfl (by decide) rfl (congrArg jvR hF.1) ?_
  refine K_getf 2 13 b (jvI (μ b 13)) dFa_study_32 pf_Fa_57 rfl (isB_c0 hb) (isB_n 0 (by decide) hb) rfl (isB_f0_13 hb) ?_
  refine K_icmp_ge 75 dFa_study_35 (by decide) (fun c1 => ?_) (fun c1 => ?_)
  · refine K_aload_n 0 45 dFa_study_75 rfl rfl ?_
    refine K_aload_n 0 45 dFa_study_76 rfl rfl ?_
    refine K_getf 3 7 45 (jvR ((b : Nat) : Int)) dFa_study_77 pf_Fa_40 rfl rfl (by decide) rfl (congrArg jvR (hF.2.1 c1).1) ?_
    refine K_getf 2 13 b (jvI (μ b 13)) dFa_study_80 pf_Fa_57 rfl (isB_c0 hb) (isB_n 0 (by decide) hb) rfl (isB_f0_13 hb) ?_
    refine K_if_ne 90 dFa_study_83 (by decide) (fun c3 => ?_) (fun c3 => ?_)
    · refine K_aload_n 0 45 dFa_study_90 rfl rfl ?_
      refine K_getf 3 7 45 (jvR ((b : Nat) : Int)) dFa_study_91 pf_Fa_40 rfl rfl (by decide) rfl (congrArg jvR ((hF.2.1 c1).2.1 c3).1) ?_
      refine K_getf 2 15 b (jvI (μ b 15)) dFa_study_94 pf_Fa_76 rfl (isB_c0 hb) (isB_n 0 (by decide) hb) rfl (isB_f0_15 hb) ?_
      refine K_callNl mX_bit [jvI (μ b 15)] dFa_study_97 pm_Fa_72 ⟨(Nat.le_of_ble_eq_true rfl), (Nat.le_of_ble_eq_true rfl)⟩ (Nat.le_of_ble_eq_true rfl) rfl (Nat.le_of_ble_eq_true rfl) (by decide) (Cl_mono ((hF.2.1 c1).2.1 c3).2 (fun r8 μ5 h6 => ?_))
      refine K_aload_n 0 45 dFa_study_100 rfl rfl ?_
      refine K_getf 3 4 45 (jvR 50) dFa_study_101 pf_Fa_26 rfl rfl (by decide) rfl rfl ?_
      refine K_aload_n 0 45 dFa_study_104 rfl rfl ?_
      refine K_getf 3 7 45 (jvR ((b : Nat) : Int)) dFa_study_105 pf_Fa_40 rfl rfl (by decide) rfl (congrArg jvR h6.1.1) ?_
      refine K_getf 2 15 b (jvI (μ5 b 15)) dFa_study_108 pf_Fa_76 rfl (isB_c0 hb) (isB_n 0 (by decide) hb) rfl (isB_f0_15 hb) ?_
      refine K_lald 50 40 dFa_study_111 rfl rfl (by decide) h6.1.2 ?_
      refine K_lor dFa_study_112 rfl ?_
      refine K_putf 3 9 45 (x := (ior64 r8 (μ5 50 (μ5 b 15)))) dFa_study_113 pf_Fa_79 rfl rfl (by decide) rfl rfl rfl rfl trivial ?_
      refine K_iconst 0 dFa_study_116 rfl ?_
      refine K_istore_n 2 dFa_study_117 rfl (Nat.le_of_ble_eq_true rfl) rfl ?_
      exact h6.2
    · refine K_lconst 0 dFa_study_86 rfl ?_
      refine K_goto 113 dFa_study_87 (by decide) ?_
      refine K_putf 3 9 45 (x := 0) dFa_study_113 pf_Fa_79 rfl rfl (by decide) rfl rfl rfl rfl trivial ?_
      refine K_iconst 0 dFa_study_116 rfl ?_
      refine K_istore_n 2 dFa_study_117 rfl (Nat.le_of_ble_eq_true rfl) rfl ?_
      exact ((hF.2.1 c1).2.2 c3)
  · refine K_aload_n 0 45 dFa_study_38 rfl rfl ?_
    refine K_iload_n 2 l2 dFa_study_39 rfl rfl ?_
    refine K_callVv mFa_compare 3 45 [jvI l2] dFa_study_40 pm_Fa_61 ⟨_, rfl, rfl⟩ ⟨(Nat.le_of_ble_eq_true rfl), (Nat.le_of_ble_eq_true rfl)⟩ rfl rfl (by decide) (Nat.le_of_ble_eq_true rfl) rfl (Nat.le_of_ble_eq_true rfl) (by decide) (Cv_mono (hF.2.2 c1) (fun μ9 h10 => ?_))
    refine K_aload_n 0 45 dFa_study_43 rfl rfl ?_
    refine K_iload_n 2 l2 dFa_study_44 rfl rfl ?_
    refine K_callVv mFa_follow 3 45 [jvI l2] dFa_study_45 pm_Fa_65 ⟨_, rfl, rfl⟩ ⟨(Nat.le_of_ble_eq_true rfl), (Nat.le_of_ble_eq_true rfl)⟩ rfl rfl (by decide) (Nat.le_of_ble_eq_true rfl) rfl (Nat.le_of_ble_eq_true rfl) (by decide) (Cv_mono h10 (fun μ12 h13 => ?_))
    refine K_aload_n 0 45 dFa_study_48 rfl rfl ?_
    refine K_iload_n 2 l2 dFa_study_49 rfl rfl ?_
    refine K_callVi mFa_isRight 3 45 [jvI l2] dFa_study_50 pm_Fa_68 ⟨_, rfl, rfl⟩ ⟨(Nat.le_of_ble_eq_true rfl), (Nat.le_of_ble_eq_true rfl)⟩ rfl rfl (by decide) (Nat.le_of_ble_eq_true rfl) rfl (Nat.le_of_ble_eq_true rfl) (by decide) (Ci_mono h13 (fun r18 μ15 h16 => ?_))
    refine K_if_eq 69 dFa_study_53 (by decide) (fun c19 => ?_) (fun c19 => ?_)
    · refine K_iinc 2 dFa_study_69 (Nat.le_of_ble_eq_true rfl) rfl (w32_ok (h16.1 c19).1) rfl ?_
      refine K_goto 27 dFa_study_72 (by decide) ?_
      exact (h16.1 c19).2
    · refine K_aload_n 0 45 dFa_study_56 rfl rfl ?_
      refine K_dup dFa_study_57 (fun _ h => by cases h) ?_
      refine K_getf 3 8 45 (jvL (μ15 45 8)) dFa_study_58 pf_Fa_44 rfl rfl (by decide) rfl rfl ?_
      refine K_iload_n 2 l2 dFa_study_61 rfl rfl ?_
      refine K_callNl mX_bit [jvI l2] dFa_study_62 pm_Fa_72 ⟨(Nat.le_of_ble_eq_true rfl), (Nat.le_of_ble_eq_true rfl)⟩ (Nat.le_of_ble_eq_true rfl) rfl (Nat.le_of_ble_eq_true rfl) (by decide) (Cl_mono (h16.2 c19) (fun r24 μ21 h22 => ?_))
      refine K_lor dFa_study_65 rfl ?_
      refine K_putf 3 8 45 (x := (ior64 (μ15 45 8) r24)) dFa_study_66 pf_Fa_44 rfl rfl (by decide) rfl rfl rfl rfl trivial ?_
      refine K_iinc 2 dFa_study_69 (Nat.le_of_ble_eq_true rfl) rfl (w32_ok h22.1) rfl ?_
      refine K_goto 27 dFa_study_72 (by decide) ?_
      exact h22.2
set_option maxHeartbeats 8000000 in
theorem vFa_study_118 {E : jE} {μ : jMu} {Q : Option AV → jMu → Prop} {b : Nat} (hb : isB b) {l2 : Int} (hF : ((μ 45 7) = ((b : Nat) : Int)) ∧ (((μ b 13) ≤ l2 → (Cv E mRe_gather [jvR 52, jvR 45] μ (fun μ3 => (Q none μ3)))) ∧ (¬ ((μ b 13) ≤ l2) → (Ci E mFa_isProvedWithout [jvR 45, jvI l2] μ (fun r10 μ7 => ((¬ r10 = 0 → ((-2147483648 ≤ (l2 + 1) ∧ (l2 + 1) < 2147483648)) ∧ (K 121 E mFa_study 118 [some (jvR 45), some (jvR ((b : Nat) : Int)), some (jvI (l2 + 1))] [] μ7 Q)) ∧ (r10 = 0 → (Cl E mX_bit [jvI l2] μ7 (fun r16 μ13 => ((-2147483648 ≤ (l2 + 1) ∧ (l2 + 1) < 2147483648)) ∧ (K 121 E mFa_study 118 [some (jvR 45), some (jvR ((b : Nat) : Int)), some (jvI (l2 + 1))] [] (j_up μ13 45 12 (ior64 (μ7 45 12) r16)) Q)))))))))) : K 121 E mFa_study 118 [some (jvR 45), some (jvR ((b : Nat) : Int)), some (jvI l2)] [] μ Q := by
  refine K_iload_n 2 l2 dFa_study_118 rfl rfl ?_
  refine K_aload_n 0 45 dFa_study_119 rfl rfl ?_
  refine K_getf 3 7 45 (jvR ((b : Nat) : Int)) dFa_study_120 pf_Fa_40 rfl rfl (by decide) rfl (congrArg jvR hF.1) ?_
  refine K_getf 2 13 b (jvI (μ b 13)) dFa_study_123 pf_Fa_57 rfl (isB_c0 hb) (isB_n 0 (by decide) hb) rfl (isB_f0_13 hb) ?_
  refine K_icmp_ge 156 dFa_study_126 (by decide) (fun c1 => ?_) (fun c1 => ?_)
  · refine K_aload_n 0 45 dFa_study_156 rfl rfl ?_
    refine K_getf 3 6 45 (jvR 52) dFa_study_157 pf_Fa_36 rfl rfl (by decide) rfl rfl ?_
    refine K_aload_n 0 45 dFa_study_160 rfl rfl ?_
    refine K_callVv mRe_gather 6 52 [jvR 45] dFa_study_161 pm_Fa_85 ⟨_, rfl, rfl⟩ ⟨(Nat.le_of_ble_eq_true rfl), (Nat.le_of_ble_eq_true rfl)⟩ rfl rfl (by decide) (Nat.le_of_ble_eq_true rfl) rfl (Nat.le_of_ble_eq_true rfl) (by decide) (Cv_mono (hF.2.1 c1) (fun μ3 h4 => ?_))
    exact K_vret dFa_study_164 rfl h4
  · refine K_aload_n 0 45 dFa_study_129 rfl rfl ?_
    refine K_iload_n 2 l2 dFa_study_130 rfl rfl ?_
    refine K_callVi mFa_isProvedWithout 3 45 [jvI l2] dFa_study_131 pm_Fa_82 ⟨_, rfl, rfl⟩ ⟨(Nat.le_of_ble_eq_true rfl), (Nat.le_of_ble_eq_true rfl)⟩ rfl rfl (by decide) (Nat.le_of_ble_eq_true rfl) rfl (Nat.le_of_ble_eq_true rfl) (by decide) (Ci_mono (hF.2.2 c1) (fun r10 μ7 h8 => ?_))
    refine K_if_ne 150 dFa_study_134 (by decide) (fun c11 => ?_) (fun c11 => ?_)
    · refine K_iinc 2 dFa_study_150 (Nat.le_of_ble_eq_true rfl) rfl (w32_ok (h8.1 c11).1) rfl ?_
      refine K_goto 118 dFa_study_153 (by decide) ?_
      exact (h8.1 c11).2
    · refine K_aload_n 0 45 dFa_study_137 rfl rfl ?_
      refine K_dup dFa_study_138 (fun _ h => by cases h) ?_
      refine K_getf 3 12 45 (jvL (μ7 45 12)) dFa_study_139 pf_Fa_54 rfl rfl (by decide) rfl rfl ?_
      refine K_iload_n 2 l2 dFa_study_142 rfl rfl ?_
      refine K_callNl mX_bit [jvI l2] dFa_study_143 pm_Fa_72 ⟨(Nat.le_of_ble_eq_true rfl), (Nat.le_of_ble_eq_true rfl)⟩ (Nat.le_of_ble_eq_true rfl) rfl (Nat.le_of_ble_eq_true rfl) (by decide) (Cl_mono (h8.2 c11) (fun r16 μ13 h14 => ?_))
      refine K_lor dFa_study_146 rfl ?_
      refine K_putf 3 12 45 (x := (ior64 (μ7 45 12) r16)) dFa_study_147 pf_Fa_54 rfl rfl (by decide) rfl rfl rfl rfl trivial ?_
      refine K_iinc 2 dFa_study_150 (Nat.le_of_ble_eq_true rfl) rfl (w32_ok h14.1) rfl ?_
      refine K_goto 118 dFa_study_153 (by decide) ?_
      exact h14.2
set_option maxHeartbeats 8000000 in
theorem vFa_compare_0 {E : jE} {μ : jMu} {Q : Option AV → jMu → Prop} {b : Nat} (hb : isB b) {a0 : Int} (hF : ((μ 45 7) = ((b : Nat) : Int) ∧ (μ 45 7) = ((b : Nat) : Int) ∧ (0 ≤ a0 ∧ a0 < 40) ∧ (0 ≤ a0 ∧ a0 < 40) ∧ (0 ≤ a0 ∧ a0 < 40) ∧ (0 ≤ a0 ∧ a0 < 40) ∧ (-2147483648 ≤ (a0 - 1) ∧ (a0 - 1) < 2147483648)) ∧ (K 121 E mFa_compare 44 [some (jvR 45), some (jvI a0), some (jvR ((b + 1 : Nat) : Int)), some (jvI (μ (b + 13) a0)), some (jvI (a0 - 1))] [] (j_up (j_up (j_up μ 46 a0 a0) 47 a0 (-1)) 48 a0 0) Q)) : K 121 E mFa_compare 0 [some (jvR 45), some (jvI a0), none, none, none] [] μ Q := by
  refine K_aload_n 0 45 dFa_compare_0 rfl rfl ?_
  refine K_getf 3 7 45 (jvR ((b : Nat) : Int)) dFa_compare_1 pf_Fa_40 rfl rfl (by decide) rfl (congrArg jvR hF.1.1) ?_
  refine K_getf 2 0 b (jvR ((b + 1 : Nat) : Int)) dFa_compare_4 pf_Fa_89 rfl (isB_c0 hb) (isB_n 0 (by decide) hb) rfl (isB_f0_0 hb) ?_
  refine K_astore_n 2 dFa_compare_7 rfl (Nat.le_of_ble_eq_true rfl) rfl ?_
  refine K_aload_n 0 45 dFa_compare_8 rfl rfl ?_
  refine K_getf 3 7 45 (jvR ((b : Nat) : Int)) dFa_compare_9 pf_Fa_40 rfl rfl (by decide) rfl (congrArg jvR hF.1.2.1) ?_
  refine K_getf 2 6 b (jvR ((b + 13 : Nat) : Int)) dFa_compare_12 pf_Fa_93 rfl (isB_c0 hb) (isB_n 0 (by decide) hb) rfl (isB_f0_6 hb) ?_
  refine K_iload_n 1 a0 dFa_compare_15 rfl rfl ?_
  refine K_iald (b + 13) 40 dFa_compare_16 rfl (isB_c13 hb) (isB_n 13 (by decide) hb) hF.1.2.2.1 ?_
  refine K_istore_n 3 dFa_compare_17 rfl (Nat.le_of_ble_eq_true rfl) rfl ?_
  refine K_aload_n 0 45 dFa_compare_18 rfl rfl ?_
  refine K_getf 3 0 45 (jvR 46) dFa_compare_19 pf_Fa_11 rfl rfl (by decide) rfl rfl ?_
  refine K_iload_n 1 a0 dFa_compare_22 rfl rfl ?_
  refine K_iload_n 1 a0 dFa_compare_23 rfl rfl ?_
  refine K_iast 46 40 dFa_compare_24 rfl rfl (by decide) hF.1.2.2.2.1 ?_
  refine K_aload_n 0 45 dFa_compare_25 rfl rfl ?_
  refine K_getf 3 1 45 (jvR 47) dFa_compare_26 pf_Fa_17 rfl rfl (by decide) rfl rfl ?_
  refine K_iload_n 1 a0 dFa_compare_29 rfl rfl ?_
  refine K_iconst (-1) dFa_compare_30 rfl ?_
  refine K_iast 47 40 dFa_compare_31 rfl rfl (by decide) hF.1.2.2.2.2.1 ?_
  refine K_aload_n 0 45 dFa_compare_32 rfl rfl ?_
  refine K_getf 3 2 45 (jvR 48) dFa_compare_33 pf_Fa_20 rfl rfl (by decide) rfl rfl ?_
  refine K_iload_n 1 a0 dFa_compare_36 rfl rfl ?_
  refine K_iconst 0 dFa_compare_37 rfl ?_
  refine K_iast 48 40 dFa_compare_38 rfl rfl (by decide) hF.1.2.2.2.2.2.1 ?_
  refine K_iload_n 1 a0 dFa_compare_39 rfl rfl ?_
  refine K_iconst 1 dFa_compare_40 rfl ?_
  refine K_isub dFa_compare_41 (w32_id hF.1.2.2.2.2.2.2) ?_
  refine K_istore 4 dFa_compare_42 (Nat.le_of_ble_eq_true rfl) rfl ?_
  exact hF.2
set_option maxHeartbeats 8000000 in
theorem vFa_compare_44 {E : jE} {μ : jMu} {Q : Option AV → jMu → Prop} {b : Nat} (hb : isB b) {l1 l3 l4 : Int} (hF : ((l4 < 0 → (Q none μ)) ∧ (¬ (l4 < 0) → ((μ 45 7) = ((b : Nat) : Int) ∧ (0 ≤ l4 ∧ l4 < 40)) ∧ (Ci E mTe_areSame [jvR ((b + 1 : Nat) : Int), jvI (μ (b + 13) l4), jvI l3] μ (fun r7 μ4 => ((r7 = 0 → (Cv E mTe_freeHoles [jvR ((b + 1 : Nat) : Int)] μ4 (fun μ10 => ((μ10 45 7) = ((b : Nat) : Int) ∧ (0 ≤ l4 ∧ l4 < 40)) ∧ (Ci E mTe_fits [jvR ((b + 1 : Nat) : Int), jvI (μ10 (b + 13) l4), jvI l3] μ10 (fun r16 μ13 => ((r16 = 0 → ((-2147483648 ≤ (l4 - 1) ∧ (l4 - 1) < 2147483648)) ∧ (K 121 E mFa_compare 44 [some (jvR 45), some (jvI l1), some (jvR ((b + 1 : Nat) : Int)), some (jvI l3), some (jvI (l4 - 1))] [] μ13 Q)) ∧ (¬ (r16 = 0) → ((0 ≤ l1 ∧ l1 < 40) ∧ (0 ≤ l4 ∧ l4 < 40) ∧ (-2147483648 ≤ ((μ13 48 l4) + 1) ∧ ((μ13 48 l4) + 1) < 2147483648) ∧ (0 ≤ l4 ∧ l4 < 40)) ∧ (Cl E mX_bit [jvI l1] (j_up (j_up μ13 47 l1 l4) 48 l4 ((μ13 48 l4) + 1)) (fun r22 μ19 => ((-2147483648 ≤ (l4 - 1) ∧ (l4 - 1) < 2147483648)) ∧ (K 121 E mFa_compare 44 [some (jvR 45), some (jvI l1), some (jvR ((b + 1 : Nat) : Int)), some (jvI l3), some (jvI (l4 - 1))] [] (j_up μ19 45 11 (ior64 (μ13 45 11) r22)) Q)))))))))) ∧ (¬ (r7 = 0) → ((0 ≤ l1 ∧ l1 < 40)) ∧ (Cl E mX_bit [jvI l1] (j_up μ4 46 l1 l4) (fun r26 μ23 => (Cv E mTe_freeHoles [jvR ((b + 1 : Nat) : Int)] (j_up μ23 45 10 (ior64 (μ4 45 10) r26)) (fun μ27 => ((μ27 45 7) = ((b : Nat) : Int) ∧ (0 ≤ l4 ∧ l4 < 40)) ∧ (Ci E mTe_fits [jvR ((b + 1 : Nat) : Int), jvI (μ27 (b + 13) l4), jvI l3] μ27 (fun r33 μ30 => ((r33 = 0 → ((-2147483648 ≤ (l4 - 1) ∧ (l4 - 1) < 2147483648)) ∧ (K 121 E mFa_compare 44 [some (jvR 45), some (jvI l1), some (jvR ((b + 1 : Nat) : Int)), some (jvI l3), some (jvI (l4 - 1))] [] μ30 Q)) ∧ (¬ (r33 = 0) → ((0 ≤ l1 ∧ l1 < 40) ∧ (0 ≤ l4 ∧ l4 < 40) ∧ (-2147483648 ≤ ((μ30 48 l4) + 1) ∧ ((μ30 48 l4) + 1) < 2147483648) ∧ (0 ≤ l4 ∧ l4 < 40)) ∧ (Cl E mX_bit [jvI l1] (j_up (j_up μ30 47 l1 l4) 48 l4 ((μ30 48 l4) + 1)) (fun r39 μ36 => ((-2147483648 ≤ (l4 - 1) ∧ (l4 - 1) < 2147483648)) ∧ (K 121 E mFa_compare 44 [some (jvR 45), some (jvI l1), some (jvR ((b + 1 : Nat) : Int)), some (jvI l3), some (jvI (l4 - 1))] [] (j_up μ36 45 11 (ior64 (μ30 45 11) r39)) Q)))))))))))))))))) : K 121 E mFa_compare 44 [some (jvR 45), some (jvI l1), some (jvR ((b + 1 : Nat) : Int)), some (jvI l3), some (jvI l4)] [] μ Q := by
  refine K_iload 4 l4 dFa_compare_44 rfl ?_
  refine K_if_lt 148 dFa_compare_46 (by decide) (fun c1 => ?_) (fun c1 => ?_)
  · exact K_vret dFa_compare_148 rfl (hF.1 c1)
  · refine K_aload_n 2 ((b + 1 : Nat) : Int) dFa_compare_49 rfl rfl ?_
    refine K_aload_n 0 45 dFa_compare_50 rfl rfl ?_
    refine K_getf 3 7 45 (jvR ((b : Nat) : Int)) dFa_compare_51 pf_Fa_40 rfl rfl (by decide) rfl (congrArg jvR (hF.2 c1).1.1) ?_
    refine K_getf 2 6 b (jvR ((b + 13 : Nat) : Int)) dFa_compare_54 pf_Fa_93 rfl (isB_c0 hb) (isB_n 0 (by decide) hb) rfl (isB_f0_6 hb) ?_
    refine K_iload 4 l4 dFa_compare_57 rfl ?_
    refine K_iald (b + 13) 40 dFa_compare_59 rfl (isB_c13 hb) (isB_n 13 (by decide) hb) (hF.2 c1).1.2 ?_
    refine K_iload_n 3 l3 dFa_compare_60 rfl rfl ?_
    refine K_callVi mTe_areSame 9 (b + 1) [jvI (μ (b + 13) l4), jvI l3] dFa_compare_61 pm_Fa_96 ⟨_, rfl, rfl⟩ ⟨(Nat.le_of_ble_eq_true rfl), (Nat.le_of_ble_eq_true rfl)⟩ rfl (isB_c1 hb) (isB_n 1 (by decide) hb) (Nat.le_of_ble_eq_true rfl) rfl (Nat.le_of_ble_eq_true rfl) (by decide) (Ci_mono (hF.2 c1).2 (fun r7 μ4 h5 => ?_))
    refine K_if_eq 88 dFa_compare_64 (by decide) (fun c8 => ?_) (fun c8 => ?_)
    · refine K_aload_n 2 ((b + 1 : Nat) : Int) dFa_compare_88 rfl rfl ?_
      refine K_callVv mTe_freeHoles 9 (b + 1) [] dFa_compare_89 pm_Fa_102 ⟨_, rfl, rfl⟩ ⟨(Nat.le_of_ble_eq_true rfl), (Nat.le_of_ble_eq_true rfl)⟩ rfl (isB_c1 hb) (isB_n 1 (by decide) hb) (Nat.le_of_ble_eq_true rfl) rfl (Nat.le_of_ble_eq_true rfl) (by decide) (Cv_mono (h5.1 c8) (fun μ10 h11 => ?_))
      refine K_aload_n 2 ((b + 1 : Nat) : Int) dFa_compare_92 rfl rfl ?_
      refine K_aload_n 0 45 dFa_compare_93 rfl rfl ?_
      refine K_getf 3 7 45 (jvR ((b : Nat) : Int)) dFa_compare_94 pf_Fa_40 rfl rfl (by decide) rfl (congrArg jvR h11.1.1) ?_
      refine K_getf 2 6 b (jvR ((b + 13 : Nat) : Int)) dFa_compare_97 pf_Fa_93 rfl (isB_c0 hb) (isB_n 0 (by decide) hb) rfl (isB_f0_6 hb) ?_
      refine K_iload 4 l4 dFa_compare_100 rfl ?_
      refine K_iald (b + 13) 40 dFa_compare_102 rfl (isB_c13 hb) (isB_n 13 (by decide) hb) h11.1.2 ?_
      refine K_iload_n 3 l3 dFa_compare_103 rfl rfl ?_
      refine K_callVi mTe_fits 9 (b + 1) [jvI (μ10 (b + 13) l4), jvI l3] dFa_compare_104 pm_Fa_105 ⟨_, rfl, rfl⟩ ⟨(Nat.le_of_ble_eq_true rfl), (Nat.le_of_ble_eq_true rfl)⟩ rfl (isB_c1 hb) (isB_n 1 (by decide) hb) (Nat.le_of_ble_eq_true rfl) rfl (Nat.le_of_ble_eq_true rfl) (by decide) (Ci_mono h11.2 (fun r16 μ13 h14 => ?_))
      refine K_if_eq 142 dFa_compare_107 (by decide) (fun c17 => ?_) (fun c17 => ?_)
      · refine K_iinc 4 dFa_compare_142 (Nat.le_of_ble_eq_true rfl) rfl (w32_okn (h14.1 c17).1) rfl ?_
        refine K_goto 44 dFa_compare_145 (by decide) ?_
        exact (h14.1 c17).2
      · refine K_aload_n 0 45 dFa_compare_110 rfl rfl ?_
        refine K_getf 3 1 45 (jvR 47) dFa_compare_111 pf_Fa_17 rfl rfl (by decide) rfl rfl ?_
        refine K_iload_n 1 l1 dFa_compare_114 rfl rfl ?_
        refine K_iload 4 l4 dFa_compare_115 rfl ?_
        refine K_iast 47 40 dFa_compare_117 rfl rfl (by decide) (h14.2 c17).1.1 ?_
        refine K_aload_n 0 45 dFa_compare_118 rfl rfl ?_
        refine K_getf 3 2 45 (jvR 48) dFa_compare_119 pf_Fa_20 rfl rfl (by decide) rfl rfl ?_
        refine K_iload 4 l4 dFa_compare_122 rfl ?_
        refine K_dup2 dFa_compare_124 (fun _ h => by cases h) (fun _ h => by cases h) ?_
        refine K_iald 48 40 dFa_compare_125 rfl rfl (by decide) (h14.2 c17).1.2.1 ?_
        refine K_iconst 1 dFa_compare_126 rfl ?_
        refine K_iadd dFa_compare_127 (w32_id (h14.2 c17).1.2.2.1) ?_
        refine K_iast 48 40 dFa_compare_128 rfl rfl (by decide) (h14.2 c17).1.2.2.2 ?_
        refine K_aload_n 0 45 dFa_compare_129 rfl rfl ?_
        refine K_dup dFa_compare_130 (fun _ h => by cases h) ?_
        refine K_getf 3 11 45 (jvL (μ13 45 11)) dFa_compare_131 pf_Fa_51 rfl rfl (by decide) rfl rfl ?_
        refine K_iload_n 1 l1 dFa_compare_134 rfl rfl ?_
        refine K_callNl mX_bit [jvI l1] dFa_compare_135 pm_Fa_72 ⟨(Nat.le_of_ble_eq_true rfl), (Nat.le_of_ble_eq_true rfl)⟩ (Nat.le_of_ble_eq_true rfl) rfl (Nat.le_of_ble_eq_true rfl) (by decide) (Cl_mono (h14.2 c17).2 (fun r22 μ19 h20 => ?_))
        refine K_lor dFa_compare_138 rfl ?_
        refine K_putf 3 11 45 (x := (ior64 (μ13 45 11) r22)) dFa_compare_139 pf_Fa_51 rfl rfl (by decide) rfl rfl rfl rfl trivial ?_
        refine K_iinc 4 dFa_compare_142 (Nat.le_of_ble_eq_true rfl) rfl (w32_okn h20.1) rfl ?_
        refine K_goto 44 dFa_compare_145 (by decide) ?_
        exact h20.2
    · refine K_aload_n 0 45 dFa_compare_67 rfl rfl ?_
      refine K_getf 3 0 45 (jvR 46) dFa_compare_68 pf_Fa_11 rfl rfl (by decide) rfl rfl ?_
      refine K_iload_n 1 l1 dFa_compare_71 rfl rfl ?_
      refine K_iload 4 l4 dFa_compare_72 rfl ?_
      refine K_iast 46 40 dFa_compare_74 rfl rfl (by decide) (h5.2 c8).1 ?_
      refine K_aload_n 0 45 dFa_compare_75 rfl rfl ?_
      refine K_dup dFa_compare_76 (fun _ h => by cases h) ?_
      refine K_getf 3 10 45 (jvL (μ4 45 10)) dFa_compare_77 pf_Fa_48 rfl rfl (by decide) rfl rfl ?_
      refine K_iload_n 1 l1 dFa_compare_80 rfl rfl ?_
      refine K_callNl mX_bit [jvI l1] dFa_compare_81 pm_Fa_72 ⟨(Nat.le_of_ble_eq_true rfl), (Nat.le_of_ble_eq_true rfl)⟩ (Nat.le_of_ble_eq_true rfl) rfl (Nat.le_of_ble_eq_true rfl) (by decide) (Cl_mono (h5.2 c8).2 (fun r26 μ23 h24 => ?_))
      refine K_lor dFa_compare_84 rfl ?_
      refine K_putf 3 10 45 (x := (ior64 (μ4 45 10) r26)) dFa_compare_85 pf_Fa_48 rfl rfl (by decide) rfl rfl rfl rfl trivial ?_
      refine K_aload_n 2 ((b + 1 : Nat) : Int) dFa_compare_88 rfl rfl ?_
      refine K_callVv mTe_freeHoles 9 (b + 1) [] dFa_compare_89 pm_Fa_102 ⟨_, rfl, rfl⟩ ⟨(Nat.le_of_ble_eq_true rfl), (Nat.le_of_ble_eq_true rfl)⟩ rfl (isB_c1 hb) (isB_n 1 (by decide) hb) (Nat.le_of_ble_eq_true rfl) rfl (Nat.le_of_ble_eq_true rfl) (by decide) (Cv_mono h24 (fun μ27 h28 => ?_))
      refine K_aload_n 2 ((b + 1 : Nat) : Int) dFa_compare_92 rfl rfl ?_
      refine K_aload_n 0 45 dFa_compare_93 rfl rfl ?_
      refine K_getf 3 7 45 (jvR ((b : Nat) : Int)) dFa_compare_94 pf_Fa_40 rfl rfl (by decide) rfl (congrArg jvR h28.1.1) ?_
      refine K_getf 2 6 b (jvR ((b + 13 : Nat) : Int)) dFa_compare_97 pf_Fa_93 rfl (isB_c0 hb) (isB_n 0 (by decide) hb) rfl (isB_f0_6 hb) ?_
      refine K_iload 4 l4 dFa_compare_100 rfl ?_
      refine K_iald (b + 13) 40 dFa_compare_102 rfl (isB_c13 hb) (isB_n 13 (by decide) hb) h28.1.2 ?_
      refine K_iload_n 3 l3 dFa_compare_103 rfl rfl ?_
      refine K_callVi mTe_fits 9 (b + 1) [jvI (μ27 (b + 13) l4), jvI l3] dFa_compare_104 pm_Fa_105 ⟨_, rfl, rfl⟩ ⟨(Nat.le_of_ble_eq_true rfl), (Nat.le_of_ble_eq_true rfl)⟩ rfl (isB_c1 hb) (isB_n 1 (by decide) hb) (Nat.le_of_ble_eq_true rfl) rfl (Nat.le_of_ble_eq_true rfl) (by decide) (Ci_mono h28.2 (fun r33 μ30 h31 => ?_))
      refine K_if_eq 142 dFa_compare_107 (by decide) (fun c34 => ?_) (fun c34 => ?_)
      · refine K_iinc 4 dFa_compare_142 (Nat.le_of_ble_eq_true rfl) rfl (w32_okn (h31.1 c34).1) rfl ?_
        refine K_goto 44 dFa_compare_145 (by decide) ?_
        exact (h31.1 c34).2
      · refine K_aload_n 0 45 dFa_compare_110 rfl rfl ?_
        refine K_getf 3 1 45 (jvR 47) dFa_compare_111 pf_Fa_17 rfl rfl (by decide) rfl rfl ?_
        refine K_iload_n 1 l1 dFa_compare_114 rfl rfl ?_
        refine K_iload 4 l4 dFa_compare_115 rfl ?_
        refine K_iast 47 40 dFa_compare_117 rfl rfl (by decide) (h31.2 c34).1.1 ?_
        refine K_aload_n 0 45 dFa_compare_118 rfl rfl ?_
        refine K_getf 3 2 45 (jvR 48) dFa_compare_119 pf_Fa_20 rfl rfl (by decide) rfl rfl ?_
        refine K_iload 4 l4 dFa_compare_122 rfl ?_
        refine K_dup2 dFa_compare_124 (fun _ h => by cases h) (fun _ h => by cases h) ?_
        refine K_iald 48 40 dFa_compare_125 rfl rfl (by decide) (h31.2 c34).1.2.1 ?_
        refine K_iconst 1 dFa_compare_126 rfl ?_
        refine K_iadd dFa_compare_127 (w32_id (h31.2 c34).1.2.2.1) ?_
        refine K_iast 48 40 dFa_compare_128 rfl rfl (by decide) (h31.2 c34).1.2.2.2 ?_
        refine K_aload_n 0 45 dFa_compare_129 rfl rfl ?_
        refine K_dup dFa_compare_130 (fun _ h => by cases h) ?_
        refine K_getf 3 11 45 (jvL (μ30 45 11)) dFa_compare_131 pf_Fa_51 rfl rfl (by decide) rfl rfl ?_
        refine K_iload_n 1 l1 dFa_compare_134 rfl rfl ?_
        refine K_callNl mX_bit [jvI l1] dFa_compare_135 pm_Fa_72 ⟨(Nat.le_of_ble_eq_true rfl), (Nat.le_of_ble_eq_true rfl)⟩ (Nat.le_of_ble_eq_true rfl) rfl (Nat.le_of_ble_eq_true rfl) (by decide) (Cl_mono (h31.2 c34).2 (fun r39 μ36 h37 => ?_))
        refine K_lor dFa_compare_138 rfl ?_
        refine K_putf 3 11 45 (x := (ior64 (μ30 45 11) r39)) dFa_compare_139 pf_Fa_51 rfl rfl (by decide) rfl rfl rfl rfl trivial ?_
        refine K_iinc 4 dFa_compare_142 (Nat.le_of_ble_eq_true rfl) rfl (w32_okn h37.1) rfl ?_
        refine K_goto 44 dFa_compare_145 (by decide) ?_
        exact h37.2
set_option maxHeartbeats 8000000 in
theorem vTe_areSame_0 {E : jE} {μ : jMu} {Q : Option AV → jMu → Prop} {b : Nat} (hb : isB b) {a0 a1 : Int} (hF : (Ci E mTe_size [jvR ((b + 1 : Nat) : Int), jvI a0] μ (fun r4 μ1 => (Ci E mTe_size [jvR ((b + 1 : Nat) : Int), jvI a1] μ1 (fun r8 μ5 => ((r8 = r4 → (K 121 E mTe_areSame 20 [some (jvR ((b + 1 : Nat) : Int)), some (jvI a0), some (jvI a1), some (jvI r4), some (jvI 0)] [] μ5 Q)) ∧ (¬ (r8 = r4) → (Q (some (jvI 0)) μ5)))))))) : K 121 E mTe_areSame 0 [some (jvR ((b + 1 : Nat) : Int)), some (jvI a0), some (jvI a1), none, none] [] μ Q := by
  refine K_aload_n 0 ((b + 1 : Nat) : Int) dTe_areSame_0 rfl rfl ?_
  refine K_iload_n 1 a0 dTe_areSame_1 rfl rfl ?_
  refine K_callVi mTe_size 9 (b + 1) [jvI a0] dTe_areSame_2 pm_Te_40 ⟨_, rfl, rfl⟩ ⟨(Nat.le_of_ble_eq_true rfl), (Nat.le_of_ble_eq_true rfl)⟩ rfl (isB_c1 hb) (isB_n 1 (by decide) hb) (Nat.le_of_ble_eq_true rfl) rfl (Nat.le_of_ble_eq_true rfl) (by decide) (Ci_mono hF (fun r4 μ1 h2 => ?_))
  refine K_istore_n 3 dTe_areSame_5 rfl (Nat.le_of_ble_eq_true rfl) rfl ?_
  refine K_aload_n 0 ((b + 1 : Nat) : Int) dTe_areSame_6 rfl rfl ?_
  refine K_iload_n 2 a1 dTe_areSame_7 rfl rfl ?_
  refine K_callVi mTe_size 9 (b + 1) [jvI a1] dTe_areSame_8 pm_Te_40 ⟨_, rfl, rfl⟩ ⟨(Nat.le_of_ble_eq_true rfl), (Nat.le_of_ble_eq_true rfl)⟩ rfl (isB_c1 hb) (isB_n 1 (by decide) hb) (Nat.le_of_ble_eq_true rfl) rfl (Nat.le_of_ble_eq_true rfl) (by decide) (Ci_mono h2 (fun r8 μ5 h6 => ?_))
  refine K_iload_n 3 r4 dTe_areSame_11 rfl rfl ?_
  refine K_icmp_eq 17 dTe_areSame_12 (by decide) (fun c9 => ?_) (fun c9 => ?_)
  · refine K_iconst 0 dTe_areSame_17 rfl ?_
    refine K_istore 4 dTe_areSame_18 (Nat.le_of_ble_eq_true rfl) rfl ?_
    exact (h6.1 c9)
  · refine K_iconst 0 dTe_areSame_15 rfl ?_
    exact K_iret dTe_areSame_16 (Or.inr ⟨rfl, (by decide)⟩) (h6.2 c9)
set_option maxHeartbeats 8000000 in
theorem vTe_areSame_20 {E : jE} {μ : jMu} {Q : Option AV → jMu → Prop} {b : Nat} (hb : isB b) {l1 l2 l3 l4 : Int} (hF : ((l3 ≤ l4 → (Q (some (jvI 1)) μ)) ∧ (¬ (l3 ≤ l4) → ((-2147483648 ≤ (l1 + l4) ∧ (l1 + l4) < 2147483648) ∧ (0 ≤ (l1 + l4) ∧ (l1 + l4) < 400) ∧ (-2147483648 ≤ (l2 + l4) ∧ (l2 + l4) < 2147483648) ∧ (0 ≤ (l2 + l4) ∧ (l2 + l4) < 400)) ∧ (((μ (b + 5) (l1 + l4)) = (μ (b + 5) (l2 + l4)) → ((-2147483648 ≤ (l4 + 1) ∧ (l4 + 1) < 2147483648)) ∧ (K 121 E mTe_areSame 20 [some (jvR ((b + 1 : Nat) : Int)), some (jvI l1), some (jvI l2), some (jvI l3), some (jvI (l4 + 1))] [] μ Q)) ∧ (¬ ((μ (b + 5) (l1 + l4)) = (μ (b + 5) (l2 + l4))) → (Q (some (jvI 0)) μ)))))) : K 121 E mTe_areSame 20 [some (jvR ((b + 1 : Nat) : Int)), some (jvI l1), some (jvI l2), some (jvI l3), some (jvI l4)] [] μ Q := by
  refine K_iload 4 l4 dTe_areSame_20 rfl ?_
  refine K_iload_n 3 l3 dTe_areSame_22 rfl rfl ?_
  refine K_icmp_ge 55 dTe_areSame_23 (by decide) (fun c1 => ?_) (fun c1 => ?_)
  · refine K_iconst 1 dTe_areSame_55 rfl ?_
    exact K_iret dTe_areSame_56 (Or.inr ⟨rfl, (by decide)⟩) (hF.1 c1)
  · refine K_aload_n 0 ((b + 1 : Nat) : Int) dTe_areSame_26 rfl rfl ?_
    refine K_getf 9 3 (b + 1) (jvR ((b + 5 : Nat) : Int)) dTe_areSame_27 pf_Te_21 rfl (isB_c1 hb) (isB_n 1 (by decide) hb) rfl (isB_f1_3 hb) ?_
    refine K_iload_n 1 l1 dTe_areSame_30 rfl rfl ?_
    refine K_iload 4 l4 dTe_areSame_31 rfl ?_
    refine K_iadd dTe_areSame_33 (w32_id (hF.2 c1).1.1) ?_
    refine K_iald (b + 5) 400 dTe_areSame_34 rfl (isB_c5 hb) (isB_n 5 (by decide) hb) (hF.2 c1).1.2.1 ?_
    refine K_aload_n 0 ((b + 1 : Nat) : Int) dTe_areSame_35 rfl rfl ?_
    refine K_getf 9 3 (b + 1) (jvR ((b + 5 : Nat) : Int)) dTe_areSame_36 pf_Te_21 rfl (isB_c1 hb) (isB_n 1 (by decide) hb) rfl (isB_f1_3 hb) ?_
    refine K_iload_n 2 l2 dTe_areSame_39 rfl rfl ?_
    refine K_iload 4 l4 dTe_areSame_40 rfl ?_
    refine K_iadd dTe_areSame_42 (w32_id (hF.2 c1).1.2.2.1) ?_
    refine K_iald (b + 5) 400 dTe_areSame_43 rfl (isB_c5 hb) (isB_n 5 (by decide) hb) (hF.2 c1).1.2.2.2 ?_
    refine K_icmp_eq 49 dTe_areSame_44 (by decide) (fun c4 => ?_) (fun c4 => ?_)
    · refine K_iinc 4 dTe_areSame_49 (Nat.le_of_ble_eq_true rfl) rfl (w32_ok ((hF.2 c1).2.1 c4).1) rfl ?_
      refine K_goto 20 dTe_areSame_52 (by decide) ?_
      exact ((hF.2 c1).2.1 c4).2
    · refine K_iconst 0 dTe_areSame_47 rfl ?_
      exact K_iret dTe_areSame_48 (Or.inr ⟨rfl, (by decide)⟩) ((hF.2 c1).2.2 c4)
set_option maxHeartbeats 8000000 in
theorem vTe_size_0 {E : jE} {μ : jMu} {Q : Option AV → jMu → Prop} {b : Nat} (hb : isB b) {a0 : Int} (hF : ((0 ≤ a0 ∧ a0 < 400) ∧ (-2147483648 ≤ ((μ (b + 6) a0) - a0) ∧ ((μ (b + 6) a0) - a0) < 2147483648)) ∧ (Q (some (jvI ((μ (b + 6) a0) - a0))) μ)) : K 121 E mTe_size 0 [some (jvR ((b + 1 : Nat) : Int)), some (jvI a0)] [] μ Q := by
  refine K_aload_n 0 ((b + 1 : Nat) : Int) dTe_size_0 rfl rfl ?_
  refine K_getf 9 4 (b + 1) (jvR ((b + 6 : Nat) : Int)) dTe_size_1 pf_Te_24 rfl (isB_c1 hb) (isB_n 1 (by decide) hb) rfl (isB_f1_4 hb) ?_
  refine K_iload_n 1 a0 dTe_size_4 rfl rfl ?_
  refine K_iald (b + 6) 400 dTe_size_5 rfl (isB_c6 hb) (isB_n 6 (by decide) hb) hF.1.1 ?_
  refine K_iload_n 1 a0 dTe_size_6 rfl rfl ?_
  refine K_isub dTe_size_7 (w32_id hF.1.2) ?_
  exact K_iret dTe_size_8 (Or.inl rfl) hF.2
set_option maxHeartbeats 8000000 in
theorem vX_bit_0 {E : jE} {μ : jMu} {Q : Option AV → jMu → Prop} {a0 : Int} (hF : (Q (some (jvL (ishl64 1 a0))) μ)) : K 121 E mX_bit 0 [some (jvI a0)] [] μ Q := by
  refine K_lconst 1 dX_bit_0 rfl ?_
  refine K_iload_n 0 a0 dX_bit_1 rfl rfl ?_
  refine K_lshl dX_bit_2 rfl ?_
  exact K_lret dX_bit_3 rfl hF
set_option maxHeartbeats 8000000 in
theorem vTe_freeHoles_0 {E : jE} {μ : jMu} {Q : Option AV → jMu → Prop} {b : Nat} (hb : isB b) (hF : (Cv E mAr_fill [jvR ((b + 7 : Nat) : Int), jvI (-1)] μ (fun μ1 => (Q none μ1)))) : K 121 E mTe_freeHoles 0 [some (jvR ((b + 1 : Nat) : Int))] [] μ Q := by
  refine K_aload_n 0 ((b + 1 : Nat) : Int) dTe_freeHoles_0 rfl rfl ?_
  refine K_getf 9 5 (b + 1) (jvR ((b + 7 : Nat) : Int)) dTe_freeHoles_1 pf_Te_27 rfl (isB_c1 hb) (isB_n 1 (by decide) hb) rfl (isB_f1_5 hb) ?_
  refine K_iconst (-1) dTe_freeHoles_4 rfl ?_
  refine K_callSv mAr_fill [jvR ((b + 7 : Nat) : Int), jvI (-1)] dTe_freeHoles_5 pm_Te_44 ⟨(Nat.le_of_ble_eq_true rfl), (Nat.le_of_ble_eq_true rfl)⟩ (Nat.le_of_ble_eq_true rfl) rfl (Nat.le_of_ble_eq_true rfl) (by decide) (Cv_mono hF (fun μ1 h2 => ?_))
  exact K_vret dTe_freeHoles_8 rfl h2
set_option maxHeartbeats 8000000 in
theorem vAr_fill_0 {E : jE} {μ : jMu} {Q : Option AV → jMu → Prop} {fi wl : Nat} (hwd : jCt[fi]? = some (.inl (.int, wl))) (hwn : fi < 121) (hwl : wl < 2147483648) {a1 : Int} (hF : (K 121 E mAr_fill 5 [some (jvR ((fi : Nat) : Int)), some (jvI a1), some (jvI 0), some (jvI (wl : Int))] [] μ Q)) : K 121 E mAr_fill 0 [some (jvR ((fi : Nat) : Int)), some (jvI a1), none, none] [] μ Q := by
  refine K_iconst 0 dAr_fill_0 rfl ?_
  refine K_istore_n 2 dAr_fill_1 rfl (Nat.le_of_ble_eq_true rfl) rfl ?_
  refine K_aload_n 0 ((fi : Nat) : Int) dAr_fill_2 rfl rfl ?_
  refine K_alen fi wl .int dAr_fill_3 rfl hwd hwn hwl ?_
  refine K_istore_n 3 dAr_fill_4 rfl (Nat.le_of_ble_eq_true rfl) rfl ?_
  exact hF
set_option maxHeartbeats 8000000 in
theorem vAr_fill_5 {E : jE} {μ : jMu} {Q : Option AV → jMu → Prop} {fi wl : Nat} (hwd : jCt[fi]? = some (.inl (.int, wl))) (hwn : fi < 121) (hwl : wl < 2147483648) {l1 l2 l3 : Int} (hF : ((l3 ≤ l2 → (Q none μ)) ∧ (¬ (l3 ≤ l2) → ((0 ≤ l2 ∧ l2 < (wl : Int)) ∧ (-2147483648 ≤ (l2 + 1) ∧ (l2 + 1) < 2147483648)) ∧ (K 121 E mAr_fill 5 [some (jvR ((fi : Nat) : Int)), some (jvI l1), some (jvI (l2 + 1)), some (jvI l3)] [] (j_up μ fi l2 l1) Q)))) : K 121 E mAr_fill 5 [some (jvR ((fi : Nat) : Int)), some (jvI l1), some (jvI l2), some (jvI l3)] [] μ Q := by
  refine K_iload_n 2 l2 dAr_fill_5 rfl rfl ?_
  refine K_iload_n 3 l3 dAr_fill_6 rfl rfl ?_
  refine K_icmp_ge 20 dAr_fill_7 (by decide) (fun c1 => ?_) (fun c1 => ?_)
  · exact K_vret dAr_fill_20 rfl (hF.1 c1)
  · refine K_aload_n 0 ((fi : Nat) : Int) dAr_fill_10 rfl rfl ?_
    refine K_iload_n 2 l2 dAr_fill_11 rfl rfl ?_
    refine K_iload_n 1 l1 dAr_fill_12 rfl rfl ?_
    refine K_iast fi wl dAr_fill_13 rfl hwd hwn (hF.2 c1).1.1 ?_
    refine K_iinc 2 dAr_fill_14 (Nat.le_of_ble_eq_true rfl) rfl (w32_ok (hF.2 c1).1.2) rfl ?_
    refine K_goto 5 dAr_fill_17 (by decide) ?_
    exact (hF.2 c1).2
set_option maxHeartbeats 8000000 in
theorem vTe_fits_0 {E : jE} {μ : jMu} {Q : Option AV → jMu → Prop} {b : Nat} (hb : isB b) {a0 a1 : Int} (hF : (K 121 E mTe_fits 5 [some (jvR ((b + 1 : Nat) : Int)), some (jvI a0), some (jvI a1), some (jvI a1), some (jvI a0), none] [] μ Q)) : K 121 E mTe_fits 0 [some (jvR ((b + 1 : Nat) : Int)), some (jvI a0), some (jvI a1), none, none, none] [] μ Q := by
  refine K_iload_n 2 a1 dTe_fits_0 rfl rfl ?_
  refine K_istore_n 3 dTe_fits_1 rfl (Nat.le_of_ble_eq_true rfl) rfl ?_
  refine K_iload_n 1 a0 dTe_fits_2 rfl rfl ?_
  refine K_istore 4 dTe_fits_3 (Nat.le_of_ble_eq_true rfl) rfl ?_
  exact hF
set_option maxHeartbeats 8000000 in
theorem vTe_fits_5 {E : jE} {μ : jMu} {Q : Option AV → jMu → Prop} {b : Nat} (hb : isB b) {l1 l2 l3 l4 : Int} (hF : ((0 ≤ l1 ∧ l1 < 400)) ∧ (((μ (b + 6) l1) ≤ l4 → (Q (some (jvI 1)) μ)) ∧ (¬ ((μ (b + 6) l1) ≤ l4) → ((0 ≤ l4 ∧ l4 < 400)) ∧ ((l3 < (μ (b + 1) 8) → ((100 ≤ (μ (b + 5) l4) → ((-2147483648 ≤ ((μ (b + 5) l4) - 100) ∧ ((μ (b + 5) l4) - 100) < 2147483648)) ∧ (Ci E mTe_takes [jvR ((b + 1 : Nat) : Int), jvI ((μ (b + 5) l4) - 100), jvI l3] μ (fun r11 μ8 => ((¬ r11 = 0 → ((0 ≤ l3 ∧ l3 < 400) ∧ (-2147483648 ≤ (l4 + 1) ∧ (l4 + 1) < 2147483648)) ∧ (K 121 E mTe_fits 5 [some (jvR ((b + 1 : Nat) : Int)), some (jvI l1), some (jvI l2), some (jvI (μ8 (b + 6) l3)), some (jvI (l4 + 1)), none] [] μ8 Q)) ∧ (r11 = 0 → (Q (some (jvI 0)) μ8)))))) ∧ (¬ (100 ≤ (μ (b + 5) l4)) → ((0 ≤ l3 ∧ l3 < 400)) ∧ (((μ (b + 5) l3) = (μ (b + 5) l4) → ((-2147483648 ≤ (l3 + 1) ∧ (l3 + 1) < 2147483648) ∧ (-2147483648 ≤ (l4 + 1) ∧ (l4 + 1) < 2147483648)) ∧ (K 121 E mTe_fits 5 [some (jvR ((b + 1 : Nat) : Int)), some (jvI l1), some (jvI l2), some (jvI (l3 + 1)), some (jvI (l4 + 1)), none] [] μ Q)) ∧ (¬ ((μ (b + 5) l3) = (μ (b + 5) l4)) → (Q (some (jvI 0)) μ)))))) ∧ (¬ (l3 < (μ (b + 1) 8)) → (Q (some (jvI 0)) μ)))))) : K 121 E mTe_fits 5 [some (jvR ((b + 1 : Nat) : Int)), some (jvI l1), some (jvI l2), some (jvI l3), some (jvI l4), none] [] μ Q := by
  refine K_iload 4 l4 dTe_fits_5 rfl ?_
  refine K_aload_n 0 ((b + 1 : Nat) : Int) dTe_fits_7 rfl rfl ?_
  refine K_getf 9 4 (b + 1) (jvR ((b + 6 : Nat) : Int)) dTe_fits_8 pf_Te_24 rfl (isB_c1 hb) (isB_n 1 (by decide) hb) rfl (isB_f1_4 hb) ?_
  refine K_iload_n 1 l1 dTe_fits_11 rfl rfl ?_
  refine K_iald (b + 6) 400 dTe_fits_12 rfl (isB_c6 hb) (isB_n 6 (by decide) hb) hF.1 ?_
  refine K_icmp_ge 89 dTe_fits_13 (by decide) (fun c1 => ?_) (fun c1 => ?_)
  · refine K_iconst 1 dTe_fits_89 rfl ?_
    exact K_iret dTe_fits_90 (Or.inr ⟨rfl, (by decide)⟩) (hF.2.1 c1)
  · refine K_aload_n 0 ((b + 1 : Nat) : Int) dTe_fits_16 rfl rfl ?_
    refine K_getf 9 3 (b + 1) (jvR ((b + 5 : Nat) : Int)) dTe_fits_17 pf_Te_21 rfl (isB_c1 hb) (isB_n 1 (by decide) hb) rfl (isB_f1_3 hb) ?_
    refine K_iload 4 l4 dTe_fits_20 rfl ?_
    refine K_iald (b + 5) 400 dTe_fits_22 rfl (isB_c5 hb) (isB_n 5 (by decide) hb) (hF.2.2 c1).1 ?_
    refine K_istore 5 dTe_fits_23 (Nat.le_of_ble_eq_true rfl) rfl ?_
    refine K_iload_n 3 l3 dTe_fits_25 rfl rfl ?_
    refine K_aload_n 0 ((b + 1 : Nat) : Int) dTe_fits_26 rfl rfl ?_
    refine K_getf 9 8 (b + 1) (jvI (μ (b + 1) 8)) dTe_fits_27 pf_Te_37 rfl (isB_c1 hb) (isB_n 1 (by decide) hb) rfl (isB_f1_8 hb) ?_
    refine K_icmp_lt 35 dTe_fits_30 (by decide) (fun c4 => ?_) (fun c4 => ?_)
    · refine K_iload 5 (μ (b + 5) l4) dTe_fits_35 rfl ?_
      refine K_bipush 100 dTe_fits_37 rfl ?_
      refine K_icmp_ge 61 dTe_fits_39 (by decide) (fun c6 => ?_) (fun c6 => ?_)
      · refine K_aload_n 0 ((b + 1 : Nat) : Int) dTe_fits_61 rfl rfl ?_
        refine K_iload 5 (μ (b + 5) l4) dTe_fits_62 rfl ?_
        refine K_bipush 100 dTe_fits_64 rfl ?_
        refine K_isub dTe_fits_66 (w32_id (((hF.2.2 c1).2.1 c4).1 c6).1) ?_
        refine K_iload_n 3 l3 dTe_fits_67 rfl rfl ?_
        refine K_callVi mTe_takes 9 (b + 1) [jvI ((μ (b + 5) l4) - 100), jvI l3] dTe_fits_68 pm_Te_50 ⟨_, rfl, rfl⟩ ⟨(Nat.le_of_ble_eq_true rfl), (Nat.le_of_ble_eq_true rfl)⟩ rfl (isB_c1 hb) (isB_n 1 (by decide) hb) (Nat.le_of_ble_eq_true rfl) rfl (Nat.le_of_ble_eq_true rfl) (by decide) (Ci_mono (((hF.2.2 c1).2.1 c4).1 c6).2 (fun r11 μ8 h9 => ?_))
        refine K_if_ne 76 dTe_fits_71 (by decide) (fun c12 => ?_) (fun c12 => ?_)
        · refine K_aload_n 0 ((b + 1 : Nat) : Int) dTe_fits_76 rfl rfl ?_
          refine K_getf 9 4 (b + 1) (jvR ((b + 6 : Nat) : Int)) dTe_fits_77 pf_Te_24 rfl (isB_c1 hb) (isB_n 1 (by decide) hb) rfl (isB_f1_4 hb) ?_
          refine K_iload_n 3 l3 dTe_fits_80 rfl rfl ?_
          refine K_iald (b + 6) 400 dTe_fits_81 rfl (isB_c6 hb) (isB_n 6 (by decide) hb) (h9.1 c12).1.1 ?_
          refine K_istore_n 3 dTe_fits_82 rfl (Nat.le_of_ble_eq_true rfl) rfl ?_
          refine K_iinc 4 dTe_fits_83 (Nat.le_of_ble_eq_true rfl) rfl (w32_ok (h9.1 c12).1.2) rfl ?_
          refine K_goto 5 dTe_fits_86 (by decide) ?_
          exact K_forget [true, true, true, true, true, false] (h9.1 c12).2
        · refine K_iconst 0 dTe_fits_74 rfl ?_
          exact K_iret dTe_fits_75 (Or.inr ⟨rfl, (by decide)⟩) (h9.2 c12)
      · refine K_aload_n 0 ((b + 1 : Nat) : Int) dTe_fits_42 rfl rfl ?_
        refine K_getf 9 3 (b + 1) (jvR ((b + 5 : Nat) : Int)) dTe_fits_43 pf_Te_21 rfl (isB_c1 hb) (isB_n 1 (by decide) hb) rfl (isB_f1_3 hb) ?_
        refine K_iload_n 3 l3 dTe_fits_46 rfl rfl ?_
        refine K_iald (b + 5) 400 dTe_fits_47 rfl (isB_c5 hb) (isB_n 5 (by decide) hb) (((hF.2.2 c1).2.1 c4).2 c6).1 ?_
        refine K_iload 5 (μ (b + 5) l4) dTe_fits_48 rfl ?_
        refine K_icmp_eq 55 dTe_fits_50 (by decide) (fun c15 => ?_) (fun c15 => ?_)
        · refine K_iinc 3 dTe_fits_55 (Nat.le_of_ble_eq_true rfl) rfl (w32_ok ((((hF.2.2 c1).2.1 c4).2 c6).2.1 c15).1.1) rfl ?_
          refine K_goto 83 dTe_fits_58 (by decide) ?_
          refine K_iinc 4 dTe_fits_83 (Nat.le_of_ble_eq_true rfl) rfl (w32_ok ((((hF.2.2 c1).2.1 c4).2 c6).2.1 c15).1.2) rfl ?_
          refine K_goto 5 dTe_fits_86 (by decide) ?_
          exact K_forget [true, true, true, true, true, false] ((((hF.2.2 c1).2.1 c4).2 c6).2.1 c15).2
        · refine K_iconst 0 dTe_fits_53 rfl ?_
          exact K_iret dTe_fits_54 (Or.inr ⟨rfl, (by decide)⟩) ((((hF.2.2 c1).2.1 c4).2 c6).2.2 c15)
    · refine K_iconst 0 dTe_fits_33 rfl ?_
      exact K_iret dTe_fits_34 (Or.inr ⟨rfl, (by decide)⟩) ((hF.2.2 c1).2.2 c4)
set_option maxHeartbeats 8000000 in
theorem vTe_takes_0 {E : jE} {μ : jMu} {Q : Option AV → jMu → Prop} {b : Nat} (hb : isB b) {a0 a1 : Int} (hF : ((0 ≤ a0 ∧ a0 < 12)) ∧ ((¬ (μ (b + 7) a0) = (-1) → ((0 ≤ a0 ∧ a0 < 12)) ∧ (Ci E mTe_areSame [jvR ((b + 1 : Nat) : Int), jvI (μ (b + 7) a0), jvI a1] μ (fun r6 μ3 => ((r6 = 0 ∨ r6 = 1)) ∧ (Q (some (jvI r6)) μ3)))) ∧ ((μ (b + 7) a0) = (-1) → ((0 ≤ a0 ∧ a0 < 12) ∧ (0 ≤ a0 ∧ a0 < 12)) ∧ (Ci E mTe_areSame [jvR ((b + 1 : Nat) : Int), jvI ((j_up μ (b + 7) a0 a1) (b + 7) a0), jvI a1] (j_up μ (b + 7) a0 a1) (fun r11 μ8 => ((r11 = 0 ∨ r11 = 1)) ∧ (Q (some (jvI r11)) μ8)))))) : K 121 E mTe_takes 0 [some (jvR ((b + 1 : Nat) : Int)), some (jvI a0), some (jvI a1)] [] μ Q := by
  refine K_aload_n 0 ((b + 1 : Nat) : Int) dTe_takes_0 rfl rfl ?_
  refine K_getf 9 5 (b + 1) (jvR ((b + 7 : Nat) : Int)) dTe_takes_1 pf_Te_27 rfl (isB_c1 hb) (isB_n 1 (by decide) hb) rfl (isB_f1_5 hb) ?_
  refine K_iload_n 1 a0 dTe_takes_4 rfl rfl ?_
  refine K_iald (b + 7) 12 dTe_takes_5 rfl (isB_c7 hb) (isB_n 7 (by decide) hb) hF.1 ?_
  refine K_iconst (-1) dTe_takes_6 rfl ?_
  refine K_icmp_ne 17 dTe_takes_7 (by decide) (fun c1 => ?_) (fun c1 => ?_)
  · refine K_aload_n 0 ((b + 1 : Nat) : Int) dTe_takes_17 rfl rfl ?_
    refine K_aload_n 0 ((b + 1 : Nat) : Int) dTe_takes_18 rfl rfl ?_
    refine K_getf 9 5 (b + 1) (jvR ((b + 7 : Nat) : Int)) dTe_takes_19 pf_Te_27 rfl (isB_c1 hb) (isB_n 1 (by decide) hb) rfl (isB_f1_5 hb) ?_
    refine K_iload_n 1 a0 dTe_takes_22 rfl rfl ?_
    refine K_iald (b + 7) 12 dTe_takes_23 rfl (isB_c7 hb) (isB_n 7 (by decide) hb) (hF.2.1 c1).1 ?_
    refine K_iload_n 2 a1 dTe_takes_24 rfl rfl ?_
    refine K_callVi mTe_areSame 9 (b + 1) [jvI (μ (b + 7) a0), jvI a1] dTe_takes_25 pm_Te_54 ⟨_, rfl, rfl⟩ ⟨(Nat.le_of_ble_eq_true rfl), (Nat.le_of_ble_eq_true rfl)⟩ rfl (isB_c1 hb) (isB_n 1 (by decide) hb) (Nat.le_of_ble_eq_true rfl) rfl (Nat.le_of_ble_eq_true rfl) (by decide) (Ci_mono (hF.2.1 c1).2 (fun r6 μ3 h4 => ?_))
    exact K_iret dTe_takes_28 (Or.inr ⟨rfl, h4.1⟩) h4.2
  · refine K_aload_n 0 ((b + 1 : Nat) : Int) dTe_takes_10 rfl rfl ?_
    refine K_getf 9 5 (b + 1) (jvR ((b + 7 : Nat) : Int)) dTe_takes_11 pf_Te_27 rfl (isB_c1 hb) (isB_n 1 (by decide) hb) rfl (isB_f1_5 hb) ?_
    refine K_iload_n 1 a0 dTe_takes_14 rfl rfl ?_
    refine K_iload_n 2 a1 dTe_takes_15 rfl rfl ?_
    refine K_iast (b + 7) 12 dTe_takes_16 rfl (isB_c7 hb) (isB_n 7 (by decide) hb) (hF.2.2 c1).1.1 ?_
    refine K_aload_n 0 ((b + 1 : Nat) : Int) dTe_takes_17 rfl rfl ?_
    refine K_aload_n 0 ((b + 1 : Nat) : Int) dTe_takes_18 rfl rfl ?_
    refine K_getf 9 5 (b + 1) (jvR ((b + 7 : Nat) : Int)) dTe_takes_19 pf_Te_27 rfl (isB_c1 hb) (isB_n 1 (by decide) hb) rfl (isB_f1_5 hb) ?_
    refine K_iload_n 1 a0 dTe_takes_22 rfl rfl ?_
    refine K_iald (b + 7) 12 dTe_takes_23 rfl (isB_c7 hb) (isB_n 7 (by decide) hb) (hF.2.2 c1).1.2 ?_
    refine K_iload_n 2 a1 dTe_takes_24 rfl rfl ?_
    refine K_callVi mTe_areSame 9 (b + 1) [jvI ((j_up μ (b + 7) a0 a1) (b + 7) a0), jvI a1] dTe_takes_25 pm_Te_54 ⟨_, rfl, rfl⟩ ⟨(Nat.le_of_ble_eq_true rfl), (Nat.le_of_ble_eq_true rfl)⟩ rfl (isB_c1 hb) (isB_n 1 (by decide) hb) (Nat.le_of_ble_eq_true rfl) rfl (Nat.le_of_ble_eq_true rfl) (by decide) (Ci_mono (hF.2.2 c1).2 (fun r11 μ8 h9 => ?_))
    exact K_iret dTe_takes_28 (Or.inr ⟨rfl, h9.1⟩) h9.2
set_option maxHeartbeats 8000000 in
theorem vFa_follow_0 {E : jE} {μ : jMu} {Q : Option AV → jMu → Prop} {a0 : Int} (hF : ((0 ≤ a0 ∧ a0 < 40) ∧ (0 ≤ a0 ∧ a0 < 40) ∧ (0 ≤ a0 ∧ a0 < 40)) ∧ (K 121 E mFa_follow 23 [some (jvR 45), some (jvI a0), some (jvI 0), none] [] (j_up (j_up (j_up μ 50 a0 0) 51 a0 0) 49 a0 1) Q)) : K 121 E mFa_follow 0 [some (jvR 45), some (jvI a0), none, none] [] μ Q := by
  refine K_aload_n 0 45 dFa_follow_0 rfl rfl ?_
  refine K_getf 3 4 45 (jvR 50) dFa_follow_1 pf_Fa_26 rfl rfl (by decide) rfl rfl ?_
  refine K_iload_n 1 a0 dFa_follow_4 rfl rfl ?_
  refine K_lconst 0 dFa_follow_5 rfl ?_
  refine K_last 50 40 dFa_follow_6 rfl rfl (by decide) hF.1.1 ?_
  refine K_aload_n 0 45 dFa_follow_7 rfl rfl ?_
  refine K_getf 3 5 45 (jvR 51) dFa_follow_8 pf_Fa_30 rfl rfl (by decide) rfl rfl ?_
  refine K_iload_n 1 a0 dFa_follow_11 rfl rfl ?_
  refine K_lconst 0 dFa_follow_12 rfl ?_
  refine K_last 51 40 dFa_follow_13 rfl rfl (by decide) hF.1.2.1 ?_
  refine K_aload_n 0 45 dFa_follow_14 rfl rfl ?_
  refine K_getf 3 3 45 (jvR 49) dFa_follow_15 pf_Fa_23 rfl rfl (by decide) rfl rfl ?_
  refine K_iload_n 1 a0 dFa_follow_18 rfl rfl ?_
  refine K_iconst 1 dFa_follow_19 rfl ?_
  refine K_iast 49 40 dFa_follow_20 rfl rfl (by decide) hF.1.2.2 ?_
  refine K_iconst 0 dFa_follow_21 rfl ?_
  refine K_istore_n 2 dFa_follow_22 rfl (Nat.le_of_ble_eq_true rfl) rfl ?_
  exact hF.2
set_option maxHeartbeats 8000000 in
theorem vFa_follow_23 {E : jE} {μ : jMu} {Q : Option AV → jMu → Prop} {b : Nat} (hb : isB b) {l1 l2 : Int} (hF : ((μ 45 7) = ((b : Nat) : Int)) ∧ (Ci E mBk_nameCount [jvR ((b : Nat) : Int), jvI l1] μ (fun r4 μ1 => ((r4 ≤ l2 → (Q none μ1)) ∧ (¬ (r4 ≤ l2) → ((μ1 45 7) = ((b : Nat) : Int)) ∧ (Ci E mBk_named [jvR ((b : Nat) : Int), jvI l1, jvI l2] μ1 (fun r11 μ8 => ((0 ≤ l1 ∧ l1 < 40)) ∧ (Cl E mX_bit [jvI r11] μ8 (fun r15 μ12 => ((0 ≤ r11 ∧ r11 < 40) ∧ (0 ≤ l1 ∧ l1 < 40) ∧ (0 ≤ r11 ∧ r11 < 40)) ∧ (Cl E mX_bit [jvI l1] (j_up μ12 50 l1 (ior64 (μ8 50 l1) (ior64 r15 (μ12 50 r11)))) (fun r19 μ16 => ((0 ≤ r11 ∧ r11 < 40) ∧ (0 ≤ l1 ∧ l1 < 40) ∧ (0 ≤ r11 ∧ r11 < 40) ∧ (-2147483648 ≤ ((μ16 49 r11) + 1) ∧ ((μ16 49 r11) + 1) < 2147483648) ∧ (0 ≤ l1 ∧ l1 < 40) ∧ (-2147483648 ≤ (l2 + 1) ∧ (l2 + 1) < 2147483648)) ∧ (K 121 E mFa_follow 23 [some (jvR 45), some (jvI l1), some (jvI (l2 + 1)), none] [] (j_up (j_up μ16 51 r11 (ior64 (μ12 51 r11) r19)) 49 l1 (if (μ16 49 l1) < ((μ16 49 r11) + 1) then ((μ16 49 r11) + 1) else (μ16 49 l1))) Q)))))))))))) : K 121 E mFa_follow 23 [some (jvR 45), some (jvI l1), some (jvI l2), none] [] μ Q := by
  refine K_iload_n 2 l2 dFa_follow_23 rfl rfl ?_
  refine K_aload_n 0 45 dFa_follow_24 rfl rfl ?_
  refine K_getf 3 7 45 (jvR ((b : Nat) : Int)) dFa_follow_25 pf_Fa_40 rfl rfl (by decide) rfl (congrArg jvR hF.1) ?_
  refine K_iload_n 1 l1 dFa_follow_28 rfl rfl ?_
  refine K_callVi mBk_nameCount 2 b [jvI l1] dFa_follow_29 pm_Fa_108 ⟨_, rfl, rfl⟩ ⟨(Nat.le_of_ble_eq_true rfl), (Nat.le_of_ble_eq_true rfl)⟩ rfl (isB_c0 hb) (isB_n 0 (by decide) hb) (Nat.le_of_ble_eq_true rfl) rfl (Nat.le_of_ble_eq_true rfl) (by decide) (Ci_mono hF.2 (fun r4 μ1 h2 => ?_))
  refine K_icmp_ge 107 dFa_follow_32 (by decide) (fun c5 => ?_) (fun c5 => ?_)
  · exact K_vret dFa_follow_107 rfl (h2.1 c5)
  · refine K_aload_n 0 45 dFa_follow_35 rfl rfl ?_
    refine K_getf 3 7 45 (jvR ((b : Nat) : Int)) dFa_follow_36 pf_Fa_40 rfl rfl (by decide) rfl (congrArg jvR (h2.2 c5).1) ?_
    refine K_iload_n 1 l1 dFa_follow_39 rfl rfl ?_
    refine K_iload_n 2 l2 dFa_follow_40 rfl rfl ?_
    refine K_callVi mBk_named 2 b [jvI l1, jvI l2] dFa_follow_41 pm_Fa_112 ⟨_, rfl, rfl⟩ ⟨(Nat.le_of_ble_eq_true rfl), (Nat.le_of_ble_eq_true rfl)⟩ rfl (isB_c0 hb) (isB_n 0 (by decide) hb) (Nat.le_of_ble_eq_true rfl) rfl (Nat.le_of_ble_eq_true rfl) (by decide) (Ci_mono (h2.2 c5).2 (fun r11 μ8 h9 => ?_))
    refine K_istore_n 3 dFa_follow_44 rfl (Nat.le_of_ble_eq_true rfl) rfl ?_
    refine K_aload_n 0 45 dFa_follow_45 rfl rfl ?_
    refine K_getf 3 4 45 (jvR 50) dFa_follow_46 pf_Fa_26 rfl rfl (by decide) rfl rfl ?_
    refine K_iload_n 1 l1 dFa_follow_49 rfl rfl ?_
    refine K_dup2 dFa_follow_50 (fun _ h => by cases h) (fun _ h => by cases h) ?_
    refine K_lald 50 40 dFa_follow_51 rfl rfl (by decide) h9.1 ?_
    refine K_iload_n 3 r11 dFa_follow_52 rfl rfl ?_
    refine K_callNl mX_bit [jvI r11] dFa_follow_53 pm_Fa_72 ⟨(Nat.le_of_ble_eq_true rfl), (Nat.le_of_ble_eq_true rfl)⟩ (Nat.le_of_ble_eq_true rfl) rfl (Nat.le_of_ble_eq_true rfl) (by decide) (Cl_mono h9.2 (fun r15 μ12 h13 => ?_))
    refine K_aload_n 0 45 dFa_follow_56 rfl rfl ?_
    refine K_getf 3 4 45 (jvR 50) dFa_follow_57 pf_Fa_26 rfl rfl (by decide) rfl rfl ?_
    refine K_iload_n 3 r11 dFa_follow_60 rfl rfl ?_
    refine K_lald 50 40 dFa_follow_61 rfl rfl (by decide) h13.1.1 ?_
    refine K_lor dFa_follow_62 rfl ?_
    refine K_lor dFa_follow_63 rfl ?_
    refine K_last 50 40 dFa_follow_64 rfl rfl (by decide) h13.1.2.1 ?_
    refine K_aload_n 0 45 dFa_follow_65 rfl rfl ?_
    refine K_getf 3 5 45 (jvR 51) dFa_follow_66 pf_Fa_30 rfl rfl (by decide) rfl rfl ?_
    refine K_iload_n 3 r11 dFa_follow_69 rfl rfl ?_
    refine K_dup2 dFa_follow_70 (fun _ h => by cases h) (fun _ h => by cases h) ?_
    refine K_lald 51 40 dFa_follow_71 rfl rfl (by decide) h13.1.2.2 ?_
    refine K_iload_n 1 l1 dFa_follow_72 rfl rfl ?_
    refine K_callNl mX_bit [jvI l1] dFa_follow_73 pm_Fa_72 ⟨(Nat.le_of_ble_eq_true rfl), (Nat.le_of_ble_eq_true rfl)⟩ (Nat.le_of_ble_eq_true rfl) rfl (Nat.le_of_ble_eq_true rfl) (by decide) (Cl_mono h13.2 (fun r19 μ16 h17 => ?_))
    refine K_lor dFa_follow_76 rfl ?_
    refine K_last 51 40 dFa_follow_77 rfl rfl (by decide) h17.1.1 ?_
    refine K_aload_n 0 45 dFa_follow_78 rfl rfl ?_
    refine K_getf 3 3 45 (jvR 49) dFa_follow_79 pf_Fa_23 rfl rfl (by decide) rfl rfl ?_
    refine K_iload_n 1 l1 dFa_follow_82 rfl rfl ?_
    refine K_aload_n 0 45 dFa_follow_83 rfl rfl ?_
    refine K_getf 3 3 45 (jvR 49) dFa_follow_84 pf_Fa_23 rfl rfl (by decide) rfl rfl ?_
    refine K_iload_n 1 l1 dFa_follow_87 rfl rfl ?_
    refine K_iald 49 40 dFa_follow_88 rfl rfl (by decide) h17.1.2.1 ?_
    refine K_aload_n 0 45 dFa_follow_89 rfl rfl ?_
    refine K_getf 3 3 45 (jvR 49) dFa_follow_90 pf_Fa_23 rfl rfl (by decide) rfl rfl ?_
    refine K_iload_n 3 r11 dFa_follow_93 rfl rfl ?_
    refine K_iald 49 40 dFa_follow_94 rfl rfl (by decide) h17.1.2.2.1 ?_
    refine K_iconst 1 dFa_follow_95 rfl ?_
    refine K_iadd dFa_follow_96 (w32_id h17.1.2.2.2.1) ?_
    refine K_mmax dFa_follow_97 pm_Fa_116 (Nat.le_of_ble_eq_true rfl) (Nat.le_of_ble_eq_true rfl) ?_
    refine K_iast 49 40 dFa_follow_100 rfl rfl (by decide) h17.1.2.2.2.2.1 ?_
    refine K_iinc 2 dFa_follow_101 (Nat.le_of_ble_eq_true rfl) rfl (w32_ok h17.1.2.2.2.2.2) rfl ?_
    refine K_goto 23 dFa_follow_104 (by decide) ?_
    exact K_forget [true, true, true, false] h17.2
set_option maxHeartbeats 8000000 in
theorem vBk_nameCount_0 {E : jE} {μ : jMu} {Q : Option AV → jMu → Prop} {b : Nat} (hb : isB b) {a0 : Int} (hF : ((0 ≤ a0 ∧ a0 < 40) ∧ (0 ≤ (μ (b + 12) a0) ∧ (μ (b + 12) a0) < 12)) ∧ (Q (some (jvI (μ (b + 9) (μ (b + 12) a0)))) μ)) : K 121 E mBk_nameCount 0 [some (jvR ((b : Nat) : Int)), some (jvI a0)] [] μ Q := by
  refine K_aload_n 0 ((b : Nat) : Int) dBk_nameCount_0 rfl rfl ?_
  refine K_getf 2 2 b (jvR ((b + 9 : Nat) : Int)) dBk_nameCount_1 pf_Bk_22 rfl (isB_c0 hb) (isB_n 0 (by decide) hb) rfl (isB_f0_2 hb) ?_
  refine K_aload_n 0 ((b : Nat) : Int) dBk_nameCount_4 rfl rfl ?_
  refine K_getf 2 5 b (jvR ((b + 12 : Nat) : Int)) dBk_nameCount_5 pf_Bk_31 rfl (isB_c0 hb) (isB_n 0 (by decide) hb) rfl (isB_f0_5 hb) ?_
  refine K_iload_n 1 a0 dBk_nameCount_8 rfl rfl ?_
  refine K_iald (b + 12) 40 dBk_nameCount_9 rfl (isB_c12 hb) (isB_n 12 (by decide) hb) hF.1.1 ?_
  refine K_iald (b + 9) 12 dBk_nameCount_10 rfl (isB_c9 hb) (isB_n 9 (by decide) hb) hF.1.2 ?_
  exact K_iret dBk_nameCount_11 (Or.inl rfl) hF.2
set_option maxHeartbeats 8000000 in
theorem vBk_named_0 {E : jE} {μ : jMu} {Q : Option AV → jMu → Prop} {b : Nat} (hb : isB b) {a0 a1 : Int} (hF : ((-2147483648 ≤ (3 * a0) ∧ (3 * a0) < 2147483648) ∧ (-2147483648 ≤ ((3 * a0) + a1) ∧ ((3 * a0) + a1) < 2147483648) ∧ (0 ≤ ((3 * a0) + a1) ∧ ((3 * a0) + a1) < 120)) ∧ (Q (some (jvI (μ (b + 14) ((3 * a0) + a1)))) μ)) : K 121 E mBk_named 0 [some (jvR ((b : Nat) : Int)), some (jvI a0), some (jvI a1)] [] μ Q := by
  refine K_aload_n 0 ((b : Nat) : Int) dBk_named_0 rfl rfl ?_
  refine K_getf 2 7 b (jvR ((b + 14 : Nat) : Int)) dBk_named_1 pf_Bk_37 rfl (isB_c0 hb) (isB_n 0 (by decide) hb) rfl (isB_f0_7 hb) ?_
  refine K_iconst 3 dBk_named_4 rfl ?_
  refine K_iload_n 1 a0 dBk_named_5 rfl rfl ?_
  refine K_imul dBk_named_6 (w32_id hF.1.1) ?_
  refine K_iload_n 2 a1 dBk_named_7 rfl rfl ?_
  refine K_iadd dBk_named_8 (w32_id hF.1.2.1) ?_
  refine K_iald (b + 14) 120 dBk_named_9 rfl (isB_c14 hb) (isB_n 14 (by decide) hb) hF.1.2.2 ?_
  exact K_iret dBk_named_10 (Or.inl rfl) hF.2
set_option maxHeartbeats 8000000 in
theorem vFa_isRight_0 {E : jE} {μ : jMu} {Q : Option AV → jMu → Prop} {b : Nat} (hb : isB b) {a0 : Int} (hF : ((μ 45 7) = ((b : Nat) : Int) ∧ (0 ≤ a0 ∧ a0 < 40) ∧ (μ 45 7) = ((b : Nat) : Int)) ∧ (Cv E mTe_freeHoles [jvR ((b + 1 : Nat) : Int)] μ (fun μ1 => (K 121 E mFa_isRight 22 [some (jvR 45), some (jvI a0), some (jvI (μ (b + 12) a0)), some (jvI 0), none] [] μ1 Q)))) : K 121 E mFa_isRight 0 [some (jvR 45), some (jvI a0), none, none, none] [] μ Q := by
  refine K_aload_n 0 45 dFa_isRight_0 rfl rfl ?_
  refine K_getf 3 7 45 (jvR ((b : Nat) : Int)) dFa_isRight_1 pf_Fa_40 rfl rfl (by decide) rfl (congrArg jvR hF.1.1) ?_
  refine K_getf 2 5 b (jvR ((b + 12 : Nat) : Int)) dFa_isRight_4 pf_Fa_121 rfl (isB_c0 hb) (isB_n 0 (by decide) hb) rfl (isB_f0_5 hb) ?_
  refine K_iload_n 1 a0 dFa_isRight_7 rfl rfl ?_
  refine K_iald (b + 12) 40 dFa_isRight_8 rfl (isB_c12 hb) (isB_n 12 (by decide) hb) hF.1.2.1 ?_
  refine K_istore_n 2 dFa_isRight_9 rfl (Nat.le_of_ble_eq_true rfl) rfl ?_
  refine K_aload_n 0 45 dFa_isRight_10 rfl rfl ?_
  refine K_getf 3 7 45 (jvR ((b : Nat) : Int)) dFa_isRight_11 pf_Fa_40 rfl rfl (by decide) rfl (congrArg jvR hF.1.2.2) ?_
  refine K_getf 2 0 b (jvR ((b + 1 : Nat) : Int)) dFa_isRight_14 pf_Fa_89 rfl (isB_c0 hb) (isB_n 0 (by decide) hb) rfl (isB_f0_0 hb) ?_
  refine K_callVv mTe_freeHoles 9 (b + 1) [] dFa_isRight_17 pm_Fa_102 ⟨_, rfl, rfl⟩ ⟨(Nat.le_of_ble_eq_true rfl), (Nat.le_of_ble_eq_true rfl)⟩ rfl (isB_c1 hb) (isB_n 1 (by decide) hb) (Nat.le_of_ble_eq_true rfl) rfl (Nat.le_of_ble_eq_true rfl) (by decide) (Cv_mono hF.2 (fun μ1 h2 => ?_))
  refine K_iconst 0 dFa_isRight_20 rfl ?_
  refine K_istore_n 3 dFa_isRight_21 rfl (Nat.le_of_ble_eq_true rfl) rfl ?_
  exact h2
set_option maxHeartbeats 8000000 in
theorem vFa_isRight_22 {E : jE} {μ : jMu} {Q : Option AV → jMu → Prop} {b : Nat} (hb : isB b) {l1 l2 l3 : Int} (hF : ((μ 45 7) = ((b : Nat) : Int) ∧ (0 ≤ l2 ∧ l2 < 12)) ∧ (((μ (b + 9) l2) ≤ l3 → ((μ 45 7) = ((b : Nat) : Int) ∧ (μ 45 7) = ((b : Nat) : Int) ∧ (0 ≤ l2 ∧ l2 < 12) ∧ (μ 45 7) = ((b : Nat) : Int) ∧ (0 ≤ l1 ∧ l1 < 40)) ∧ (Ci E mTe_fits [jvR ((b + 1 : Nat) : Int), jvI (μ (b + 11) l2), jvI (μ (b + 13) l1)] μ (fun r6 μ3 => ((r6 = 0 ∨ r6 = 1)) ∧ (Q (some (jvI r6)) μ3)))) ∧ (¬ ((μ (b + 9) l2) ≤ l3) → ((μ 45 7) = ((b : Nat) : Int)) ∧ (Ci E mBk_named [jvR ((b : Nat) : Int), jvI l1, jvI l3] μ (fun r11 μ8 => ((μ8 45 7) = ((b : Nat) : Int) ∧ (μ8 45 7) = ((b : Nat) : Int) ∧ (-2147483648 ≤ (3 * l2) ∧ (3 * l2) < 2147483648) ∧ (-2147483648 ≤ ((3 * l2) + l3) ∧ ((3 * l2) + l3) < 2147483648) ∧ (0 ≤ ((3 * l2) + l3) ∧ ((3 * l2) + l3) < 36) ∧ (μ8 45 7) = ((b : Nat) : Int) ∧ (0 ≤ r11 ∧ r11 < 40)) ∧ (Ci E mTe_fits [jvR ((b + 1 : Nat) : Int), jvI (μ8 (b + 10) ((3 * l2) + l3)), jvI (μ8 (b + 13) r11)] μ8 (fun r15 μ12 => ((¬ r15 = 0 → ((-2147483648 ≤ (l3 + 1) ∧ (l3 + 1) < 2147483648)) ∧ (K 121 E mFa_isRight 22 [some (jvR 45), some (jvI l1), some (jvI l2), some (jvI (l3 + 1)), none] [] μ12 Q)) ∧ (r15 = 0 → (Q (some (jvI 0)) μ12)))))))))) : K 121 E mFa_isRight 22 [some (jvR 45), some (jvI l1), some (jvI l2), some (jvI l3), none] [] μ Q := by
  refine K_iload_n 3 l3 dFa_isRight_22 rfl rfl ?_
  refine K_aload_n 0 45 dFa_isRight_23 rfl rfl ?_
  refine K_getf 3 7 45 (jvR ((b : Nat) : Int)) dFa_isRight_24 pf_Fa_40 rfl rfl (by decide) rfl (congrArg jvR hF.1.1) ?_
  refine K_getf 2 2 b (jvR ((b + 9 : Nat) : Int)) dFa_isRight_27 pf_Fa_124 rfl (isB_c0 hb) (isB_n 0 (by decide) hb) rfl (isB_f0_2 hb) ?_
  refine K_iload_n 2 l2 dFa_isRight_30 rfl rfl ?_
  refine K_iald (b + 9) 12 dFa_isRight_31 rfl (isB_c9 hb) (isB_n 9 (by decide) hb) hF.1.2 ?_
  refine K_icmp_ge 90 dFa_isRight_32 (by decide) (fun c1 => ?_) (fun c1 => ?_)
  · refine K_aload_n 0 45 dFa_isRight_90 rfl rfl ?_
    refine K_getf 3 7 45 (jvR ((b : Nat) : Int)) dFa_isRight_91 pf_Fa_40 rfl rfl (by decide) rfl (congrArg jvR (hF.2.1 c1).1.1) ?_
    refine K_getf 2 0 b (jvR ((b + 1 : Nat) : Int)) dFa_isRight_94 pf_Fa_89 rfl (isB_c0 hb) (isB_n 0 (by decide) hb) rfl (isB_f0_0 hb) ?_
    refine K_aload_n 0 45 dFa_isRight_97 rfl rfl ?_
    refine K_getf 3 7 45 (jvR ((b : Nat) : Int)) dFa_isRight_98 pf_Fa_40 rfl rfl (by decide) rfl (congrArg jvR (hF.2.1 c1).1.2.1) ?_
    refine K_getf 2 4 b (jvR ((b + 11 : Nat) : Int)) dFa_isRight_101 pf_Fa_130 rfl (isB_c0 hb) (isB_n 0 (by decide) hb) rfl (isB_f0_4 hb) ?_
    refine K_iload_n 2 l2 dFa_isRight_104 rfl rfl ?_
    refine K_iald (b + 11) 12 dFa_isRight_105 rfl (isB_c11 hb) (isB_n 11 (by decide) hb) (hF.2.1 c1).1.2.2.1 ?_
    refine K_aload_n 0 45 dFa_isRight_106 rfl rfl ?_
    refine K_getf 3 7 45 (jvR ((b : Nat) : Int)) dFa_isRight_107 pf_Fa_40 rfl rfl (by decide) rfl (congrArg jvR (hF.2.1 c1).1.2.2.2.1) ?_
    refine K_getf 2 6 b (jvR ((b + 13 : Nat) : Int)) dFa_isRight_110 pf_Fa_93 rfl (isB_c0 hb) (isB_n 0 (by decide) hb) rfl (isB_f0_6 hb) ?_
    refine K_iload_n 1 l1 dFa_isRight_113 rfl rfl ?_
    refine K_iald (b + 13) 40 dFa_isRight_114 rfl (isB_c13 hb) (isB_n 13 (by decide) hb) (hF.2.1 c1).1.2.2.2.2 ?_
    refine K_callVi mTe_fits 9 (b + 1) [jvI (μ (b + 11) l2), jvI (μ (b + 13) l1)] dFa_isRight_115 pm_Fa_105 ⟨_, rfl, rfl⟩ ⟨(Nat.le_of_ble_eq_true rfl), (Nat.le_of_ble_eq_true rfl)⟩ rfl (isB_c1 hb) (isB_n 1 (by decide) hb) (Nat.le_of_ble_eq_true rfl) rfl (Nat.le_of_ble_eq_true rfl) (by decide) (Ci_mono (hF.2.1 c1).2 (fun r6 μ3 h4 => ?_))
    exact K_iret dFa_isRight_118 (Or.inr ⟨rfl, h4.1⟩) h4.2
  · refine K_aload_n 0 45 dFa_isRight_35 rfl rfl ?_
    refine K_getf 3 7 45 (jvR ((b : Nat) : Int)) dFa_isRight_36 pf_Fa_40 rfl rfl (by decide) rfl (congrArg jvR (hF.2.2 c1).1) ?_
    refine K_iload_n 1 l1 dFa_isRight_39 rfl rfl ?_
    refine K_iload_n 3 l3 dFa_isRight_40 rfl rfl ?_
    refine K_callVi mBk_named 2 b [jvI l1, jvI l3] dFa_isRight_41 pm_Fa_112 ⟨_, rfl, rfl⟩ ⟨(Nat.le_of_ble_eq_true rfl), (Nat.le_of_ble_eq_true rfl)⟩ rfl (isB_c0 hb) (isB_n 0 (by decide) hb) (Nat.le_of_ble_eq_true rfl) rfl (Nat.le_of_ble_eq_true rfl) (by decide) (Ci_mono (hF.2.2 c1).2 (fun r11 μ8 h9 => ?_))
    refine K_istore 4 dFa_isRight_44 (Nat.le_of_ble_eq_true rfl) rfl ?_
    refine K_aload_n 0 45 dFa_isRight_46 rfl rfl ?_
    refine K_getf 3 7 45 (jvR ((b : Nat) : Int)) dFa_isRight_47 pf_Fa_40 rfl rfl (by decide) rfl (congrArg jvR h9.1.1) ?_
    refine K_getf 2 0 b (jvR ((b + 1 : Nat) : Int)) dFa_isRight_50 pf_Fa_89 rfl (isB_c0 hb) (isB_n 0 (by decide) hb) rfl (isB_f0_0 hb) ?_
    refine K_aload_n 0 45 dFa_isRight_53 rfl rfl ?_
    refine K_getf 3 7 45 (jvR ((b : Nat) : Int)) dFa_isRight_54 pf_Fa_40 rfl rfl (by decide) rfl (congrArg jvR h9.1.2.1) ?_
    refine K_getf 2 3 b (jvR ((b + 10 : Nat) : Int)) dFa_isRight_57 pf_Fa_127 rfl (isB_c0 hb) (isB_n 0 (by decide) hb) rfl (isB_f0_3 hb) ?_
    refine K_iconst 3 dFa_isRight_60 rfl ?_
    refine K_iload_n 2 l2 dFa_isRight_61 rfl rfl ?_
    refine K_imul dFa_isRight_62 (w32_id h9.1.2.2.1) ?_
    refine K_iload_n 3 l3 dFa_isRight_63 rfl rfl ?_
    refine K_iadd dFa_isRight_64 (w32_id h9.1.2.2.2.1) ?_
    refine K_iald (b + 10) 36 dFa_isRight_65 rfl (isB_c10 hb) (isB_n 10 (by decide) hb) h9.1.2.2.2.2.1 ?_
    refine K_aload_n 0 45 dFa_isRight_66 rfl rfl ?_
    refine K_getf 3 7 45 (jvR ((b : Nat) : Int)) dFa_isRight_67 pf_Fa_40 rfl rfl (by decide) rfl (congrArg jvR h9.1.2.2.2.2.2.1) ?_
    refine K_getf 2 6 b (jvR ((b + 13 : Nat) : Int)) dFa_isRight_70 pf_Fa_93 rfl (isB_c0 hb) (isB_n 0 (by decide) hb) rfl (isB_f0_6 hb) ?_
    refine K_iload 4 r11 dFa_isRight_73 rfl ?_
    refine K_iald (b + 13) 40 dFa_isRight_75 rfl (isB_c13 hb) (isB_n 13 (by decide) hb) h9.1.2.2.2.2.2.2 ?_
    refine K_callVi mTe_fits 9 (b + 1) [jvI (μ8 (b + 10) ((3 * l2) + l3)), jvI (μ8 (b + 13) r11)] dFa_isRight_76 pm_Fa_105 ⟨_, rfl, rfl⟩ ⟨(Nat.le_of_ble_eq_true rfl), (Nat.le_of_ble_eq_true rfl)⟩ rfl (isB_c1 hb) (isB_n 1 (by decide) hb) (Nat.le_of_ble_eq_true rfl) rfl (Nat.le_of_ble_eq_true rfl) (by decide) (Ci_mono h9.2 (fun r15 μ12 h13 => ?_))
    refine K_if_ne 84 dFa_isRight_79 (by decide) (fun c16 => ?_) (fun c16 => ?_)
    · refine K_iinc 3 dFa_isRight_84 (Nat.le_of_ble_eq_true rfl) rfl (w32_ok (h13.1 c16).1) rfl ?_
      refine K_goto 22 dFa_isRight_87 (by decide) ?_
      exact K_forget [true, true, true, true, false] (h13.1 c16).2
    · refine K_iconst 0 dFa_isRight_82 rfl ?_
      exact K_iret dFa_isRight_83 (Or.inr ⟨rfl, (by decide)⟩) (h13.2 c16)
set_option maxHeartbeats 8000000 in
theorem vFa_isProvedWithout_0 {E : jE} {μ : jMu} {Q : Option AV → jMu → Prop} {a0 : Int} (hF : (K 121 E mFa_isProvedWithout 5 [some (jvR 45), some (jvI a0), some (jvL 0), none, some (jvI 0), none, none] [] μ Q)) : K 121 E mFa_isProvedWithout 0 [some (jvR 45), some (jvI a0), none, none, none, none, none] [] μ Q := by
  refine K_lconst 0 dFa_isProvedWithout_0 rfl ?_
  refine K_lstore_n 2 dFa_isProvedWithout_1 rfl (Nat.le_of_ble_eq_true rfl) rfl ?_
  refine K_iconst 0 dFa_isProvedWithout_2 rfl ?_
  refine K_istore 4 dFa_isProvedWithout_3 (Nat.le_of_ble_eq_true rfl) rfl ?_
  exact hF
set_option maxHeartbeats 8000000 in
theorem vFa_isProvedWithout_5 {E : jE} {μ : jMu} {Q : Option AV → jMu → Prop} {b : Nat} (hb : isB b) {l1 l2 l4 : Int} (hF : ((μ 45 7) = ((b : Nat) : Int)) ∧ (((μ b 13) ≤ l4 → ((μ 45 7) = ((b : Nat) : Int) ∧ (0 ≤ (μ b 15) ∧ (μ b 15) < 40)) ∧ (Ci E mX_isIn [jvI (μ 46 (μ b 15)), jvL l2] μ (fun r6 μ3 => ((r6 = 0 ∨ r6 = 1)) ∧ (Q (some (jvI r6)) μ3)))) ∧ (¬ ((μ b 13) ≤ l4) → ((l4 = l1 → (K 121 E mFa_isProvedWithout 33 [some (jvR 45), some (jvI l1), some (jvL l2), none, some (jvI l4), some (jvI 0), some (jvI 0)] [] μ Q)) ∧ (¬ (l4 = l1) → (K 121 E mFa_isProvedWithout 33 [some (jvR 45), some (jvI l1), some (jvL l2), none, some (jvI l4), some (jvI 1), some (jvI 0)] [] μ Q)))))) : K 121 E mFa_isProvedWithout 5 [some (jvR 45), some (jvI l1), some (jvL l2), none, some (jvI l4), none, none] [] μ Q := by
  refine K_iload 4 l4 dFa_isProvedWithout_5 rfl ?_
  refine K_aload_n 0 45 dFa_isProvedWithout_7 rfl rfl ?_
  refine K_getf 3 7 45 (jvR ((b : Nat) : Int)) dFa_isProvedWithout_8 pf_Fa_40 rfl rfl (by decide) rfl (congrArg jvR hF.1) ?_
  refine K_getf 2 13 b (jvI (μ b 13)) dFa_isProvedWithout_11 pf_Fa_57 rfl (isB_c0 hb) (isB_n 0 (by decide) hb) rfl (isB_f0_13 hb) ?_
  refine K_icmp_ge 112 dFa_isProvedWithout_14 (by decide) (fun c1 => ?_) (fun c1 => ?_)
  · refine K_aload_n 0 45 dFa_isProvedWithout_112 rfl rfl ?_
    refine K_getf 3 0 45 (jvR 46) dFa_isProvedWithout_113 pf_Fa_11 rfl rfl (by decide) rfl rfl ?_
    refine K_aload_n 0 45 dFa_isProvedWithout_116 rfl rfl ?_
    refine K_getf 3 7 45 (jvR ((b : Nat) : Int)) dFa_isProvedWithout_117 pf_Fa_40 rfl rfl (by decide) rfl (congrArg jvR (hF.2.1 c1).1.1) ?_
    refine K_getf 2 15 b (jvI (μ b 15)) dFa_isProvedWithout_120 pf_Fa_76 rfl (isB_c0 hb) (isB_n 0 (by decide) hb) rfl (isB_f0_15 hb) ?_
    refine K_iald 46 40 dFa_isProvedWithout_123 rfl rfl (by decide) (hF.2.1 c1).1.2 ?_
    refine K_lload_n 2 l2 dFa_isProvedWithout_124 rfl rfl ?_
    refine K_callNi mX_isIn [jvI (μ 46 (μ b 15)), jvL l2] dFa_isProvedWithout_125 pm_Fa_133 ⟨(Nat.le_of_ble_eq_true rfl), (Nat.le_of_ble_eq_true rfl)⟩ (Nat.le_of_ble_eq_true rfl) rfl (Nat.le_of_ble_eq_true rfl) (by decide) (Ci_mono (hF.2.1 c1).2 (fun r6 μ3 h4 => ?_))
    exact K_iret dFa_isProvedWithout_128 (Or.inr ⟨rfl, h4.1⟩) h4.2
  · refine K_iload 4 l4 dFa_isProvedWithout_17 rfl ?_
    refine K_iload_n 1 l1 dFa_isProvedWithout_19 rfl rfl ?_
    refine K_icmp_eq 27 dFa_isProvedWithout_20 (by decide) (fun c8 => ?_) (fun c8 => ?_)
    · refine K_iconst 0 dFa_isProvedWithout_27 rfl ?_
      refine K_istore 5 dFa_isProvedWithout_28 (Nat.le_of_ble_eq_true rfl) rfl ?_
      refine K_iconst 0 dFa_isProvedWithout_30 rfl ?_
      refine K_istore 6 dFa_isProvedWithout_31 (Nat.le_of_ble_eq_true rfl) rfl ?_
      exact ((hF.2.2 c1).1 c8)
    · refine K_iconst 1 dFa_isProvedWithout_23 rfl ?_
      refine K_goto 28 dFa_isProvedWithout_24 (by decide) ?_
      refine K_istore 5 dFa_isProvedWithout_28 (Nat.le_of_ble_eq_true rfl) rfl ?_
      refine K_iconst 0 dFa_isProvedWithout_30 rfl ?_
      refine K_istore 6 dFa_isProvedWithout_31 (Nat.le_of_ble_eq_true rfl) rfl ?_
      exact ((hF.2.2 c1).2 c8)
set_option maxHeartbeats 8000000 in
theorem vFa_isProvedWithout_33 {E : jE} {μ : jMu} {Q : Option AV → jMu → Prop} {b : Nat} (hb : isB b) {l1 l2 l4 l5 l6 : Int} (hF : ((μ 45 7) = ((b : Nat) : Int)) ∧ (Ci E mBk_nameCount [jvR ((b : Nat) : Int), jvI l4] μ (fun r4 μ1 => ((r4 ≤ l6 → ((l5 = 0 → ((-2147483648 ≤ (l4 + 1) ∧ (l4 + 1) < 2147483648)) ∧ (K 121 E mFa_isProvedWithout 5 [some (jvR 45), some (jvI l1), some (jvL l2), none, some (jvI (l4 + 1)), none, none] [] μ1 Q)) ∧ (¬ (l5 = 0) → ((0 ≤ l4 ∧ l4 < 40)) ∧ (Cl E mX_bit [jvI (μ1 46 l4)] μ1 (fun r12 μ9 => ((-2147483648 ≤ (l4 + 1) ∧ (l4 + 1) < 2147483648)) ∧ (K 121 E mFa_isProvedWithout 5 [some (jvR 45), some (jvI l1), some (jvL (ior64 l2 r12)), none, some (jvI (l4 + 1)), none, none] [] μ9 Q)))))) ∧ (¬ (r4 ≤ l6) → ((l5 = 0 → ((-2147483648 ≤ (l6 + 1) ∧ (l6 + 1) < 2147483648)) ∧ (K 121 E mFa_isProvedWithout 33 [some (jvR 45), some (jvI l1), some (jvL l2), none, some (jvI l4), some (jvI 0), some (jvI (l6 + 1))] [] μ1 Q)) ∧ (¬ (l5 = 0) → ((μ1 45 7) = ((b : Nat) : Int)) ∧ (Ci E mBk_named [jvR ((b : Nat) : Int), jvI l4, jvI l6] μ1 (fun r18 μ15 => ((0 ≤ r18 ∧ r18 < 40)) ∧ (Ci E mX_isIn [jvI (μ15 46 r18), jvL l2] μ15 (fun r22 μ19 => ((r22 = 0 → ((-2147483648 ≤ (l6 + 1) ∧ (l6 + 1) < 2147483648)) ∧ (K 121 E mFa_isProvedWithout 33 [some (jvR 45), some (jvI l1), some (jvL l2), none, some (jvI l4), some (jvI 0), some (jvI (l6 + 1))] [] μ19 Q)) ∧ (¬ (r22 = 0) → ((-2147483648 ≤ (l6 + 1) ∧ (l6 + 1) < 2147483648)) ∧ (K 121 E mFa_isProvedWithout 33 [some (jvR 45), some (jvI l1), some (jvL l2), none, some (jvI l4), some (jvI 1), some (jvI (l6 + 1))] [] μ19 Q)))))))))))))) : K 121 E mFa_isProvedWithout 33 [some (jvR 45), some (jvI l1), some (jvL l2), none, some (jvI l4), some (jvI l5), some (jvI l6)] [] μ Q := by
  refine K_iload 6 l6 dFa_isProvedWithout_33 rfl ?_
  refine K_aload_n 0 45 dFa_isProvedWithout_35 rfl rfl ?_
  refine K_getf 3 7 45 (jvR ((b : Nat) : Int)) dFa_isProvedWithout_36 pf_Fa_40 rfl rfl (by decide) rfl (congrArg jvR hF.1) ?_
  refine K_iload 4 l4 dFa_isProvedWithout_39 rfl ?_
  refine K_callVi mBk_nameCount 2 b [jvI l4] dFa_isProvedWithout_41 pm_Fa_108 ⟨_, rfl, rfl⟩ ⟨(Nat.le_of_ble_eq_true rfl), (Nat.le_of_ble_eq_true rfl)⟩ rfl (isB_c0 hb) (isB_n 0 (by decide) hb) (Nat.le_of_ble_eq_true rfl) rfl (Nat.le_of_ble_eq_true rfl) (by decide) (Ci_mono hF.2 (fun r4 μ1 h2 => ?_))
  refine K_icmp_ge 88 dFa_isProvedWithout_44 (by decide) (fun c5 => ?_) (fun c5 => ?_)
  · refine K_iload 5 l5 dFa_isProvedWithout_88 rfl ?_
    refine K_if_eq 106 dFa_isProvedWithout_90 (by decide) (fun c7 => ?_) (fun c7 => ?_)
    · refine K_iinc 4 dFa_isProvedWithout_106 (Nat.le_of_ble_eq_true rfl) rfl (w32_ok ((h2.1 c5).1 c7).1) rfl ?_
      refine K_goto 5 dFa_isProvedWithout_109 (by decide) ?_
      exact K_forget [true, true, true, true, true, false, false] ((h2.1 c5).1 c7).2
    · refine K_lload_n 2 l2 dFa_isProvedWithout_93 rfl rfl ?_
      refine K_aload_n 0 45 dFa_isProvedWithout_94 rfl rfl ?_
      refine K_getf 3 0 45 (jvR 46) dFa_isProvedWithout_95 pf_Fa_11 rfl rfl (by decide) rfl rfl ?_
      refine K_iload 4 l4 dFa_isProvedWithout_98 rfl ?_
      refine K_iald 46 40 dFa_isProvedWithout_100 rfl rfl (by decide) ((h2.1 c5).2 c7).1 ?_
      refine K_callNl mX_bit [jvI (μ1 46 l4)] dFa_isProvedWithout_101 pm_Fa_72 ⟨(Nat.le_of_ble_eq_true rfl), (Nat.le_of_ble_eq_true rfl)⟩ (Nat.le_of_ble_eq_true rfl) rfl (Nat.le_of_ble_eq_true rfl) (by decide) (Cl_mono ((h2.1 c5).2 c7).2 (fun r12 μ9 h10 => ?_))
      refine K_lor dFa_isProvedWithout_104 rfl ?_
      refine K_lstore_n 2 dFa_isProvedWithout_105 rfl (Nat.le_of_ble_eq_true rfl) rfl ?_
      refine K_iinc 4 dFa_isProvedWithout_106 (Nat.le_of_ble_eq_true rfl) rfl (w32_ok h10.1) rfl ?_
      refine K_goto 5 dFa_isProvedWithout_109 (by decide) ?_
      exact K_forget [true, true, true, true, true, false, false] h10.2
  · refine K_iload 5 l5 dFa_isProvedWithout_47 rfl ?_
    refine K_if_eq 79 dFa_isProvedWithout_49 (by decide) (fun c13 => ?_) (fun c13 => ?_)
    · refine K_iconst 0 dFa_isProvedWithout_79 rfl ?_
      refine K_istore 5 dFa_isProvedWithout_80 (Nat.le_of_ble_eq_true rfl) rfl ?_
      refine K_iinc 6 dFa_isProvedWithout_82 (Nat.le_of_ble_eq_true rfl) rfl (w32_ok ((h2.2 c5).1 c13).1) rfl ?_
      refine K_goto 33 dFa_isProvedWithout_85 (by decide) ?_
      exact ((h2.2 c5).1 c13).2
    · refine K_aload_n 0 45 dFa_isProvedWithout_52 rfl rfl ?_
      refine K_getf 3 0 45 (jvR 46) dFa_isProvedWithout_53 pf_Fa_11 rfl rfl (by decide) rfl rfl ?_
      refine K_aload_n 0 45 dFa_isProvedWithout_56 rfl rfl ?_
      refine K_getf 3 7 45 (jvR ((b : Nat) : Int)) dFa_isProvedWithout_57 pf_Fa_40 rfl rfl (by decide) rfl (congrArg jvR ((h2.2 c5).2 c13).1) ?_
      refine K_iload 4 l4 dFa_isProvedWithout_60 rfl ?_
      refine K_iload 6 l6 dFa_isProvedWithout_62 rfl ?_
      refine K_callVi mBk_named 2 b [jvI l4, jvI l6] dFa_isProvedWithout_64 pm_Fa_112 ⟨_, rfl, rfl⟩ ⟨(Nat.le_of_ble_eq_true rfl), (Nat.le_of_ble_eq_true rfl)⟩ rfl (isB_c0 hb) (isB_n 0 (by decide) hb) (Nat.le_of_ble_eq_true rfl) rfl (Nat.le_of_ble_eq_true rfl) (by decide) (Ci_mono ((h2.2 c5).2 c13).2 (fun r18 μ15 h16 => ?_))
      refine K_iald 46 40 dFa_isProvedWithout_67 rfl rfl (by decide) h16.1 ?_
      refine K_lload_n 2 l2 dFa_isProvedWithout_68 rfl rfl ?_
      refine K_callNi mX_isIn [jvI (μ15 46 r18), jvL l2] dFa_isProvedWithout_69 pm_Fa_133 ⟨(Nat.le_of_ble_eq_true rfl), (Nat.le_of_ble_eq_true rfl)⟩ (Nat.le_of_ble_eq_true rfl) rfl (Nat.le_of_ble_eq_true rfl) (by decide) (Ci_mono h16.2 (fun r22 μ19 h20 => ?_))
      refine K_if_eq 79 dFa_isProvedWithout_72 (by decide) (fun c23 => ?_) (fun c23 => ?_)
      · refine K_iconst 0 dFa_isProvedWithout_79 rfl ?_
        refine K_istore 5 dFa_isProvedWithout_80 (Nat.le_of_ble_eq_true rfl) rfl ?_
        refine K_iinc 6 dFa_isProvedWithout_82 (Nat.le_of_ble_eq_true rfl) rfl (w32_ok (h20.1 c23).1) rfl ?_
        refine K_goto 33 dFa_isProvedWithout_85 (by decide) ?_
        exact (h20.1 c23).2
      · refine K_iconst 1 dFa_isProvedWithout_75 rfl ?_
        refine K_goto 80 dFa_isProvedWithout_76 (by decide) ?_
        refine K_istore 5 dFa_isProvedWithout_80 (Nat.le_of_ble_eq_true rfl) rfl ?_
        refine K_iinc 6 dFa_isProvedWithout_82 (Nat.le_of_ble_eq_true rfl) rfl (w32_ok (h20.2 c23).1) rfl ?_
        refine K_goto 33 dFa_isProvedWithout_85 (by decide) ?_
        exact (h20.2 c23).2
set_option maxHeartbeats 8000000 in
theorem vX_isIn_0 {E : jE} {μ : jMu} {Q : Option AV → jMu → Prop} {a0 a1 : Int} (hF : (((iand64 (iushr64 a1 a0) 1) = 0 → (Q (some (jvI 0)) μ)) ∧ (¬ ((iand64 (iushr64 a1 a0) 1) = 0) → (Q (some (jvI 1)) μ)))) : K 121 E mX_isIn 0 [some (jvI a0), some (jvL a1), none] [] μ Q := by
  refine K_lload_n 1 a1 dX_isIn_0 rfl rfl ?_
  refine K_iload_n 0 a0 dX_isIn_1 rfl rfl ?_
  refine K_lushr dX_isIn_2 rfl ?_
  refine K_lconst 1 dX_isIn_3 rfl ?_
  refine K_land dX_isIn_4 rfl ?_
  refine K_lconst 0 dX_isIn_5 rfl ?_
  refine K_lcmp_eq 14 dX_isIn_6 dX_isIn_7 (by decide) (fun c1 => ?_) (fun c1 => ?_)
  · refine K_iconst 0 dX_isIn_14 rfl ?_
    exact K_iret dX_isIn_15 (Or.inr ⟨rfl, (by decide)⟩) (hF.1 c1)
  · refine K_iconst 1 dX_isIn_10 rfl ?_
    refine K_goto 15 dX_isIn_11 (by decide) ?_
    exact K_iret dX_isIn_15 (Or.inr ⟨rfl, (by decide)⟩) (hF.2 c1)
set_option maxHeartbeats 8000000 in
theorem vRe_gather_0 {E : jE} {μ : jMu} {Q : Option AV → jMu → Prop} {b : Nat} (hb : isB b) (hF : ((μ 45 7) = ((b : Nat) : Int)) ∧ (Cl E mRe_keptOf [jvR 45] μ (fun r4 μ1 => (K 121 E mRe_gather 18 [some (jvR 52), some (jvR 45), some (jvR ((b : Nat) : Int)), some (jvL r4), none, some (jvI 0)] [] (j_up μ1 52 6 0) Q)))) : K 121 E mRe_gather 0 [some (jvR 52), some (jvR 45), none, none, none, none] [] μ Q := by
  refine K_aload_n 1 45 dRe_gather_0 rfl rfl ?_
  refine K_getf 3 7 45 (jvR ((b : Nat) : Int)) dRe_gather_1 pf_Re_33 rfl rfl (by decide) rfl (congrArg jvR hF.1) ?_
  refine K_astore_n 2 dRe_gather_4 rfl (Nat.le_of_ble_eq_true rfl) rfl ?_
  refine K_aload_n 1 45 dRe_gather_5 rfl rfl ?_
  refine K_callSl mRe_keptOf [jvR 45] dRe_gather_6 pm_Re_39 ⟨(Nat.le_of_ble_eq_true rfl), (Nat.le_of_ble_eq_true rfl)⟩ (Nat.le_of_ble_eq_true rfl) rfl (Nat.le_of_ble_eq_true rfl) (by decide) (Cl_mono hF.2 (fun r4 μ1 h2 => ?_))
  refine K_lstore_n 3 dRe_gather_9 rfl (Nat.le_of_ble_eq_true rfl) rfl ?_
  refine K_aload_n 0 52 dRe_gather_10 rfl rfl ?_
  refine K_iconst 0 dRe_gather_11 rfl ?_
  refine K_putf 6 6 52 (x := 0) dRe_gather_12 pf_Re_43 rfl rfl (by decide) rfl rfl rfl rfl trivial ?_
  refine K_iconst 0 dRe_gather_15 rfl ?_
  refine K_istore 5 dRe_gather_16 (Nat.le_of_ble_eq_true rfl) rfl ?_
  exact h2
set_option maxHeartbeats 8000000 in
theorem vRe_gather_18 {E : jE} {μ : jMu} {Q : Option AV → jMu → Prop} {b : Nat} (hb : isB b) {l3 l5 : Int} (hF : (((μ b 13) ≤ l5 → (Q none μ)) ∧ (¬ ((μ b 13) ≤ l5) → ((0 ≤ l5 ∧ l5 < 40)) ∧ (Ci E mX_isIn [jvI l5, jvL l3] (j_up μ 54 l5 (-1)) (fun r7 μ4 => ((r7 = 0 → ((-2147483648 ≤ (l5 + 1) ∧ (l5 + 1) < 2147483648)) ∧ (K 121 E mRe_gather 18 [some (jvR 52), some (jvR 45), some (jvR ((b : Nat) : Int)), some (jvL l3), none, some (jvI (l5 + 1))] [] μ4 Q)) ∧ (¬ (r7 = 0) → ((0 ≤ l5 ∧ l5 < 40)) ∧ (Cv E mRe_add [jvR 52, jvR 45, jvI l5] (j_up μ4 54 l5 (μ4 52 6)) (fun μ10 => ((-2147483648 ≤ (l5 + 1) ∧ (l5 + 1) < 2147483648)) ∧ (K 121 E mRe_gather 18 [some (jvR 52), some (jvR 45), some (jvR ((b : Nat) : Int)), some (jvL l3), none, some (jvI (l5 + 1))] [] μ10 Q)))))))))) : K 121 E mRe_gather 18 [some (jvR 52), some (jvR 45), some (jvR ((b : Nat) : Int)), some (jvL l3), none, some (jvI l5)] [] μ Q := by
  refine K_iload 5 l5 dRe_gather_18 rfl ?_
  refine K_aload_n 2 ((b : Nat) : Int) dRe_gather_20 rfl rfl ?_
  refine K_getf 2 13 b (jvI (μ b 13)) dRe_gather_21 pf_Re_47 rfl (isB_c0 hb) (isB_n 0 (by decide) hb) rfl (isB_f0_13 hb) ?_
  refine K_icmp_ge 68 dRe_gather_24 (by decide) (fun c1 => ?_) (fun c1 => ?_)
  · exact K_vret dRe_gather_68 rfl (hF.1 c1)
  · refine K_aload_n 0 52 dRe_gather_27 rfl rfl ?_
    refine K_getf 6 1 52 (jvR 54) dRe_gather_28 pf_Re_17 rfl rfl (by decide) rfl rfl ?_
    refine K_iload 5 l5 dRe_gather_31 rfl ?_
    refine K_iconst (-1) dRe_gather_33 rfl ?_
    refine K_iast 54 40 dRe_gather_34 rfl rfl (by decide) (hF.2 c1).1 ?_
    refine K_iload 5 l5 dRe_gather_35 rfl ?_
    refine K_lload_n 3 l3 dRe_gather_37 rfl rfl ?_
    refine K_callNi mX_isIn [jvI l5, jvL l3] dRe_gather_38 pm_Re_50 ⟨(Nat.le_of_ble_eq_true rfl), (Nat.le_of_ble_eq_true rfl)⟩ (Nat.le_of_ble_eq_true rfl) rfl (Nat.le_of_ble_eq_true rfl) (by decide) (Ci_mono (hF.2 c1).2 (fun r7 μ4 h5 => ?_))
    refine K_if_eq 62 dRe_gather_41 (by decide) (fun c8 => ?_) (fun c8 => ?_)
    · refine K_iinc 5 dRe_gather_62 (Nat.le_of_ble_eq_true rfl) rfl (w32_ok (h5.1 c8).1) rfl ?_
      refine K_goto 18 dRe_gather_65 (by decide) ?_
      exact (h5.1 c8).2
    · refine K_aload_n 0 52 dRe_gather_44 rfl rfl ?_
      refine K_getf 6 1 52 (jvR 54) dRe_gather_45 pf_Re_17 rfl rfl (by decide) rfl rfl ?_
      refine K_iload 5 l5 dRe_gather_48 rfl ?_
      refine K_aload_n 0 52 dRe_gather_50 rfl rfl ?_
      refine K_getf 6 6 52 (jvI (μ4 52 6)) dRe_gather_51 pf_Re_43 rfl rfl (by decide) rfl rfl ?_
      refine K_iast 54 40 dRe_gather_54 rfl rfl (by decide) (h5.2 c8).1 ?_
      refine K_aload_n 0 52 dRe_gather_55 rfl rfl ?_
      refine K_aload_n 1 45 dRe_gather_56 rfl rfl ?_
      refine K_iload 5 l5 dRe_gather_57 rfl ?_
      refine K_callVv mRe_add 6 52 [jvR 45, jvI l5] dRe_gather_59 pm_Re_54 ⟨_, rfl, rfl⟩ ⟨(Nat.le_of_ble_eq_true rfl), (Nat.le_of_ble_eq_true rfl)⟩ rfl rfl (by decide) (Nat.le_of_ble_eq_true rfl) rfl (Nat.le_of_ble_eq_true rfl) (by decide) (Cv_mono (h5.2 c8).2 (fun μ10 h11 => ?_))
      refine K_iinc 5 dRe_gather_62 (Nat.le_of_ble_eq_true rfl) rfl (w32_ok h11.1) rfl ?_
      refine K_goto 18 dRe_gather_65 (by decide) ?_
      exact h11.2
set_option maxHeartbeats 8000000 in
theorem vRe_keptOf_0 {E : jE} {μ : jMu} {Q : Option AV → jMu → Prop} {b : Nat} (hb : isB b) (hF : ((μ 45 7) = ((b : Nat) : Int)) ∧ ((¬ (μ b 13) = 0 → ((0 ≤ (μ b 15) ∧ (μ b 15) < 40)) ∧ (Cl E mX_bit [jvI (μ 46 (μ b 15))] μ (fun r6 μ3 => (K 121 E mRe_keptOf 32 [some (jvR 45), some (jvR ((b : Nat) : Int)), some (jvI (μ 46 (μ b 15))), some (jvL r6), none, some (jvI (μ 46 (μ b 15))), none] [] μ3 Q)))) ∧ ((μ b 13) = 0 → (Q (some (jvL 0)) μ)))) : K 121 E mRe_keptOf 0 [some (jvR 45), none, none, none, none, none, none] [] μ Q := by
  refine K_aload_n 0 45 dRe_keptOf_0 rfl rfl ?_
  refine K_getf 3 7 45 (jvR ((b : Nat) : Int)) dRe_keptOf_1 pf_Re_33 rfl rfl (by decide) rfl (congrArg jvR hF.1) ?_
  refine K_astore_n 1 dRe_keptOf_4 rfl (Nat.le_of_ble_eq_true rfl) rfl ?_
  refine K_aload_n 1 ((b : Nat) : Int) dRe_keptOf_5 rfl rfl ?_
  refine K_getf 2 13 b (jvI (μ b 13)) dRe_keptOf_6 pf_Re_47 rfl (isB_c0 hb) (isB_n 0 (by decide) hb) rfl (isB_f0_13 hb) ?_
  refine K_if_ne 14 dRe_keptOf_9 (by decide) (fun c1 => ?_) (fun c1 => ?_)
  · refine K_aload_n 0 45 dRe_keptOf_14 rfl rfl ?_
    refine K_getf 3 0 45 (jvR 46) dRe_keptOf_15 pf_Re_58 rfl rfl (by decide) rfl rfl ?_
    refine K_aload_n 1 ((b : Nat) : Int) dRe_keptOf_18 rfl rfl ?_
    refine K_getf 2 15 b (jvI (μ b 15)) dRe_keptOf_19 pf_Re_61 rfl (isB_c0 hb) (isB_n 0 (by decide) hb) rfl (isB_f0_15 hb) ?_
    refine K_iald 46 40 dRe_keptOf_22 rfl rfl (by decide) (hF.2.1 c1).1 ?_
    refine K_istore_n 2 dRe_keptOf_23 rfl (Nat.le_of_ble_eq_true rfl) rfl ?_
    refine K_iload_n 2 (μ 46 (μ b 15)) dRe_keptOf_24 rfl rfl ?_
    refine K_callNl mX_bit [jvI (μ 46 (μ b 15))] dRe_keptOf_25 pm_Re_64 ⟨(Nat.le_of_ble_eq_true rfl), (Nat.le_of_ble_eq_true rfl)⟩ (Nat.le_of_ble_eq_true rfl) rfl (Nat.le_of_ble_eq_true rfl) (by decide) (Cl_mono (hF.2.1 c1).2 (fun r6 μ3 h4 => ?_))
    refine K_lstore_n 3 dRe_keptOf_28 rfl (Nat.le_of_ble_eq_true rfl) rfl ?_
    refine K_iload_n 2 (μ 46 (μ b 15)) dRe_keptOf_29 rfl rfl ?_
    refine K_istore 5 dRe_keptOf_30 (Nat.le_of_ble_eq_true rfl) rfl ?_
    exact h4
  · refine K_lconst 0 dRe_keptOf_12 rfl ?_
    exact K_lret dRe_keptOf_13 rfl (hF.2.2 c1)
set_option maxHeartbeats 8000000 in
theorem vRe_keptOf_32 {E : jE} {μ : jMu} {Q : Option AV → jMu → Prop} {b : Nat} (hb : isB b) {l2 l3 l5 : Int} (hF : ((l5 < 0 → (Q (some (jvL l3)) μ)) ∧ (¬ (l5 < 0) → (K 121 E mRe_keptOf 40 [some (jvR 45), some (jvR ((b : Nat) : Int)), some (jvI l2), some (jvL l3), none, some (jvI l5), some (jvI 0)] [] μ Q)))) : K 121 E mRe_keptOf 32 [some (jvR 45), some (jvR ((b : Nat) : Int)), some (jvI l2), some (jvL l3), none, some (jvI l5), none] [] μ Q := by
  refine K_iload 5 l5 dRe_keptOf_32 rfl ?_
  refine K_if_lt 91 dRe_keptOf_34 (by decide) (fun c1 => ?_) (fun c1 => ?_)
  · refine K_lload_n 3 l3 dRe_keptOf_91 rfl rfl ?_
    exact K_lret dRe_keptOf_92 rfl (hF.1 c1)
  · refine K_iconst 0 dRe_keptOf_37 rfl ?_
    refine K_istore 6 dRe_keptOf_38 (Nat.le_of_ble_eq_true rfl) rfl ?_
    exact (hF.2 c1)
set_option maxHeartbeats 8000000 in
theorem vRe_keptOf_40 {E : jE} {μ : jMu} {Q : Option AV → jMu → Prop} {b : Nat} (hb : isB b) {l2 l3 l5 l6 : Int} (hF : (Ci E mX_isIn [jvI l5, jvL l3] μ (fun r4 μ1 => ((r4 = 0 → ((-2147483648 ≤ (l5 - 1) ∧ (l5 - 1) < 2147483648)) ∧ (K 121 E mRe_keptOf 32 [some (jvR 45), some (jvR ((b : Nat) : Int)), some (jvI l2), some (jvL l3), none, some (jvI (l5 - 1)), none] [] μ1 Q)) ∧ (¬ (r4 = 0) → (Ci E mBk_nameCount [jvR ((b : Nat) : Int), jvI l5] μ1 (fun r10 μ7 => ((r10 ≤ l6 → ((-2147483648 ≤ (l5 - 1) ∧ (l5 - 1) < 2147483648)) ∧ (K 121 E mRe_keptOf 32 [some (jvR 45), some (jvR ((b : Nat) : Int)), some (jvI l2), some (jvL l3), none, some (jvI (l5 - 1)), none] [] μ7 Q)) ∧ (¬ (r10 ≤ l6) → (Ci E mBk_named [jvR ((b : Nat) : Int), jvI l5, jvI l6] μ7 (fun r16 μ13 => ((0 ≤ r16 ∧ r16 < 40)) ∧ (Cl E mX_bit [jvI (μ13 46 r16)] μ13 (fun r20 μ17 => ((-2147483648 ≤ (l6 + 1) ∧ (l6 + 1) < 2147483648)) ∧ (K 121 E mRe_keptOf 40 [some (jvR 45), some (jvR ((b : Nat) : Int)), some (jvI l2), some (jvL (ior64 l3 r20)), none, some (jvI l5), some (jvI (l6 + 1))] [] μ17 Q)))))))))))))) : K 121 E mRe_keptOf 40 [some (jvR 45), some (jvR ((b : Nat) : Int)), some (jvI l2), some (jvL l3), none, some (jvI l5), some (jvI l6)] [] μ Q := by
  refine K_iload 5 l5 dRe_keptOf_40 rfl ?_
  refine K_lload_n 3 l3 dRe_keptOf_42 rfl rfl ?_
  refine K_callNi mX_isIn [jvI l5, jvL l3] dRe_keptOf_43 pm_Re_50 ⟨(Nat.le_of_ble_eq_true rfl), (Nat.le_of_ble_eq_true rfl)⟩ (Nat.le_of_ble_eq_true rfl) rfl (Nat.le_of_ble_eq_true rfl) (by decide) (Ci_mono hF (fun r4 μ1 h2 => ?_))
  refine K_if_eq 85 dRe_keptOf_46 (by decide) (fun c5 => ?_) (fun c5 => ?_)
  · refine K_iinc 5 dRe_keptOf_85 (Nat.le_of_ble_eq_true rfl) rfl (w32_okn (h2.1 c5).1) rfl ?_
    refine K_goto 32 dRe_keptOf_88 (by decide) ?_
    exact K_forget [true, true, true, true, true, true, false] (h2.1 c5).2
  · refine K_iload 6 l6 dRe_keptOf_49 rfl ?_
    refine K_aload_n 1 ((b : Nat) : Int) dRe_keptOf_51 rfl rfl ?_
    refine K_iload 5 l5 dRe_keptOf_52 rfl ?_
    refine K_callVi mBk_nameCount 2 b [jvI l5] dRe_keptOf_54 pm_Re_68 ⟨_, rfl, rfl⟩ ⟨(Nat.le_of_ble_eq_true rfl), (Nat.le_of_ble_eq_true rfl)⟩ rfl (isB_c0 hb) (isB_n 0 (by decide) hb) (Nat.le_of_ble_eq_true rfl) rfl (Nat.le_of_ble_eq_true rfl) (by decide) (Ci_mono (h2.2 c5) (fun r10 μ7 h8 => ?_))
    refine K_icmp_ge 85 dRe_keptOf_57 (by decide) (fun c11 => ?_) (fun c11 => ?_)
    · refine K_iinc 5 dRe_keptOf_85 (Nat.le_of_ble_eq_true rfl) rfl (w32_okn (h8.1 c11).1) rfl ?_
      refine K_goto 32 dRe_keptOf_88 (by decide) ?_
      exact K_forget [true, true, true, true, true, true, false] (h8.1 c11).2
    · refine K_lload_n 3 l3 dRe_keptOf_60 rfl rfl ?_
      refine K_aload_n 0 45 dRe_keptOf_61 rfl rfl ?_
      refine K_getf 3 0 45 (jvR 46) dRe_keptOf_62 pf_Re_58 rfl rfl (by decide) rfl rfl ?_
      refine K_aload_n 1 ((b : Nat) : Int) dRe_keptOf_65 rfl rfl ?_
      refine K_iload 5 l5 dRe_keptOf_66 rfl ?_
      refine K_iload 6 l6 dRe_keptOf_68 rfl ?_
      refine K_callVi mBk_named 2 b [jvI l5, jvI l6] dRe_keptOf_70 pm_Re_72 ⟨_, rfl, rfl⟩ ⟨(Nat.le_of_ble_eq_true rfl), (Nat.le_of_ble_eq_true rfl)⟩ rfl (isB_c0 hb) (isB_n 0 (by decide) hb) (Nat.le_of_ble_eq_true rfl) rfl (Nat.le_of_ble_eq_true rfl) (by decide) (Ci_mono (h8.2 c11) (fun r16 μ13 h14 => ?_))
      refine K_iald 46 40 dRe_keptOf_73 rfl rfl (by decide) h14.1 ?_
      refine K_callNl mX_bit [jvI (μ13 46 r16)] dRe_keptOf_74 pm_Re_64 ⟨(Nat.le_of_ble_eq_true rfl), (Nat.le_of_ble_eq_true rfl)⟩ (Nat.le_of_ble_eq_true rfl) rfl (Nat.le_of_ble_eq_true rfl) (by decide) (Cl_mono h14.2 (fun r20 μ17 h18 => ?_))
      refine K_lor dRe_keptOf_77 rfl ?_
      refine K_lstore_n 3 dRe_keptOf_78 rfl (Nat.le_of_ble_eq_true rfl) rfl ?_
      refine K_iinc 6 dRe_keptOf_79 (Nat.le_of_ble_eq_true rfl) rfl (w32_ok h18.1) rfl ?_
      refine K_goto 40 dRe_keptOf_82 (by decide) ?_
      exact h18.2
set_option maxHeartbeats 8000000 in
theorem vRe_add_0 {E : jE} {μ : jMu} {Q : Option AV → jMu → Prop} {b : Nat} (hb : isB b) {a1 : Int} (hF : ((μ 45 7) = ((b : Nat) : Int) ∧ (0 ≤ (μ 52 6) ∧ (μ 52 6) < 40)) ∧ (Ci E mBk_nameCount [jvR ((b : Nat) : Int), jvI a1] (j_up μ 53 (μ 52 6) a1) (fun r4 μ1 => ((0 ≤ (μ 52 6) ∧ (μ 52 6) < 40) ∧ (0 ≤ (μ1 52 6) ∧ (μ1 52 6) < 40) ∧ (0 ≤ (μ1 52 6) ∧ (μ1 52 6) < 40)) ∧ (K 121 E mRe_add 52 [some (jvR 52), some (jvR 45), some (jvI a1), some (jvR ((b : Nat) : Int)), some (jvI 0), none] [] (j_up (j_up (j_up μ1 55 (μ 52 6) r4) 57 (μ1 52 6) 0) 58 (μ1 52 6) 0) Q)))) : K 121 E mRe_add 0 [some (jvR 52), some (jvR 45), some (jvI a1), none, none, none] [] μ Q := by
  refine K_aload_n 1 45 dRe_add_0 rfl rfl ?_
  refine K_getf 3 7 45 (jvR ((b : Nat) : Int)) dRe_add_1 pf_Re_33 rfl rfl (by decide) rfl (congrArg jvR hF.1.1) ?_
  refine K_astore_n 3 dRe_add_4 rfl (Nat.le_of_ble_eq_true rfl) rfl ?_
  refine K_aload_n 0 52 dRe_add_5 rfl rfl ?_
  refine K_getf 6 0 52 (jvR 53) dRe_add_6 pf_Re_11 rfl rfl (by decide) rfl rfl ?_
  refine K_aload_n 0 52 dRe_add_9 rfl rfl ?_
  refine K_getf 6 6 52 (jvI (μ 52 6)) dRe_add_10 pf_Re_43 rfl rfl (by decide) rfl rfl ?_
  refine K_iload_n 2 a1 dRe_add_13 rfl rfl ?_
  refine K_iast 53 40 dRe_add_14 rfl rfl (by decide) hF.1.2 ?_
  refine K_aload_n 0 52 dRe_add_15 rfl rfl ?_
  refine K_getf 6 2 52 (jvR 55) dRe_add_16 pf_Re_20 rfl rfl (by decide) rfl rfl ?_
  refine K_aload_n 0 52 dRe_add_19 rfl rfl ?_
  refine K_getf 6 6 52 (jvI (μ 52 6)) dRe_add_20 pf_Re_43 rfl rfl (by decide) rfl rfl ?_
  refine K_aload_n 3 ((b : Nat) : Int) dRe_add_23 rfl rfl ?_
  refine K_iload_n 2 a1 dRe_add_24 rfl rfl ?_
  refine K_callVi mBk_nameCount 2 b [jvI a1] dRe_add_25 pm_Re_68 ⟨_, rfl, rfl⟩ ⟨(Nat.le_of_ble_eq_true rfl), (Nat.le_of_ble_eq_true rfl)⟩ rfl (isB_c0 hb) (isB_n 0 (by decide) hb) (Nat.le_of_ble_eq_true rfl) rfl (Nat.le_of_ble_eq_true rfl) (by decide) (Ci_mono hF.2 (fun r4 μ1 h2 => ?_))
  refine K_iast 55 40 dRe_add_28 rfl rfl (by decide) h2.1.1 ?_
  refine K_aload_n 0 52 dRe_add_29 rfl rfl ?_
  refine K_getf 6 4 52 (jvR 57) dRe_add_30 pf_Re_26 rfl rfl (by decide) rfl rfl ?_
  refine K_aload_n 0 52 dRe_add_33 rfl rfl ?_
  refine K_getf 6 6 52 (jvI (μ1 52 6)) dRe_add_34 pf_Re_43 rfl rfl (by decide) rfl rfl ?_
  refine K_lconst 0 dRe_add_37 rfl ?_
  refine K_last 57 40 dRe_add_38 rfl rfl (by decide) h2.1.2.1 ?_
  refine K_aload_n 0 52 dRe_add_39 rfl rfl ?_
  refine K_getf 6 5 52 (jvR 58) dRe_add_40 pf_Re_30 rfl rfl (by decide) rfl rfl ?_
  refine K_aload_n 0 52 dRe_add_43 rfl rfl ?_
  refine K_getf 6 6 52 (jvI (μ1 52 6)) dRe_add_44 pf_Re_43 rfl rfl (by decide) rfl rfl ?_
  refine K_lconst 0 dRe_add_47 rfl ?_
  refine K_last 58 40 dRe_add_48 rfl rfl (by decide) h2.1.2.2 ?_
  refine K_iconst 0 dRe_add_49 rfl ?_
  refine K_istore 4 dRe_add_50 (Nat.le_of_ble_eq_true rfl) rfl ?_
  exact h2.2
set_option maxHeartbeats 8000000 in
theorem vRe_add_52 {E : jE} {μ : jMu} {Q : Option AV → jMu → Prop} {b : Nat} (hb : isB b) {l2 l4 : Int} (hF : ((0 ≤ (μ 52 6) ∧ (μ 52 6) < 40)) ∧ (((μ 55 (μ 52 6)) ≤ l4 → ((-2147483648 ≤ ((μ 52 6) + 1) ∧ ((μ 52 6) + 1) < 2147483648)) ∧ (Q none (j_up μ 52 6 ((μ 52 6) + 1)))) ∧ (¬ ((μ 55 (μ 52 6)) ≤ l4) → (Ci E mBk_named [jvR ((b : Nat) : Int), jvI l2, jvI l4] μ (fun r7 μ4 => ((0 ≤ r7 ∧ r7 < 40) ∧ (0 ≤ (μ4 46 r7) ∧ (μ4 46 r7) < 40) ∧ (-2147483648 ≤ (3 * (μ4 52 6)) ∧ (3 * (μ4 52 6)) < 2147483648) ∧ (-2147483648 ≤ ((3 * (μ4 52 6)) + l4) ∧ ((3 * (μ4 52 6)) + l4) < 2147483648) ∧ (0 ≤ ((3 * (μ4 52 6)) + l4) ∧ ((3 * (μ4 52 6)) + l4) < 120) ∧ (0 ≤ (μ4 52 6) ∧ (μ4 52 6) < 40)) ∧ (Cl E mX_bit [jvI (μ4 54 (μ4 46 r7))] (j_up μ4 56 ((3 * (μ4 52 6)) + l4) (μ4 54 (μ4 46 r7))) (fun r11 μ8 => ((0 ≤ (μ4 52 6) ∧ (μ4 52 6) < 40) ∧ (0 ≤ (μ4 54 (μ4 46 r7)) ∧ (μ4 54 (μ4 46 r7)) < 40)) ∧ (Cl E mX_bit [jvI (μ8 52 6)] (j_up μ8 57 (μ4 52 6) (ior64 (μ4 57 (μ4 52 6)) r11)) (fun r15 μ12 => ((0 ≤ (μ4 54 (μ4 46 r7)) ∧ (μ4 54 (μ4 46 r7)) < 40) ∧ (-2147483648 ≤ (l4 + 1) ∧ (l4 + 1) < 2147483648)) ∧ (K 121 E mRe_add 52 [some (jvR 52), some (jvR 45), some (jvI l2), some (jvR ((b : Nat) : Int)), some (jvI (l4 + 1)), none] [] (j_up μ12 58 (μ4 54 (μ4 46 r7)) (ior64 (μ8 58 (μ4 54 (μ4 46 r7))) r15)) Q)))))))))) : K 121 E mRe_add 52 [some (jvR 52), some (jvR 45), some (jvI l2), some (jvR ((b : Nat) : Int)), some (jvI l4), none] [] μ Q := by
  refine K_iload 4 l4 dRe_add_52 rfl ?_
  refine K_aload_n 0 52 dRe_add_54 rfl rfl ?_
  refine K_getf 6 2 52 (jvR 55) dRe_add_55 pf_Re_20 rfl rfl (by decide) rfl rfl ?_
  refine K_aload_n 0 52 dRe_add_58 rfl rfl ?_
  refine K_getf 6 6 52 (jvI (μ 52 6)) dRe_add_59 pf_Re_43 rfl rfl (by decide) rfl rfl ?_
  refine K_iald 55 40 dRe_add_62 rfl rfl (by decide) hF.1 ?_
  refine K_icmp_ge 141 dRe_add_63 (by decide) (fun c1 => ?_) (fun c1 => ?_)
  · refine K_aload_n 0 52 dRe_add_141 rfl rfl ?_
    refine K_dup dRe_add_142 (fun _ h => by cases h) ?_
    refine K_getf 6 6 52 (jvI (μ 52 6)) dRe_add_143 pf_Re_43 rfl rfl (by decide) rfl rfl ?_
    refine K_iconst 1 dRe_add_146 rfl ?_
    refine K_iadd dRe_add_147 (w32_id (hF.2.1 c1).1) ?_
    refine K_putf 6 6 52 (x := ((μ 52 6) + 1)) dRe_add_148 pf_Re_43 rfl rfl (by decide) rfl rfl rfl rfl trivial ?_
    exact K_vret dRe_add_151 rfl (hF.2.1 c1).2
  · refine K_aload_n 0 52 dRe_add_66 rfl rfl ?_
    refine K_getf 6 1 52 (jvR 54) dRe_add_67 pf_Re_17 rfl rfl (by decide) rfl rfl ?_
    refine K_aload_n 1 45 dRe_add_70 rfl rfl ?_
    refine K_getf 3 0 45 (jvR 46) dRe_add_71 pf_Re_58 rfl rfl (by decide) rfl rfl ?_
    refine K_aload_n 3 ((b : Nat) : Int) dRe_add_74 rfl rfl ?_
    refine K_iload_n 2 l2 dRe_add_75 rfl rfl ?_
    refine K_iload 4 l4 dRe_add_76 rfl ?_
    refine K_callVi mBk_named 2 b [jvI l2, jvI l4] dRe_add_78 pm_Re_72 ⟨_, rfl, rfl⟩ ⟨(Nat.le_of_ble_eq_true rfl), (Nat.le_of_ble_eq_true rfl)⟩ rfl (isB_c0 hb) (isB_n 0 (by decide) hb) (Nat.le_of_ble_eq_true rfl) rfl (Nat.le_of_ble_eq_true rfl) (by decide) (Ci_mono (hF.2.2 c1) (fun r7 μ4 h5 => ?_))
    refine K_iald 46 40 dRe_add_81 rfl rfl (by decide) h5.1.1 ?_
    refine K_iald 54 40 dRe_add_82 rfl rfl (by decide) h5.1.2.1 ?_
    refine K_istore 5 dRe_add_83 (Nat.le_of_ble_eq_true rfl) rfl ?_
    refine K_aload_n 0 52 dRe_add_85 rfl rfl ?_
    refine K_getf 6 3 52 (jvR 56) dRe_add_86 pf_Re_23 rfl rfl (by decide) rfl rfl ?_
    refine K_iconst 3 dRe_add_89 rfl ?_
    refine K_aload_n 0 52 dRe_add_90 rfl rfl ?_
    refine K_getf 6 6 52 (jvI (μ4 52 6)) dRe_add_91 pf_Re_43 rfl rfl (by decide) rfl rfl ?_
    refine K_imul dRe_add_94 (w32_id h5.1.2.2.1) ?_
    refine K_iload 4 l4 dRe_add_95 rfl ?_
    refine K_iadd dRe_add_97 (w32_id h5.1.2.2.2.1) ?_
    refine K_iload 5 (μ4 54 (μ4 46 r7)) dRe_add_98 rfl ?_
    refine K_iast 56 120 dRe_add_100 rfl rfl (by decide) h5.1.2.2.2.2.1 ?_
    refine K_aload_n 0 52 dRe_add_101 rfl rfl ?_
    refine K_getf 6 4 52 (jvR 57) dRe_add_102 pf_Re_26 rfl rfl (by decide) rfl rfl ?_
    refine K_aload_n 0 52 dRe_add_105 rfl rfl ?_
    refine K_getf 6 6 52 (jvI (μ4 52 6)) dRe_add_106 pf_Re_43 rfl rfl (by decide) rfl rfl ?_
    refine K_dup2 dRe_add_109 (fun _ h => by cases h) (fun _ h => by cases h) ?_
    refine K_lald 57 40 dRe_add_110 rfl rfl (by decide) h5.1.2.2.2.2.2 ?_
    refine K_iload 5 (μ4 54 (μ4 46 r7)) dRe_add_111 rfl ?_
    refine K_callNl mX_bit [jvI (μ4 54 (μ4 46 r7))] dRe_add_113 pm_Re_64 ⟨(Nat.le_of_ble_eq_true rfl), (Nat.le_of_ble_eq_true rfl)⟩ (Nat.le_of_ble_eq_true rfl) rfl (Nat.le_of_ble_eq_true rfl) (by decide) (Cl_mono h5.2 (fun r11 μ8 h9 => ?_))
    refine K_lor dRe_add_116 rfl ?_
    refine K_last 57 40 dRe_add_117 rfl rfl (by decide) h9.1.1 ?_
    refine K_aload_n 0 52 dRe_add_118 rfl rfl ?_
    refine K_getf 6 5 52 (jvR 58) dRe_add_119 pf_Re_30 rfl rfl (by decide) rfl rfl ?_
    refine K_iload 5 (μ4 54 (μ4 46 r7)) dRe_add_122 rfl ?_
    refine K_dup2 dRe_add_124 (fun _ h => by cases h) (fun _ h => by cases h) ?_
    refine K_lald 58 40 dRe_add_125 rfl rfl (by decide) h9.1.2 ?_
    refine K_aload_n 0 52 dRe_add_126 rfl rfl ?_
    refine K_getf 6 6 52 (jvI (μ8 52 6)) dRe_add_127 pf_Re_43 rfl rfl (by decide) rfl rfl ?_
    refine K_callNl mX_bit [jvI (μ8 52 6)] dRe_add_130 pm_Re_64 ⟨(Nat.le_of_ble_eq_true rfl), (Nat.le_of_ble_eq_true rfl)⟩ (Nat.le_of_ble_eq_true rfl) rfl (Nat.le_of_ble_eq_true rfl) (by decide) (Cl_mono h9.2 (fun r15 μ12 h13 => ?_))
    refine K_lor dRe_add_133 rfl ?_
    refine K_last 58 40 dRe_add_134 rfl rfl (by decide) h13.1.1 ?_
    refine K_iinc 4 dRe_add_135 (Nat.le_of_ble_eq_true rfl) rfl (w32_ok h13.1.2) rfl ?_
    refine K_goto 52 dRe_add_138 (by decide) ?_
    exact K_forget [true, true, true, true, true, false] h13.2
set_option maxHeartbeats 8000000 in
theorem vX_setWrong_0 {E : jE} {μ : jMu} {Q : Option AV → jMu → Prop} {b : Nat} (hb : isB b) {a0 : Int} (hF : ((μ 0 9) = ((b : Nat) : Int)) ∧ (Cl E mBk_fallenBy [jvR ((b : Nat) : Int), jvI a0] (j_up μ 0 13 a0) (fun r4 μ1 => (Q none (j_up (j_up μ1 0 14 r4) 69 4 0))))) : K 121 E mX_setWrong 0 [some (jvR 0), some (jvI a0)] [] μ Q := by
  refine K_aload_n 0 0 dX_setWrong_0 rfl rfl ?_
  refine K_iload_n 1 a0 dX_setWrong_1 rfl rfl ?_
  refine K_putf 0 13 0 (x := a0) dX_setWrong_2 pf_X_92 rfl rfl (by decide) rfl rfl rfl rfl trivial ?_
  refine K_aload_n 0 0 dX_setWrong_5 rfl rfl ?_
  refine K_aload_n 0 0 dX_setWrong_6 rfl rfl ?_
  refine K_getf 0 9 0 (jvR ((b : Nat) : Int)) dX_setWrong_7 pf_X_26 rfl rfl (by decide) rfl (congrArg jvR hF.1) ?_
  refine K_iload_n 1 a0 dX_setWrong_10 rfl rfl ?_
  refine K_callVl mBk_fallenBy 2 b [jvI a0] dX_setWrong_11 pm_X_217 ⟨_, rfl, rfl⟩ ⟨(Nat.le_of_ble_eq_true rfl), (Nat.le_of_ble_eq_true rfl)⟩ rfl (isB_c0 hb) (isB_n 0 (by decide) hb) (Nat.le_of_ble_eq_true rfl) rfl (Nat.le_of_ble_eq_true rfl) (by decide) (Cl_mono hF.2 (fun r4 μ1 h2 => ?_))
  refine K_putf 0 14 0 (x := r4) dX_setWrong_14 pf_X_95 rfl rfl (by decide) rfl rfl rfl rfl trivial ?_
  refine K_aload_n 0 0 dX_setWrong_17 rfl rfl ?_
  refine K_getf 0 6 0 (jvR 69) dX_setWrong_18 pf_X_66 rfl rfl (by decide) rfl rfl ?_
  refine K_iconst 0 dX_setWrong_21 rfl ?_
  refine K_putf 11 4 69 (x := 0) dX_setWrong_22 pf_X_405 rfl rfl (by decide) rfl rfl rfl rfl (Or.inl rfl) ?_
  exact K_vret dX_setWrong_25 rfl h2
set_option maxHeartbeats 8000000 in
theorem vBk_fallenBy_0 {E : jE} {μ : jMu} {Q : Option AV → jMu → Prop} {b : Nat} (hb : isB b) {a0 : Int} (hF : (K 121 E mBk_fallenBy 5 [some (jvR ((b : Nat) : Int)), some (jvI a0), some (jvL 0), none, some (jvI 0), none, none] [] μ Q)) : K 121 E mBk_fallenBy 0 [some (jvR ((b : Nat) : Int)), some (jvI a0), none, none, none, none, none] [] μ Q := by
  refine K_lconst 0 dBk_fallenBy_0 rfl ?_
  refine K_lstore_n 2 dBk_fallenBy_1 rfl (Nat.le_of_ble_eq_true rfl) rfl ?_
  refine K_iconst 0 dBk_fallenBy_2 rfl ?_
  refine K_istore 4 dBk_fallenBy_3 (Nat.le_of_ble_eq_true rfl) rfl ?_
  exact hF
set_option maxHeartbeats 8000000 in
theorem vBk_fallenBy_5 {E : jE} {μ : jMu} {Q : Option AV → jMu → Prop} {b : Nat} (hb : isB b) {l1 l2 l4 : Int} (hF : (((μ b 13) ≤ l4 → (Q (some (jvL l2)) μ)) ∧ (¬ ((μ b 13) ≤ l4) → ((0 ≤ l4 ∧ l4 < 40)) ∧ (((iand32 (ishr32 l1 (μ (b + 12) l4)) 1) = 0 → (K 121 E mBk_fallenBy 38 [some (jvR ((b : Nat) : Int)), some (jvI l1), some (jvL l2), none, some (jvI l4), some (jvI 0), some (jvI 0)] [] μ Q)) ∧ (¬ ((iand32 (ishr32 l1 (μ (b + 12) l4)) 1) = 0) → (K 121 E mBk_fallenBy 38 [some (jvR ((b : Nat) : Int)), some (jvI l1), some (jvL l2), none, some (jvI l4), some (jvI 1), some (jvI 0)] [] μ Q)))))) : K 121 E mBk_fallenBy 5 [some (jvR ((b : Nat) : Int)), some (jvI l1), some (jvL l2), none, some (jvI l4), none, none] [] μ Q := by
  refine K_iload 4 l4 dBk_fallenBy_5 rfl ?_
  refine K_aload_n 0 ((b : Nat) : Int) dBk_fallenBy_7 rfl rfl ?_
  refine K_getf 2 13 b (jvI (μ b 13)) dBk_fallenBy_8 pf_Bk_62 rfl (isB_c0 hb) (isB_n 0 (by decide) hb) rfl (isB_f0_13 hb) ?_
  refine K_icmp_ge 101 dBk_fallenBy_11 (by decide) (fun c1 => ?_) (fun c1 => ?_)
  · refine K_lload_n 2 l2 dBk_fallenBy_101 rfl rfl ?_
    exact K_lret dBk_fallenBy_102 rfl (hF.1 c1)
  · refine K_iload_n 1 l1 dBk_fallenBy_14 rfl rfl ?_
    refine K_aload_n 0 ((b : Nat) : Int) dBk_fallenBy_15 rfl rfl ?_
    refine K_getf 2 5 b (jvR ((b + 12 : Nat) : Int)) dBk_fallenBy_16 pf_Bk_31 rfl (isB_c0 hb) (isB_n 0 (by decide) hb) rfl (isB_f0_5 hb) ?_
    refine K_iload 4 l4 dBk_fallenBy_19 rfl ?_
    refine K_iald (b + 12) 40 dBk_fallenBy_21 rfl (isB_c12 hb) (isB_n 12 (by decide) hb) (hF.2 c1).1 ?_
    refine K_ishr dBk_fallenBy_22 rfl ?_
    refine K_iconst 1 dBk_fallenBy_23 rfl ?_
    refine K_iand dBk_fallenBy_24 rfl ?_
    refine K_if_eq 32 dBk_fallenBy_25 (by decide) (fun c4 => ?_) (fun c4 => ?_)
    · refine K_iconst 0 dBk_fallenBy_32 rfl ?_
      refine K_istore 5 dBk_fallenBy_33 (Nat.le_of_ble_eq_true rfl) rfl ?_
      refine K_iconst 0 dBk_fallenBy_35 rfl ?_
      refine K_istore 6 dBk_fallenBy_36 (Nat.le_of_ble_eq_true rfl) rfl ?_
      exact ((hF.2 c1).2.1 c4)
    · refine K_iconst 1 dBk_fallenBy_28 rfl ?_
      refine K_goto 33 dBk_fallenBy_29 (by decide) ?_
      refine K_istore 5 dBk_fallenBy_33 (Nat.le_of_ble_eq_true rfl) rfl ?_
      refine K_iconst 0 dBk_fallenBy_35 rfl ?_
      refine K_istore 6 dBk_fallenBy_36 (Nat.le_of_ble_eq_true rfl) rfl ?_
      exact ((hF.2 c1).2.2 c4)
set_option maxHeartbeats 8000000 in
theorem vBk_fallenBy_38 {E : jE} {μ : jMu} {Q : Option AV → jMu → Prop} {b : Nat} (hb : isB b) {l1 l2 l4 l5 l6 : Int} (hF : (Ci E mBk_nameCount [jvR ((b : Nat) : Int), jvI l4] μ (fun r4 μ1 => ((r4 ≤ l6 → ((l5 = 0 → ((-2147483648 ≤ (l4 + 1) ∧ (l4 + 1) < 2147483648)) ∧ (K 121 E mBk_fallenBy 5 [some (jvR ((b : Nat) : Int)), some (jvI l1), some (jvL l2), none, some (jvI (l4 + 1)), none, none] [] μ1 Q)) ∧ (¬ (l5 = 0) → (Cl E mX_bit [jvI l4] μ1 (fun r12 μ9 => ((-2147483648 ≤ (l4 + 1) ∧ (l4 + 1) < 2147483648)) ∧ (K 121 E mBk_fallenBy 5 [some (jvR ((b : Nat) : Int)), some (jvI l1), some (jvL (ior64 l2 r12)), none, some (jvI (l4 + 1)), none, none] [] μ9 Q)))))) ∧ (¬ (r4 ≤ l6) → ((¬ l5 = 0 → ((-2147483648 ≤ (l6 + 1) ∧ (l6 + 1) < 2147483648)) ∧ (K 121 E mBk_fallenBy 38 [some (jvR ((b : Nat) : Int)), some (jvI l1), some (jvL l2), none, some (jvI l4), some (jvI 1), some (jvI (l6 + 1))] [] μ1 Q)) ∧ (l5 = 0 → (Ci E mBk_named [jvR ((b : Nat) : Int), jvI l4, jvI l6] μ1 (fun r18 μ15 => (Ci E mX_isIn [jvI r18, jvL l2] μ15 (fun r22 μ19 => ((r22 = 0 → ((-2147483648 ≤ (l6 + 1) ∧ (l6 + 1) < 2147483648)) ∧ (K 121 E mBk_fallenBy 38 [some (jvR ((b : Nat) : Int)), some (jvI l1), some (jvL l2), none, some (jvI l4), some (jvI 0), some (jvI (l6 + 1))] [] μ19 Q)) ∧ (¬ (r22 = 0) → ((-2147483648 ≤ (l6 + 1) ∧ (l6 + 1) < 2147483648)) ∧ (K 121 E mBk_fallenBy 38 [some (jvR ((b : Nat) : Int)), some (jvI l1), some (jvL l2), none, some (jvI l4), some (jvI 1), some (jvI (l6 + 1))] [] μ19 Q)))))))))))))) : K 121 E mBk_fallenBy 38 [some (jvR ((b : Nat) : Int)), some (jvI l1), some (jvL l2), none, some (jvI l4), some (jvI l5), some (jvI l6)] [] μ Q := by
  refine K_iload 6 l6 dBk_fallenBy_38 rfl ?_
  refine K_aload_n 0 ((b : Nat) : Int) dBk_fallenBy_40 rfl rfl ?_
  refine K_iload 4 l4 dBk_fallenBy_41 rfl ?_
  refine K_callVi mBk_nameCount 2 b [jvI l4] dBk_fallenBy_43 pm_Bk_72 ⟨_, rfl, rfl⟩ ⟨(Nat.le_of_ble_eq_true rfl), (Nat.le_of_ble_eq_true rfl)⟩ rfl (isB_c0 hb) (isB_n 0 (by decide) hb) (Nat.le_of_ble_eq_true rfl) rfl (Nat.le_of_ble_eq_true rfl) (by decide) (Ci_mono hF (fun r4 μ1 h2 => ?_))
  refine K_icmp_ge 82 dBk_fallenBy_46 (by decide) (fun c5 => ?_) (fun c5 => ?_)
  · refine K_iload 5 l5 dBk_fallenBy_82 rfl ?_
    refine K_if_eq 95 dBk_fallenBy_84 (by decide) (fun c7 => ?_) (fun c7 => ?_)
    · refine K_iinc 4 dBk_fallenBy_95 (Nat.le_of_ble_eq_true rfl) rfl (w32_ok ((h2.1 c5).1 c7).1) rfl ?_
      refine K_goto 5 dBk_fallenBy_98 (by decide) ?_
      exact K_forget [true, true, true, true, true, false, false] ((h2.1 c5).1 c7).2
    · refine K_lload_n 2 l2 dBk_fallenBy_87 rfl rfl ?_
      refine K_iload 4 l4 dBk_fallenBy_88 rfl ?_
      refine K_callNl mX_bit [jvI l4] dBk_fallenBy_90 pm_Bk_68 ⟨(Nat.le_of_ble_eq_true rfl), (Nat.le_of_ble_eq_true rfl)⟩ (Nat.le_of_ble_eq_true rfl) rfl (Nat.le_of_ble_eq_true rfl) (by decide) (Cl_mono ((h2.1 c5).2 c7) (fun r12 μ9 h10 => ?_))
      refine K_lor dBk_fallenBy_93 rfl ?_
      refine K_lstore_n 2 dBk_fallenBy_94 rfl (Nat.le_of_ble_eq_true rfl) rfl ?_
      refine K_iinc 4 dBk_fallenBy_95 (Nat.le_of_ble_eq_true rfl) rfl (w32_ok h10.1) rfl ?_
      refine K_goto 5 dBk_fallenBy_98 (by decide) ?_
      exact K_forget [true, true, true, true, true, false, false] h10.2
  · refine K_iload 5 l5 dBk_fallenBy_49 rfl ?_
    refine K_if_ne 69 dBk_fallenBy_51 (by decide) (fun c13 => ?_) (fun c13 => ?_)
    · refine K_iconst 1 dBk_fallenBy_69 rfl ?_
      refine K_goto 74 dBk_fallenBy_70 (by decide) ?_
      refine K_istore 5 dBk_fallenBy_74 (Nat.le_of_ble_eq_true rfl) rfl ?_
      refine K_iinc 6 dBk_fallenBy_76 (Nat.le_of_ble_eq_true rfl) rfl (w32_ok ((h2.2 c5).1 c13).1) rfl ?_
      refine K_goto 38 dBk_fallenBy_79 (by decide) ?_
      exact ((h2.2 c5).1 c13).2
    · refine K_aload_n 0 ((b : Nat) : Int) dBk_fallenBy_54 rfl rfl ?_
      refine K_iload 4 l4 dBk_fallenBy_55 rfl ?_
      refine K_iload 6 l6 dBk_fallenBy_57 rfl ?_
      refine K_callVi mBk_named 2 b [jvI l4, jvI l6] dBk_fallenBy_59 pm_Bk_76 ⟨_, rfl, rfl⟩ ⟨(Nat.le_of_ble_eq_true rfl), (Nat.le_of_ble_eq_true rfl)⟩ rfl (isB_c0 hb) (isB_n 0 (by decide) hb) (Nat.le_of_ble_eq_true rfl) rfl (Nat.le_of_ble_eq_true rfl) (by decide) (Ci_mono ((h2.2 c5).2 c13) (fun r18 μ15 h16 => ?_))
      refine K_lload_n 2 l2 dBk_fallenBy_62 rfl rfl ?_
      refine K_callNi mX_isIn [jvI r18, jvL l2] dBk_fallenBy_63 pm_Bk_80 ⟨(Nat.le_of_ble_eq_true rfl), (Nat.le_of_ble_eq_true rfl)⟩ (Nat.le_of_ble_eq_true rfl) rfl (Nat.le_of_ble_eq_true rfl) (by decide) (Ci_mono h16 (fun r22 μ19 h20 => ?_))
      refine K_if_eq 73 dBk_fallenBy_66 (by decide) (fun c23 => ?_) (fun c23 => ?_)
      · refine K_iconst 0 dBk_fallenBy_73 rfl ?_
        refine K_istore 5 dBk_fallenBy_74 (Nat.le_of_ble_eq_true rfl) rfl ?_
        refine K_iinc 6 dBk_fallenBy_76 (Nat.le_of_ble_eq_true rfl) rfl (w32_ok (h20.1 c23).1) rfl ?_
        refine K_goto 38 dBk_fallenBy_79 (by decide) ?_
        exact (h20.1 c23).2
      · refine K_iconst 1 dBk_fallenBy_69 rfl ?_
        refine K_goto 74 dBk_fallenBy_70 (by decide) ?_
        refine K_istore 5 dBk_fallenBy_74 (Nat.le_of_ble_eq_true rfl) rfl ?_
        refine K_iinc 6 dBk_fallenBy_76 (Nat.le_of_ble_eq_true rfl) rfl (w32_ok (h20.2 c23).1) rfl ?_
        refine K_goto 38 dBk_fallenBy_79 (by decide) ?_
        exact (h20.2 c23).2
set_option maxHeartbeats 8000000 in
theorem vX_fault_0 {E : jE} {μ : jMu} {Q : Option AV → jMu → Prop} {a0 : Int} (hF : ((a0 = 0 → (Q (some (jvI (μ 0 11))) μ)) ∧ (a0 = 1 → (Q (some (jvI (μ 0 12))) μ)) ∧ ((¬ a0 = 0 ∧ ¬ a0 = 1) → (Q (some (jvI (-1))) μ)))) : K 121 E mX_fault 0 [some (jvR 0), some (jvI a0)] [] μ Q := by
  refine K_iload_n 1 a0 dX_fault_0 rfl rfl ?_
  refine K_lookup dX_fault_1 (by decide) ?_
  by_cases c20 : a0 = 0
  · refine ⟨28, by simp [Op.lookupswitch.offset, c20], ?_⟩
    refine K_aload_n 0 0 dX_fault_28 rfl rfl ?_
    refine K_getf 0 11 0 (jvI (μ 0 11)) dX_fault_29 pf_X_85 rfl rfl (by decide) rfl rfl ?_
    exact K_iret dX_fault_32 (Or.inl rfl) (hF.1 c20)
  by_cases c21 : a0 = 1
  · refine ⟨33, by simp [Op.lookupswitch.offset, Ne.symm c20, c21], ?_⟩
    refine K_aload_n 0 0 dX_fault_33 rfl rfl ?_
    refine K_getf 0 12 0 (jvI (μ 0 12)) dX_fault_34 pf_X_89 rfl rfl (by decide) rfl rfl ?_
    exact K_iret dX_fault_37 (Or.inl rfl) (hF.2.1 c21)
  refine ⟨38, by simp [Op.lookupswitch.offset, Ne.symm c20, Ne.symm c21], ?_⟩
  refine K_iconst (-1) dX_fault_38 rfl ?_
  exact K_iret dX_fault_39 (Or.inl rfl) (hF.2.2 ⟨c20, c21⟩)
set_option maxHeartbeats 8000000 in
theorem vX_has_0 {E : jE} {μ : jMu} {Q : Option AV → jMu → Prop} {b : Nat} (hb : isB b) {a0 : Int} (hF : ((a0 = 0 → ((μ 0 9) = ((b : Nat) : Int)) ∧ (Q (some (jvI (μ b 12))) μ)) ∧ (a0 = 1 → ((μ 0 9) = ((b : Nat) : Int)) ∧ (Q (some (jvI (μ b 13))) μ)) ∧ (a0 = 2 → ((μ 0 9) = ((b : Nat) : Int)) ∧ (Q (some (jvI (μ b 14))) μ)) ∧ (a0 = 3 → ((μ 0 9) = ((b : Nat) : Int)) ∧ (Q (some (jvI (μ (b + 1) 6))) μ)) ∧ (a0 = 4 → ((μ 0 9) = ((b : Nat) : Int)) ∧ (Q (some (jvI (μ (b + 1) 7))) μ)) ∧ (a0 = 5 → ((μ 0 9) = ((b : Nat) : Int)) ∧ (Q (some (jvI (μ b 15))) μ)) ∧ (a0 = 6 → (Ci E mLg_bitCount [jvL (μ 45 8)] μ (fun r12 μ9 => (Q (some (jvI r12)) μ9)))) ∧ (a0 = 7 → (Ci E mLg_bitCount [jvL (μ 45 9)] μ (fun r17 μ14 => (Q (some (jvI r17)) μ14)))) ∧ (a0 = 8 → (Ci E mLg_bitCount [jvL (μ 45 10)] μ (fun r22 μ19 => (Q (some (jvI r22)) μ19)))) ∧ (a0 = 9 → (Ci E mLg_bitCount [jvL (μ 45 11)] μ (fun r27 μ24 => (Q (some (jvI r27)) μ24)))) ∧ (a0 = 10 → (Q (some (jvI (μ 52 6))) μ)) ∧ (a0 = 11 → (Ci E mIg_bitCount [jvI (μ 0 13)] μ (fun r33 μ30 => (Q (some (jvI r33)) μ30)))) ∧ (a0 = 12 → (Ci E mLg_bitCount [jvL (μ 0 14)] μ (fun r38 μ35 => (Q (some (jvI r38)) μ35)))) ∧ (a0 = 13 → (Ci E mIg_bitCount [jvI (μ 74 0)] μ (fun r43 μ40 => (Q (some (jvI r43)) μ40)))) ∧ ((a0 < 0 ∨ 13 < a0) → (Q (some (jvI (-1))) μ)))) : K 121 E mX_has 0 [some (jvR 0), some (jvI a0)] [] μ Q := by
  refine K_iload_n 1 a0 dX_has_0 rfl rfl ?_
  refine K_table dX_has_1 (fun i hi9 ha9 => ?_) rfl 208 (by decide) (fun c1 => ?_)
  · match i, hi9, ha9 with
    | 0, _, ha9 =>
      have c1 : a0 = 0 := by omega
      refine ⟨_, 72, rfl, by decide, ?_⟩
      refine K_aload_n 0 0 dX_has_72 rfl rfl ?_
      refine K_getf 0 9 0 (jvR ((b : Nat) : Int)) dX_has_73 pf_X_26 rfl rfl (by decide) rfl (congrArg jvR (hF.1 c1).1) ?_
      refine K_getf 2 12 b (jvI (μ b 12)) dX_has_76 pf_X_133 rfl (isB_c0 hb) (isB_n 0 (by decide) hb) rfl (isB_f0_12 hb) ?_
      exact K_iret dX_has_79 (Or.inl rfl) (hF.1 c1).2
    | 1, _, ha9 =>
      have c1 : a0 = 1 := by omega
      refine ⟨_, 80, rfl, by decide, ?_⟩
      refine K_aload_n 0 0 dX_has_80 rfl rfl ?_
      refine K_getf 0 9 0 (jvR ((b : Nat) : Int)) dX_has_81 pf_X_26 rfl rfl (by decide) rfl (congrArg jvR (hF.2.1 c1).1) ?_
      refine K_getf 2 13 b (jvI (μ b 13)) dX_has_84 pf_X_136 rfl (isB_c0 hb) (isB_n 0 (by decide) hb) rfl (isB_f0_13 hb) ?_
      exact K_iret dX_has_87 (Or.inl rfl) (hF.2.1 c1).2
    | 2, _, ha9 =>
      have c1 : a0 = 2 := by omega
      refine ⟨_, 88, rfl, by decide, ?_⟩
      refine K_aload_n 0 0 dX_has_88 rfl rfl ?_
      refine K_getf 0 9 0 (jvR ((b : Nat) : Int)) dX_has_89 pf_X_26 rfl rfl (by decide) rfl (congrArg jvR (hF.2.2.1 c1).1) ?_
      refine K_getf 2 14 b (jvI (μ b 14)) dX_has_92 pf_X_139 rfl (isB_c0 hb) (isB_n 0 (by decide) hb) rfl (isB_f0_14 hb) ?_
      exact K_iret dX_has_95 (Or.inl rfl) (hF.2.2.1 c1).2
    | 3, _, ha9 =>
      have c1 : a0 = 3 := by omega
      refine ⟨_, 96, rfl, by decide, ?_⟩
      refine K_aload_n 0 0 dX_has_96 rfl rfl ?_
      refine K_getf 0 9 0 (jvR ((b : Nat) : Int)) dX_has_97 pf_X_26 rfl rfl (by decide) rfl (congrArg jvR (hF.2.2.2.1 c1).1) ?_
      refine K_getf 2 0 b (jvR ((b + 1 : Nat) : Int)) dX_has_100 pf_X_142 rfl (isB_c0 hb) (isB_n 0 (by decide) hb) rfl (isB_f0_0 hb) ?_
      refine K_getf 9 6 (b + 1) (jvI (μ (b + 1) 6)) dX_has_103 pf_X_146 rfl (isB_c1 hb) (isB_n 1 (by decide) hb) rfl (isB_f1_6 hb) ?_
      exact K_iret dX_has_106 (Or.inl rfl) (hF.2.2.2.1 c1).2
    | 4, _, ha9 =>
      have c1 : a0 = 4 := by omega
      refine ⟨_, 107, rfl, by decide, ?_⟩
      refine K_aload_n 0 0 dX_has_107 rfl rfl ?_
      refine K_getf 0 9 0 (jvR ((b : Nat) : Int)) dX_has_108 pf_X_26 rfl rfl (by decide) rfl (congrArg jvR (hF.2.2.2.2.1 c1).1) ?_
      refine K_getf 2 0 b (jvR ((b + 1 : Nat) : Int)) dX_has_111 pf_X_142 rfl (isB_c0 hb) (isB_n 0 (by decide) hb) rfl (isB_f0_0 hb) ?_
      refine K_getf 9 7 (b + 1) (jvI (μ (b + 1) 7)) dX_has_114 pf_X_151 rfl (isB_c1 hb) (isB_n 1 (by decide) hb) rfl (isB_f1_7 hb) ?_
      exact K_iret dX_has_117 (Or.inl rfl) (hF.2.2.2.2.1 c1).2
    | 5, _, ha9 =>
      have c1 : a0 = 5 := by omega
      refine ⟨_, 118, rfl, by decide, ?_⟩
      refine K_aload_n 0 0 dX_has_118 rfl rfl ?_
      refine K_getf 0 9 0 (jvR ((b : Nat) : Int)) dX_has_119 pf_X_26 rfl rfl (by decide) rfl (congrArg jvR (hF.2.2.2.2.2.1 c1).1) ?_
      refine K_getf 2 15 b (jvI (μ b 15)) dX_has_122 pf_X_154 rfl (isB_c0 hb) (isB_n 0 (by decide) hb) rfl (isB_f0_15 hb) ?_
      exact K_iret dX_has_125 (Or.inl rfl) (hF.2.2.2.2.2.1 c1).2
    | 6, _, ha9 =>
      have c1 : a0 = 6 := by omega
      refine ⟨_, 126, rfl, by decide, ?_⟩
      refine K_aload_n 0 0 dX_has_126 rfl rfl ?_
      refine K_getf 0 2 0 (jvR 45) dX_has_127 pf_X_38 rfl rfl (by decide) rfl rfl ?_
      refine K_getf 3 8 45 (jvL (μ 45 8)) dX_has_130 pf_X_157 rfl rfl (by decide) rfl rfl ?_
      refine K_callSi mLg_bitCount [jvL (μ 45 8)] dX_has_133 pm_X_160 ⟨(Nat.le_of_ble_eq_true rfl), (Nat.le_of_ble_eq_true rfl)⟩ (Nat.le_of_ble_eq_true rfl) rfl (Nat.le_of_ble_eq_true rfl) (by decide) (Ci_mono (hF.2.2.2.2.2.2.1 c1) (fun r12 μ9 h10 => ?_))
      exact K_iret dX_has_136 (Or.inl rfl) h10
    | 7, _, ha9 =>
      have c1 : a0 = 7 := by omega
      refine ⟨_, 137, rfl, by decide, ?_⟩
      refine K_aload_n 0 0 dX_has_137 rfl rfl ?_
      refine K_getf 0 2 0 (jvR 45) dX_has_138 pf_X_38 rfl rfl (by decide) rfl rfl ?_
      refine K_getf 3 9 45 (jvL (μ 45 9)) dX_has_141 pf_X_166 rfl rfl (by decide) rfl rfl ?_
      refine K_callSi mLg_bitCount [jvL (μ 45 9)] dX_has_144 pm_X_160 ⟨(Nat.le_of_ble_eq_true rfl), (Nat.le_of_ble_eq_true rfl)⟩ (Nat.le_of_ble_eq_true rfl) rfl (Nat.le_of_ble_eq_true rfl) (by decide) (Ci_mono (hF.2.2.2.2.2.2.2.1 c1) (fun r17 μ14 h15 => ?_))
      exact K_iret dX_has_147 (Or.inl rfl) h15
    | 8, _, ha9 =>
      have c1 : a0 = 8 := by omega
      refine ⟨_, 148, rfl, by decide, ?_⟩
      refine K_aload_n 0 0 dX_has_148 rfl rfl ?_
      refine K_getf 0 2 0 (jvR 45) dX_has_149 pf_X_38 rfl rfl (by decide) rfl rfl ?_
      refine K_getf 3 10 45 (jvL (μ 45 10)) dX_has_152 pf_X_169 rfl rfl (by decide) rfl rfl ?_
      refine K_callSi mLg_bitCount [jvL (μ 45 10)] dX_has_155 pm_X_160 ⟨(Nat.le_of_ble_eq_true rfl), (Nat.le_of_ble_eq_true rfl)⟩ (Nat.le_of_ble_eq_true rfl) rfl (Nat.le_of_ble_eq_true rfl) (by decide) (Ci_mono (hF.2.2.2.2.2.2.2.2.1 c1) (fun r22 μ19 h20 => ?_))
      exact K_iret dX_has_158 (Or.inl rfl) h20
    | 9, _, ha9 =>
      have c1 : a0 = 9 := by omega
      refine ⟨_, 159, rfl, by decide, ?_⟩
      refine K_aload_n 0 0 dX_has_159 rfl rfl ?_
      refine K_getf 0 2 0 (jvR 45) dX_has_160 pf_X_38 rfl rfl (by decide) rfl rfl ?_
      refine K_getf 3 11 45 (jvL (μ 45 11)) dX_has_163 pf_X_172 rfl rfl (by decide) rfl rfl ?_
      refine K_callSi mLg_bitCount [jvL (μ 45 11)] dX_has_166 pm_X_160 ⟨(Nat.le_of_ble_eq_true rfl), (Nat.le_of_ble_eq_true rfl)⟩ (Nat.le_of_ble_eq_true rfl) rfl (Nat.le_of_ble_eq_true rfl) (by decide) (Ci_mono (hF.2.2.2.2.2.2.2.2.2.1 c1) (fun r27 μ24 h25 => ?_))
      exact K_iret dX_has_169 (Or.inl rfl) h25
    | 10, _, ha9 =>
      have c1 : a0 = 10 := by omega
      refine ⟨_, 170, rfl, by decide, ?_⟩
      refine K_aload_n 0 0 dX_has_170 rfl rfl ?_
      refine K_getf 0 2 0 (jvR 45) dX_has_171 pf_X_38 rfl rfl (by decide) rfl rfl ?_
      refine K_getf 3 6 45 (jvR 52) dX_has_174 pf_X_175 rfl rfl (by decide) rfl rfl ?_
      refine K_getf 6 6 52 (jvI (μ 52 6)) dX_has_177 pf_X_179 rfl rfl (by decide) rfl rfl ?_
      exact K_iret dX_has_180 (Or.inl rfl) (hF.2.2.2.2.2.2.2.2.2.2.1 c1)
    | 11, _, ha9 =>
      have c1 : a0 = 11 := by omega
      refine ⟨_, 181, rfl, by decide, ?_⟩
      refine K_aload_n 0 0 dX_has_181 rfl rfl ?_
      refine K_getf 0 13 0 (jvI (μ 0 13)) dX_has_182 pf_X_92 rfl rfl (by decide) rfl rfl ?_
      refine K_callSi mIg_bitCount [jvI (μ 0 13)] dX_has_185 pm_X_182 ⟨(Nat.le_of_ble_eq_true rfl), (Nat.le_of_ble_eq_true rfl)⟩ (Nat.le_of_ble_eq_true rfl) rfl (Nat.le_of_ble_eq_true rfl) (by decide) (Ci_mono (hF.2.2.2.2.2.2.2.2.2.2.2.1 c1) (fun r33 μ30 h31 => ?_))
      exact K_iret dX_has_188 (Or.inl rfl) h31
    | 12, _, ha9 =>
      have c1 : a0 = 12 := by omega
      refine ⟨_, 189, rfl, by decide, ?_⟩
      refine K_aload_n 0 0 dX_has_189 rfl rfl ?_
      refine K_getf 0 14 0 (jvL (μ 0 14)) dX_has_190 pf_X_95 rfl rfl (by decide) rfl rfl ?_
      refine K_callSi mLg_bitCount [jvL (μ 0 14)] dX_has_193 pm_X_160 ⟨(Nat.le_of_ble_eq_true rfl), (Nat.le_of_ble_eq_true rfl)⟩ (Nat.le_of_ble_eq_true rfl) rfl (Nat.le_of_ble_eq_true rfl) (by decide) (Ci_mono (hF.2.2.2.2.2.2.2.2.2.2.2.2.1 c1) (fun r38 μ35 h36 => ?_))
      exact K_iret dX_has_196 (Or.inl rfl) h36
    | 13, _, ha9 =>
      have c1 : a0 = 13 := by omega
      refine ⟨_, 197, rfl, by decide, ?_⟩
      refine K_aload_n 0 0 dX_has_197 rfl rfl ?_
      refine K_getf 0 7 0 (jvR 74) dX_has_198 pf_X_73 rfl rfl (by decide) rfl rfl ?_
      refine K_getf 10 0 74 (jvI (μ 74 0)) dX_has_201 pf_X_127 rfl rfl (by decide) rfl rfl ?_
      refine K_callSi mIg_bitCount [jvI (μ 74 0)] dX_has_204 pm_X_182 ⟨(Nat.le_of_ble_eq_true rfl), (Nat.le_of_ble_eq_true rfl)⟩ (Nat.le_of_ble_eq_true rfl) rfl (Nat.le_of_ble_eq_true rfl) (by decide) (Ci_mono (hF.2.2.2.2.2.2.2.2.2.2.2.2.2.1 c1) (fun r43 μ40 h41 => ?_))
      exact K_iret dX_has_207 (Or.inl rfl) h41
    | i + 14, hi9, _ => exact absurd hi9 (by simp <;> omega)
  · skip
    refine K_iconst (-1) dX_has_208 rfl ?_
    exact K_iret dX_has_209 (Or.inl rfl) (hF.2.2.2.2.2.2.2.2.2.2.2.2.2.2 c1)
set_option maxHeartbeats 8000000 in
theorem vLg_bitCount_0 {E : jE} {μ : jMu} {Q : Option AV → jMu → Prop} {a0 : Int} (hF : (K 121 E mLg_bitCount 10 [some (jvL (w64 (a0 - (iand64 (iushr64 a0 1) 6148914691236517205)))), none] [] μ Q)) : K 121 E mLg_bitCount 0 [some (jvL a0), none] [] μ Q := by
  refine K_lload_n 0 a0 dLg_bitCount_0 rfl rfl ?_
  refine K_lload_n 0 a0 dLg_bitCount_1 rfl rfl ?_
  refine K_iconst 1 dLg_bitCount_2 rfl ?_
  refine K_lushr dLg_bitCount_3 rfl ?_
  refine K_ldc2 6148914691236517205 dLg_bitCount_4 pc_Lg_314 rfl ?_
  refine K_land dLg_bitCount_7 rfl ?_
  refine K_lsub dLg_bitCount_8 rfl ?_
  refine K_lstore_n 0 dLg_bitCount_9 rfl (Nat.le_of_ble_eq_true rfl) rfl ?_
  exact hF
set_option maxHeartbeats 8000000 in
theorem vLg_bitCount_10 {E : jE} {μ : jMu} {Q : Option AV → jMu → Prop} {l0 : Int} (hF : (K 121 E mLg_bitCount 24 [some (jvL (w64 ((iand64 l0 3689348814741910323) + (iand64 (iushr64 l0 2) 3689348814741910323)))), none] [] μ Q)) : K 121 E mLg_bitCount 10 [some (jvL l0), none] [] μ Q := by
  refine K_lload_n 0 l0 dLg_bitCount_10 rfl rfl ?_
  refine K_ldc2 3689348814741910323 dLg_bitCount_11 pc_Lg_316 rfl ?_
  refine K_land dLg_bitCount_14 rfl ?_
  refine K_lload_n 0 l0 dLg_bitCount_15 rfl rfl ?_
  refine K_iconst 2 dLg_bitCount_16 rfl ?_
  refine K_lushr dLg_bitCount_17 rfl ?_
  refine K_ldc2 3689348814741910323 dLg_bitCount_18 pc_Lg_316 rfl ?_
  refine K_land dLg_bitCount_21 rfl ?_
  refine K_ladd dLg_bitCount_22 rfl ?_
  refine K_lstore_n 0 dLg_bitCount_23 rfl (Nat.le_of_ble_eq_true rfl) rfl ?_
  exact hF
set_option maxHeartbeats 8000000 in
theorem vLg_bitCount_24 {E : jE} {μ : jMu} {Q : Option AV → jMu → Prop} {l0 : Int} (hF : (K 121 E mLg_bitCount 34 [some (jvL (iand64 (w64 (l0 + (iushr64 l0 4))) 1085102592571150095)), none] [] μ Q)) : K 121 E mLg_bitCount 24 [some (jvL l0), none] [] μ Q := by
  refine K_lload_n 0 l0 dLg_bitCount_24 rfl rfl ?_
  refine K_lload_n 0 l0 dLg_bitCount_25 rfl rfl ?_
  refine K_iconst 4 dLg_bitCount_26 rfl ?_
  refine K_lushr dLg_bitCount_27 rfl ?_
  refine K_ladd dLg_bitCount_28 rfl ?_
  refine K_ldc2 1085102592571150095 dLg_bitCount_29 pc_Lg_318 rfl ?_
  refine K_land dLg_bitCount_32 rfl ?_
  refine K_lstore_n 0 dLg_bitCount_33 rfl (Nat.le_of_ble_eq_true rfl) rfl ?_
  exact hF
set_option maxHeartbeats 8000000 in
theorem vLg_bitCount_34 {E : jE} {μ : jMu} {Q : Option AV → jMu → Prop} {l0 : Int} (hF : (K 121 E mLg_bitCount 41 [some (jvL (w64 (l0 + (iushr64 l0 8)))), none] [] μ Q)) : K 121 E mLg_bitCount 34 [some (jvL l0), none] [] μ Q := by
  refine K_lload_n 0 l0 dLg_bitCount_34 rfl rfl ?_
  refine K_lload_n 0 l0 dLg_bitCount_35 rfl rfl ?_
  refine K_bipush 8 dLg_bitCount_36 rfl ?_
  refine K_lushr dLg_bitCount_38 rfl ?_
  refine K_ladd dLg_bitCount_39 rfl ?_
  refine K_lstore_n 0 dLg_bitCount_40 rfl (Nat.le_of_ble_eq_true rfl) rfl ?_
  exact hF
set_option maxHeartbeats 8000000 in
theorem vLg_bitCount_41 {E : jE} {μ : jMu} {Q : Option AV → jMu → Prop} {l0 : Int} (hF : (K 121 E mLg_bitCount 48 [some (jvL (w64 (l0 + (iushr64 l0 16)))), none] [] μ Q)) : K 121 E mLg_bitCount 41 [some (jvL l0), none] [] μ Q := by
  refine K_lload_n 0 l0 dLg_bitCount_41 rfl rfl ?_
  refine K_lload_n 0 l0 dLg_bitCount_42 rfl rfl ?_
  refine K_bipush 16 dLg_bitCount_43 rfl ?_
  refine K_lushr dLg_bitCount_45 rfl ?_
  refine K_ladd dLg_bitCount_46 rfl ?_
  refine K_lstore_n 0 dLg_bitCount_47 rfl (Nat.le_of_ble_eq_true rfl) rfl ?_
  exact hF
set_option maxHeartbeats 8000000 in
theorem vLg_bitCount_48 {E : jE} {μ : jMu} {Q : Option AV → jMu → Prop} {l0 : Int} (hF : (K 121 E mLg_bitCount 55 [some (jvL (w64 (l0 + (iushr64 l0 32)))), none] [] μ Q)) : K 121 E mLg_bitCount 48 [some (jvL l0), none] [] μ Q := by
  refine K_lload_n 0 l0 dLg_bitCount_48 rfl rfl ?_
  refine K_lload_n 0 l0 dLg_bitCount_49 rfl rfl ?_
  refine K_bipush 32 dLg_bitCount_50 rfl ?_
  refine K_lushr dLg_bitCount_52 rfl ?_
  refine K_ladd dLg_bitCount_53 rfl ?_
  refine K_lstore_n 0 dLg_bitCount_54 rfl (Nat.le_of_ble_eq_true rfl) rfl ?_
  exact hF
set_option maxHeartbeats 8000000 in
theorem vLg_bitCount_55 {E : jE} {μ : jMu} {Q : Option AV → jMu → Prop} {l0 : Int} (hF : ((-2147483648 ≤ l0 ∧ l0 < 2147483648)) ∧ (Q (some (jvI (iand32 l0 127))) μ)) : K 121 E mLg_bitCount 55 [some (jvL l0), none] [] μ Q := by
  refine K_lload_n 0 l0 dLg_bitCount_55 rfl rfl ?_
  refine K_l2i dLg_bitCount_56 (w32_id hF.1) ?_
  refine K_bipush 127 dLg_bitCount_57 rfl ?_
  refine K_iand dLg_bitCount_59 rfl ?_
  exact K_iret dLg_bitCount_60 (Or.inl rfl) hF.2
set_option maxHeartbeats 8000000 in
theorem vIg_bitCount_0 {E : jE} {μ : jMu} {Q : Option AV → jMu → Prop} {a0 : Int} (hF : (K 121 E mIg_bitCount 10 [some (jvI (w32 (a0 - (iand32 (iushr32 a0 1) 1431655765))))] [] μ Q)) : K 121 E mIg_bitCount 0 [some (jvI a0)] [] μ Q := by
  refine K_iload_n 0 a0 dIg_bitCount_0 rfl rfl ?_
  refine K_iload_n 0 a0 dIg_bitCount_1 rfl rfl ?_
  refine K_iconst 1 dIg_bitCount_2 rfl ?_
  refine K_iushr dIg_bitCount_3 rfl ?_
  refine K_ldc_w 1431655765 dIg_bitCount_4 pc_Ig_265 rfl ?_
  refine K_iand dIg_bitCount_7 rfl ?_
  refine K_isub dIg_bitCount_8 rfl ?_
  refine K_istore_n 0 dIg_bitCount_9 rfl (Nat.le_of_ble_eq_true rfl) rfl ?_
  exact hF
set_option maxHeartbeats 8000000 in
theorem vIg_bitCount_10 {E : jE} {μ : jMu} {Q : Option AV → jMu → Prop} {l0 : Int} (hF : (K 121 E mIg_bitCount 24 [some (jvI (w32 ((iand32 l0 858993459) + (iand32 (iushr32 l0 2) 858993459))))] [] μ Q)) : K 121 E mIg_bitCount 10 [some (jvI l0)] [] μ Q := by
  refine K_iload_n 0 l0 dIg_bitCount_10 rfl rfl ?_
  refine K_ldc_w 858993459 dIg_bitCount_11 pc_Ig_266 rfl ?_
  refine K_iand dIg_bitCount_14 rfl ?_
  refine K_iload_n 0 l0 dIg_bitCount_15 rfl rfl ?_
  refine K_iconst 2 dIg_bitCount_16 rfl ?_
  refine K_iushr dIg_bitCount_17 rfl ?_
  refine K_ldc_w 858993459 dIg_bitCount_18 pc_Ig_266 rfl ?_
  refine K_iand dIg_bitCount_21 rfl ?_
  refine K_iadd dIg_bitCount_22 rfl ?_
  refine K_istore_n 0 dIg_bitCount_23 rfl (Nat.le_of_ble_eq_true rfl) rfl ?_
  exact hF
set_option maxHeartbeats 8000000 in
theorem vIg_bitCount_24 {E : jE} {μ : jMu} {Q : Option AV → jMu → Prop} {l0 : Int} (hF : (K 121 E mIg_bitCount 34 [some (jvI (iand32 (w32 (l0 + (iushr32 l0 4))) 252645135))] [] μ Q)) : K 121 E mIg_bitCount 24 [some (jvI l0)] [] μ Q := by
  refine K_iload_n 0 l0 dIg_bitCount_24 rfl rfl ?_
  refine K_iload_n 0 l0 dIg_bitCount_25 rfl rfl ?_
  refine K_iconst 4 dIg_bitCount_26 rfl ?_
  refine K_iushr dIg_bitCount_27 rfl ?_
  refine K_iadd dIg_bitCount_28 rfl ?_
  refine K_ldc_w 252645135 dIg_bitCount_29 pc_Ig_267 rfl ?_
  refine K_iand dIg_bitCount_32 rfl ?_
  refine K_istore_n 0 dIg_bitCount_33 rfl (Nat.le_of_ble_eq_true rfl) rfl ?_
  exact hF
set_option maxHeartbeats 8000000 in
theorem vIg_bitCount_34 {E : jE} {μ : jMu} {Q : Option AV → jMu → Prop} {l0 : Int} (hF : (K 121 E mIg_bitCount 41 [some (jvI (w32 (l0 + (iushr32 l0 8))))] [] μ Q)) : K 121 E mIg_bitCount 34 [some (jvI l0)] [] μ Q := by
  refine K_iload_n 0 l0 dIg_bitCount_34 rfl rfl ?_
  refine K_iload_n 0 l0 dIg_bitCount_35 rfl rfl ?_
  refine K_bipush 8 dIg_bitCount_36 rfl ?_
  refine K_iushr dIg_bitCount_38 rfl ?_
  refine K_iadd dIg_bitCount_39 rfl ?_
  refine K_istore_n 0 dIg_bitCount_40 rfl (Nat.le_of_ble_eq_true rfl) rfl ?_
  exact hF
set_option maxHeartbeats 8000000 in
theorem vIg_bitCount_41 {E : jE} {μ : jMu} {Q : Option AV → jMu → Prop} {l0 : Int} (hF : (K 121 E mIg_bitCount 48 [some (jvI (w32 (l0 + (iushr32 l0 16))))] [] μ Q)) : K 121 E mIg_bitCount 41 [some (jvI l0)] [] μ Q := by
  refine K_iload_n 0 l0 dIg_bitCount_41 rfl rfl ?_
  refine K_iload_n 0 l0 dIg_bitCount_42 rfl rfl ?_
  refine K_bipush 16 dIg_bitCount_43 rfl ?_
  refine K_iushr dIg_bitCount_45 rfl ?_
  refine K_iadd dIg_bitCount_46 rfl ?_
  refine K_istore_n 0 dIg_bitCount_47 rfl (Nat.le_of_ble_eq_true rfl) rfl ?_
  exact hF
set_option maxHeartbeats 8000000 in
theorem vIg_bitCount_48 {E : jE} {μ : jMu} {Q : Option AV → jMu → Prop} {l0 : Int} (hF : (Q (some (jvI (iand32 l0 63))) μ)) : K 121 E mIg_bitCount 48 [some (jvI l0)] [] μ Q := by
  refine K_iload_n 0 l0 dIg_bitCount_48 rfl rfl ?_
  refine K_bipush 63 dIg_bitCount_49 rfl ?_
  refine K_iand dIg_bitCount_51 rfl ?_
  exact K_iret dIg_bitCount_52 (Or.inl rfl) hF
set_option maxHeartbeats 8000000 in
theorem vX_letter_0 {E : jE} {μ : jMu} {Q : Option AV → jMu → Prop} {b : Nat} (hb : isB b) {a0 a1 a2 : Int} (hF : ((a2 < 0 → (Q (some (jvI (-1))) μ)) ∧ (¬ (a2 < 0) → ((6 ≤ a2 → (Q (some (jvI (-1))) μ)) ∧ (¬ (6 ≤ a2) → ((0 ≤ a1 → ((a0 = 0 → ((μ 0 9) = ((b : Nat) : Int)) ∧ (((μ b 12) ≤ a1 → (Q (some (jvI (-1))) μ)) ∧ (¬ ((μ b 12) ≤ a1) → ((μ 0 9) = ((b : Nat) : Int) ∧ (0 ≤ a1 ∧ a1 < 12)) ∧ (Ci E mX_letterOf [jvI (μ (b + 8) a1), jvI a2] μ (fun r17 μ14 => (Q (some (jvI r17)) μ14)))))) ∧ (a0 = 1 → ((μ 0 9) = ((b : Nat) : Int)) ∧ (((μ b 14) ≤ a1 → (Q (some (jvI (-1))) μ)) ∧ (¬ ((μ b 14) ≤ a1) → ((μ 0 9) = ((b : Nat) : Int) ∧ (0 ≤ a1 ∧ a1 < 6)) ∧ (Ci E mX_letterOf [jvI (μ (b + 15) a1), jvI a2] μ (fun r25 μ22 => (Q (some (jvI r25)) μ22)))))) ∧ (a0 = 2 → ((μ 0 9) = ((b : Nat) : Int)) ∧ (((μ (b + 1) 6) ≤ a1 → (Q (some (jvI (-1))) μ)) ∧ (¬ ((μ (b + 1) 6) ≤ a1) → ((μ 0 9) = ((b : Nat) : Int) ∧ (0 ≤ a1 ∧ a1 < 24)) ∧ (Ci E mX_letterOf [jvI (μ (b + 2) a1), jvI a2] μ (fun r33 μ30 => (Q (some (jvI r33)) μ30)))))) ∧ (a0 = 3 → ((μ 0 9) = ((b : Nat) : Int)) ∧ (((μ (b + 1) 7) ≤ a1 → (Q (some (jvI (-1))) μ)) ∧ (¬ ((μ (b + 1) 7) ≤ a1) → ((μ 0 9) = ((b : Nat) : Int) ∧ (0 ≤ a1 ∧ a1 < 12)) ∧ (Ci E mX_letterOf [jvI (μ (b + 4) a1), jvI a2] μ (fun r41 μ38 => (Q (some (jvI r41)) μ38)))))) ∧ ((a0 < 0 ∨ 3 < a0) → (Q (some (jvI (-1))) μ)))) ∧ (¬ (0 ≤ a1) → (Q (some (jvI (-1))) μ)))))))) : K 121 E mX_letter 0 [some (jvR 0), some (jvI a0), some (jvI a1), some (jvI a2)] [] μ Q := by
  refine K_iload_n 3 a2 dX_letter_0 rfl rfl ?_
  refine K_if_lt 14 dX_letter_1 (by decide) (fun c1 => ?_) (fun c1 => ?_)
  · refine K_iconst (-1) dX_letter_14 rfl ?_
    exact K_iret dX_letter_15 (Or.inl rfl) (hF.1 c1)
  · refine K_iload_n 3 a2 dX_letter_4 rfl rfl ?_
    refine K_bipush 6 dX_letter_5 rfl ?_
    refine K_icmp_ge 14 dX_letter_7 (by decide) (fun c4 => ?_) (fun c4 => ?_)
    · refine K_iconst (-1) dX_letter_14 rfl ?_
      exact K_iret dX_letter_15 (Or.inl rfl) ((hF.2 c1).1 c4)
    · refine K_iload_n 2 a1 dX_letter_10 rfl rfl ?_
      refine K_if_ge 16 dX_letter_11 (by decide) (fun c7 => ?_) (fun c7 => ?_)
      · refine K_iload_n 1 a0 dX_letter_16 rfl rfl ?_
        refine K_table dX_letter_17 (fun i hi9 ha9 => ?_) rfl 176 (by decide) (fun c9 => ?_)
        · match i, hi9, ha9 with
          | 0, _, ha9 =>
            have c9 : a0 = 0 := by omega
            refine ⟨_, 48, rfl, by decide, ?_⟩
            refine K_iload_n 2 a1 dX_letter_48 rfl rfl ?_
            refine K_aload_n 0 0 dX_letter_49 rfl rfl ?_
            refine K_getf 0 9 0 (jvR ((b : Nat) : Int)) dX_letter_50 pf_X_26 rfl rfl (by decide) rfl (congrArg jvR ((((hF.2 c1).2 c4).1 c7).1 c9).1) ?_
            refine K_getf 2 12 b (jvI (μ b 12)) dX_letter_53 pf_X_133 rfl (isB_c0 hb) (isB_n 0 (by decide) hb) rfl (isB_f0_12 hb) ?_
            refine K_icmp_ge 75 dX_letter_56 (by decide) (fun c11 => ?_) (fun c11 => ?_)
            · refine K_iconst (-1) dX_letter_75 rfl ?_
              exact K_iret dX_letter_76 (Or.inl rfl) (((((hF.2 c1).2 c4).1 c7).1 c9).2.1 c11)
            · refine K_aload_n 0 0 dX_letter_59 rfl rfl ?_
              refine K_getf 0 9 0 (jvR ((b : Nat) : Int)) dX_letter_60 pf_X_26 rfl rfl (by decide) rfl (congrArg jvR (((((hF.2 c1).2 c4).1 c7).1 c9).2.2 c11).1.1) ?_
              refine K_getf 2 1 b (jvR ((b + 8 : Nat) : Int)) dX_letter_63 pf_X_187 rfl (isB_c0 hb) (isB_n 0 (by decide) hb) rfl (isB_f0_1 hb) ?_
              refine K_iload_n 2 a1 dX_letter_66 rfl rfl ?_
              refine K_iald (b + 8) 12 dX_letter_67 rfl (isB_c8 hb) (isB_n 8 (by decide) hb) (((((hF.2 c1).2 c4).1 c7).1 c9).2.2 c11).1.2 ?_
              refine K_iload_n 3 a2 dX_letter_68 rfl rfl ?_
              refine K_callSi mX_letterOf [jvI (μ (b + 8) a1), jvI a2] dX_letter_69 pm_X_190 ⟨(Nat.le_of_ble_eq_true rfl), (Nat.le_of_ble_eq_true rfl)⟩ (Nat.le_of_ble_eq_true rfl) rfl (Nat.le_of_ble_eq_true rfl) (by decide) (Ci_mono (((((hF.2 c1).2 c4).1 c7).1 c9).2.2 c11).2 (fun r17 μ14 h15 => ?_))
              refine K_goto 76 dX_letter_72 (by decide) ?_
              exact K_iret dX_letter_76 (Or.inl rfl) h15
          | 1, _, ha9 =>
            have c9 : a0 = 1 := by omega
            refine ⟨_, 77, rfl, by decide, ?_⟩
            refine K_iload_n 2 a1 dX_letter_77 rfl rfl ?_
            refine K_aload_n 0 0 dX_letter_78 rfl rfl ?_
            refine K_getf 0 9 0 (jvR ((b : Nat) : Int)) dX_letter_79 pf_X_26 rfl rfl (by decide) rfl (congrArg jvR ((((hF.2 c1).2 c4).1 c7).2.1 c9).1) ?_
            refine K_getf 2 14 b (jvI (μ b 14)) dX_letter_82 pf_X_139 rfl (isB_c0 hb) (isB_n 0 (by decide) hb) rfl (isB_f0_14 hb) ?_
            refine K_icmp_ge 104 dX_letter_85 (by decide) (fun c19 => ?_) (fun c19 => ?_)
            · refine K_iconst (-1) dX_letter_104 rfl ?_
              exact K_iret dX_letter_105 (Or.inl rfl) (((((hF.2 c1).2 c4).1 c7).2.1 c9).2.1 c19)
            · refine K_aload_n 0 0 dX_letter_88 rfl rfl ?_
              refine K_getf 0 9 0 (jvR ((b : Nat) : Int)) dX_letter_89 pf_X_26 rfl rfl (by decide) rfl (congrArg jvR (((((hF.2 c1).2 c4).1 c7).2.1 c9).2.2 c19).1.1) ?_
              refine K_getf 2 8 b (jvR ((b + 15 : Nat) : Int)) dX_letter_92 pf_X_194 rfl (isB_c0 hb) (isB_n 0 (by decide) hb) rfl (isB_f0_8 hb) ?_
              refine K_iload_n 2 a1 dX_letter_95 rfl rfl ?_
              refine K_iald (b + 15) 6 dX_letter_96 rfl (isB_c15 hb) (isB_n 15 (by decide) hb) (((((hF.2 c1).2 c4).1 c7).2.1 c9).2.2 c19).1.2 ?_
              refine K_iload_n 3 a2 dX_letter_97 rfl rfl ?_
              refine K_callSi mX_letterOf [jvI (μ (b + 15) a1), jvI a2] dX_letter_98 pm_X_190 ⟨(Nat.le_of_ble_eq_true rfl), (Nat.le_of_ble_eq_true rfl)⟩ (Nat.le_of_ble_eq_true rfl) rfl (Nat.le_of_ble_eq_true rfl) (by decide) (Ci_mono (((((hF.2 c1).2 c4).1 c7).2.1 c9).2.2 c19).2 (fun r25 μ22 h23 => ?_))
              refine K_goto 105 dX_letter_101 (by decide) ?_
              exact K_iret dX_letter_105 (Or.inl rfl) h23
          | 2, _, ha9 =>
            have c9 : a0 = 2 := by omega
            refine ⟨_, 106, rfl, by decide, ?_⟩
            refine K_iload_n 2 a1 dX_letter_106 rfl rfl ?_
            refine K_aload_n 0 0 dX_letter_107 rfl rfl ?_
            refine K_getf 0 9 0 (jvR ((b : Nat) : Int)) dX_letter_108 pf_X_26 rfl rfl (by decide) rfl (congrArg jvR ((((hF.2 c1).2 c4).1 c7).2.2.1 c9).1) ?_
            refine K_getf 2 0 b (jvR ((b + 1 : Nat) : Int)) dX_letter_111 pf_X_142 rfl (isB_c0 hb) (isB_n 0 (by decide) hb) rfl (isB_f0_0 hb) ?_
            refine K_getf 9 6 (b + 1) (jvI (μ (b + 1) 6)) dX_letter_114 pf_X_146 rfl (isB_c1 hb) (isB_n 1 (by decide) hb) rfl (isB_f1_6 hb) ?_
            refine K_icmp_ge 139 dX_letter_117 (by decide) (fun c27 => ?_) (fun c27 => ?_)
            · refine K_iconst (-1) dX_letter_139 rfl ?_
              exact K_iret dX_letter_140 (Or.inl rfl) (((((hF.2 c1).2 c4).1 c7).2.2.1 c9).2.1 c27)
            · refine K_aload_n 0 0 dX_letter_120 rfl rfl ?_
              refine K_getf 0 9 0 (jvR ((b : Nat) : Int)) dX_letter_121 pf_X_26 rfl rfl (by decide) rfl (congrArg jvR (((((hF.2 c1).2 c4).1 c7).2.2.1 c9).2.2 c27).1.1) ?_
              refine K_getf 2 0 b (jvR ((b + 1 : Nat) : Int)) dX_letter_124 pf_X_142 rfl (isB_c0 hb) (isB_n 0 (by decide) hb) rfl (isB_f0_0 hb) ?_
              refine K_getf 9 0 (b + 1) (jvR ((b + 2 : Nat) : Int)) dX_letter_127 pf_X_197 rfl (isB_c1 hb) (isB_n 1 (by decide) hb) rfl (isB_f1_0 hb) ?_
              refine K_iload_n 2 a1 dX_letter_130 rfl rfl ?_
              refine K_iald (b + 2) 24 dX_letter_131 rfl (isB_c2 hb) (isB_n 2 (by decide) hb) (((((hF.2 c1).2 c4).1 c7).2.2.1 c9).2.2 c27).1.2 ?_
              refine K_iload_n 3 a2 dX_letter_132 rfl rfl ?_
              refine K_callSi mX_letterOf [jvI (μ (b + 2) a1), jvI a2] dX_letter_133 pm_X_190 ⟨(Nat.le_of_ble_eq_true rfl), (Nat.le_of_ble_eq_true rfl)⟩ (Nat.le_of_ble_eq_true rfl) rfl (Nat.le_of_ble_eq_true rfl) (by decide) (Ci_mono (((((hF.2 c1).2 c4).1 c7).2.2.1 c9).2.2 c27).2 (fun r33 μ30 h31 => ?_))
              refine K_goto 140 dX_letter_136 (by decide) ?_
              exact K_iret dX_letter_140 (Or.inl rfl) h31
          | 3, _, ha9 =>
            have c9 : a0 = 3 := by omega
            refine ⟨_, 141, rfl, by decide, ?_⟩
            refine K_iload_n 2 a1 dX_letter_141 rfl rfl ?_
            refine K_aload_n 0 0 dX_letter_142 rfl rfl ?_
            refine K_getf 0 9 0 (jvR ((b : Nat) : Int)) dX_letter_143 pf_X_26 rfl rfl (by decide) rfl (congrArg jvR ((((hF.2 c1).2 c4).1 c7).2.2.2.1 c9).1) ?_
            refine K_getf 2 0 b (jvR ((b + 1 : Nat) : Int)) dX_letter_146 pf_X_142 rfl (isB_c0 hb) (isB_n 0 (by decide) hb) rfl (isB_f0_0 hb) ?_
            refine K_getf 9 7 (b + 1) (jvI (μ (b + 1) 7)) dX_letter_149 pf_X_151 rfl (isB_c1 hb) (isB_n 1 (by decide) hb) rfl (isB_f1_7 hb) ?_
            refine K_icmp_ge 174 dX_letter_152 (by decide) (fun c35 => ?_) (fun c35 => ?_)
            · refine K_iconst (-1) dX_letter_174 rfl ?_
              exact K_iret dX_letter_175 (Or.inl rfl) (((((hF.2 c1).2 c4).1 c7).2.2.2.1 c9).2.1 c35)
            · refine K_aload_n 0 0 dX_letter_155 rfl rfl ?_
              refine K_getf 0 9 0 (jvR ((b : Nat) : Int)) dX_letter_156 pf_X_26 rfl rfl (by decide) rfl (congrArg jvR (((((hF.2 c1).2 c4).1 c7).2.2.2.1 c9).2.2 c35).1.1) ?_
              refine K_getf 2 0 b (jvR ((b + 1 : Nat) : Int)) dX_letter_159 pf_X_142 rfl (isB_c0 hb) (isB_n 0 (by decide) hb) rfl (isB_f0_0 hb) ?_
              refine K_getf 9 2 (b + 1) (jvR ((b + 4 : Nat) : Int)) dX_letter_162 pf_X_200 rfl (isB_c1 hb) (isB_n 1 (by decide) hb) rfl (isB_f1_2 hb) ?_
              refine K_iload_n 2 a1 dX_letter_165 rfl rfl ?_
              refine K_iald (b + 4) 12 dX_letter_166 rfl (isB_c4 hb) (isB_n 4 (by decide) hb) (((((hF.2 c1).2 c4).1 c7).2.2.2.1 c9).2.2 c35).1.2 ?_
              refine K_iload_n 3 a2 dX_letter_167 rfl rfl ?_
              refine K_callSi mX_letterOf [jvI (μ (b + 4) a1), jvI a2] dX_letter_168 pm_X_190 ⟨(Nat.le_of_ble_eq_true rfl), (Nat.le_of_ble_eq_true rfl)⟩ (Nat.le_of_ble_eq_true rfl) rfl (Nat.le_of_ble_eq_true rfl) (by decide) (Ci_mono (((((hF.2 c1).2 c4).1 c7).2.2.2.1 c9).2.2 c35).2 (fun r41 μ38 h39 => ?_))
              refine K_goto 175 dX_letter_171 (by decide) ?_
              exact K_iret dX_letter_175 (Or.inl rfl) h39
          | i + 4, hi9, _ => exact absurd hi9 (by simp <;> omega)
        · skip
          refine K_iconst (-1) dX_letter_176 rfl ?_
          exact K_iret dX_letter_177 (Or.inl rfl) ((((hF.2 c1).2 c4).1 c7).2.2.2.2 c9)
      · refine K_iconst (-1) dX_letter_14 rfl ?_
        exact K_iret dX_letter_15 (Or.inl rfl) (((hF.2 c1).2 c4).2 c7)
set_option maxHeartbeats 8000000 in
theorem vX_letterOf_0 {E : jE} {μ : jMu} {Q : Option AV → jMu → Prop} {a0 a1 : Int} (hF : ((-2147483648 ≤ (5 - a1) ∧ (5 - a1) < 2147483648) ∧ (-2147483648 ≤ (5 * (5 - a1)) ∧ (5 * (5 - a1)) < 2147483648)) ∧ (Q (some (jvI (iand32 (ishr32 a0 (5 * (5 - a1))) 31))) μ)) : K 121 E mX_letterOf 0 [some (jvI a0), some (jvI a1)] [] μ Q := by
  refine K_iload_n 0 a0 dX_letterOf_0 rfl rfl ?_
  refine K_iconst 5 dX_letterOf_1 rfl ?_
  refine K_iconst 5 dX_letterOf_2 rfl ?_
  refine K_iload_n 1 a1 dX_letterOf_3 rfl rfl ?_
  refine K_isub dX_letterOf_4 (w32_id hF.1.1) ?_
  refine K_imul dX_letterOf_5 (w32_id hF.1.2) ?_
  refine K_ishr dX_letterOf_6 rfl ?_
  refine K_bipush 31 dX_letterOf_7 rfl ?_
  refine K_iand dX_letterOf_9 rfl ?_
  exact K_iret dX_letterOf_10 (Or.inl rfl) hF.2
set_option maxHeartbeats 8000000 in
theorem vX_rule_0 {E : jE} {μ : jMu} {Q : Option AV → jMu → Prop} {b : Nat} (hb : isB b) {a0 a1 : Int} (hF : ((μ 0 9) = ((b : Nat) : Int)) ∧ (Ci E mBk_hasRule [jvR ((b : Nat) : Int), jvI a0] μ (fun r4 μ1 => ((¬ r4 = 0 → ((a1 = 0 → ((μ1 0 9) = ((b : Nat) : Int) ∧ (0 ≤ a0 ∧ a0 < 12)) ∧ (Q (some (jvI (μ1 (b + 9) a0))) μ1)) ∧ (a1 = 1 → ((μ1 0 9) = ((b : Nat) : Int)) ∧ (Ci E mBk_stepsBy [jvR ((b : Nat) : Int), jvI a0] μ1 (fun r13 μ10 => (Q (some (jvI r13)) μ10)))) ∧ (a1 = 2 → (((iand32 (ishr32 (μ1 0 13) a0) 1) = 0 → (Ci E mX_flag [jvI 0] μ1 (fun r20 μ17 => (Q (some (jvI r20)) μ17)))) ∧ (¬ ((iand32 (ishr32 (μ1 0 13) a0) 1) = 0) → (Ci E mX_flag [jvI 1] μ1 (fun r25 μ22 => (Q (some (jvI r25)) μ22)))))) ∧ (a1 = 3 → ((μ1 0 9) = ((b : Nat) : Int)) ∧ (Cl E mBk_fallenBy [jvR ((b : Nat) : Int), jvI (ishl32 1 a0)] μ1 (fun r30 μ27 => (Ci E mLg_bitCount [jvL r30] μ27 (fun r34 μ31 => (Q (some (jvI r34)) μ31)))))) ∧ ((a1 < 0 ∨ 3 < a1) → (Q (some (jvI (-1))) μ1)))) ∧ (r4 = 0 → (Q (some (jvI (-1))) μ1)))))) : K 121 E mX_rule 0 [some (jvR 0), some (jvI a0), some (jvI a1)] [] μ Q := by
  refine K_aload_n 0 0 dX_rule_0 rfl rfl ?_
  refine K_getf 0 9 0 (jvR ((b : Nat) : Int)) dX_rule_1 pf_X_26 rfl rfl (by decide) rfl (congrArg jvR hF.1) ?_
  refine K_iload_n 1 a0 dX_rule_4 rfl rfl ?_
  refine K_callVi mBk_hasRule 2 b [jvI a0] dX_rule_5 pm_X_203 ⟨_, rfl, rfl⟩ ⟨(Nat.le_of_ble_eq_true rfl), (Nat.le_of_ble_eq_true rfl)⟩ rfl (isB_c0 hb) (isB_n 0 (by decide) hb) (Nat.le_of_ble_eq_true rfl) rfl (Nat.le_of_ble_eq_true rfl) (by decide) (Ci_mono hF.2 (fun r4 μ1 h2 => ?_))
  refine K_if_ne 13 dX_rule_8 (by decide) (fun c5 => ?_) (fun c5 => ?_)
  · refine K_iload_n 2 a1 dX_rule_13 rfl rfl ?_
    refine K_table dX_rule_14 (fun i hi9 ha9 => ?_) rfl 97 (by decide) (fun c7 => ?_)
    · match i, hi9, ha9 with
      | 0, _, ha9 =>
        have c7 : a1 = 0 := by omega
        refine ⟨_, 44, rfl, by decide, ?_⟩
        refine K_aload_n 0 0 dX_rule_44 rfl rfl ?_
        refine K_getf 0 9 0 (jvR ((b : Nat) : Int)) dX_rule_45 pf_X_26 rfl rfl (by decide) rfl (congrArg jvR ((h2.1 c5).1 c7).1.1) ?_
        refine K_getf 2 2 b (jvR ((b + 9 : Nat) : Int)) dX_rule_48 pf_X_207 rfl (isB_c0 hb) (isB_n 0 (by decide) hb) rfl (isB_f0_2 hb) ?_
        refine K_iload_n 1 a0 dX_rule_51 rfl rfl ?_
        refine K_iald (b + 9) 12 dX_rule_52 rfl (isB_c9 hb) (isB_n 9 (by decide) hb) ((h2.1 c5).1 c7).1.2 ?_
        exact K_iret dX_rule_53 (Or.inl rfl) ((h2.1 c5).1 c7).2
      | 1, _, ha9 =>
        have c7 : a1 = 1 := by omega
        refine ⟨_, 54, rfl, by decide, ?_⟩
        refine K_aload_n 0 0 dX_rule_54 rfl rfl ?_
        refine K_getf 0 9 0 (jvR ((b : Nat) : Int)) dX_rule_55 pf_X_26 rfl rfl (by decide) rfl (congrArg jvR ((h2.1 c5).2.1 c7).1) ?_
        refine K_iload_n 1 a0 dX_rule_58 rfl rfl ?_
        refine K_callVi mBk_stepsBy 2 b [jvI a0] dX_rule_59 pm_X_210 ⟨_, rfl, rfl⟩ ⟨(Nat.le_of_ble_eq_true rfl), (Nat.le_of_ble_eq_true rfl)⟩ rfl (isB_c0 hb) (isB_n 0 (by decide) hb) (Nat.le_of_ble_eq_true rfl) rfl (Nat.le_of_ble_eq_true rfl) (by decide) (Ci_mono ((h2.1 c5).2.1 c7).2 (fun r13 μ10 h11 => ?_))
        exact K_iret dX_rule_62 (Or.inl rfl) h11
      | 2, _, ha9 =>
        have c7 : a1 = 2 := by omega
        refine ⟨_, 63, rfl, by decide, ?_⟩
        refine K_aload_n 0 0 dX_rule_63 rfl rfl ?_
        refine K_getf 0 13 0 (jvI (μ1 0 13)) dX_rule_64 pf_X_92 rfl rfl (by decide) rfl rfl ?_
        refine K_iload_n 1 a0 dX_rule_67 rfl rfl ?_
        refine K_ishr dX_rule_68 rfl ?_
        refine K_iconst 1 dX_rule_69 rfl ?_
        refine K_iand dX_rule_70 rfl ?_
        refine K_if_eq 78 dX_rule_71 (by decide) (fun c15 => ?_) (fun c15 => ?_)
        · refine K_iconst 0 dX_rule_78 rfl ?_
          refine K_callSi mX_flag [jvI 0] dX_rule_79 pm_X_213 ⟨(Nat.le_of_ble_eq_true rfl), (Nat.le_of_ble_eq_true rfl)⟩ (Nat.le_of_ble_eq_true rfl) rfl (Nat.le_of_ble_eq_true rfl) (by decide) (Ci_mono (((h2.1 c5).2.2.1 c7).1 c15) (fun r20 μ17 h18 => ?_))
          exact K_iret dX_rule_82 (Or.inl rfl) h18
        · refine K_iconst 1 dX_rule_74 rfl ?_
          refine K_goto 79 dX_rule_75 (by decide) ?_
          refine K_callSi mX_flag [jvI 1] dX_rule_79 pm_X_213 ⟨(Nat.le_of_ble_eq_true rfl), (Nat.le_of_ble_eq_true rfl)⟩ (Nat.le_of_ble_eq_true rfl) rfl (Nat.le_of_ble_eq_true rfl) (by decide) (Ci_mono (((h2.1 c5).2.2.1 c7).2 c15) (fun r25 μ22 h23 => ?_))
          exact K_iret dX_rule_82 (Or.inl rfl) h23
      | 3, _, ha9 =>
        have c7 : a1 = 3 := by omega
        refine ⟨_, 83, rfl, by decide, ?_⟩
        refine K_aload_n 0 0 dX_rule_83 rfl rfl ?_
        refine K_getf 0 9 0 (jvR ((b : Nat) : Int)) dX_rule_84 pf_X_26 rfl rfl (by decide) rfl (congrArg jvR ((h2.1 c5).2.2.2.1 c7).1) ?_
        refine K_iconst 1 dX_rule_87 rfl ?_
        refine K_iload_n 1 a0 dX_rule_88 rfl rfl ?_
        refine K_ishl dX_rule_89 rfl ?_
        refine K_callVl mBk_fallenBy 2 b [jvI (ishl32 1 a0)] dX_rule_90 pm_X_217 ⟨_, rfl, rfl⟩ ⟨(Nat.le_of_ble_eq_true rfl), (Nat.le_of_ble_eq_true rfl)⟩ rfl (isB_c0 hb) (isB_n 0 (by decide) hb) (Nat.le_of_ble_eq_true rfl) rfl (Nat.le_of_ble_eq_true rfl) (by decide) (Cl_mono ((h2.1 c5).2.2.2.1 c7).2 (fun r30 μ27 h28 => ?_))
        refine K_callSi mLg_bitCount [jvL r30] dX_rule_93 pm_X_160 ⟨(Nat.le_of_ble_eq_true rfl), (Nat.le_of_ble_eq_true rfl)⟩ (Nat.le_of_ble_eq_true rfl) rfl (Nat.le_of_ble_eq_true rfl) (by decide) (Ci_mono h28 (fun r34 μ31 h32 => ?_))
        exact K_iret dX_rule_96 (Or.inl rfl) h32
      | i + 4, hi9, _ => exact absurd hi9 (by simp <;> omega)
    · skip
      refine K_iconst (-1) dX_rule_97 rfl ?_
      exact K_iret dX_rule_98 (Or.inl rfl) ((h2.1 c5).2.2.2.2 c7)
  · refine K_iconst (-1) dX_rule_11 rfl ?_
    exact K_iret dX_rule_12 (Or.inl rfl) (h2.2 c5)
set_option maxHeartbeats 8000000 in
theorem vBk_hasRule_0 {E : jE} {μ : jMu} {Q : Option AV → jMu → Prop} {b : Nat} (hb : isB b) {a0 : Int} (hF : ((a0 < 0 → (Q (some (jvI 0)) μ)) ∧ (¬ (a0 < 0) → (((μ b 12) ≤ a0 → (Q (some (jvI 0)) μ)) ∧ (¬ ((μ b 12) ≤ a0) → (Q (some (jvI 1)) μ)))))) : K 121 E mBk_hasRule 0 [some (jvR ((b : Nat) : Int)), some (jvI a0)] [] μ Q := by
  refine K_iload_n 1 a0 dBk_hasRule_0 rfl rfl ?_
  refine K_if_lt 16 dBk_hasRule_1 (by decide) (fun c1 => ?_) (fun c1 => ?_)
  · refine K_iconst 0 dBk_hasRule_16 rfl ?_
    exact K_iret dBk_hasRule_17 (Or.inr ⟨rfl, (by decide)⟩) (hF.1 c1)
  · refine K_iload_n 1 a0 dBk_hasRule_4 rfl rfl ?_
    refine K_aload_n 0 ((b : Nat) : Int) dBk_hasRule_5 rfl rfl ?_
    refine K_getf 2 12 b (jvI (μ b 12)) dBk_hasRule_6 pf_Bk_59 rfl (isB_c0 hb) (isB_n 0 (by decide) hb) rfl (isB_f0_12 hb) ?_
    refine K_icmp_ge 16 dBk_hasRule_9 (by decide) (fun c4 => ?_) (fun c4 => ?_)
    · refine K_iconst 0 dBk_hasRule_16 rfl ?_
      exact K_iret dBk_hasRule_17 (Or.inr ⟨rfl, (by decide)⟩) ((hF.2 c1).1 c4)
    · refine K_iconst 1 dBk_hasRule_12 rfl ?_
      refine K_goto 17 dBk_hasRule_13 (by decide) ?_
      exact K_iret dBk_hasRule_17 (Or.inr ⟨rfl, (by decide)⟩) ((hF.2 c1).2 c4)
set_option maxHeartbeats 8000000 in
theorem vBk_stepsBy_0 {E : jE} {μ : jMu} {Q : Option AV → jMu → Prop} {b : Nat} (hb : isB b) {a0 : Int} (hF : (K 121 E mBk_stepsBy 4 [some (jvR ((b : Nat) : Int)), some (jvI a0), some (jvI 0), some (jvI 0)] [] μ Q)) : K 121 E mBk_stepsBy 0 [some (jvR ((b : Nat) : Int)), some (jvI a0), none, none] [] μ Q := by
  refine K_iconst 0 dBk_stepsBy_0 rfl ?_
  refine K_istore_n 2 dBk_stepsBy_1 rfl (Nat.le_of_ble_eq_true rfl) rfl ?_
  refine K_iconst 0 dBk_stepsBy_2 rfl ?_
  refine K_istore_n 3 dBk_stepsBy_3 rfl (Nat.le_of_ble_eq_true rfl) rfl ?_
  exact hF
set_option maxHeartbeats 8000000 in
theorem vBk_stepsBy_4 {E : jE} {μ : jMu} {Q : Option AV → jMu → Prop} {b : Nat} (hb : isB b) {l1 l2 l3 : Int} (hF : (((μ b 13) ≤ l3 → (Q (some (jvI l2)) μ)) ∧ (¬ ((μ b 13) ≤ l3) → ((0 ≤ l3 ∧ l3 < 40)) ∧ ((¬ (μ (b + 12) l3) = l1 → ((-2147483648 ≤ (l3 + 1) ∧ (l3 + 1) < 2147483648)) ∧ (K 121 E mBk_stepsBy 4 [some (jvR ((b : Nat) : Int)), some (jvI l1), some (jvI l2), some (jvI (l3 + 1))] [] μ Q)) ∧ ((μ (b + 12) l3) = l1 → ((-2147483648 ≤ (l2 + 1) ∧ (l2 + 1) < 2147483648) ∧ (-2147483648 ≤ (l3 + 1) ∧ (l3 + 1) < 2147483648)) ∧ (K 121 E mBk_stepsBy 4 [some (jvR ((b : Nat) : Int)), some (jvI l1), some (jvI (l2 + 1)), some (jvI (l3 + 1))] [] μ Q)))))) : K 121 E mBk_stepsBy 4 [some (jvR ((b : Nat) : Int)), some (jvI l1), some (jvI l2), some (jvI l3)] [] μ Q := by
  refine K_iload_n 3 l3 dBk_stepsBy_4 rfl rfl ?_
  refine K_aload_n 0 ((b : Nat) : Int) dBk_stepsBy_5 rfl rfl ?_
  refine K_getf 2 13 b (jvI (μ b 13)) dBk_stepsBy_6 pf_Bk_62 rfl (isB_c0 hb) (isB_n 0 (by decide) hb) rfl (isB_f0_13 hb) ?_
  refine K_icmp_ge 31 dBk_stepsBy_9 (by decide) (fun c1 => ?_) (fun c1 => ?_)
  · refine K_iload_n 2 l2 dBk_stepsBy_31 rfl rfl ?_
    exact K_iret dBk_stepsBy_32 (Or.inl rfl) (hF.1 c1)
  · refine K_aload_n 0 ((b : Nat) : Int) dBk_stepsBy_12 rfl rfl ?_
    refine K_getf 2 5 b (jvR ((b + 12 : Nat) : Int)) dBk_stepsBy_13 pf_Bk_31 rfl (isB_c0 hb) (isB_n 0 (by decide) hb) rfl (isB_f0_5 hb) ?_
    refine K_iload_n 3 l3 dBk_stepsBy_16 rfl rfl ?_
    refine K_iald (b + 12) 40 dBk_stepsBy_17 rfl (isB_c12 hb) (isB_n 12 (by decide) hb) (hF.2 c1).1 ?_
    refine K_iload_n 1 l1 dBk_stepsBy_18 rfl rfl ?_
    refine K_icmp_ne 25 dBk_stepsBy_19 (by decide) (fun c4 => ?_) (fun c4 => ?_)
    · refine K_iinc 3 dBk_stepsBy_25 (Nat.le_of_ble_eq_true rfl) rfl (w32_ok ((hF.2 c1).2.1 c4).1) rfl ?_
      refine K_goto 4 dBk_stepsBy_28 (by decide) ?_
      exact ((hF.2 c1).2.1 c4).2
    · refine K_iinc 2 dBk_stepsBy_22 (Nat.le_of_ble_eq_true rfl) rfl (w32_ok ((hF.2 c1).2.2 c4).1.1) rfl ?_
      refine K_iinc 3 dBk_stepsBy_25 (Nat.le_of_ble_eq_true rfl) rfl (w32_ok ((hF.2 c1).2.2 c4).1.2) rfl ?_
      refine K_goto 4 dBk_stepsBy_28 (by decide) ?_
      exact ((hF.2 c1).2.2 c4).2
set_option maxHeartbeats 8000000 in
theorem vX_flag_0 {E : jE} {μ : jMu} {Q : Option AV → jMu → Prop} {a0 : Int} (hF : ((a0 = 0 → (Q (some (jvI 0)) μ)) ∧ (¬ (a0 = 0) → (Q (some (jvI 1)) μ)))) : K 121 E mX_flag 0 [some (jvI a0)] [] μ Q := by
  refine K_iload_n 0 a0 dX_flag_0 rfl rfl ?_
  refine K_if_eq 8 dX_flag_1 (by decide) (fun c1 => ?_) (fun c1 => ?_)
  · refine K_iconst 0 dX_flag_8 rfl ?_
    exact K_iret dX_flag_9 (Or.inl rfl) (hF.1 c1)
  · refine K_iconst 1 dX_flag_4 rfl ?_
    refine K_goto 9 dX_flag_5 (by decide) ?_
    exact K_iret dX_flag_9 (Or.inl rfl) (hF.2 c1)
set_option maxHeartbeats 8000000 in
theorem vX_step_0 {E : jE} {μ : jMu} {Q : Option AV → jMu → Prop} {b : Nat} (hb : isB b) {a0 a1 : Int} (hF : ((μ 0 9) = ((b : Nat) : Int)) ∧ (Ci E mBk_hasStep [jvR ((b : Nat) : Int), jvI a0] μ (fun r4 μ1 => ((¬ r4 = 0 → ((a1 = 0 → ((μ1 0 9) = ((b : Nat) : Int) ∧ (0 ≤ a0 ∧ a0 < 40)) ∧ (Q (some (jvI (μ1 (b + 12) a0))) μ1)) ∧ (a1 = 1 → ((μ1 0 9) = ((b : Nat) : Int)) ∧ (Ci E mBk_nameCount [jvR ((b : Nat) : Int), jvI a0] μ1 (fun r13 μ10 => (Q (some (jvI r13)) μ10)))) ∧ (a1 = 2 → (Ci E mX_isIn [jvI a0, jvL (μ1 45 8)] μ1 (fun r18 μ15 => (Ci E mX_flag [jvI r18] μ15 (fun r22 μ19 => (Q (some (jvI r22)) μ19)))))) ∧ (a1 = 3 → (Ci E mX_isIn [jvI a0, jvL (μ1 45 9)] μ1 (fun r27 μ24 => (Ci E mX_flag [jvI r27] μ24 (fun r31 μ28 => (Q (some (jvI r31)) μ28)))))) ∧ (a1 = 4 → ((0 ≤ a0 ∧ a0 < 40)) ∧ (Q (some (jvI (μ1 46 a0))) μ1)) ∧ (a1 = 5 → ((0 ≤ a0 ∧ a0 < 40)) ∧ (Q (some (jvI (μ1 47 a0))) μ1)) ∧ (a1 = 6 → ((0 ≤ a0 ∧ a0 < 40)) ∧ (Q (some (jvI (μ1 54 a0))) μ1)) ∧ (a1 = 7 → (Ci E mX_isIn [jvI a0, jvL (μ1 0 14)] μ1 (fun r39 μ36 => (Ci E mX_flag [jvI r39] μ36 (fun r43 μ40 => (Q (some (jvI r43)) μ40)))))) ∧ (a1 = 8 → ((0 ≤ a0 ∧ a0 < 40)) ∧ (Ci E mLg_bitCount [jvL (μ1 51 a0)] μ1 (fun r48 μ45 => (Q (some (jvI r48)) μ45)))) ∧ (a1 = 9 → ((μ1 0 9) = ((b : Nat) : Int) ∧ (μ1 0 9) = ((b : Nat) : Int) ∧ (0 ≤ a0 ∧ a0 < 40)) ∧ (Ci E mTe_size [jvR ((b + 1 : Nat) : Int), jvI (μ1 (b + 13) a0)] μ1 (fun r53 μ50 => (Q (some (jvI r53)) μ50)))) ∧ (a1 = 10 → ((μ1 0 9) = ((b : Nat) : Int)) ∧ (Ci E mWa_seen [jvR 74, jvR ((b : Nat) : Int), jvI a0, jvI (μ1 74 0)] μ1 (fun r58 μ55 => (Q (some (jvI r58)) μ55)))) ∧ ((a1 < 0 ∨ 10 < a1) → (Q (some (jvI (-1))) μ1)))) ∧ (r4 = 0 → (Q (some (jvI (-1))) μ1)))))) : K 121 E mX_step 0 [some (jvR 0), some (jvI a0), some (jvI a1)] [] μ Q := by
  refine K_aload_n 0 0 dX_step_0 rfl rfl ?_
  refine K_getf 0 9 0 (jvR ((b : Nat) : Int)) dX_step_1 pf_X_26 rfl rfl (by decide) rfl (congrArg jvR hF.1) ?_
  refine K_iload_n 1 a0 dX_step_4 rfl rfl ?_
  refine K_callVi mBk_hasStep 2 b [jvI a0] dX_step_5 pm_X_221 ⟨_, rfl, rfl⟩ ⟨(Nat.le_of_ble_eq_true rfl), (Nat.le_of_ble_eq_true rfl)⟩ rfl (isB_c0 hb) (isB_n 0 (by decide) hb) (Nat.le_of_ble_eq_true rfl) rfl (Nat.le_of_ble_eq_true rfl) (by decide) (Ci_mono hF.2 (fun r4 μ1 h2 => ?_))
  refine K_if_ne 13 dX_step_8 (by decide) (fun c5 => ?_) (fun c5 => ?_)
  · refine K_iload_n 2 a1 dX_step_13 rfl rfl ?_
    refine K_table dX_step_14 (fun i hi9 ha9 => ?_) rfl 219 (by decide) (fun c7 => ?_)
    · match i, hi9, ha9 with
      | 0, _, ha9 =>
        have c7 : a1 = 0 := by omega
        refine ⟨_, 72, rfl, by decide, ?_⟩
        refine K_aload_n 0 0 dX_step_72 rfl rfl ?_
        refine K_getf 0 9 0 (jvR ((b : Nat) : Int)) dX_step_73 pf_X_26 rfl rfl (by decide) rfl (congrArg jvR ((h2.1 c5).1 c7).1.1) ?_
        refine K_getf 2 5 b (jvR ((b + 12 : Nat) : Int)) dX_step_76 pf_X_224 rfl (isB_c0 hb) (isB_n 0 (by decide) hb) rfl (isB_f0_5 hb) ?_
        refine K_iload_n 1 a0 dX_step_79 rfl rfl ?_
        refine K_iald (b + 12) 40 dX_step_80 rfl (isB_c12 hb) (isB_n 12 (by decide) hb) ((h2.1 c5).1 c7).1.2 ?_
        exact K_iret dX_step_81 (Or.inl rfl) ((h2.1 c5).1 c7).2
      | 1, _, ha9 =>
        have c7 : a1 = 1 := by omega
        refine ⟨_, 82, rfl, by decide, ?_⟩
        refine K_aload_n 0 0 dX_step_82 rfl rfl ?_
        refine K_getf 0 9 0 (jvR ((b : Nat) : Int)) dX_step_83 pf_X_26 rfl rfl (by decide) rfl (congrArg jvR ((h2.1 c5).2.1 c7).1) ?_
        refine K_iload_n 1 a0 dX_step_86 rfl rfl ?_
        refine K_callVi mBk_nameCount 2 b [jvI a0] dX_step_87 pm_X_227 ⟨_, rfl, rfl⟩ ⟨(Nat.le_of_ble_eq_true rfl), (Nat.le_of_ble_eq_true rfl)⟩ rfl (isB_c0 hb) (isB_n 0 (by decide) hb) (Nat.le_of_ble_eq_true rfl) rfl (Nat.le_of_ble_eq_true rfl) (by decide) (Ci_mono ((h2.1 c5).2.1 c7).2 (fun r13 μ10 h11 => ?_))
        exact K_iret dX_step_90 (Or.inl rfl) h11
      | 2, _, ha9 =>
        have c7 : a1 = 2 := by omega
        refine ⟨_, 91, rfl, by decide, ?_⟩
        refine K_iload_n 1 a0 dX_step_91 rfl rfl ?_
        refine K_aload_n 0 0 dX_step_92 rfl rfl ?_
        refine K_getf 0 2 0 (jvR 45) dX_step_93 pf_X_38 rfl rfl (by decide) rfl rfl ?_
        refine K_getf 3 8 45 (jvL (μ1 45 8)) dX_step_96 pf_X_157 rfl rfl (by decide) rfl rfl ?_
        refine K_callSi mX_isIn [jvI a0, jvL (μ1 45 8)] dX_step_99 pm_X_230 ⟨(Nat.le_of_ble_eq_true rfl), (Nat.le_of_ble_eq_true rfl)⟩ (Nat.le_of_ble_eq_true rfl) rfl (Nat.le_of_ble_eq_true rfl) (by decide) (Ci_mono ((h2.1 c5).2.2.1 c7) (fun r18 μ15 h16 => ?_))
        refine K_callSi mX_flag [jvI r18] dX_step_102 pm_X_213 ⟨(Nat.le_of_ble_eq_true rfl), (Nat.le_of_ble_eq_true rfl)⟩ (Nat.le_of_ble_eq_true rfl) rfl (Nat.le_of_ble_eq_true rfl) (by decide) (Ci_mono h16 (fun r22 μ19 h20 => ?_))
        exact K_iret dX_step_105 (Or.inl rfl) h20
      | 3, _, ha9 =>
        have c7 : a1 = 3 := by omega
        refine ⟨_, 106, rfl, by decide, ?_⟩
        refine K_iload_n 1 a0 dX_step_106 rfl rfl ?_
        refine K_aload_n 0 0 dX_step_107 rfl rfl ?_
        refine K_getf 0 2 0 (jvR 45) dX_step_108 pf_X_38 rfl rfl (by decide) rfl rfl ?_
        refine K_getf 3 9 45 (jvL (μ1 45 9)) dX_step_111 pf_X_166 rfl rfl (by decide) rfl rfl ?_
        refine K_callSi mX_isIn [jvI a0, jvL (μ1 45 9)] dX_step_114 pm_X_230 ⟨(Nat.le_of_ble_eq_true rfl), (Nat.le_of_ble_eq_true rfl)⟩ (Nat.le_of_ble_eq_true rfl) rfl (Nat.le_of_ble_eq_true rfl) (by decide) (Ci_mono ((h2.1 c5).2.2.2.1 c7) (fun r27 μ24 h25 => ?_))
        refine K_callSi mX_flag [jvI r27] dX_step_117 pm_X_213 ⟨(Nat.le_of_ble_eq_true rfl), (Nat.le_of_ble_eq_true rfl)⟩ (Nat.le_of_ble_eq_true rfl) rfl (Nat.le_of_ble_eq_true rfl) (by decide) (Ci_mono h25 (fun r31 μ28 h29 => ?_))
        exact K_iret dX_step_120 (Or.inl rfl) h29
      | 4, _, ha9 =>
        have c7 : a1 = 4 := by omega
        refine ⟨_, 121, rfl, by decide, ?_⟩
        refine K_aload_n 0 0 dX_step_121 rfl rfl ?_
        refine K_getf 0 2 0 (jvR 45) dX_step_122 pf_X_38 rfl rfl (by decide) rfl rfl ?_
        refine K_getf 3 0 45 (jvR 46) dX_step_125 pf_X_234 rfl rfl (by decide) rfl rfl ?_
        refine K_iload_n 1 a0 dX_step_128 rfl rfl ?_
        refine K_iald 46 40 dX_step_129 rfl rfl (by decide) ((h2.1 c5).2.2.2.2.1 c7).1 ?_
        exact K_iret dX_step_130 (Or.inl rfl) ((h2.1 c5).2.2.2.2.1 c7).2
      | 5, _, ha9 =>
        have c7 : a1 = 5 := by omega
        refine ⟨_, 131, rfl, by decide, ?_⟩
        refine K_aload_n 0 0 dX_step_131 rfl rfl ?_
        refine K_getf 0 2 0 (jvR 45) dX_step_132 pf_X_38 rfl rfl (by decide) rfl rfl ?_
        refine K_getf 3 1 45 (jvR 47) dX_step_135 pf_X_237 rfl rfl (by decide) rfl rfl ?_
        refine K_iload_n 1 a0 dX_step_138 rfl rfl ?_
        refine K_iald 47 40 dX_step_139 rfl rfl (by decide) ((h2.1 c5).2.2.2.2.2.1 c7).1 ?_
        exact K_iret dX_step_140 (Or.inl rfl) ((h2.1 c5).2.2.2.2.2.1 c7).2
      | 6, _, ha9 =>
        have c7 : a1 = 6 := by omega
        refine ⟨_, 141, rfl, by decide, ?_⟩
        refine K_aload_n 0 0 dX_step_141 rfl rfl ?_
        refine K_getf 0 2 0 (jvR 45) dX_step_142 pf_X_38 rfl rfl (by decide) rfl rfl ?_
        refine K_getf 3 6 45 (jvR 52) dX_step_145 pf_X_175 rfl rfl (by decide) rfl rfl ?_
        refine K_getf 6 1 52 (jvR 54) dX_step_148 pf_X_240 rfl rfl (by decide) rfl rfl ?_
        refine K_iload_n 1 a0 dX_step_151 rfl rfl ?_
        refine K_iald 54 40 dX_step_152 rfl rfl (by decide) ((h2.1 c5).2.2.2.2.2.2.1 c7).1 ?_
        exact K_iret dX_step_153 (Or.inl rfl) ((h2.1 c5).2.2.2.2.2.2.1 c7).2
      | 7, _, ha9 =>
        have c7 : a1 = 7 := by omega
        refine ⟨_, 154, rfl, by decide, ?_⟩
        refine K_iload_n 1 a0 dX_step_154 rfl rfl ?_
        refine K_aload_n 0 0 dX_step_155 rfl rfl ?_
        refine K_getf 0 14 0 (jvL (μ1 0 14)) dX_step_156 pf_X_95 rfl rfl (by decide) rfl rfl ?_
        refine K_callSi mX_isIn [jvI a0, jvL (μ1 0 14)] dX_step_159 pm_X_230 ⟨(Nat.le_of_ble_eq_true rfl), (Nat.le_of_ble_eq_true rfl)⟩ (Nat.le_of_ble_eq_true rfl) rfl (Nat.le_of_ble_eq_true rfl) (by decide) (Ci_mono ((h2.1 c5).2.2.2.2.2.2.2.1 c7) (fun r39 μ36 h37 => ?_))
        refine K_callSi mX_flag [jvI r39] dX_step_162 pm_X_213 ⟨(Nat.le_of_ble_eq_true rfl), (Nat.le_of_ble_eq_true rfl)⟩ (Nat.le_of_ble_eq_true rfl) rfl (Nat.le_of_ble_eq_true rfl) (by decide) (Ci_mono h37 (fun r43 μ40 h41 => ?_))
        exact K_iret dX_step_165 (Or.inl rfl) h41
      | 8, _, ha9 =>
        have c7 : a1 = 8 := by omega
        refine ⟨_, 166, rfl, by decide, ?_⟩
        refine K_aload_n 0 0 dX_step_166 rfl rfl ?_
        refine K_getf 0 2 0 (jvR 45) dX_step_167 pf_X_38 rfl rfl (by decide) rfl rfl ?_
        refine K_getf 3 5 45 (jvR 51) dX_step_170 pf_X_243 rfl rfl (by decide) rfl rfl ?_
        refine K_iload_n 1 a0 dX_step_173 rfl rfl ?_
        refine K_lald 51 40 dX_step_174 rfl rfl (by decide) ((h2.1 c5).2.2.2.2.2.2.2.2.1 c7).1 ?_
        refine K_callSi mLg_bitCount [jvL (μ1 51 a0)] dX_step_175 pm_X_160 ⟨(Nat.le_of_ble_eq_true rfl), (Nat.le_of_ble_eq_true rfl)⟩ (Nat.le_of_ble_eq_true rfl) rfl (Nat.le_of_ble_eq_true rfl) (by decide) (Ci_mono ((h2.1 c5).2.2.2.2.2.2.2.2.1 c7).2 (fun r48 μ45 h46 => ?_))
        exact K_iret dX_step_178 (Or.inl rfl) h46
      | 9, _, ha9 =>
        have c7 : a1 = 9 := by omega
        refine ⟨_, 179, rfl, by decide, ?_⟩
        refine K_aload_n 0 0 dX_step_179 rfl rfl ?_
        refine K_getf 0 9 0 (jvR ((b : Nat) : Int)) dX_step_180 pf_X_26 rfl rfl (by decide) rfl (congrArg jvR ((h2.1 c5).2.2.2.2.2.2.2.2.2.1 c7).1.1) ?_
        refine K_getf 2 0 b (jvR ((b + 1 : Nat) : Int)) dX_step_183 pf_X_142 rfl (isB_c0 hb) (isB_n 0 (by decide) hb) rfl (isB_f0_0 hb) ?_
        refine K_aload_n 0 0 dX_step_186 rfl rfl ?_
        refine K_getf 0 9 0 (jvR ((b : Nat) : Int)) dX_step_187 pf_X_26 rfl rfl (by decide) rfl (congrArg jvR ((h2.1 c5).2.2.2.2.2.2.2.2.2.1 c7).1.2.1) ?_
        refine K_getf 2 6 b (jvR ((b + 13 : Nat) : Int)) dX_step_190 pf_X_247 rfl (isB_c0 hb) (isB_n 0 (by decide) hb) rfl (isB_f0_6 hb) ?_
        refine K_iload_n 1 a0 dX_step_193 rfl rfl ?_
        refine K_iald (b + 13) 40 dX_step_194 rfl (isB_c13 hb) (isB_n 13 (by decide) hb) ((h2.1 c5).2.2.2.2.2.2.2.2.2.1 c7).1.2.2 ?_
        refine K_callVi mTe_size 9 (b + 1) [jvI (μ1 (b + 13) a0)] dX_step_195 pm_X_250 ⟨_, rfl, rfl⟩ ⟨(Nat.le_of_ble_eq_true rfl), (Nat.le_of_ble_eq_true rfl)⟩ rfl (isB_c1 hb) (isB_n 1 (by decide) hb) (Nat.le_of_ble_eq_true rfl) rfl (Nat.le_of_ble_eq_true rfl) (by decide) (Ci_mono ((h2.1 c5).2.2.2.2.2.2.2.2.2.1 c7).2 (fun r53 μ50 h51 => ?_))
        exact K_iret dX_step_198 (Or.inl rfl) h51
      | 10, _, ha9 =>
        have c7 : a1 = 10 := by omega
        refine ⟨_, 199, rfl, by decide, ?_⟩
        refine K_aload_n 0 0 dX_step_199 rfl rfl ?_
        refine K_getf 0 7 0 (jvR 74) dX_step_200 pf_X_73 rfl rfl (by decide) rfl rfl ?_
        refine K_aload_n 0 0 dX_step_203 rfl rfl ?_
        refine K_getf 0 9 0 (jvR ((b : Nat) : Int)) dX_step_204 pf_X_26 rfl rfl (by decide) rfl (congrArg jvR ((h2.1 c5).2.2.2.2.2.2.2.2.2.2.1 c7).1) ?_
        refine K_iload_n 1 a0 dX_step_207 rfl rfl ?_
        refine K_aload_n 0 0 dX_step_208 rfl rfl ?_
        refine K_getf 0 7 0 (jvR 74) dX_step_209 pf_X_73 rfl rfl (by decide) rfl rfl ?_
        refine K_getf 10 0 74 (jvI (μ1 74 0)) dX_step_212 pf_X_127 rfl rfl (by decide) rfl rfl ?_
        refine K_callVi mWa_seen 10 74 [jvR ((b : Nat) : Int), jvI a0, jvI (μ1 74 0)] dX_step_215 pm_X_253 ⟨_, rfl, rfl⟩ ⟨(Nat.le_of_ble_eq_true rfl), (Nat.le_of_ble_eq_true rfl)⟩ rfl rfl (by decide) (Nat.le_of_ble_eq_true rfl) rfl (Nat.le_of_ble_eq_true rfl) (by decide) (Ci_mono ((h2.1 c5).2.2.2.2.2.2.2.2.2.2.1 c7).2 (fun r58 μ55 h56 => ?_))
        exact K_iret dX_step_218 (Or.inl rfl) h56
      | i + 11, hi9, _ => exact absurd hi9 (by simp <;> omega)
    · skip
      refine K_iconst (-1) dX_step_219 rfl ?_
      exact K_iret dX_step_220 (Or.inl rfl) ((h2.1 c5).2.2.2.2.2.2.2.2.2.2.2 c7)
  · refine K_iconst (-1) dX_step_11 rfl ?_
    exact K_iret dX_step_12 (Or.inl rfl) (h2.2 c5)
set_option maxHeartbeats 8000000 in
theorem vBk_hasStep_0 {E : jE} {μ : jMu} {Q : Option AV → jMu → Prop} {b : Nat} (hb : isB b) {a0 : Int} (hF : ((a0 < 0 → (Q (some (jvI 0)) μ)) ∧ (¬ (a0 < 0) → (((μ b 13) ≤ a0 → (Q (some (jvI 0)) μ)) ∧ (¬ ((μ b 13) ≤ a0) → (Q (some (jvI 1)) μ)))))) : K 121 E mBk_hasStep 0 [some (jvR ((b : Nat) : Int)), some (jvI a0)] [] μ Q := by
  refine K_iload_n 1 a0 dBk_hasStep_0 rfl rfl ?_
  refine K_if_lt 16 dBk_hasStep_1 (by decide) (fun c1 => ?_) (fun c1 => ?_)
  · refine K_iconst 0 dBk_hasStep_16 rfl ?_
    exact K_iret dBk_hasStep_17 (Or.inr ⟨rfl, (by decide)⟩) (hF.1 c1)
  · refine K_iload_n 1 a0 dBk_hasStep_4 rfl rfl ?_
    refine K_aload_n 0 ((b : Nat) : Int) dBk_hasStep_5 rfl rfl ?_
    refine K_getf 2 13 b (jvI (μ b 13)) dBk_hasStep_6 pf_Bk_62 rfl (isB_c0 hb) (isB_n 0 (by decide) hb) rfl (isB_f0_13 hb) ?_
    refine K_icmp_ge 16 dBk_hasStep_9 (by decide) (fun c4 => ?_) (fun c4 => ?_)
    · refine K_iconst 0 dBk_hasStep_16 rfl ?_
      exact K_iret dBk_hasStep_17 (Or.inr ⟨rfl, (by decide)⟩) ((hF.2 c1).1 c4)
    · refine K_iconst 1 dBk_hasStep_12 rfl ?_
      refine K_goto 17 dBk_hasStep_13 (by decide) ?_
      exact K_iret dBk_hasStep_17 (Or.inr ⟨rfl, (by decide)⟩) ((hF.2 c1).2 c4)
