set_option maxHeartbeats 8000000 in
theorem vM_feed_0 {E : jE} {μ : jMu} {Q : Option AV → jMu → Prop} {a0 a1 a2 a3 a4 : Int} (hF : ((-2147483648 ≤ ((μ 76 1) + 20) ∧ ((μ 76 1) + 20) < 2147483648)) ∧ ((((μ 76 1) + 20) ≤ 1600 → (K 121 E mM_feed 18 [some (jvR 76), some (jvI a0), some (jvI a1), some (jvI a2), some (jvI a3), some (jvI a4), some (jvI 0), none] [] μ Q)) ∧ (¬ (((μ 76 1) + 20) ≤ 1600) → (Q (some (jvI (-1))) μ)))) : K 121 E mM_feed 0 [some (jvR 76), some (jvI a0), some (jvI a1), some (jvI a2), some (jvI a3), some (jvI a4), none, none] [] μ Q := by
  refine K_aload_n 0 76 dM_feed_0 rfl rfl ?_
  refine K_getf 12 1 76 (jvI (μ 76 1)) dM_feed_1 pf_M_153 rfl rfl (by decide) rfl rfl ?_
  refine K_bipush 20 dM_feed_4 rfl ?_
  refine K_iadd dM_feed_6 (w32_id hF.1) ?_
  refine K_sipush 1600 dM_feed_7 rfl ?_
  refine K_icmp_le 15 dM_feed_10 (by decide) (fun c1 => ?_) (fun c1 => ?_)
  · refine K_iconst 0 dM_feed_15 rfl ?_
    refine K_istore 6 dM_feed_16 (Nat.le_of_ble_eq_true rfl) rfl ?_
    exact (hF.2.1 c1)
  · refine K_iconst (-1) dM_feed_13 rfl ?_
    exact K_iret dM_feed_14 (Or.inl rfl) (hF.2.2 c1)
set_option maxHeartbeats 8000000 in
theorem vM_feed_18 {E : jE} {μ : jMu} {Q : Option AV → jMu → Prop} {l1 l2 l3 l4 l5 l6 : Int} (hF : ((20 ≤ l6 → (Q (some (jvI (μ 76 1))) μ)) ∧ (¬ (20 ≤ l6) → ((4 ≤ l6 → ((8 ≤ l6 → ((12 ≤ l6 → ((16 ≤ l6 → (K 121 E mM_feed 71 [some (jvR 76), some (jvI l1), some (jvI l2), some (jvI l3), some (jvI l4), some (jvI l5), some (jvI l6), none] [jvI l5] μ Q)) ∧ (¬ (16 ≤ l6) → (K 121 E mM_feed 71 [some (jvR 76), some (jvI l1), some (jvI l2), some (jvI l3), some (jvI l4), some (jvI l5), some (jvI l6), none] [jvI l4] μ Q)))) ∧ (¬ (12 ≤ l6) → (K 121 E mM_feed 71 [some (jvR 76), some (jvI l1), some (jvI l2), some (jvI l3), some (jvI l4), some (jvI l5), some (jvI l6), none] [jvI l3] μ Q)))) ∧ (¬ (8 ≤ l6) → (K 121 E mM_feed 71 [some (jvR 76), some (jvI l1), some (jvI l2), some (jvI l3), some (jvI l4), some (jvI l5), some (jvI l6), none] [jvI l2] μ Q)))) ∧ (¬ (4 ≤ l6) → (K 121 E mM_feed 71 [some (jvR 76), some (jvI l1), some (jvI l2), some (jvI l3), some (jvI l4), some (jvI l5), some (jvI l6), none] [jvI l1] μ Q)))))) : K 121 E mM_feed 18 [some (jvR 76), some (jvI l1), some (jvI l2), some (jvI l3), some (jvI l4), some (jvI l5), some (jvI l6), none] [] μ Q := by
  refine K_iload 6 l6 dM_feed_18 rfl ?_
  refine K_bipush 20 dM_feed_20 rfl ?_
  refine K_icmp_ge 114 dM_feed_22 (by decide) (fun c1 => ?_) (fun c1 => ?_)
  · refine K_aload_n 0 76 dM_feed_114 rfl rfl ?_
    refine K_getf 12 1 76 (jvI (μ 76 1)) dM_feed_115 pf_M_153 rfl rfl (by decide) rfl rfl ?_
    exact K_iret dM_feed_118 (Or.inl rfl) (hF.1 c1)
  · refine K_iload 6 l6 dM_feed_25 rfl ?_
    refine K_iconst 4 dM_feed_27 rfl ?_
    refine K_icmp_ge 35 dM_feed_28 (by decide) (fun c4 => ?_) (fun c4 => ?_)
    · refine K_iload 6 l6 dM_feed_35 rfl ?_
      refine K_bipush 8 dM_feed_37 rfl ?_
      refine K_icmp_ge 46 dM_feed_39 (by decide) (fun c6 => ?_) (fun c6 => ?_)
      · refine K_iload 6 l6 dM_feed_46 rfl ?_
        refine K_bipush 12 dM_feed_48 rfl ?_
        refine K_icmp_ge 57 dM_feed_50 (by decide) (fun c8 => ?_) (fun c8 => ?_)
        · refine K_iload 6 l6 dM_feed_57 rfl ?_
          refine K_bipush 16 dM_feed_59 rfl ?_
          refine K_icmp_ge 69 dM_feed_61 (by decide) (fun c10 => ?_) (fun c10 => ?_)
          · refine K_iload 5 l5 dM_feed_69 rfl ?_
            exact (((((hF.2 c1).1 c4).1 c6).1 c8).1 c10)
          · refine K_iload 4 l4 dM_feed_64 rfl ?_
            refine K_goto 71 dM_feed_66 (by decide) ?_
            exact (((((hF.2 c1).1 c4).1 c6).1 c8).2 c10)
        · refine K_iload_n 3 l3 dM_feed_53 rfl rfl ?_
          refine K_goto 71 dM_feed_54 (by decide) ?_
          exact ((((hF.2 c1).1 c4).1 c6).2 c8)
      · refine K_iload_n 2 l2 dM_feed_42 rfl rfl ?_
        refine K_goto 71 dM_feed_43 (by decide) ?_
        exact (((hF.2 c1).1 c4).2 c6)
    · refine K_iload_n 1 l1 dM_feed_31 rfl rfl ?_
      refine K_goto 71 dM_feed_32 (by decide) ?_
      exact ((hF.2 c1).2 c4)
set_option maxHeartbeats 8000000 in
theorem vM_feed_71 {E : jE} {μ : jMu} {Q : Option AV → jMu → Prop} {l1 l2 l3 l4 l5 l6 s0 : Int} (hF : ((-2147483648 ≤ (3 - (Int.tmod l6 4)) ∧ (3 - (Int.tmod l6 4)) < 2147483648) ∧ (-2147483648 ≤ (8 * (3 - (Int.tmod l6 4))) ∧ (8 * (3 - (Int.tmod l6 4))) < 2147483648) ∧ (0 ≤ (μ 76 1) ∧ (μ 76 1) < 1600) ∧ (-2147483648 ≤ ((μ 76 1) + 1) ∧ ((μ 76 1) + 1) < 2147483648) ∧ (-2147483648 ≤ (l6 + 1) ∧ (l6 + 1) < 2147483648)) ∧ (K 121 E mM_feed 18 [some (jvR 76), some (jvI l1), some (jvI l2), some (jvI l3), some (jvI l4), some (jvI l5), some (jvI (l6 + 1)), none] [] (j_up (j_up μ 77 (μ 76 1) (iand32 (ishr32 s0 (8 * (3 - (Int.tmod l6 4)))) 255)) 76 1 ((μ 76 1) + 1)) Q)) : K 121 E mM_feed 71 [some (jvR 76), some (jvI l1), some (jvI l2), some (jvI l3), some (jvI l4), some (jvI l5), some (jvI l6), none] [jvI s0] μ Q := by
  refine K_istore 7 dM_feed_71 (Nat.le_of_ble_eq_true rfl) rfl ?_
  refine K_aload_n 0 76 dM_feed_73 rfl rfl ?_
  refine K_getf 12 0 76 (jvR 77) dM_feed_74 pf_M_7 rfl rfl (by decide) rfl rfl ?_
  refine K_aload_n 0 76 dM_feed_77 rfl rfl ?_
  refine K_getf 12 1 76 (jvI (μ 76 1)) dM_feed_78 pf_M_153 rfl rfl (by decide) rfl rfl ?_
  refine K_iload 7 s0 dM_feed_81 rfl ?_
  refine K_bipush 8 dM_feed_83 rfl ?_
  refine K_iconst 3 dM_feed_85 rfl ?_
  refine K_iload 6 l6 dM_feed_86 rfl ?_
  refine K_iconst 4 dM_feed_88 rfl ?_
  refine K_irem dM_feed_89 (by decide) rfl ?_
  refine K_isub dM_feed_90 (w32_id hF.1.1) ?_
  refine K_imul dM_feed_91 (w32_id hF.1.2.1) ?_
  refine K_ishr dM_feed_92 rfl ?_
  refine K_sipush 255 dM_feed_93 rfl ?_
  refine K_iand dM_feed_96 rfl ?_
  refine K_iast 77 1600 dM_feed_97 rfl rfl (by decide) hF.1.2.2.1 ?_
  refine K_aload_n 0 76 dM_feed_98 rfl rfl ?_
  refine K_dup dM_feed_99 (fun _ h => by cases h) ?_
  refine K_getf 12 1 76 (jvI (μ 76 1)) dM_feed_100 pf_M_153 rfl rfl (by decide) rfl rfl ?_
  refine K_iconst 1 dM_feed_103 rfl ?_
  refine K_iadd dM_feed_104 (w32_id hF.1.2.2.2.1) ?_
  refine K_putf 12 1 76 (x := ((μ 76 1) + 1)) dM_feed_105 pf_M_153 rfl rfl (by decide) rfl rfl rfl rfl trivial ?_
  refine K_iinc 6 dM_feed_108 (Nat.le_of_ble_eq_true rfl) rfl (w32_ok hF.1.2.2.2.2) rfl ?_
  refine K_goto 18 dM_feed_111 (by decide) ?_
  exact K_forget [true, true, true, true, true, true, true, false] hF.2
set_option maxHeartbeats 8000000 in
theorem vM_end_0 {E : jE} {μ : jMu} {Q : Option AV → jMu → Prop} {a0 : Int} (hF : ((a0 < 0 → (Q (some (jvI 0)) μ)) ∧ (¬ (a0 < 0) → ((a0 ≤ (μ 76 1) → (Q (some (jvI 1)) (j_up μ 76 1 a0))) ∧ (¬ (a0 ≤ (μ 76 1)) → (Q (some (jvI 0)) μ)))))) : K 121 E mM_end 0 [some (jvR 76), some (jvI a0)] [] μ Q := by
  refine K_iload_n 1 a0 dM_end_0 rfl rfl ?_
  refine K_if_lt 12 dM_end_1 (by decide) (fun c1 => ?_) (fun c1 => ?_)
  · refine K_iconst 0 dM_end_12 rfl ?_
    exact K_iret dM_end_13 (Or.inr ⟨rfl, (by decide)⟩) (hF.1 c1)
  · refine K_iload_n 1 a0 dM_end_4 rfl rfl ?_
    refine K_aload_n 0 76 dM_end_5 rfl rfl ?_
    refine K_getf 12 1 76 (jvI (μ 76 1)) dM_end_6 pf_M_153 rfl rfl (by decide) rfl rfl ?_
    refine K_icmp_le 14 dM_end_9 (by decide) (fun c4 => ?_) (fun c4 => ?_)
    · refine K_aload_n 0 76 dM_end_14 rfl rfl ?_
      refine K_iload_n 1 a0 dM_end_15 rfl rfl ?_
      refine K_putf 12 1 76 (x := a0) dM_end_16 pf_M_153 rfl rfl (by decide) rfl rfl rfl rfl trivial ?_
      refine K_iconst 1 dM_end_19 rfl ?_
      exact K_iret dM_end_20 (Or.inr ⟨rfl, (by decide)⟩) ((hF.2 c1).1 c4)
    · refine K_iconst 0 dM_end_12 rfl ?_
      exact K_iret dM_end_13 (Or.inr ⟨rfl, (by decide)⟩) ((hF.2 c1).2 c4)
set_option maxHeartbeats 8000000 in
theorem vM_proof_0 {E : jE} {μ : jMu} {Q : Option AV → jMu → Prop} (hF : (K 121 E mM_proof 50 [some (jvR 76), some (jvI 0)] [] (j_up (j_up (j_up (j_up (j_up (j_up (j_up (j_up (j_up μ 76 3 (μ 76 1)) 76 1 0) 76 2 0) 76 4 (-1)) 76 5 0) 76 6 (-1)) 76 34 0) 76 23 0) 76 32 (-1)) Q)) : K 121 E mM_proof 0 [some (jvR 76), none] [] μ Q := by
  refine K_aload_n 0 76 dM_proof_0 rfl rfl ?_
  refine K_aload_n 0 76 dM_proof_1 rfl rfl ?_
  refine K_getf 12 1 76 (jvI (μ 76 1)) dM_proof_2 pf_M_153 rfl rfl (by decide) rfl rfl ?_
  refine K_putf 12 3 76 (x := (μ 76 1)) dM_proof_5 pf_M_165 rfl rfl (by decide) rfl rfl rfl rfl trivial ?_
  refine K_aload_n 0 76 dM_proof_8 rfl rfl ?_
  refine K_iconst 0 dM_proof_9 rfl ?_
  refine K_putf 12 1 76 (x := 0) dM_proof_10 pf_M_153 rfl rfl (by decide) rfl rfl rfl rfl trivial ?_
  refine K_aload_n 0 76 dM_proof_13 rfl rfl ?_
  refine K_iconst 0 dM_proof_14 rfl ?_
  refine K_putf 12 2 76 (x := 0) dM_proof_15 pf_M_162 rfl rfl (by decide) rfl rfl rfl rfl trivial ?_
  refine K_aload_n 0 76 dM_proof_18 rfl rfl ?_
  refine K_iconst (-1) dM_proof_19 rfl ?_
  refine K_putf 12 4 76 (x := (-1)) dM_proof_20 pf_M_176 rfl rfl (by decide) rfl rfl rfl rfl trivial ?_
  refine K_aload_n 0 76 dM_proof_23 rfl rfl ?_
  refine K_iconst 0 dM_proof_24 rfl ?_
  refine K_putf 12 5 76 (x := 0) dM_proof_25 pf_M_156 rfl rfl (by decide) rfl rfl rfl rfl trivial ?_
  refine K_aload_n 0 76 dM_proof_28 rfl rfl ?_
  refine K_iconst (-1) dM_proof_29 rfl ?_
  refine K_putf 12 6 76 (x := (-1)) dM_proof_30 pf_M_159 rfl rfl (by decide) rfl rfl rfl rfl trivial ?_
  refine K_aload_n 0 76 dM_proof_33 rfl rfl ?_
  refine K_iconst 0 dM_proof_34 rfl ?_
  refine K_putf 12 34 76 (x := 0) dM_proof_35 pf_M_264 rfl rfl (by decide) rfl rfl rfl rfl trivial ?_
  refine K_aload_n 0 76 dM_proof_38 rfl rfl ?_
  refine K_iconst 0 dM_proof_39 rfl ?_
  refine K_putf 12 23 76 (x := 0) dM_proof_40 pf_M_219 rfl rfl (by decide) rfl rfl rfl rfl trivial ?_
  refine K_aload_n 0 76 dM_proof_43 rfl rfl ?_
  refine K_iconst (-1) dM_proof_44 rfl ?_
  refine K_putf 12 32 76 (x := (-1)) dM_proof_45 pf_M_276 rfl rfl (by decide) rfl rfl rfl rfl trivial ?_
  refine K_iconst 0 dM_proof_48 rfl ?_
  refine K_istore_n 1 dM_proof_49 rfl (Nat.le_of_ble_eq_true rfl) rfl ?_
  exact hF
set_option maxHeartbeats 8000000 in
theorem vM_proof_50 {E : jE} {μ : jMu} {Q : Option AV → jMu → Prop} {l1 : Int} (hF : ((5 ≤ l1 → (K 121 E mM_proof 68 [some (jvR 76), some (jvI l1)] [] μ Q)) ∧ (¬ (5 ≤ l1) → ((0 ≤ l1 ∧ l1 < 10) ∧ (-2147483648 ≤ (l1 + 1) ∧ (l1 + 1) < 2147483648)) ∧ (K 121 E mM_proof 50 [some (jvR 76), some (jvI (l1 + 1))] [] (j_up μ 87 l1 0) Q)))) : K 121 E mM_proof 50 [some (jvR 76), some (jvI l1)] [] μ Q := by
  refine K_iload_n 1 l1 dM_proof_50 rfl rfl ?_
  refine K_iconst 5 dM_proof_51 rfl ?_
  refine K_icmp_ge 68 dM_proof_52 (by decide) (fun c1 => ?_) (fun c1 => ?_)
  · exact (hF.1 c1)
  · refine K_aload_n 0 76 dM_proof_55 rfl rfl ?_
    refine K_getf 12 19 76 (jvR 87) dM_proof_56 pf_M_45 rfl rfl (by decide) rfl rfl ?_
    refine K_iload_n 1 l1 dM_proof_59 rfl rfl ?_
    refine K_iconst 0 dM_proof_60 rfl ?_
    refine K_iast 87 10 dM_proof_61 rfl rfl (by decide) (hF.2 c1).1.1 ?_
    refine K_iinc 1 dM_proof_62 (Nat.le_of_ble_eq_true rfl) rfl (w32_ok (hF.2 c1).1.2) rfl ?_
    refine K_goto 50 dM_proof_65 (by decide) ?_
    exact (hF.2 c1).2
set_option maxHeartbeats 8000000 in
theorem vM_proof_68 {E : jE} {μ : jMu} {Q : Option AV → jMu → Prop} {l1 : Int} (hF : ((¬ (μ 76 5) = 0 → (((μ 76 5) = 0 → (Cv E mM_stands0 [jvR 76] (j_up (j_up μ 76 7 (μ 76 5)) 76 8 (μ 76 6)) (fun μ5 => (Q (some (jvI (μ5 76 34))) μ5)))) ∧ (¬ ((μ 76 5) = 0) → (Q (some (jvI (-1))) (j_up (j_up μ 76 7 (μ 76 5)) 76 8 (μ 76 6)))))) ∧ ((μ 76 5) = 0 → (Ci E mM_look [jvR 76] μ (fun r13 μ10 => ((r13 = (-1) → (((μ10 76 5) = 0 → (Cv E mM_stands0 [jvR 76] (j_up (j_up μ10 76 7 (μ10 76 5)) 76 8 (μ10 76 6)) (fun μ18 => (Q (some (jvI (μ18 76 34))) μ18)))) ∧ (¬ ((μ10 76 5) = 0) → (Q (some (jvI (-1))) (j_up (j_up μ10 76 7 (μ10 76 5)) 76 8 (μ10 76 6)))))) ∧ (¬ (r13 = (-1)) → (Cv E mM_proofTold [jvR 76] μ10 (fun μ23 => (K 121 E mM_proof 68 [some (jvR 76), some (jvI l1)] [] μ23 Q)))))))))) : K 121 E mM_proof 68 [some (jvR 76), some (jvI l1)] [] μ Q := by
  refine K_aload_n 0 76 dM_proof_68 rfl rfl ?_
  refine K_getf 12 5 76 (jvI (μ 76 5)) dM_proof_69 pf_M_156 rfl rfl (by decide) rfl rfl ?_
  refine K_if_ne 90 dM_proof_72 (by decide) (fun c1 => ?_) (fun c1 => ?_)
  · refine K_aload_n 0 76 dM_proof_90 rfl rfl ?_
    refine K_aload_n 0 76 dM_proof_91 rfl rfl ?_
    refine K_getf 12 5 76 (jvI (μ 76 5)) dM_proof_92 pf_M_156 rfl rfl (by decide) rfl rfl ?_
    refine K_putf 12 7 76 (x := (μ 76 5)) dM_proof_95 pf_M_282 rfl rfl (by decide) rfl rfl rfl rfl trivial ?_
    refine K_aload_n 0 76 dM_proof_98 rfl rfl ?_
    refine K_aload_n 0 76 dM_proof_99 rfl rfl ?_
    refine K_getf 12 6 76 (jvI (μ 76 6)) dM_proof_100 pf_M_159 rfl rfl (by decide) rfl rfl ?_
    refine K_putf 12 8 76 (x := (μ 76 6)) dM_proof_103 pf_M_13 rfl rfl (by decide) rfl rfl rfl rfl trivial ?_
    refine K_aload_n 0 76 dM_proof_106 rfl rfl ?_
    refine K_getf 12 5 76 (jvI (μ 76 5)) dM_proof_107 pf_M_156 rfl rfl (by decide) rfl rfl ?_
    refine K_if_eq 115 dM_proof_110 (by decide) (fun c3 => ?_) (fun c3 => ?_)
    · refine K_aload_n 0 76 dM_proof_115 rfl rfl ?_
      refine K_callVv mM_stands0 12 76 [] dM_proof_116 pm_M_285 ⟨_, rfl, rfl⟩ ⟨(Nat.le_of_ble_eq_true rfl), (Nat.le_of_ble_eq_true rfl)⟩ rfl rfl (by decide) (Nat.le_of_ble_eq_true rfl) rfl (Nat.le_of_ble_eq_true rfl) (by decide) (Cv_mono ((hF.1 c1).1 c3) (fun μ5 h6 => ?_))
      refine K_aload_n 0 76 dM_proof_119 rfl rfl ?_
      refine K_getf 12 34 76 (jvI (μ5 76 34)) dM_proof_120 pf_M_264 rfl rfl (by decide) rfl rfl ?_
      exact K_iret dM_proof_123 (Or.inl rfl) h6
    · refine K_iconst (-1) dM_proof_113 rfl ?_
      exact K_iret dM_proof_114 (Or.inl rfl) ((hF.1 c1).2 c3)
  · refine K_aload_n 0 76 dM_proof_75 rfl rfl ?_
    refine K_callVi mM_look 12 76 [] dM_proof_76 pm_M_168 ⟨_, rfl, rfl⟩ ⟨(Nat.le_of_ble_eq_true rfl), (Nat.le_of_ble_eq_true rfl)⟩ rfl rfl (by decide) (Nat.le_of_ble_eq_true rfl) rfl (Nat.le_of_ble_eq_true rfl) (by decide) (Ci_mono (hF.2 c1) (fun r13 μ10 h11 => ?_))
    refine K_iconst (-1) dM_proof_79 rfl ?_
    refine K_icmp_eq 90 dM_proof_80 (by decide) (fun c14 => ?_) (fun c14 => ?_)
    · refine K_aload_n 0 76 dM_proof_90 rfl rfl ?_
      refine K_aload_n 0 76 dM_proof_91 rfl rfl ?_
      refine K_getf 12 5 76 (jvI (μ10 76 5)) dM_proof_92 pf_M_156 rfl rfl (by decide) rfl rfl ?_
      refine K_putf 12 7 76 (x := (μ10 76 5)) dM_proof_95 pf_M_282 rfl rfl (by decide) rfl rfl rfl rfl trivial ?_
      refine K_aload_n 0 76 dM_proof_98 rfl rfl ?_
      refine K_aload_n 0 76 dM_proof_99 rfl rfl ?_
      refine K_getf 12 6 76 (jvI (μ10 76 6)) dM_proof_100 pf_M_159 rfl rfl (by decide) rfl rfl ?_
      refine K_putf 12 8 76 (x := (μ10 76 6)) dM_proof_103 pf_M_13 rfl rfl (by decide) rfl rfl rfl rfl trivial ?_
      refine K_aload_n 0 76 dM_proof_106 rfl rfl ?_
      refine K_getf 12 5 76 (jvI (μ10 76 5)) dM_proof_107 pf_M_156 rfl rfl (by decide) rfl rfl ?_
      refine K_if_eq 115 dM_proof_110 (by decide) (fun c16 => ?_) (fun c16 => ?_)
      · refine K_aload_n 0 76 dM_proof_115 rfl rfl ?_
        refine K_callVv mM_stands0 12 76 [] dM_proof_116 pm_M_285 ⟨_, rfl, rfl⟩ ⟨(Nat.le_of_ble_eq_true rfl), (Nat.le_of_ble_eq_true rfl)⟩ rfl rfl (by decide) (Nat.le_of_ble_eq_true rfl) rfl (Nat.le_of_ble_eq_true rfl) (by decide) (Cv_mono ((h11.1 c14).1 c16) (fun μ18 h19 => ?_))
        refine K_aload_n 0 76 dM_proof_119 rfl rfl ?_
        refine K_getf 12 34 76 (jvI (μ18 76 34)) dM_proof_120 pf_M_264 rfl rfl (by decide) rfl rfl ?_
        exact K_iret dM_proof_123 (Or.inl rfl) h19
      · refine K_iconst (-1) dM_proof_113 rfl ?_
        exact K_iret dM_proof_114 (Or.inl rfl) ((h11.1 c14).2 c16)
    · refine K_aload_n 0 76 dM_proof_83 rfl rfl ?_
      refine K_callVv mM_proofTold 12 76 [] dM_proof_84 pm_M_279 ⟨_, rfl, rfl⟩ ⟨(Nat.le_of_ble_eq_true rfl), (Nat.le_of_ble_eq_true rfl)⟩ rfl rfl (by decide) (Nat.le_of_ble_eq_true rfl) rfl (Nat.le_of_ble_eq_true rfl) (by decide) (Cv_mono (h11.2 c14) (fun μ23 h24 => ?_))
      refine K_goto 68 dM_proof_87 (by decide) ?_
      exact h24
set_option maxHeartbeats 8000000 in
theorem vM_look_0 {E : jE} {μ : jMu} {Q : Option AV → jMu → Prop} (hF : (((μ 76 3) ≤ (μ 76 2) → (((μ 76 3) ≤ (μ 76 2) → (Q (some (jvI (-1))) μ)) ∧ (¬ ((μ 76 3) ≤ (μ 76 2)) → ((0 ≤ (μ 76 2) ∧ (μ 76 2) < 1600)) ∧ (Q (some (jvI (μ 77 (μ 76 2)))) μ)))) ∧ (¬ ((μ 76 3) ≤ (μ 76 2)) → ((0 ≤ (μ 76 2) ∧ (μ 76 2) < 1600)) ∧ (((μ 77 (μ 76 2)) = 10 → ((-2147483648 ≤ ((μ 76 2) + 1) ∧ ((μ 76 2) + 1) < 2147483648)) ∧ (K 121 E mM_look 0 [some (jvR 76)] [] (j_up μ 76 2 ((μ 76 2) + 1)) Q)) ∧ (¬ ((μ 77 (μ 76 2)) = 10) → ((0 ≤ (μ 76 2) ∧ (μ 76 2) < 1600)) ∧ ((¬ (μ 77 (μ 76 2)) = 32 → (((μ 76 3) ≤ (μ 76 2) → (Q (some (jvI (-1))) μ)) ∧ (¬ ((μ 76 3) ≤ (μ 76 2)) → ((0 ≤ (μ 76 2) ∧ (μ 76 2) < 1600)) ∧ (Q (some (jvI (μ 77 (μ 76 2)))) μ)))) ∧ ((μ 77 (μ 76 2)) = 32 → ((-2147483648 ≤ ((μ 76 2) + 1) ∧ ((μ 76 2) + 1) < 2147483648)) ∧ (K 121 E mM_look 0 [some (jvR 76)] [] (j_up μ 76 2 ((μ 76 2) + 1)) Q)))))))) : K 121 E mM_look 0 [some (jvR 76)] [] μ Q := by
  refine K_aload_n 0 76 dM_look_0 rfl rfl ?_
  refine K_getf 12 2 76 (jvI (μ 76 2)) dM_look_1 pf_M_162 rfl rfl (by decide) rfl rfl ?_
  refine K_aload_n 0 76 dM_look_4 rfl rfl ?_
  refine K_getf 12 3 76 (jvI (μ 76 3)) dM_look_5 pf_M_165 rfl rfl (by decide) rfl rfl ?_
  refine K_icmp_ge 52 dM_look_8 (by decide) (fun c1 => ?_) (fun c1 => ?_)
  · refine K_aload_n 0 76 dM_look_52 rfl rfl ?_
    refine K_getf 12 2 76 (jvI (μ 76 2)) dM_look_53 pf_M_162 rfl rfl (by decide) rfl rfl ?_
    refine K_aload_n 0 76 dM_look_56 rfl rfl ?_
    refine K_getf 12 3 76 (jvI (μ 76 3)) dM_look_57 pf_M_165 rfl rfl (by decide) rfl rfl ?_
    refine K_icmp_ge 75 dM_look_60 (by decide) (fun c3 => ?_) (fun c3 => ?_)
    · refine K_iconst (-1) dM_look_75 rfl ?_
      exact K_iret dM_look_76 (Or.inl rfl) ((hF.1 c1).1 c3)
    · refine K_aload_n 0 76 dM_look_63 rfl rfl ?_
      refine K_getf 12 0 76 (jvR 77) dM_look_64 pf_M_7 rfl rfl (by decide) rfl rfl ?_
      refine K_aload_n 0 76 dM_look_67 rfl rfl ?_
      refine K_getf 12 2 76 (jvI (μ 76 2)) dM_look_68 pf_M_162 rfl rfl (by decide) rfl rfl ?_
      refine K_iald 77 1600 dM_look_71 rfl rfl (by decide) ((hF.1 c1).2 c3).1 ?_
      refine K_goto 76 dM_look_72 (by decide) ?_
      exact K_iret dM_look_76 (Or.inl rfl) ((hF.1 c1).2 c3).2
  · refine K_aload_n 0 76 dM_look_11 rfl rfl ?_
    refine K_getf 12 0 76 (jvR 77) dM_look_12 pf_M_7 rfl rfl (by decide) rfl rfl ?_
    refine K_aload_n 0 76 dM_look_15 rfl rfl ?_
    refine K_getf 12 2 76 (jvI (μ 76 2)) dM_look_16 pf_M_162 rfl rfl (by decide) rfl rfl ?_
    refine K_iald 77 1600 dM_look_19 rfl rfl (by decide) (hF.2 c1).1 ?_
    refine K_bipush 10 dM_look_20 rfl ?_
    refine K_icmp_eq 39 dM_look_22 (by decide) (fun c7 => ?_) (fun c7 => ?_)
    · refine K_aload_n 0 76 dM_look_39 rfl rfl ?_
      refine K_dup dM_look_40 (fun _ h => by cases h) ?_
      refine K_getf 12 2 76 (jvI (μ 76 2)) dM_look_41 pf_M_162 rfl rfl (by decide) rfl rfl ?_
      refine K_iconst 1 dM_look_44 rfl ?_
      refine K_iadd dM_look_45 (w32_id ((hF.2 c1).2.1 c7).1) ?_
      refine K_putf 12 2 76 (x := ((μ 76 2) + 1)) dM_look_46 pf_M_162 rfl rfl (by decide) rfl rfl rfl rfl trivial ?_
      refine K_goto 0 dM_look_49 (by decide) ?_
      exact ((hF.2 c1).2.1 c7).2
    · refine K_aload_n 0 76 dM_look_25 rfl rfl ?_
      refine K_getf 12 0 76 (jvR 77) dM_look_26 pf_M_7 rfl rfl (by decide) rfl rfl ?_
      refine K_aload_n 0 76 dM_look_29 rfl rfl ?_
      refine K_getf 12 2 76 (jvI (μ 76 2)) dM_look_30 pf_M_162 rfl rfl (by decide) rfl rfl ?_
      refine K_iald 77 1600 dM_look_33 rfl rfl (by decide) ((hF.2 c1).2.2 c7).1 ?_
      refine K_bipush 32 dM_look_34 rfl ?_
      refine K_icmp_ne 52 dM_look_36 (by decide) (fun c9 => ?_) (fun c9 => ?_)
      · refine K_aload_n 0 76 dM_look_52 rfl rfl ?_
        refine K_getf 12 2 76 (jvI (μ 76 2)) dM_look_53 pf_M_162 rfl rfl (by decide) rfl rfl ?_
        refine K_aload_n 0 76 dM_look_56 rfl rfl ?_
        refine K_getf 12 3 76 (jvI (μ 76 3)) dM_look_57 pf_M_165 rfl rfl (by decide) rfl rfl ?_
        refine K_icmp_ge 75 dM_look_60 (by decide) (fun c11 => ?_) (fun c11 => ?_)
        · refine K_iconst (-1) dM_look_75 rfl ?_
          exact K_iret dM_look_76 (Or.inl rfl) ((((hF.2 c1).2.2 c7).2.1 c9).1 c11)
        · refine K_aload_n 0 76 dM_look_63 rfl rfl ?_
          refine K_getf 12 0 76 (jvR 77) dM_look_64 pf_M_7 rfl rfl (by decide) rfl rfl ?_
          refine K_aload_n 0 76 dM_look_67 rfl rfl ?_
          refine K_getf 12 2 76 (jvI (μ 76 2)) dM_look_68 pf_M_162 rfl rfl (by decide) rfl rfl ?_
          refine K_iald 77 1600 dM_look_71 rfl rfl (by decide) ((((hF.2 c1).2.2 c7).2.1 c9).2 c11).1 ?_
          refine K_goto 76 dM_look_72 (by decide) ?_
          exact K_iret dM_look_76 (Or.inl rfl) ((((hF.2 c1).2.2 c7).2.1 c9).2 c11).2
      · refine K_aload_n 0 76 dM_look_39 rfl rfl ?_
        refine K_dup dM_look_40 (fun _ h => by cases h) ?_
        refine K_getf 12 2 76 (jvI (μ 76 2)) dM_look_41 pf_M_162 rfl rfl (by decide) rfl rfl ?_
        refine K_iconst 1 dM_look_44 rfl ?_
        refine K_iadd dM_look_45 (w32_id (((hF.2 c1).2.2 c7).2.2 c9).1) ?_
        refine K_putf 12 2 76 (x := ((μ 76 2) + 1)) dM_look_46 pf_M_162 rfl rfl (by decide) rfl rfl rfl rfl trivial ?_
        refine K_goto 0 dM_look_49 (by decide) ?_
        exact (((hF.2 c1).2.2 c7).2.2 c9).2
set_option maxHeartbeats 8000000 in
theorem vM_proofTold_0 {E : jE} {μ : jMu} {Q : Option AV → jMu → Prop} (hF : ((¬ (μ 76 34) = 80 → (Ci E mM_takes [jvR 76, jvR 78] μ (fun r6 μ3 => ((r6 = 0 → (Ci E mM_takes [jvR 76, jvR 80] μ3 (fun r12 μ9 => ((r12 = 0 → (Ci E mM_takes [jvR 76, jvR 83] μ9 (fun r18 μ15 => ((r18 = 0 → (Cv E mM_asks [jvR 76, jvR 82] μ15 (fun μ21 => ((-2147483648 ≤ ((μ21 87 4) - 1) ∧ ((μ21 87 4) - 1) < 2147483648)) ∧ (Ci E mM_number [jvR 76, jvI 0, jvI ((μ21 87 4) - 1)] μ21 (fun r27 μ24 => (K 121 E mM_proofTold 103 [some (jvR 76), some (jvI (μ 76 2))] [] (j_up μ24 76 32 r27) Q)))))) ∧ (¬ (r18 = 0) → (Cv E mM_readerTold [jvR 76, jvI (μ 76 2)] μ15 (fun μ28 => (K 121 E mM_proofTold 103 [some (jvR 76), some (jvI (μ 76 2))] [] μ28 Q)))))))) ∧ (¬ (r12 = 0) → (Cv E mM_stepTold [jvR 76, jvI (μ 76 2)] μ9 (fun μ31 => (K 121 E mM_proofTold 103 [some (jvR 76), some (jvI (μ 76 2))] [] μ31 Q)))))))) ∧ (¬ (r6 = 0) → (Cv E mM_ruleTold [jvR 76, jvI (μ 76 2)] μ3 (fun μ34 => (K 121 E mM_proofTold 103 [some (jvR 76), some (jvI (μ 76 2))] [] μ34 Q)))))))) ∧ ((μ 76 34) = 80 → (Cv E mM_fail [jvR 76, jvI 5, jvI (μ 76 2)] μ (fun μ37 => (Q none μ37)))))) : K 121 E mM_proofTold 0 [some (jvR 76), none] [] μ Q := by
  refine K_aload_n 0 76 dM_proofTold_0 rfl rfl ?_
  refine K_getf 12 2 76 (jvI (μ 76 2)) dM_proofTold_1 pf_M_162 rfl rfl (by decide) rfl rfl ?_
  refine K_istore_n 1 dM_proofTold_4 rfl (Nat.le_of_ble_eq_true rfl) rfl ?_
  refine K_aload_n 0 76 dM_proofTold_5 rfl rfl ?_
  refine K_getf 12 34 76 (jvI (μ 76 34)) dM_proofTold_6 pf_M_264 rfl rfl (by decide) rfl rfl ?_
  refine K_bipush 80 dM_proofTold_9 rfl ?_
  refine K_icmp_ne 21 dM_proofTold_11 (by decide) (fun c1 => ?_) (fun c1 => ?_)
  · refine K_aload_n 0 76 dM_proofTold_21 rfl rfl ?_
    refine K_aload_n 0 76 dM_proofTold_22 rfl rfl ?_
    refine K_getf 12 9 76 (jvR 78) dM_proofTold_23 pf_M_17 rfl rfl (by decide) rfl rfl ?_
    refine K_callVi mM_takes 12 76 [jvR 78] dM_proofTold_26 pm_M_183 ⟨_, rfl, rfl⟩ ⟨(Nat.le_of_ble_eq_true rfl), (Nat.le_of_ble_eq_true rfl)⟩ rfl rfl (by decide) (Nat.le_of_ble_eq_true rfl) rfl (Nat.le_of_ble_eq_true rfl) (by decide) (Ci_mono (hF.1 c1) (fun r6 μ3 h4 => ?_))
    refine K_if_eq 40 dM_proofTold_29 (by decide) (fun c7 => ?_) (fun c7 => ?_)
    · refine K_aload_n 0 76 dM_proofTold_40 rfl rfl ?_
      refine K_aload_n 0 76 dM_proofTold_41 rfl rfl ?_
      refine K_getf 12 11 76 (jvR 80) dM_proofTold_42 pf_M_24 rfl rfl (by decide) rfl rfl ?_
      refine K_callVi mM_takes 12 76 [jvR 80] dM_proofTold_45 pm_M_183 ⟨_, rfl, rfl⟩ ⟨(Nat.le_of_ble_eq_true rfl), (Nat.le_of_ble_eq_true rfl)⟩ rfl rfl (by decide) (Nat.le_of_ble_eq_true rfl) rfl (Nat.le_of_ble_eq_true rfl) (by decide) (Ci_mono (h4.1 c7) (fun r12 μ9 h10 => ?_))
      refine K_if_eq 59 dM_proofTold_48 (by decide) (fun c13 => ?_) (fun c13 => ?_)
      · refine K_aload_n 0 76 dM_proofTold_59 rfl rfl ?_
        refine K_aload_n 0 76 dM_proofTold_60 rfl rfl ?_
        refine K_getf 12 14 76 (jvR 83) dM_proofTold_61 pf_M_33 rfl rfl (by decide) rfl rfl ?_
        refine K_callVi mM_takes 12 76 [jvR 83] dM_proofTold_64 pm_M_183 ⟨_, rfl, rfl⟩ ⟨(Nat.le_of_ble_eq_true rfl), (Nat.le_of_ble_eq_true rfl)⟩ rfl rfl (by decide) (Nat.le_of_ble_eq_true rfl) rfl (Nat.le_of_ble_eq_true rfl) (by decide) (Ci_mono (h10.1 c13) (fun r18 μ15 h16 => ?_))
        refine K_if_eq 78 dM_proofTold_67 (by decide) (fun c19 => ?_) (fun c19 => ?_)
        · refine K_aload_n 0 76 dM_proofTold_78 rfl rfl ?_
          refine K_aload_n 0 76 dM_proofTold_79 rfl rfl ?_
          refine K_getf 12 13 76 (jvR 82) dM_proofTold_80 pf_M_30 rfl rfl (by decide) rfl rfl ?_
          refine K_callVv mM_asks 12 76 [jvR 82] dM_proofTold_83 pm_M_257 ⟨_, rfl, rfl⟩ ⟨(Nat.le_of_ble_eq_true rfl), (Nat.le_of_ble_eq_true rfl)⟩ rfl rfl (by decide) (Nat.le_of_ble_eq_true rfl) rfl (Nat.le_of_ble_eq_true rfl) (by decide) (Cv_mono (h16.1 c19) (fun μ21 h22 => ?_))
          refine K_aload_n 0 76 dM_proofTold_86 rfl rfl ?_
          refine K_aload_n 0 76 dM_proofTold_87 rfl rfl ?_
          refine K_iconst 0 dM_proofTold_88 rfl ?_
          refine K_aload_n 0 76 dM_proofTold_89 rfl rfl ?_
          refine K_getf 12 19 76 (jvR 87) dM_proofTold_90 pf_M_45 rfl rfl (by decide) rfl rfl ?_
          refine K_iconst 4 dM_proofTold_93 rfl ?_
          refine K_iald 87 10 dM_proofTold_94 rfl rfl (by decide) (by decide) ?_
          refine K_iconst 1 dM_proofTold_95 rfl ?_
          refine K_isub dM_proofTold_96 (w32_id h22.1) ?_
          refine K_callVi mM_number 12 76 [jvI 0, jvI ((μ21 87 4) - 1)] dM_proofTold_97 pm_M_261 ⟨_, rfl, rfl⟩ ⟨(Nat.le_of_ble_eq_true rfl), (Nat.le_of_ble_eq_true rfl)⟩ rfl rfl (by decide) (Nat.le_of_ble_eq_true rfl) rfl (Nat.le_of_ble_eq_true rfl) (by decide) (Ci_mono h22.2 (fun r27 μ24 h25 => ?_))
          refine K_putf 12 32 76 (x := r27) dM_proofTold_100 pf_M_276 rfl rfl (by decide) rfl rfl rfl rfl trivial ?_
          exact h25
        · refine K_aload_n 0 76 dM_proofTold_70 rfl rfl ?_
          refine K_iload_n 1 (μ 76 2) dM_proofTold_71 rfl rfl ?_
          refine K_callVv mM_readerTold 12 76 [jvI (μ 76 2)] dM_proofTold_72 pm_M_273 ⟨_, rfl, rfl⟩ ⟨(Nat.le_of_ble_eq_true rfl), (Nat.le_of_ble_eq_true rfl)⟩ rfl rfl (by decide) (Nat.le_of_ble_eq_true rfl) rfl (Nat.le_of_ble_eq_true rfl) (by decide) (Cv_mono (h16.2 c19) (fun μ28 h29 => ?_))
          refine K_goto 103 dM_proofTold_75 (by decide) ?_
          exact h29
      · refine K_aload_n 0 76 dM_proofTold_51 rfl rfl ?_
        refine K_iload_n 1 (μ 76 2) dM_proofTold_52 rfl rfl ?_
        refine K_callVv mM_stepTold 12 76 [jvI (μ 76 2)] dM_proofTold_53 pm_M_270 ⟨_, rfl, rfl⟩ ⟨(Nat.le_of_ble_eq_true rfl), (Nat.le_of_ble_eq_true rfl)⟩ rfl rfl (by decide) (Nat.le_of_ble_eq_true rfl) rfl (Nat.le_of_ble_eq_true rfl) (by decide) (Cv_mono (h10.2 c13) (fun μ31 h32 => ?_))
        refine K_goto 103 dM_proofTold_56 (by decide) ?_
        exact h32
    · refine K_aload_n 0 76 dM_proofTold_32 rfl rfl ?_
      refine K_iload_n 1 (μ 76 2) dM_proofTold_33 rfl rfl ?_
      refine K_callVv mM_ruleTold 12 76 [jvI (μ 76 2)] dM_proofTold_34 pm_M_267 ⟨_, rfl, rfl⟩ ⟨(Nat.le_of_ble_eq_true rfl), (Nat.le_of_ble_eq_true rfl)⟩ rfl rfl (by decide) (Nat.le_of_ble_eq_true rfl) rfl (Nat.le_of_ble_eq_true rfl) (by decide) (Cv_mono (h4.2 c7) (fun μ34 h35 => ?_))
      refine K_goto 103 dM_proofTold_37 (by decide) ?_
      exact h35
  · refine K_aload_n 0 76 dM_proofTold_14 rfl rfl ?_
    refine K_iconst 5 dM_proofTold_15 rfl ?_
    refine K_iload_n 1 (μ 76 2) dM_proofTold_16 rfl rfl ?_
    refine K_callVv mM_fail 12 76 [jvI 5, jvI (μ 76 2)] dM_proofTold_17 pm_M_186 ⟨_, rfl, rfl⟩ ⟨(Nat.le_of_ble_eq_true rfl), (Nat.le_of_ble_eq_true rfl)⟩ rfl rfl (by decide) (Nat.le_of_ble_eq_true rfl) rfl (Nat.le_of_ble_eq_true rfl) (by decide) (Cv_mono (hF.2 c1) (fun μ37 h38 => ?_))
    exact K_vret dM_proofTold_20 rfl h38
set_option maxHeartbeats 8000000 in
theorem vM_proofTold_103 {E : jE} {μ : jMu} {Q : Option AV → jMu → Prop} {l1 : Int} (hF : (Cv E mM_asksSign [jvR 76, jvI 59] μ (fun μ1 => ((-2147483648 ≤ ((μ1 76 34) + 1) ∧ ((μ1 76 34) + 1) < 2147483648)) ∧ (Q none (j_up μ1 76 34 ((μ1 76 34) + 1)))))) : K 121 E mM_proofTold 103 [some (jvR 76), some (jvI l1)] [] μ Q := by
  refine K_aload_n 0 76 dM_proofTold_103 rfl rfl ?_
  refine K_bipush 59 dM_proofTold_104 rfl ?_
  refine K_callVv mM_asksSign 12 76 [jvI 59] dM_proofTold_106 pm_M_236 ⟨_, rfl, rfl⟩ ⟨(Nat.le_of_ble_eq_true rfl), (Nat.le_of_ble_eq_true rfl)⟩ rfl rfl (by decide) (Nat.le_of_ble_eq_true rfl) rfl (Nat.le_of_ble_eq_true rfl) (by decide) (Cv_mono hF (fun μ1 h2 => ?_))
  refine K_aload_n 0 76 dM_proofTold_109 rfl rfl ?_
  refine K_dup dM_proofTold_110 (fun _ h => by cases h) ?_
  refine K_getf 12 34 76 (jvI (μ1 76 34)) dM_proofTold_111 pf_M_264 rfl rfl (by decide) rfl rfl ?_
  refine K_iconst 1 dM_proofTold_114 rfl ?_
  refine K_iadd dM_proofTold_115 (w32_id h2.1) ?_
  refine K_putf 12 34 76 (x := ((μ1 76 34) + 1)) dM_proofTold_116 pf_M_264 rfl rfl (by decide) rfl rfl rfl rfl trivial ?_
  exact K_vret dM_proofTold_119 rfl h2.2
set_option maxHeartbeats 8000000 in
theorem vM_fail_0 {E : jE} {μ : jMu} {Q : Option AV → jMu → Prop} {a0 a1 : Int} (hF : (((μ 76 5) = 0 → (Q none (j_up (j_up μ 76 5 a0) 76 6 a1))) ∧ (¬ ((μ 76 5) = 0) → (Q none μ)))) : K 121 E mM_fail 0 [some (jvR 76), some (jvI a0), some (jvI a1)] [] μ Q := by
  refine K_aload_n 0 76 dM_fail_0 rfl rfl ?_
  refine K_getf 12 5 76 (jvI (μ 76 5)) dM_fail_1 pf_M_156 rfl rfl (by decide) rfl rfl ?_
  refine K_if_eq 8 dM_fail_4 (by decide) (fun c1 => ?_) (fun c1 => ?_)
  · refine K_aload_n 0 76 dM_fail_8 rfl rfl ?_
    refine K_iload_n 1 a0 dM_fail_9 rfl rfl ?_
    refine K_putf 12 5 76 (x := a0) dM_fail_10 pf_M_156 rfl rfl (by decide) rfl rfl rfl rfl trivial ?_
    refine K_aload_n 0 76 dM_fail_13 rfl rfl ?_
    refine K_iload_n 2 a1 dM_fail_14 rfl rfl ?_
    refine K_putf 12 6 76 (x := a1) dM_fail_15 pf_M_159 rfl rfl (by decide) rfl rfl rfl rfl trivial ?_
    exact K_vret dM_fail_18 rfl (hF.1 c1)
  · exact K_vret dM_fail_7 rfl (hF.2 c1)
set_option maxHeartbeats 8000000 in
theorem vM_takes_0 {E : jE} {μ : jMu} {Q : Option AV → jMu → Prop} {wd wl : Nat} (hwd : jCt[wd]? = some (.inl (.char, wl))) (hwn : wd < 121) (hwl : wl < 2147483648) (hF : (Ci E mM_isHere [jvR 76, jvR ((wd : Nat) : Int)] μ (fun r4 μ1 => ((¬ r4 = 0 → ((-2147483648 ≤ ((μ1 76 2) + (wl : Int)) ∧ ((μ1 76 2) + (wl : Int)) < 2147483648)) ∧ (Q (some (jvI 1)) (j_up (j_up μ1 76 2 ((μ1 76 2) + (wl : Int))) 76 4 ((μ1 76 2) + (wl : Int))))) ∧ (r4 = 0 → (Q (some (jvI 0)) μ1)))))) : K 121 E mM_takes 0 [some (jvR 76), some (jvR ((wd : Nat) : Int))] [] μ Q := by
  refine K_aload_n 0 76 dM_takes_0 rfl rfl ?_
  refine K_aload_n 1 ((wd : Nat) : Int) dM_takes_1 rfl rfl ?_
  refine K_callVi mM_isHere 12 76 [jvR ((wd : Nat) : Int)] dM_takes_2 pm_M_179 ⟨_, rfl, rfl⟩ ⟨(Nat.le_of_ble_eq_true rfl), (Nat.le_of_ble_eq_true rfl)⟩ rfl rfl (by decide) (Nat.le_of_ble_eq_true rfl) rfl (Nat.le_of_ble_eq_true rfl) (by decide) (Ci_mono hF (fun r4 μ1 h2 => ?_))
  refine K_if_ne 10 dM_takes_5 (by decide) (fun c5 => ?_) (fun c5 => ?_)
  · refine K_aload_n 0 76 dM_takes_10 rfl rfl ?_
    refine K_dup dM_takes_11 (fun _ h => by cases h) ?_
    refine K_getf 12 2 76 (jvI (μ1 76 2)) dM_takes_12 pf_M_162 rfl rfl (by decide) rfl rfl ?_
    refine K_aload_n 1 ((wd : Nat) : Int) dM_takes_15 rfl rfl ?_
    refine K_alen wd wl .char dM_takes_16 rfl hwd hwn hwl ?_
    refine K_iadd dM_takes_17 (w32_id (h2.1 c5).1) ?_
    refine K_putf 12 2 76 (x := ((μ1 76 2) + (wl : Int))) dM_takes_18 pf_M_162 rfl rfl (by decide) rfl rfl rfl rfl trivial ?_
    refine K_aload_n 0 76 dM_takes_21 rfl rfl ?_
    refine K_aload_n 0 76 dM_takes_22 rfl rfl ?_
    refine K_getf 12 2 76 (jvI ((μ1 76 2) + (wl : Int))) dM_takes_23 pf_M_162 rfl rfl (by decide) rfl rfl ?_
    refine K_putf 12 4 76 (x := ((μ1 76 2) + (wl : Int))) dM_takes_26 pf_M_176 rfl rfl (by decide) rfl rfl rfl rfl trivial ?_
    refine K_iconst 1 dM_takes_29 rfl ?_
    exact K_iret dM_takes_30 (Or.inr ⟨rfl, (by decide)⟩) (h2.1 c5).2
  · refine K_iconst 0 dM_takes_8 rfl ?_
    exact K_iret dM_takes_9 (Or.inr ⟨rfl, (by decide)⟩) (h2.2 c5)
set_option maxHeartbeats 8000000 in
theorem vM_isHere_0 {E : jE} {μ : jMu} {Q : Option AV → jMu → Prop} {wd wl : Nat} (hwd : jCt[wd]? = some (.inl (.char, wl))) (hwn : wd < 121) (hwl : wl < 2147483648) (hF : ((¬ (μ 76 5) = 0 → (Q (some (jvI 0)) μ)) ∧ ((μ 76 5) = 0 → (Ci E mM_look [jvR 76] μ (fun r7 μ4 => (Ci E mM_isLetter [jvI r7] μ4 (fun r11 μ8 => ((r11 = 0 → (Q (some (jvI 0)) μ8)) ∧ (¬ (r11 = 0) → ((¬ (μ8 76 2) = (μ8 76 4) → (K 121 E mM_isHere 35 [some (jvR 76), some (jvR ((wd : Nat) : Int)), some (jvI (μ8 76 2)), none] [] μ8 Q)) ∧ ((μ8 76 2) = (μ8 76 4) → (Q (some (jvI 0)) μ8)))))))))))) : K 121 E mM_isHere 0 [some (jvR 76), some (jvR ((wd : Nat) : Int)), none, none] [] μ Q := by
  refine K_aload_n 0 76 dM_isHere_0 rfl rfl ?_
  refine K_getf 12 5 76 (jvI (μ 76 5)) dM_isHere_1 pf_M_156 rfl rfl (by decide) rfl rfl ?_
  refine K_if_ne 28 dM_isHere_4 (by decide) (fun c1 => ?_) (fun c1 => ?_)
  · refine K_iconst 0 dM_isHere_28 rfl ?_
    exact K_iret dM_isHere_29 (Or.inr ⟨rfl, (by decide)⟩) (hF.1 c1)
  · refine K_aload_n 0 76 dM_isHere_7 rfl rfl ?_
    refine K_callVi mM_look 12 76 [] dM_isHere_8 pm_M_168 ⟨_, rfl, rfl⟩ ⟨(Nat.le_of_ble_eq_true rfl), (Nat.le_of_ble_eq_true rfl)⟩ rfl rfl (by decide) (Nat.le_of_ble_eq_true rfl) rfl (Nat.le_of_ble_eq_true rfl) (by decide) (Ci_mono (hF.2 c1) (fun r7 μ4 h5 => ?_))
    refine K_callSi mM_isLetter [jvI r7] dM_isHere_11 pm_M_172 ⟨(Nat.le_of_ble_eq_true rfl), (Nat.le_of_ble_eq_true rfl)⟩ (Nat.le_of_ble_eq_true rfl) rfl (Nat.le_of_ble_eq_true rfl) (by decide) (Ci_mono h5 (fun r11 μ8 h9 => ?_))
    refine K_if_eq 28 dM_isHere_14 (by decide) (fun c12 => ?_) (fun c12 => ?_)
    · refine K_iconst 0 dM_isHere_28 rfl ?_
      exact K_iret dM_isHere_29 (Or.inr ⟨rfl, (by decide)⟩) (h9.1 c12)
    · refine K_aload_n 0 76 dM_isHere_17 rfl rfl ?_
      refine K_getf 12 2 76 (jvI (μ8 76 2)) dM_isHere_18 pf_M_162 rfl rfl (by decide) rfl rfl ?_
      refine K_aload_n 0 76 dM_isHere_21 rfl rfl ?_
      refine K_getf 12 4 76 (jvI (μ8 76 4)) dM_isHere_22 pf_M_176 rfl rfl (by decide) rfl rfl ?_
      refine K_icmp_ne 30 dM_isHere_25 (by decide) (fun c15 => ?_) (fun c15 => ?_)
      · refine K_aload_n 0 76 dM_isHere_30 rfl rfl ?_
        refine K_getf 12 2 76 (jvI (μ8 76 2)) dM_isHere_31 pf_M_162 rfl rfl (by decide) rfl rfl ?_
        refine K_istore_n 2 dM_isHere_34 rfl (Nat.le_of_ble_eq_true rfl) rfl ?_
        exact ((h9.2 c12).1 c15)
      · refine K_iconst 0 dM_isHere_28 rfl ?_
        exact K_iret dM_isHere_29 (Or.inr ⟨rfl, (by decide)⟩) ((h9.2 c12).2 c15)
set_option maxHeartbeats 8000000 in
theorem vM_isHere_35 {E : jE} {μ : jMu} {Q : Option AV → jMu → Prop} {wd wl : Nat} (hwd : jCt[wd]? = some (.inl (.char, wl))) (hwn : wd < 121) (hwl : wl < 2147483648) {l2 : Int} (hF : (((μ 76 3) ≤ l2 → ((-2147483648 ≤ (l2 - (μ 76 2)) ∧ (l2 - (μ 76 2)) < 2147483648)) ∧ (((l2 - (μ 76 2)) = (wl : Int) → (K 121 E mM_isHere 76 [some (jvR 76), some (jvR ((wd : Nat) : Int)), some (jvI l2), some (jvI 0)] [] μ Q)) ∧ (¬ ((l2 - (μ 76 2)) = (wl : Int)) → (Q (some (jvI 0)) μ)))) ∧ (¬ ((μ 76 3) ≤ l2) → ((0 ≤ l2 ∧ l2 < 1600)) ∧ (Ci E mM_isLetter [jvI (μ 77 l2)] μ (fun r9 μ6 => ((r9 = 0 → ((-2147483648 ≤ (l2 - (μ6 76 2)) ∧ (l2 - (μ6 76 2)) < 2147483648)) ∧ (((l2 - (μ6 76 2)) = (wl : Int) → (K 121 E mM_isHere 76 [some (jvR 76), some (jvR ((wd : Nat) : Int)), some (jvI l2), some (jvI 0)] [] μ6 Q)) ∧ (¬ ((l2 - (μ6 76 2)) = (wl : Int)) → (Q (some (jvI 0)) μ6)))) ∧ (¬ (r9 = 0) → ((-2147483648 ≤ (l2 + 1) ∧ (l2 + 1) < 2147483648)) ∧ (K 121 E mM_isHere 35 [some (jvR 76), some (jvR ((wd : Nat) : Int)), some (jvI (l2 + 1)), none] [] μ6 Q)))))))) : K 121 E mM_isHere 35 [some (jvR 76), some (jvR ((wd : Nat) : Int)), some (jvI l2), none] [] μ Q := by
  refine K_iload_n 2 l2 dM_isHere_35 rfl rfl ?_
  refine K_aload_n 0 76 dM_isHere_36 rfl rfl ?_
  refine K_getf 12 3 76 (jvI (μ 76 3)) dM_isHere_37 pf_M_165 rfl rfl (by decide) rfl rfl ?_
  refine K_icmp_ge 61 dM_isHere_40 (by decide) (fun c1 => ?_) (fun c1 => ?_)
  · refine K_iload_n 2 l2 dM_isHere_61 rfl rfl ?_
    refine K_aload_n 0 76 dM_isHere_62 rfl rfl ?_
    refine K_getf 12 2 76 (jvI (μ 76 2)) dM_isHere_63 pf_M_162 rfl rfl (by decide) rfl rfl ?_
    refine K_isub dM_isHere_66 (w32_id (hF.1 c1).1) ?_
    refine K_aload_n 1 ((wd : Nat) : Int) dM_isHere_67 rfl rfl ?_
    refine K_alen wd wl .char dM_isHere_68 rfl hwd hwn hwl ?_
    refine K_icmp_eq 74 dM_isHere_69 (by decide) (fun c3 => ?_) (fun c3 => ?_)
    · refine K_iconst 0 dM_isHere_74 rfl ?_
      refine K_istore_n 3 dM_isHere_75 rfl (Nat.le_of_ble_eq_true rfl) rfl ?_
      exact ((hF.1 c1).2.1 c3)
    · refine K_iconst 0 dM_isHere_72 rfl ?_
      exact K_iret dM_isHere_73 (Or.inr ⟨rfl, (by decide)⟩) ((hF.1 c1).2.2 c3)
  · refine K_aload_n 0 76 dM_isHere_43 rfl rfl ?_
    refine K_getf 12 0 76 (jvR 77) dM_isHere_44 pf_M_7 rfl rfl (by decide) rfl rfl ?_
    refine K_iload_n 2 l2 dM_isHere_47 rfl rfl ?_
    refine K_iald 77 1600 dM_isHere_48 rfl rfl (by decide) (hF.2 c1).1 ?_
    refine K_callSi mM_isLetter [jvI (μ 77 l2)] dM_isHere_49 pm_M_172 ⟨(Nat.le_of_ble_eq_true rfl), (Nat.le_of_ble_eq_true rfl)⟩ (Nat.le_of_ble_eq_true rfl) rfl (Nat.le_of_ble_eq_true rfl) (by decide) (Ci_mono (hF.2 c1).2 (fun r9 μ6 h7 => ?_))
    refine K_if_eq 61 dM_isHere_52 (by decide) (fun c10 => ?_) (fun c10 => ?_)
    · refine K_iload_n 2 l2 dM_isHere_61 rfl rfl ?_
      refine K_aload_n 0 76 dM_isHere_62 rfl rfl ?_
      refine K_getf 12 2 76 (jvI (μ6 76 2)) dM_isHere_63 pf_M_162 rfl rfl (by decide) rfl rfl ?_
      refine K_isub dM_isHere_66 (w32_id (h7.1 c10).1) ?_
      refine K_aload_n 1 ((wd : Nat) : Int) dM_isHere_67 rfl rfl ?_
      refine K_alen wd wl .char dM_isHere_68 rfl hwd hwn hwl ?_
      refine K_icmp_eq 74 dM_isHere_69 (by decide) (fun c12 => ?_) (fun c12 => ?_)
      · refine K_iconst 0 dM_isHere_74 rfl ?_
        refine K_istore_n 3 dM_isHere_75 rfl (Nat.le_of_ble_eq_true rfl) rfl ?_
        exact ((h7.1 c10).2.1 c12)
      · refine K_iconst 0 dM_isHere_72 rfl ?_
        exact K_iret dM_isHere_73 (Or.inr ⟨rfl, (by decide)⟩) ((h7.1 c10).2.2 c12)
    · refine K_iinc 2 dM_isHere_55 (Nat.le_of_ble_eq_true rfl) rfl (w32_ok (h7.2 c10).1) rfl ?_
      refine K_goto 35 dM_isHere_58 (by decide) ?_
      exact (h7.2 c10).2
set_option maxHeartbeats 8000000 in
theorem vM_isHere_76 {E : jE} {μ : jMu} {Q : Option AV → jMu → Prop} {wd wl : Nat} (hwd : jCt[wd]? = some (.inl (.char, wl))) (hwn : wd < 121) (hwl : wl < 2147483648) {l2 l3 : Int} (hF : (((wl : Int) ≤ l3 → (Q (some (jvI 1)) μ)) ∧ (¬ ((wl : Int) ≤ l3) → ((-2147483648 ≤ ((μ 76 2) + l3) ∧ ((μ 76 2) + l3) < 2147483648) ∧ (0 ≤ ((μ 76 2) + l3) ∧ ((μ 76 2) + l3) < 1600) ∧ (0 ≤ l3 ∧ l3 < (wl : Int))) ∧ (((μ 77 ((μ 76 2) + l3)) = (μ wd l3) → ((-2147483648 ≤ (l3 + 1) ∧ (l3 + 1) < 2147483648)) ∧ (K 121 E mM_isHere 76 [some (jvR 76), some (jvR ((wd : Nat) : Int)), some (jvI l2), some (jvI (l3 + 1))] [] μ Q)) ∧ (¬ ((μ 77 ((μ 76 2) + l3)) = (μ wd l3)) → (Q (some (jvI 0)) μ)))))) : K 121 E mM_isHere 76 [some (jvR 76), some (jvR ((wd : Nat) : Int)), some (jvI l2), some (jvI l3)] [] μ Q := by
  refine K_iload_n 3 l3 dM_isHere_76 rfl rfl ?_
  refine K_aload_n 1 ((wd : Nat) : Int) dM_isHere_77 rfl rfl ?_
  refine K_alen wd wl .char dM_isHere_78 rfl hwd hwn hwl ?_
  refine K_icmp_ge 107 dM_isHere_79 (by decide) (fun c1 => ?_) (fun c1 => ?_)
  · refine K_iconst 1 dM_isHere_107 rfl ?_
    exact K_iret dM_isHere_108 (Or.inr ⟨rfl, (by decide)⟩) (hF.1 c1)
  · refine K_aload_n 0 76 dM_isHere_82 rfl rfl ?_
    refine K_getf 12 0 76 (jvR 77) dM_isHere_83 pf_M_7 rfl rfl (by decide) rfl rfl ?_
    refine K_aload_n 0 76 dM_isHere_86 rfl rfl ?_
    refine K_getf 12 2 76 (jvI (μ 76 2)) dM_isHere_87 pf_M_162 rfl rfl (by decide) rfl rfl ?_
    refine K_iload_n 3 l3 dM_isHere_90 rfl rfl ?_
    refine K_iadd dM_isHere_91 (w32_id (hF.2 c1).1.1) ?_
    refine K_iald 77 1600 dM_isHere_92 rfl rfl (by decide) (hF.2 c1).1.2.1 ?_
    refine K_aload_n 1 ((wd : Nat) : Int) dM_isHere_93 rfl rfl ?_
    refine K_iload_n 3 l3 dM_isHere_94 rfl rfl ?_
    refine K_cald wd wl dM_isHere_95 rfl hwd hwn (hF.2 c1).1.2.2 ?_
    refine K_icmp_eq 101 dM_isHere_96 (by decide) (fun c4 => ?_) (fun c4 => ?_)
    · refine K_iinc 3 dM_isHere_101 (Nat.le_of_ble_eq_true rfl) rfl (w32_ok ((hF.2 c1).2.1 c4).1) rfl ?_
      refine K_goto 76 dM_isHere_104 (by decide) ?_
      exact ((hF.2 c1).2.1 c4).2
    · refine K_iconst 0 dM_isHere_99 rfl ?_
      exact K_iret dM_isHere_100 (Or.inr ⟨rfl, (by decide)⟩) ((hF.2 c1).2.2 c4)
set_option maxHeartbeats 8000000 in
theorem vM_isLetter_0 {E : jE} {μ : jMu} {Q : Option AV → jMu → Prop} {a0 : Int} (hF : ((a0 < 97 → (Q (some (jvI 0)) μ)) ∧ (¬ (a0 < 97) → ((122 < a0 → (Q (some (jvI 0)) μ)) ∧ (¬ (122 < a0) → (Q (some (jvI 1)) μ)))))) : K 121 E mM_isLetter 0 [some (jvI a0)] [] μ Q := by
  refine K_iload_n 0 a0 dM_isLetter_0 rfl rfl ?_
  refine K_bipush 97 dM_isLetter_1 rfl ?_
  refine K_icmp_lt 16 dM_isLetter_3 (by decide) (fun c1 => ?_) (fun c1 => ?_)
  · refine K_iconst 0 dM_isLetter_16 rfl ?_
    exact K_iret dM_isLetter_17 (Or.inr ⟨rfl, (by decide)⟩) (hF.1 c1)
  · refine K_iload_n 0 a0 dM_isLetter_6 rfl rfl ?_
    refine K_bipush 122 dM_isLetter_7 rfl ?_
    refine K_icmp_gt 16 dM_isLetter_9 (by decide) (fun c4 => ?_) (fun c4 => ?_)
    · refine K_iconst 0 dM_isLetter_16 rfl ?_
      exact K_iret dM_isLetter_17 (Or.inr ⟨rfl, (by decide)⟩) ((hF.2 c1).1 c4)
    · refine K_iconst 1 dM_isLetter_12 rfl ?_
      refine K_goto 17 dM_isLetter_13 (by decide) ?_
      exact K_iret dM_isLetter_17 (Or.inr ⟨rfl, (by decide)⟩) ((hF.2 c1).2 c4)
set_option maxHeartbeats 8000000 in
theorem vM_ruleTold_0 {E : jE} {μ : jMu} {Q : Option AV → jMu → Prop} {a0 : Int} (hF : (Ci E mM_isFull [jvR 76, jvI 0, jvI 12, jvI a0] μ (fun r4 μ1 => ((r4 = 0 → (Ci E mM_newName [jvR 76, jvI 0] μ1 (fun r10 μ7 => ((¬ (μ7 76 5) = 0 → (Cv E mM_asks [jvR 76, jvR 79] μ7 (fun μ13 => ((-2147483648 ≤ (4 * r10) ∧ (4 * r10) < 2147483648) ∧ (-2147483648 ≤ ((4 * r10) + 3) ∧ ((4 * r10) + 3) < 2147483648)) ∧ (Cv E mM_termTold [jvR 76, jvI ((4 * r10) + 3)] μ13 (fun μ16 => (((μ16 76 5) = 0 → ((0 ≤ r10 ∧ r10 < 24) ∧ (-2147483648 ≤ ((μ16 87 0) + 1) ∧ ((μ16 87 0) + 1) < 2147483648)) ∧ (Q none (j_up (j_up μ16 93 r10 0) 87 0 ((μ16 87 0) + 1)))) ∧ (¬ ((μ16 76 5) = 0) → (Q none μ16)))))))) ∧ ((μ7 76 5) = 0 → (Ci E mM_isHere [jvR 76, jvR 79] μ7 (fun r26 μ23 => ((¬ r26 = 0 → (Cv E mM_asks [jvR 76, jvR 79] μ23 (fun μ29 => ((-2147483648 ≤ (4 * r10) ∧ (4 * r10) < 2147483648) ∧ (-2147483648 ≤ ((4 * r10) + 3) ∧ ((4 * r10) + 3) < 2147483648)) ∧ (Cv E mM_termTold [jvR 76, jvI ((4 * r10) + 3)] μ29 (fun μ32 => (((μ32 76 5) = 0 → ((0 ≤ r10 ∧ r10 < 24) ∧ (-2147483648 ≤ ((μ32 87 0) + 1) ∧ ((μ32 87 0) + 1) < 2147483648)) ∧ (Q none (j_up (j_up μ32 93 r10 0) 87 0 ((μ32 87 0) + 1)))) ∧ (¬ ((μ32 76 5) = 0) → (Q none μ32)))))))) ∧ (r26 = 0 → (K 121 E mM_ruleTold 41 [some (jvR 76), some (jvI a0), some (jvI r10), some (jvI 0), some (jvI 1)] [] μ23 Q)))))))))) ∧ (¬ (r4 = 0) → (Q none μ1)))))) : K 121 E mM_ruleTold 0 [some (jvR 76), some (jvI a0), none, none, none] [] μ Q := by
  refine K_aload_n 0 76 dM_ruleTold_0 rfl rfl ?_
  refine K_iconst 0 dM_ruleTold_1 rfl ?_
  refine K_bipush 12 dM_ruleTold_2 rfl ?_
  refine K_iload_n 1 a0 dM_ruleTold_4 rfl rfl ?_
  refine K_callVi mM_isFull 12 76 [jvI 0, jvI 12, jvI a0] dM_ruleTold_5 pm_M_246 ⟨_, rfl, rfl⟩ ⟨(Nat.le_of_ble_eq_true rfl), (Nat.le_of_ble_eq_true rfl)⟩ rfl rfl (by decide) (Nat.le_of_ble_eq_true rfl) rfl (Nat.le_of_ble_eq_true rfl) (by decide) (Ci_mono hF (fun r4 μ1 h2 => ?_))
  refine K_if_eq 12 dM_ruleTold_8 (by decide) (fun c5 => ?_) (fun c5 => ?_)
  · refine K_aload_n 0 76 dM_ruleTold_12 rfl rfl ?_
    refine K_iconst 0 dM_ruleTold_13 rfl ?_
    refine K_callVi mM_newName 12 76 [jvI 0] dM_ruleTold_14 pm_M_250 ⟨_, rfl, rfl⟩ ⟨(Nat.le_of_ble_eq_true rfl), (Nat.le_of_ble_eq_true rfl)⟩ rfl rfl (by decide) (Nat.le_of_ble_eq_true rfl) rfl (Nat.le_of_ble_eq_true rfl) (by decide) (Ci_mono (h2.1 c5) (fun r10 μ7 h8 => ?_))
    refine K_istore_n 2 dM_ruleTold_17 rfl (Nat.le_of_ble_eq_true rfl) rfl ?_
    refine K_iconst 0 dM_ruleTold_18 rfl ?_
    refine K_istore_n 3 dM_ruleTold_19 rfl (Nat.le_of_ble_eq_true rfl) rfl ?_
    refine K_aload_n 0 76 dM_ruleTold_20 rfl rfl ?_
    refine K_getf 12 5 76 (jvI (μ7 76 5)) dM_ruleTold_21 pf_M_156 rfl rfl (by decide) rfl rfl ?_
    refine K_if_ne 89 dM_ruleTold_24 (by decide) (fun c11 => ?_) (fun c11 => ?_)
    · refine K_aload_n 0 76 dM_ruleTold_89 rfl rfl ?_
      refine K_aload_n 0 76 dM_ruleTold_90 rfl rfl ?_
      refine K_getf 12 10 76 (jvR 79) dM_ruleTold_91 pf_M_21 rfl rfl (by decide) rfl rfl ?_
      refine K_callVv mM_asks 12 76 [jvR 79] dM_ruleTold_94 pm_M_257 ⟨_, rfl, rfl⟩ ⟨(Nat.le_of_ble_eq_true rfl), (Nat.le_of_ble_eq_true rfl)⟩ rfl rfl (by decide) (Nat.le_of_ble_eq_true rfl) rfl (Nat.le_of_ble_eq_true rfl) (by decide) (Cv_mono (h8.1 c11) (fun μ13 h14 => ?_))
      refine K_aload_n 0 76 dM_ruleTold_97 rfl rfl ?_
      refine K_iconst 4 dM_ruleTold_98 rfl ?_
      refine K_iload_n 2 r10 dM_ruleTold_99 rfl rfl ?_
      refine K_imul dM_ruleTold_100 (w32_id h14.1.1) ?_
      refine K_iconst 3 dM_ruleTold_101 rfl ?_
      refine K_iadd dM_ruleTold_102 (w32_id h14.1.2) ?_
      refine K_callVv mM_termTold 12 76 [jvI ((4 * r10) + 3)] dM_ruleTold_103 pm_M_254 ⟨_, rfl, rfl⟩ ⟨(Nat.le_of_ble_eq_true rfl), (Nat.le_of_ble_eq_true rfl)⟩ rfl rfl (by decide) (Nat.le_of_ble_eq_true rfl) rfl (Nat.le_of_ble_eq_true rfl) (by decide) (Cv_mono h14.2 (fun μ16 h17 => ?_))
      refine K_aload_n 0 76 dM_ruleTold_106 rfl rfl ?_
      refine K_getf 12 5 76 (jvI (μ16 76 5)) dM_ruleTold_107 pf_M_156 rfl rfl (by decide) rfl rfl ?_
      refine K_if_eq 114 dM_ruleTold_110 (by decide) (fun c19 => ?_) (fun c19 => ?_)
      · refine K_aload_n 0 76 dM_ruleTold_114 rfl rfl ?_
        refine K_getf 12 26 76 (jvR 93) dM_ruleTold_115 pf_M_64 rfl rfl (by decide) rfl rfl ?_
        refine K_iload_n 2 r10 dM_ruleTold_118 rfl rfl ?_
        refine K_iload_n 3 0 dM_ruleTold_119 rfl rfl ?_
        refine K_iast 93 24 dM_ruleTold_120 rfl rfl (by decide) (h17.1 c19).1.1 ?_
        refine K_aload_n 0 76 dM_ruleTold_121 rfl rfl ?_
        refine K_getf 12 19 76 (jvR 87) dM_ruleTold_122 pf_M_45 rfl rfl (by decide) rfl rfl ?_
        refine K_iconst 0 dM_ruleTold_125 rfl ?_
        refine K_dup2 dM_ruleTold_126 (fun _ h => by cases h) (fun _ h => by cases h) ?_
        refine K_iald 87 10 dM_ruleTold_127 rfl rfl (by decide) (by decide) ?_
        refine K_iconst 1 dM_ruleTold_128 rfl ?_
        refine K_iadd dM_ruleTold_129 (w32_id (h17.1 c19).1.2) ?_
        refine K_iast 87 10 dM_ruleTold_130 rfl rfl (by decide) (by decide) ?_
        exact K_vret dM_ruleTold_131 rfl (h17.1 c19).2
      · exact K_vret dM_ruleTold_113 rfl (h17.2 c19)
    · refine K_aload_n 0 76 dM_ruleTold_27 rfl rfl ?_
      refine K_aload_n 0 76 dM_ruleTold_28 rfl rfl ?_
      refine K_getf 12 10 76 (jvR 79) dM_ruleTold_29 pf_M_21 rfl rfl (by decide) rfl rfl ?_
      refine K_callVi mM_isHere 12 76 [jvR 79] dM_ruleTold_32 pm_M_179 ⟨_, rfl, rfl⟩ ⟨(Nat.le_of_ble_eq_true rfl), (Nat.le_of_ble_eq_true rfl)⟩ rfl rfl (by decide) (Nat.le_of_ble_eq_true rfl) rfl (Nat.le_of_ble_eq_true rfl) (by decide) (Ci_mono (h8.2 c11) (fun r26 μ23 h24 => ?_))
      refine K_if_ne 89 dM_ruleTold_35 (by decide) (fun c27 => ?_) (fun c27 => ?_)
      · refine K_aload_n 0 76 dM_ruleTold_89 rfl rfl ?_
        refine K_aload_n 0 76 dM_ruleTold_90 rfl rfl ?_
        refine K_getf 12 10 76 (jvR 79) dM_ruleTold_91 pf_M_21 rfl rfl (by decide) rfl rfl ?_
        refine K_callVv mM_asks 12 76 [jvR 79] dM_ruleTold_94 pm_M_257 ⟨_, rfl, rfl⟩ ⟨(Nat.le_of_ble_eq_true rfl), (Nat.le_of_ble_eq_true rfl)⟩ rfl rfl (by decide) (Nat.le_of_ble_eq_true rfl) rfl (Nat.le_of_ble_eq_true rfl) (by decide) (Cv_mono (h24.1 c27) (fun μ29 h30 => ?_))
        refine K_aload_n 0 76 dM_ruleTold_97 rfl rfl ?_
        refine K_iconst 4 dM_ruleTold_98 rfl ?_
        refine K_iload_n 2 r10 dM_ruleTold_99 rfl rfl ?_
        refine K_imul dM_ruleTold_100 (w32_id h30.1.1) ?_
        refine K_iconst 3 dM_ruleTold_101 rfl ?_
        refine K_iadd dM_ruleTold_102 (w32_id h30.1.2) ?_
        refine K_callVv mM_termTold 12 76 [jvI ((4 * r10) + 3)] dM_ruleTold_103 pm_M_254 ⟨_, rfl, rfl⟩ ⟨(Nat.le_of_ble_eq_true rfl), (Nat.le_of_ble_eq_true rfl)⟩ rfl rfl (by decide) (Nat.le_of_ble_eq_true rfl) rfl (Nat.le_of_ble_eq_true rfl) (by decide) (Cv_mono h30.2 (fun μ32 h33 => ?_))
        refine K_aload_n 0 76 dM_ruleTold_106 rfl rfl ?_
        refine K_getf 12 5 76 (jvI (μ32 76 5)) dM_ruleTold_107 pf_M_156 rfl rfl (by decide) rfl rfl ?_
        refine K_if_eq 114 dM_ruleTold_110 (by decide) (fun c35 => ?_) (fun c35 => ?_)
        · refine K_aload_n 0 76 dM_ruleTold_114 rfl rfl ?_
          refine K_getf 12 26 76 (jvR 93) dM_ruleTold_115 pf_M_64 rfl rfl (by decide) rfl rfl ?_
          refine K_iload_n 2 r10 dM_ruleTold_118 rfl rfl ?_
          refine K_iload_n 3 0 dM_ruleTold_119 rfl rfl ?_
          refine K_iast 93 24 dM_ruleTold_120 rfl rfl (by decide) (h33.1 c35).1.1 ?_
          refine K_aload_n 0 76 dM_ruleTold_121 rfl rfl ?_
          refine K_getf 12 19 76 (jvR 87) dM_ruleTold_122 pf_M_45 rfl rfl (by decide) rfl rfl ?_
          refine K_iconst 0 dM_ruleTold_125 rfl ?_
          refine K_dup2 dM_ruleTold_126 (fun _ h => by cases h) (fun _ h => by cases h) ?_
          refine K_iald 87 10 dM_ruleTold_127 rfl rfl (by decide) (by decide) ?_
          refine K_iconst 1 dM_ruleTold_128 rfl ?_
          refine K_iadd dM_ruleTold_129 (w32_id (h33.1 c35).1.2) ?_
          refine K_iast 87 10 dM_ruleTold_130 rfl rfl (by decide) (by decide) ?_
          exact K_vret dM_ruleTold_131 rfl (h33.1 c35).2
        · exact K_vret dM_ruleTold_113 rfl (h33.2 c35)
      · refine K_iconst 1 dM_ruleTold_38 rfl ?_
        refine K_istore 4 dM_ruleTold_39 (Nat.le_of_ble_eq_true rfl) rfl ?_
        exact (h24.2 c27)
  · exact K_vret dM_ruleTold_11 rfl (h2.2 c5)
set_option maxHeartbeats 8000000 in
theorem vM_ruleTold_41 {E : jE} {μ : jMu} {Q : Option AV → jMu → Prop} {l1 l2 l3 l4 : Int} (hF : ((¬ (μ 76 5) = 0 → (Cv E mM_asks [jvR 76, jvR 79] μ (fun μ3 => ((-2147483648 ≤ (4 * l2) ∧ (4 * l2) < 2147483648) ∧ (-2147483648 ≤ ((4 * l2) + 3) ∧ ((4 * l2) + 3) < 2147483648)) ∧ (Cv E mM_termTold [jvR 76, jvI ((4 * l2) + 3)] μ3 (fun μ6 => (((μ6 76 5) = 0 → ((0 ≤ l2 ∧ l2 < 24) ∧ (-2147483648 ≤ ((μ6 87 0) + 1) ∧ ((μ6 87 0) + 1) < 2147483648)) ∧ (Q none (j_up (j_up μ6 93 l2 l3) 87 0 ((μ6 87 0) + 1)))) ∧ (¬ ((μ6 76 5) = 0) → (Q none μ6)))))))) ∧ ((μ 76 5) = 0 → ((l4 = 0 → (Cv E mM_asks [jvR 76, jvR 79] μ (fun μ15 => ((-2147483648 ≤ (4 * l2) ∧ (4 * l2) < 2147483648) ∧ (-2147483648 ≤ ((4 * l2) + 3) ∧ ((4 * l2) + 3) < 2147483648)) ∧ (Cv E mM_termTold [jvR 76, jvI ((4 * l2) + 3)] μ15 (fun μ18 => (((μ18 76 5) = 0 → ((0 ≤ l2 ∧ l2 < 24) ∧ (-2147483648 ≤ ((μ18 87 0) + 1) ∧ ((μ18 87 0) + 1) < 2147483648)) ∧ (Q none (j_up (j_up μ18 93 l2 l3) 87 0 ((μ18 87 0) + 1)))) ∧ (¬ ((μ18 76 5) = 0) → (Q none μ18)))))))) ∧ (¬ (l4 = 0) → ((-2147483648 ≤ (4 * l2) ∧ (4 * l2) < 2147483648) ∧ (-2147483648 ≤ ((4 * l2) + l3) ∧ ((4 * l2) + l3) < 2147483648)) ∧ (Cv E mM_termTold [jvR 76, jvI ((4 * l2) + l3)] μ (fun μ25 => ((-2147483648 ≤ (l3 + 1) ∧ (l3 + 1) < 2147483648)) ∧ ((3 ≤ (l3 + 1) → (K 121 E mM_ruleTold 41 [some (jvR 76), some (jvI l1), some (jvI l2), some (jvI (l3 + 1)), some (jvI 0)] [] μ25 Q)) ∧ (¬ (3 ≤ (l3 + 1)) → (Ci E mM_takesSign [jvR 76, jvI 44] μ25 (fun r33 μ30 => ((r33 = 0 → (K 121 E mM_ruleTold 41 [some (jvR 76), some (jvI l1), some (jvI l2), some (jvI (l3 + 1)), some (jvI 0)] [] μ30 Q)) ∧ (¬ (r33 = 0) → (K 121 E mM_ruleTold 41 [some (jvR 76), some (jvI l1), some (jvI l2), some (jvI (l3 + 1)), some (jvI 1)] [] μ30 Q)))))))))))))) : K 121 E mM_ruleTold 41 [some (jvR 76), some (jvI l1), some (jvI l2), some (jvI l3), some (jvI l4)] [] μ Q := by
  refine K_aload_n 0 76 dM_ruleTold_41 rfl rfl ?_
  refine K_getf 12 5 76 (jvI (μ 76 5)) dM_ruleTold_42 pf_M_156 rfl rfl (by decide) rfl rfl ?_
  refine K_if_ne 89 dM_ruleTold_45 (by decide) (fun c1 => ?_) (fun c1 => ?_)
  · refine K_aload_n 0 76 dM_ruleTold_89 rfl rfl ?_
    refine K_aload_n 0 76 dM_ruleTold_90 rfl rfl ?_
    refine K_getf 12 10 76 (jvR 79) dM_ruleTold_91 pf_M_21 rfl rfl (by decide) rfl rfl ?_
    refine K_callVv mM_asks 12 76 [jvR 79] dM_ruleTold_94 pm_M_257 ⟨_, rfl, rfl⟩ ⟨(Nat.le_of_ble_eq_true rfl), (Nat.le_of_ble_eq_true rfl)⟩ rfl rfl (by decide) (Nat.le_of_ble_eq_true rfl) rfl (Nat.le_of_ble_eq_true rfl) (by decide) (Cv_mono (hF.1 c1) (fun μ3 h4 => ?_))
    refine K_aload_n 0 76 dM_ruleTold_97 rfl rfl ?_
    refine K_iconst 4 dM_ruleTold_98 rfl ?_
    refine K_iload_n 2 l2 dM_ruleTold_99 rfl rfl ?_
    refine K_imul dM_ruleTold_100 (w32_id h4.1.1) ?_
    refine K_iconst 3 dM_ruleTold_101 rfl ?_
    refine K_iadd dM_ruleTold_102 (w32_id h4.1.2) ?_
    refine K_callVv mM_termTold 12 76 [jvI ((4 * l2) + 3)] dM_ruleTold_103 pm_M_254 ⟨_, rfl, rfl⟩ ⟨(Nat.le_of_ble_eq_true rfl), (Nat.le_of_ble_eq_true rfl)⟩ rfl rfl (by decide) (Nat.le_of_ble_eq_true rfl) rfl (Nat.le_of_ble_eq_true rfl) (by decide) (Cv_mono h4.2 (fun μ6 h7 => ?_))
    refine K_aload_n 0 76 dM_ruleTold_106 rfl rfl ?_
    refine K_getf 12 5 76 (jvI (μ6 76 5)) dM_ruleTold_107 pf_M_156 rfl rfl (by decide) rfl rfl ?_
    refine K_if_eq 114 dM_ruleTold_110 (by decide) (fun c9 => ?_) (fun c9 => ?_)
    · refine K_aload_n 0 76 dM_ruleTold_114 rfl rfl ?_
      refine K_getf 12 26 76 (jvR 93) dM_ruleTold_115 pf_M_64 rfl rfl (by decide) rfl rfl ?_
      refine K_iload_n 2 l2 dM_ruleTold_118 rfl rfl ?_
      refine K_iload_n 3 l3 dM_ruleTold_119 rfl rfl ?_
      refine K_iast 93 24 dM_ruleTold_120 rfl rfl (by decide) (h7.1 c9).1.1 ?_
      refine K_aload_n 0 76 dM_ruleTold_121 rfl rfl ?_
      refine K_getf 12 19 76 (jvR 87) dM_ruleTold_122 pf_M_45 rfl rfl (by decide) rfl rfl ?_
      refine K_iconst 0 dM_ruleTold_125 rfl ?_
      refine K_dup2 dM_ruleTold_126 (fun _ h => by cases h) (fun _ h => by cases h) ?_
      refine K_iald 87 10 dM_ruleTold_127 rfl rfl (by decide) (by decide) ?_
      refine K_iconst 1 dM_ruleTold_128 rfl ?_
      refine K_iadd dM_ruleTold_129 (w32_id (h7.1 c9).1.2) ?_
      refine K_iast 87 10 dM_ruleTold_130 rfl rfl (by decide) (by decide) ?_
      exact K_vret dM_ruleTold_131 rfl (h7.1 c9).2
    · exact K_vret dM_ruleTold_113 rfl (h7.2 c9)
  · refine K_iload 4 l4 dM_ruleTold_48 rfl ?_
    refine K_if_eq 89 dM_ruleTold_50 (by decide) (fun c13 => ?_) (fun c13 => ?_)
    · refine K_aload_n 0 76 dM_ruleTold_89 rfl rfl ?_
      refine K_aload_n 0 76 dM_ruleTold_90 rfl rfl ?_
      refine K_getf 12 10 76 (jvR 79) dM_ruleTold_91 pf_M_21 rfl rfl (by decide) rfl rfl ?_
      refine K_callVv mM_asks 12 76 [jvR 79] dM_ruleTold_94 pm_M_257 ⟨_, rfl, rfl⟩ ⟨(Nat.le_of_ble_eq_true rfl), (Nat.le_of_ble_eq_true rfl)⟩ rfl rfl (by decide) (Nat.le_of_ble_eq_true rfl) rfl (Nat.le_of_ble_eq_true rfl) (by decide) (Cv_mono ((hF.2 c1).1 c13) (fun μ15 h16 => ?_))
      refine K_aload_n 0 76 dM_ruleTold_97 rfl rfl ?_
      refine K_iconst 4 dM_ruleTold_98 rfl ?_
      refine K_iload_n 2 l2 dM_ruleTold_99 rfl rfl ?_
      refine K_imul dM_ruleTold_100 (w32_id h16.1.1) ?_
      refine K_iconst 3 dM_ruleTold_101 rfl ?_
      refine K_iadd dM_ruleTold_102 (w32_id h16.1.2) ?_
      refine K_callVv mM_termTold 12 76 [jvI ((4 * l2) + 3)] dM_ruleTold_103 pm_M_254 ⟨_, rfl, rfl⟩ ⟨(Nat.le_of_ble_eq_true rfl), (Nat.le_of_ble_eq_true rfl)⟩ rfl rfl (by decide) (Nat.le_of_ble_eq_true rfl) rfl (Nat.le_of_ble_eq_true rfl) (by decide) (Cv_mono h16.2 (fun μ18 h19 => ?_))
      refine K_aload_n 0 76 dM_ruleTold_106 rfl rfl ?_
      refine K_getf 12 5 76 (jvI (μ18 76 5)) dM_ruleTold_107 pf_M_156 rfl rfl (by decide) rfl rfl ?_
      refine K_if_eq 114 dM_ruleTold_110 (by decide) (fun c21 => ?_) (fun c21 => ?_)
      · refine K_aload_n 0 76 dM_ruleTold_114 rfl rfl ?_
        refine K_getf 12 26 76 (jvR 93) dM_ruleTold_115 pf_M_64 rfl rfl (by decide) rfl rfl ?_
        refine K_iload_n 2 l2 dM_ruleTold_118 rfl rfl ?_
        refine K_iload_n 3 l3 dM_ruleTold_119 rfl rfl ?_
        refine K_iast 93 24 dM_ruleTold_120 rfl rfl (by decide) (h19.1 c21).1.1 ?_
        refine K_aload_n 0 76 dM_ruleTold_121 rfl rfl ?_
        refine K_getf 12 19 76 (jvR 87) dM_ruleTold_122 pf_M_45 rfl rfl (by decide) rfl rfl ?_
        refine K_iconst 0 dM_ruleTold_125 rfl ?_
        refine K_dup2 dM_ruleTold_126 (fun _ h => by cases h) (fun _ h => by cases h) ?_
        refine K_iald 87 10 dM_ruleTold_127 rfl rfl (by decide) (by decide) ?_
        refine K_iconst 1 dM_ruleTold_128 rfl ?_
        refine K_iadd dM_ruleTold_129 (w32_id (h19.1 c21).1.2) ?_
        refine K_iast 87 10 dM_ruleTold_130 rfl rfl (by decide) (by decide) ?_
        exact K_vret dM_ruleTold_131 rfl (h19.1 c21).2
      · exact K_vret dM_ruleTold_113 rfl (h19.2 c21)
    · refine K_aload_n 0 76 dM_ruleTold_53 rfl rfl ?_
      refine K_iconst 4 dM_ruleTold_54 rfl ?_
      refine K_iload_n 2 l2 dM_ruleTold_55 rfl rfl ?_
      refine K_imul dM_ruleTold_56 (w32_id ((hF.2 c1).2 c13).1.1) ?_
      refine K_iload_n 3 l3 dM_ruleTold_57 rfl rfl ?_
      refine K_iadd dM_ruleTold_58 (w32_id ((hF.2 c1).2 c13).1.2) ?_
      refine K_callVv mM_termTold 12 76 [jvI ((4 * l2) + l3)] dM_ruleTold_59 pm_M_254 ⟨_, rfl, rfl⟩ ⟨(Nat.le_of_ble_eq_true rfl), (Nat.le_of_ble_eq_true rfl)⟩ rfl rfl (by decide) (Nat.le_of_ble_eq_true rfl) rfl (Nat.le_of_ble_eq_true rfl) (by decide) (Cv_mono ((hF.2 c1).2 c13).2 (fun μ25 h26 => ?_))
      refine K_iinc 3 dM_ruleTold_62 (Nat.le_of_ble_eq_true rfl) rfl (w32_ok h26.1) rfl ?_
      refine K_iload_n 3 (l3 + 1) dM_ruleTold_65 rfl rfl ?_
      refine K_iconst 3 dM_ruleTold_66 rfl ?_
      refine K_icmp_ge 83 dM_ruleTold_67 (by decide) (fun c28 => ?_) (fun c28 => ?_)
      · refine K_iconst 0 dM_ruleTold_83 rfl ?_
        refine K_istore 4 dM_ruleTold_84 (Nat.le_of_ble_eq_true rfl) rfl ?_
        refine K_goto 41 dM_ruleTold_86 (by decide) ?_
        exact (h26.2.1 c28)
      · refine K_aload_n 0 76 dM_ruleTold_70 rfl rfl ?_
        refine K_bipush 44 dM_ruleTold_71 rfl ?_
        refine K_callVi mM_takesSign 12 76 [jvI 44] dM_ruleTold_73 pm_M_190 ⟨_, rfl, rfl⟩ ⟨(Nat.le_of_ble_eq_true rfl), (Nat.le_of_ble_eq_true rfl)⟩ rfl rfl (by decide) (Nat.le_of_ble_eq_true rfl) rfl (Nat.le_of_ble_eq_true rfl) (by decide) (Ci_mono (h26.2.2 c28) (fun r33 μ30 h31 => ?_))
        refine K_if_eq 83 dM_ruleTold_76 (by decide) (fun c34 => ?_) (fun c34 => ?_)
        · refine K_iconst 0 dM_ruleTold_83 rfl ?_
          refine K_istore 4 dM_ruleTold_84 (Nat.le_of_ble_eq_true rfl) rfl ?_
          refine K_goto 41 dM_ruleTold_86 (by decide) ?_
          exact (h31.1 c34)
        · refine K_iconst 1 dM_ruleTold_79 rfl ?_
          refine K_goto 84 dM_ruleTold_80 (by decide) ?_
          refine K_istore 4 dM_ruleTold_84 (Nat.le_of_ble_eq_true rfl) rfl ?_
          refine K_goto 41 dM_ruleTold_86 (by decide) ?_
          exact (h31.2 c34)
set_option maxHeartbeats 8000000 in
theorem vM_isFull_0 {E : jE} {μ : jMu} {Q : Option AV → jMu → Prop} {a0 a1 a2 : Int} (hF : ((¬ (μ 76 5) = 0 → (((μ 76 5) = 0 → (Q (some (jvI 0)) μ)) ∧ (¬ ((μ 76 5) = 0) → (Q (some (jvI 1)) μ)))) ∧ ((μ 76 5) = 0 → ((0 ≤ a0 ∧ a0 < 10)) ∧ ((¬ (μ 87 a0) = a1 → (((μ 76 5) = 0 → (Q (some (jvI 0)) μ)) ∧ (¬ ((μ 76 5) = 0) → (Q (some (jvI 1)) μ)))) ∧ ((μ 87 a0) = a1 → (Cv E mM_fail [jvR 76, jvI 5, jvI a2] μ (fun μ13 => (((μ13 76 5) = 0 → (Q (some (jvI 0)) μ13)) ∧ (¬ ((μ13 76 5) = 0) → (Q (some (jvI 1)) μ13)))))))))) : K 121 E mM_isFull 0 [some (jvR 76), some (jvI a0), some (jvI a1), some (jvI a2)] [] μ Q := by
  refine K_aload_n 0 76 dM_isFull_0 rfl rfl ?_
  refine K_getf 12 5 76 (jvI (μ 76 5)) dM_isFull_1 pf_M_156 rfl rfl (by decide) rfl rfl ?_
  refine K_if_ne 23 dM_isFull_4 (by decide) (fun c1 => ?_) (fun c1 => ?_)
  · refine K_aload_n 0 76 dM_isFull_23 rfl rfl ?_
    refine K_getf 12 5 76 (jvI (μ 76 5)) dM_isFull_24 pf_M_156 rfl rfl (by decide) rfl rfl ?_
    refine K_if_eq 34 dM_isFull_27 (by decide) (fun c3 => ?_) (fun c3 => ?_)
    · refine K_iconst 0 dM_isFull_34 rfl ?_
      exact K_iret dM_isFull_35 (Or.inr ⟨rfl, (by decide)⟩) ((hF.1 c1).1 c3)
    · refine K_iconst 1 dM_isFull_30 rfl ?_
      refine K_goto 35 dM_isFull_31 (by decide) ?_
      exact K_iret dM_isFull_35 (Or.inr ⟨rfl, (by decide)⟩) ((hF.1 c1).2 c3)
  · refine K_aload_n 0 76 dM_isFull_7 rfl rfl ?_
    refine K_getf 12 19 76 (jvR 87) dM_isFull_8 pf_M_45 rfl rfl (by decide) rfl rfl ?_
    refine K_iload_n 1 a0 dM_isFull_11 rfl rfl ?_
    refine K_iald 87 10 dM_isFull_12 rfl rfl (by decide) (hF.2 c1).1 ?_
    refine K_iload_n 2 a1 dM_isFull_13 rfl rfl ?_
    refine K_icmp_ne 23 dM_isFull_14 (by decide) (fun c7 => ?_) (fun c7 => ?_)
    · refine K_aload_n 0 76 dM_isFull_23 rfl rfl ?_
      refine K_getf 12 5 76 (jvI (μ 76 5)) dM_isFull_24 pf_M_156 rfl rfl (by decide) rfl rfl ?_
      refine K_if_eq 34 dM_isFull_27 (by decide) (fun c9 => ?_) (fun c9 => ?_)
      · refine K_iconst 0 dM_isFull_34 rfl ?_
        exact K_iret dM_isFull_35 (Or.inr ⟨rfl, (by decide)⟩) (((hF.2 c1).2.1 c7).1 c9)
      · refine K_iconst 1 dM_isFull_30 rfl ?_
        refine K_goto 35 dM_isFull_31 (by decide) ?_
        exact K_iret dM_isFull_35 (Or.inr ⟨rfl, (by decide)⟩) (((hF.2 c1).2.1 c7).2 c9)
    · refine K_aload_n 0 76 dM_isFull_17 rfl rfl ?_
      refine K_iconst 5 dM_isFull_18 rfl ?_
      refine K_iload_n 3 a2 dM_isFull_19 rfl rfl ?_
      refine K_callVv mM_fail 12 76 [jvI 5, jvI a2] dM_isFull_20 pm_M_186 ⟨_, rfl, rfl⟩ ⟨(Nat.le_of_ble_eq_true rfl), (Nat.le_of_ble_eq_true rfl)⟩ rfl rfl (by decide) (Nat.le_of_ble_eq_true rfl) rfl (Nat.le_of_ble_eq_true rfl) (by decide) (Cv_mono ((hF.2 c1).2.2 c7) (fun μ13 h14 => ?_))
      refine K_aload_n 0 76 dM_isFull_23 rfl rfl ?_
      refine K_getf 12 5 76 (jvI (μ13 76 5)) dM_isFull_24 pf_M_156 rfl rfl (by decide) rfl rfl ?_
      refine K_if_eq 34 dM_isFull_27 (by decide) (fun c16 => ?_) (fun c16 => ?_)
      · refine K_iconst 0 dM_isFull_34 rfl ?_
        exact K_iret dM_isFull_35 (Or.inr ⟨rfl, (by decide)⟩) (h14.1 c16)
      · refine K_iconst 1 dM_isFull_30 rfl ?_
        refine K_goto 35 dM_isFull_31 (by decide) ?_
        exact K_iret dM_isFull_35 (Or.inr ⟨rfl, (by decide)⟩) (h14.2 c16)
set_option maxHeartbeats 8000000 in
theorem vM_newName_0 {E : jE} {μ : jMu} {Q : Option AV → jMu → Prop} {a0 : Int} (hF : (Cl E mM_name [jvR 76] μ (fun r4 μ1 => ((¬ (μ1 76 5) = 0 → (K 121 E mM_newName 41 [some (jvR 76), some (jvI a0), some (jvL r4), none, none] [] μ1 Q)) ∧ ((μ1 76 5) = 0 → (Ci E mM_nameOf [jvR 76, jvI 0, jvL r4] μ1 (fun r10 μ7 => ((¬ r10 = (-1) → (Cv E mM_fail [jvR 76, jvI 3, jvI (μ7 76 18)] μ7 (fun μ13 => (K 121 E mM_newName 41 [some (jvR 76), some (jvI a0), some (jvL r4), none, none] [] μ13 Q)))) ∧ (r10 = (-1) → (Ci E mM_nameOf [jvR 76, jvI 1, jvL r4] μ7 (fun r19 μ16 => ((r19 = (-1) → (K 121 E mM_newName 41 [some (jvR 76), some (jvI a0), some (jvL r4), none, none] [] μ16 Q)) ∧ (¬ (r19 = (-1)) → (Cv E mM_fail [jvR 76, jvI 3, jvI (μ16 76 18)] μ16 (fun μ22 => (K 121 E mM_newName 41 [some (jvR 76), some (jvI a0), some (jvL r4), none, none] [] μ22 Q)))))))))))))))) : K 121 E mM_newName 0 [some (jvR 76), some (jvI a0), none, none, none] [] μ Q := by
  refine K_aload_n 0 76 dM_newName_0 rfl rfl ?_
  refine K_callVl mM_name 12 76 [] dM_newName_1 pm_M_211 ⟨_, rfl, rfl⟩ ⟨(Nat.le_of_ble_eq_true rfl), (Nat.le_of_ble_eq_true rfl)⟩ rfl rfl (by decide) (Nat.le_of_ble_eq_true rfl) rfl (Nat.le_of_ble_eq_true rfl) (by decide) (Cl_mono hF (fun r4 μ1 h2 => ?_))
  refine K_lstore_n 2 dM_newName_4 rfl (Nat.le_of_ble_eq_true rfl) rfl ?_
  refine K_aload_n 0 76 dM_newName_5 rfl rfl ?_
  refine K_getf 12 5 76 (jvI (μ1 76 5)) dM_newName_6 pf_M_156 rfl rfl (by decide) rfl rfl ?_
  refine K_if_ne 41 dM_newName_9 (by decide) (fun c5 => ?_) (fun c5 => ?_)
  · exact (h2.1 c5)
  · refine K_aload_n 0 76 dM_newName_12 rfl rfl ?_
    refine K_iconst 0 dM_newName_13 rfl ?_
    refine K_lload_n 2 r4 dM_newName_14 rfl rfl ?_
    refine K_callVi mM_nameOf 12 76 [jvI 0, jvL r4] dM_newName_15 pm_M_215 ⟨_, rfl, rfl⟩ ⟨(Nat.le_of_ble_eq_true rfl), (Nat.le_of_ble_eq_true rfl)⟩ rfl rfl (by decide) (Nat.le_of_ble_eq_true rfl) rfl (Nat.le_of_ble_eq_true rfl) (by decide) (Ci_mono (h2.2 c5) (fun r10 μ7 h8 => ?_))
    refine K_iconst (-1) dM_newName_18 rfl ?_
    refine K_icmp_ne 32 dM_newName_19 (by decide) (fun c11 => ?_) (fun c11 => ?_)
    · refine K_aload_n 0 76 dM_newName_32 rfl rfl ?_
      refine K_iconst 3 dM_newName_33 rfl ?_
      refine K_aload_n 0 76 dM_newName_34 rfl rfl ?_
      refine K_getf 12 18 76 (jvI (μ7 76 18)) dM_newName_35 pf_M_204 rfl rfl (by decide) rfl rfl ?_
      refine K_callVv mM_fail 12 76 [jvI 3, jvI (μ7 76 18)] dM_newName_38 pm_M_186 ⟨_, rfl, rfl⟩ ⟨(Nat.le_of_ble_eq_true rfl), (Nat.le_of_ble_eq_true rfl)⟩ rfl rfl (by decide) (Nat.le_of_ble_eq_true rfl) rfl (Nat.le_of_ble_eq_true rfl) (by decide) (Cv_mono (h8.1 c11) (fun μ13 h14 => ?_))
      exact h14
    · refine K_aload_n 0 76 dM_newName_22 rfl rfl ?_
      refine K_iconst 1 dM_newName_23 rfl ?_
      refine K_lload_n 2 r4 dM_newName_24 rfl rfl ?_
      refine K_callVi mM_nameOf 12 76 [jvI 1, jvL r4] dM_newName_25 pm_M_215 ⟨_, rfl, rfl⟩ ⟨(Nat.le_of_ble_eq_true rfl), (Nat.le_of_ble_eq_true rfl)⟩ rfl rfl (by decide) (Nat.le_of_ble_eq_true rfl) rfl (Nat.le_of_ble_eq_true rfl) (by decide) (Ci_mono (h8.2 c11) (fun r19 μ16 h17 => ?_))
      refine K_iconst (-1) dM_newName_28 rfl ?_
      refine K_icmp_eq 41 dM_newName_29 (by decide) (fun c20 => ?_) (fun c20 => ?_)
      · exact (h17.1 c20)
      · refine K_aload_n 0 76 dM_newName_32 rfl rfl ?_
        refine K_iconst 3 dM_newName_33 rfl ?_
        refine K_aload_n 0 76 dM_newName_34 rfl rfl ?_
        refine K_getf 12 18 76 (jvI (μ16 76 18)) dM_newName_35 pf_M_204 rfl rfl (by decide) rfl rfl ?_
        refine K_callVv mM_fail 12 76 [jvI 3, jvI (μ16 76 18)] dM_newName_38 pm_M_186 ⟨_, rfl, rfl⟩ ⟨(Nat.le_of_ble_eq_true rfl), (Nat.le_of_ble_eq_true rfl)⟩ rfl rfl (by decide) (Nat.le_of_ble_eq_true rfl) rfl (Nat.le_of_ble_eq_true rfl) (by decide) (Cv_mono (h17.2 c20) (fun μ22 h23 => ?_))
        exact h23
set_option maxHeartbeats 8000000 in
theorem vM_newName_41 {E : jE} {μ : jMu} {Q : Option AV → jMu → Prop} {l1 l2 : Int} (hF : ((0 ≤ l1 ∧ l1 < 10)) ∧ ((¬ (μ 76 5) = 0 → (Q (some (jvI (μ 87 l1))) μ)) ∧ ((μ 76 5) = 0 → ((-2147483648 ≤ (24 * l1) ∧ (24 * l1) < 2147483648) ∧ (-2147483648 ≤ ((24 * l1) + (μ 87 l1)) ∧ ((24 * l1) + (μ 87 l1)) < 2147483648) ∧ (0 ≤ ((24 * l1) + (μ 87 l1)) ∧ ((24 * l1) + (μ 87 l1)) < 192)) ∧ (Q (some (jvI (μ 87 l1))) (j_up μ 88 ((24 * l1) + (μ 87 l1)) l2))))) : K 121 E mM_newName 41 [some (jvR 76), some (jvI l1), some (jvL l2), none, none] [] μ Q := by
  refine K_aload_n 0 76 dM_newName_41 rfl rfl ?_
  refine K_getf 12 19 76 (jvR 87) dM_newName_42 pf_M_45 rfl rfl (by decide) rfl rfl ?_
  refine K_iload_n 1 l1 dM_newName_45 rfl rfl ?_
  refine K_iald 87 10 dM_newName_46 rfl rfl (by decide) hF.1 ?_
  refine K_istore 4 dM_newName_47 (Nat.le_of_ble_eq_true rfl) rfl ?_
  refine K_aload_n 0 76 dM_newName_49 rfl rfl ?_
  refine K_getf 12 5 76 (jvI (μ 76 5)) dM_newName_50 pf_M_156 rfl rfl (by decide) rfl rfl ?_
  refine K_if_ne 69 dM_newName_53 (by decide) (fun c1 => ?_) (fun c1 => ?_)
  · refine K_iload 4 (μ 87 l1) dM_newName_69 rfl ?_
    exact K_iret dM_newName_71 (Or.inl rfl) (hF.2.1 c1)
  · refine K_aload_n 0 76 dM_newName_56 rfl rfl ?_
    refine K_getf 12 20 76 (jvR 88) dM_newName_57 pf_M_48 rfl rfl (by decide) rfl rfl ?_
    refine K_bipush 24 dM_newName_60 rfl ?_
    refine K_iload_n 1 l1 dM_newName_62 rfl rfl ?_
    refine K_imul dM_newName_63 (w32_id (hF.2.2 c1).1.1) ?_
    refine K_iload 4 (μ 87 l1) dM_newName_64 rfl ?_
    refine K_iadd dM_newName_66 (w32_id (hF.2.2 c1).1.2.1) ?_
    refine K_lload_n 2 l2 dM_newName_67 rfl rfl ?_
    refine K_last 88 192 dM_newName_68 rfl rfl (by decide) (hF.2.2 c1).1.2.2 ?_
    refine K_iload 4 (μ 87 l1) dM_newName_69 rfl ?_
    exact K_iret dM_newName_71 (Or.inl rfl) (hF.2.2 c1).2
set_option maxHeartbeats 8000000 in
theorem vM_name_0 {E : jE} {μ : jMu} {Q : Option AV → jMu → Prop} (hF : (((μ 76 5) = 0 → (Ci E mM_look [jvR 76] μ (fun r6 μ3 => (Ci E mM_isLetter [jvI r6] μ3 (fun r10 μ7 => ((r10 = 0 → (Cv E mM_fail [jvR 76, jvI 1, jvI (μ7 76 2)] μ7 (fun μ13 => (Q (some (jvL 0)) μ13)))) ∧ (¬ (r10 = 0) → (((μ7 76 2) = (μ7 76 4) → (Cv E mM_fail [jvR 76, jvI 1, jvI (μ7 76 2)] μ7 (fun μ19 => (Q (some (jvL 0)) μ19)))) ∧ (¬ ((μ7 76 2) = (μ7 76 4)) → (Ci E mM_isOwnHere [jvR 76] μ7 (fun r26 μ23 => ((r26 = 0 → (K 121 E mM_name 58 [some (jvR 76), some (jvL 0), none] [] (j_up μ23 76 18 (μ23 76 2)) Q)) ∧ (¬ (r26 = 0) → (Cv E mM_fail [jvR 76, jvI 1, jvI (μ23 76 2)] μ23 (fun μ29 => (Q (some (jvL 0)) μ29)))))))))))))))) ∧ (¬ ((μ 76 5) = 0) → (Q (some (jvL 0)) μ)))) : K 121 E mM_name 0 [some (jvR 76), none, none] [] μ Q := by
  refine K_aload_n 0 76 dM_name_0 rfl rfl ?_
  refine K_getf 12 5 76 (jvI (μ 76 5)) dM_name_1 pf_M_156 rfl rfl (by decide) rfl rfl ?_
  refine K_if_eq 9 dM_name_4 (by decide) (fun c1 => ?_) (fun c1 => ?_)
  · refine K_aload_n 0 76 dM_name_9 rfl rfl ?_
    refine K_callVi mM_look 12 76 [] dM_name_10 pm_M_168 ⟨_, rfl, rfl⟩ ⟨(Nat.le_of_ble_eq_true rfl), (Nat.le_of_ble_eq_true rfl)⟩ rfl rfl (by decide) (Nat.le_of_ble_eq_true rfl) rfl (Nat.le_of_ble_eq_true rfl) (by decide) (Ci_mono (hF.1 c1) (fun r6 μ3 h4 => ?_))
    refine K_callSi mM_isLetter [jvI r6] dM_name_13 pm_M_172 ⟨(Nat.le_of_ble_eq_true rfl), (Nat.le_of_ble_eq_true rfl)⟩ (Nat.le_of_ble_eq_true rfl) rfl (Nat.le_of_ble_eq_true rfl) (by decide) (Ci_mono h4 (fun r10 μ7 h8 => ?_))
    refine K_if_eq 37 dM_name_16 (by decide) (fun c11 => ?_) (fun c11 => ?_)
    · refine K_aload_n 0 76 dM_name_37 rfl rfl ?_
      refine K_iconst 1 dM_name_38 rfl ?_
      refine K_aload_n 0 76 dM_name_39 rfl rfl ?_
      refine K_getf 12 2 76 (jvI (μ7 76 2)) dM_name_40 pf_M_162 rfl rfl (by decide) rfl rfl ?_
      refine K_callVv mM_fail 12 76 [jvI 1, jvI (μ7 76 2)] dM_name_43 pm_M_186 ⟨_, rfl, rfl⟩ ⟨(Nat.le_of_ble_eq_true rfl), (Nat.le_of_ble_eq_true rfl)⟩ rfl rfl (by decide) (Nat.le_of_ble_eq_true rfl) rfl (Nat.le_of_ble_eq_true rfl) (by decide) (Cv_mono (h8.1 c11) (fun μ13 h14 => ?_))
      refine K_lconst 0 dM_name_46 rfl ?_
      exact K_lret dM_name_47 rfl h14
    · refine K_aload_n 0 76 dM_name_19 rfl rfl ?_
      refine K_getf 12 2 76 (jvI (μ7 76 2)) dM_name_20 pf_M_162 rfl rfl (by decide) rfl rfl ?_
      refine K_aload_n 0 76 dM_name_23 rfl rfl ?_
      refine K_getf 12 4 76 (jvI (μ7 76 4)) dM_name_24 pf_M_176 rfl rfl (by decide) rfl rfl ?_
      refine K_icmp_eq 37 dM_name_27 (by decide) (fun c17 => ?_) (fun c17 => ?_)
      · refine K_aload_n 0 76 dM_name_37 rfl rfl ?_
        refine K_iconst 1 dM_name_38 rfl ?_
        refine K_aload_n 0 76 dM_name_39 rfl rfl ?_
        refine K_getf 12 2 76 (jvI (μ7 76 2)) dM_name_40 pf_M_162 rfl rfl (by decide) rfl rfl ?_
        refine K_callVv mM_fail 12 76 [jvI 1, jvI (μ7 76 2)] dM_name_43 pm_M_186 ⟨_, rfl, rfl⟩ ⟨(Nat.le_of_ble_eq_true rfl), (Nat.le_of_ble_eq_true rfl)⟩ rfl rfl (by decide) (Nat.le_of_ble_eq_true rfl) rfl (Nat.le_of_ble_eq_true rfl) (by decide) (Cv_mono ((h8.2 c11).1 c17) (fun μ19 h20 => ?_))
        refine K_lconst 0 dM_name_46 rfl ?_
        exact K_lret dM_name_47 rfl h20
      · refine K_aload_n 0 76 dM_name_30 rfl rfl ?_
        refine K_callVi mM_isOwnHere 12 76 [] dM_name_31 pm_M_200 ⟨_, rfl, rfl⟩ ⟨(Nat.le_of_ble_eq_true rfl), (Nat.le_of_ble_eq_true rfl)⟩ rfl rfl (by decide) (Nat.le_of_ble_eq_true rfl) rfl (Nat.le_of_ble_eq_true rfl) (by decide) (Ci_mono ((h8.2 c11).2 c17) (fun r26 μ23 h24 => ?_))
        refine K_if_eq 48 dM_name_34 (by decide) (fun c27 => ?_) (fun c27 => ?_)
        · refine K_aload_n 0 76 dM_name_48 rfl rfl ?_
          refine K_aload_n 0 76 dM_name_49 rfl rfl ?_
          refine K_getf 12 2 76 (jvI (μ23 76 2)) dM_name_50 pf_M_162 rfl rfl (by decide) rfl rfl ?_
          refine K_putf 12 18 76 (x := (μ23 76 2)) dM_name_53 pf_M_204 rfl rfl (by decide) rfl rfl rfl rfl trivial ?_
          refine K_lconst 0 dM_name_56 rfl ?_
          refine K_lstore_n 1 dM_name_57 rfl (Nat.le_of_ble_eq_true rfl) rfl ?_
          exact (h24.1 c27)
        · refine K_aload_n 0 76 dM_name_37 rfl rfl ?_
          refine K_iconst 1 dM_name_38 rfl ?_
          refine K_aload_n 0 76 dM_name_39 rfl rfl ?_
          refine K_getf 12 2 76 (jvI (μ23 76 2)) dM_name_40 pf_M_162 rfl rfl (by decide) rfl rfl ?_
          refine K_callVv mM_fail 12 76 [jvI 1, jvI (μ23 76 2)] dM_name_43 pm_M_186 ⟨_, rfl, rfl⟩ ⟨(Nat.le_of_ble_eq_true rfl), (Nat.le_of_ble_eq_true rfl)⟩ rfl rfl (by decide) (Nat.le_of_ble_eq_true rfl) rfl (Nat.le_of_ble_eq_true rfl) (by decide) (Cv_mono (h24.2 c27) (fun μ29 h30 => ?_))
          refine K_lconst 0 dM_name_46 rfl ?_
          exact K_lret dM_name_47 rfl h30
  · refine K_lconst 0 dM_name_7 rfl ?_
    exact K_lret dM_name_8 rfl (hF.2 c1)
set_option maxHeartbeats 8000000 in
theorem vM_name_58 {E : jE} {μ : jMu} {Q : Option AV → jMu → Prop} {l1 : Int} (hF : (((μ 76 3) ≤ (μ 76 2) → (Q (some (jvL l1)) (j_up μ 76 4 (μ 76 2)))) ∧ (¬ ((μ 76 3) ≤ (μ 76 2)) → ((0 ≤ (μ 76 2) ∧ (μ 76 2) < 1600)) ∧ (Ci E mM_isLetter [jvI (μ 77 (μ 76 2))] μ (fun r7 μ4 => ((r7 = 0 → (Q (some (jvL l1)) (j_up μ4 76 4 (μ4 76 2)))) ∧ (¬ (r7 = 0) → ((-2147483648 ≤ ((μ4 76 2) - (μ4 76 18)) ∧ ((μ4 76 2) - (μ4 76 18)) < 2147483648)) ∧ ((¬ ((μ4 76 2) - (μ4 76 18)) = 6 → ((-9223372036854775808 ≤ (27 * l1) ∧ (27 * l1) < 9223372036854775808) ∧ (0 ≤ (μ4 76 2) ∧ (μ4 76 2) < 1600) ∧ (-9223372036854775808 ≤ ((27 * l1) + (μ4 77 (μ4 76 2))) ∧ ((27 * l1) + (μ4 77 (μ4 76 2))) < 9223372036854775808) ∧ (-9223372036854775808 ≤ (((27 * l1) + (μ4 77 (μ4 76 2))) - 97) ∧ (((27 * l1) + (μ4 77 (μ4 76 2))) - 97) < 9223372036854775808) ∧ (-9223372036854775808 ≤ ((((27 * l1) + (μ4 77 (μ4 76 2))) - 97) + 1) ∧ ((((27 * l1) + (μ4 77 (μ4 76 2))) - 97) + 1) < 9223372036854775808) ∧ (-2147483648 ≤ ((μ4 76 2) + 1) ∧ ((μ4 76 2) + 1) < 2147483648)) ∧ (K 121 E mM_name 58 [some (jvR 76), some (jvL ((((27 * l1) + (μ4 77 (μ4 76 2))) - 97) + 1)), none] [] (j_up μ4 76 2 ((μ4 76 2) + 1)) Q)) ∧ (((μ4 76 2) - (μ4 76 18)) = 6 → (Cv E mM_fail [jvR 76, jvI 1, jvI (μ4 76 2)] μ4 (fun μ13 => (Q (some (jvL 0)) μ13)))))))))))) : K 121 E mM_name 58 [some (jvR 76), some (jvL l1), none] [] μ Q := by
  refine K_aload_n 0 76 dM_name_58 rfl rfl ?_
  refine K_getf 12 2 76 (jvI (μ 76 2)) dM_name_59 pf_M_162 rfl rfl (by decide) rfl rfl ?_
  refine K_aload_n 0 76 dM_name_62 rfl rfl ?_
  refine K_getf 12 3 76 (jvI (μ 76 3)) dM_name_63 pf_M_165 rfl rfl (by decide) rfl rfl ?_
  refine K_icmp_ge 145 dM_name_66 (by decide) (fun c1 => ?_) (fun c1 => ?_)
  · refine K_aload_n 0 76 dM_name_145 rfl rfl ?_
    refine K_aload_n 0 76 dM_name_146 rfl rfl ?_
    refine K_getf 12 2 76 (jvI (μ 76 2)) dM_name_147 pf_M_162 rfl rfl (by decide) rfl rfl ?_
    refine K_putf 12 4 76 (x := (μ 76 2)) dM_name_150 pf_M_176 rfl rfl (by decide) rfl rfl rfl rfl trivial ?_
    refine K_lload_n 1 l1 dM_name_153 rfl rfl ?_
    exact K_lret dM_name_154 rfl (hF.1 c1)
  · refine K_aload_n 0 76 dM_name_69 rfl rfl ?_
    refine K_getf 12 0 76 (jvR 77) dM_name_70 pf_M_7 rfl rfl (by decide) rfl rfl ?_
    refine K_aload_n 0 76 dM_name_73 rfl rfl ?_
    refine K_getf 12 2 76 (jvI (μ 76 2)) dM_name_74 pf_M_162 rfl rfl (by decide) rfl rfl ?_
    refine K_iald 77 1600 dM_name_77 rfl rfl (by decide) (hF.2 c1).1 ?_
    refine K_callSi mM_isLetter [jvI (μ 77 (μ 76 2))] dM_name_78 pm_M_172 ⟨(Nat.le_of_ble_eq_true rfl), (Nat.le_of_ble_eq_true rfl)⟩ (Nat.le_of_ble_eq_true rfl) rfl (Nat.le_of_ble_eq_true rfl) (by decide) (Ci_mono (hF.2 c1).2 (fun r7 μ4 h5 => ?_))
    refine K_if_eq 145 dM_name_81 (by decide) (fun c8 => ?_) (fun c8 => ?_)
    · refine K_aload_n 0 76 dM_name_145 rfl rfl ?_
      refine K_aload_n 0 76 dM_name_146 rfl rfl ?_
      refine K_getf 12 2 76 (jvI (μ4 76 2)) dM_name_147 pf_M_162 rfl rfl (by decide) rfl rfl ?_
      refine K_putf 12 4 76 (x := (μ4 76 2)) dM_name_150 pf_M_176 rfl rfl (by decide) rfl rfl rfl rfl trivial ?_
      refine K_lload_n 1 l1 dM_name_153 rfl rfl ?_
      exact K_lret dM_name_154 rfl (h5.1 c8)
    · refine K_aload_n 0 76 dM_name_84 rfl rfl ?_
      refine K_getf 12 2 76 (jvI (μ4 76 2)) dM_name_85 pf_M_162 rfl rfl (by decide) rfl rfl ?_
      refine K_aload_n 0 76 dM_name_88 rfl rfl ?_
      refine K_getf 12 18 76 (jvI (μ4 76 18)) dM_name_89 pf_M_204 rfl rfl (by decide) rfl rfl ?_
      refine K_isub dM_name_92 (w32_id (h5.2 c8).1) ?_
      refine K_bipush 6 dM_name_93 rfl ?_
      refine K_icmp_ne 109 dM_name_95 (by decide) (fun c11 => ?_) (fun c11 => ?_)
      · refine K_ldc2 27 dM_name_109 pc_M_207 rfl ?_
        refine K_lload_n 1 l1 dM_name_112 rfl rfl ?_
        refine K_lmul dM_name_113 (w64_id ((h5.2 c8).2.1 c11).1.1) ?_
        refine K_aload_n 0 76 dM_name_114 rfl rfl ?_
        refine K_getf 12 0 76 (jvR 77) dM_name_115 pf_M_7 rfl rfl (by decide) rfl rfl ?_
        refine K_aload_n 0 76 dM_name_118 rfl rfl ?_
        refine K_getf 12 2 76 (jvI (μ4 76 2)) dM_name_119 pf_M_162 rfl rfl (by decide) rfl rfl ?_
        refine K_iald 77 1600 dM_name_122 rfl rfl (by decide) ((h5.2 c8).2.1 c11).1.2.1 ?_
        refine K_i2l dM_name_123 rfl ?_
        refine K_ladd dM_name_124 (w64_id ((h5.2 c8).2.1 c11).1.2.2.1) ?_
        refine K_ldc2 97 dM_name_125 pc_M_209 rfl ?_
        refine K_lsub dM_name_128 (w64_id ((h5.2 c8).2.1 c11).1.2.2.2.1) ?_
        refine K_lconst 1 dM_name_129 rfl ?_
        refine K_ladd dM_name_130 (w64_id ((h5.2 c8).2.1 c11).1.2.2.2.2.1) ?_
        refine K_lstore_n 1 dM_name_131 rfl (Nat.le_of_ble_eq_true rfl) rfl ?_
        refine K_aload_n 0 76 dM_name_132 rfl rfl ?_
        refine K_dup dM_name_133 (fun _ h => by cases h) ?_
        refine K_getf 12 2 76 (jvI (μ4 76 2)) dM_name_134 pf_M_162 rfl rfl (by decide) rfl rfl ?_
        refine K_iconst 1 dM_name_137 rfl ?_
        refine K_iadd dM_name_138 (w32_id ((h5.2 c8).2.1 c11).1.2.2.2.2.2) ?_
        refine K_putf 12 2 76 (x := ((μ4 76 2) + 1)) dM_name_139 pf_M_162 rfl rfl (by decide) rfl rfl rfl rfl trivial ?_
        refine K_goto 58 dM_name_142 (by decide) ?_
        exact ((h5.2 c8).2.1 c11).2
      · refine K_aload_n 0 76 dM_name_98 rfl rfl ?_
        refine K_iconst 1 dM_name_99 rfl ?_
        refine K_aload_n 0 76 dM_name_100 rfl rfl ?_
        refine K_getf 12 2 76 (jvI (μ4 76 2)) dM_name_101 pf_M_162 rfl rfl (by decide) rfl rfl ?_
        refine K_callVv mM_fail 12 76 [jvI 1, jvI (μ4 76 2)] dM_name_104 pm_M_186 ⟨_, rfl, rfl⟩ ⟨(Nat.le_of_ble_eq_true rfl), (Nat.le_of_ble_eq_true rfl)⟩ rfl rfl (by decide) (Nat.le_of_ble_eq_true rfl) rfl (Nat.le_of_ble_eq_true rfl) (by decide) (Cv_mono ((h5.2 c8).2.2 c11) (fun μ13 h14 => ?_))
        refine K_lconst 0 dM_name_107 rfl ?_
        exact K_lret dM_name_108 rfl h14
set_option maxHeartbeats 8000000 in
theorem vM_isOwnHere_0 {E : jE} {μ : jMu} {Q : Option AV → jMu → Prop} (hF : (Ci E mM_isHere [jvR 76, jvR 78] μ (fun r4 μ1 => ((¬ r4 = 0 → (K 121 E mM_isOwnHere 60 [some (jvR 76), none] [jvI 1] μ1 Q)) ∧ (r4 = 0 → (Ci E mM_isHere [jvR 76, jvR 79] μ1 (fun r10 μ7 => ((¬ r10 = 0 → (K 121 E mM_isOwnHere 60 [some (jvR 76), none] [jvI 1] μ7 Q)) ∧ (r10 = 0 → (Ci E mM_isHere [jvR 76, jvR 80] μ7 (fun r16 μ13 => ((¬ r16 = 0 → (K 121 E mM_isOwnHere 60 [some (jvR 76), none] [jvI 1] μ13 Q)) ∧ (r16 = 0 → (Ci E mM_isHere [jvR 76, jvR 81] μ13 (fun r22 μ19 => ((¬ r22 = 0 → (K 121 E mM_isOwnHere 60 [some (jvR 76), none] [jvI 1] μ19 Q)) ∧ (r22 = 0 → (Ci E mM_isHere [jvR 76, jvR 82] μ19 (fun r28 μ25 => ((r28 = 0 → (K 121 E mM_isOwnHere 60 [some (jvR 76), none] [jvI 0] μ25 Q)) ∧ (¬ (r28 = 0) → (K 121 E mM_isOwnHere 60 [some (jvR 76), none] [jvI 1] μ25 Q)))))))))))))))))))))) : K 121 E mM_isOwnHere 0 [some (jvR 76), none] [] μ Q := by
  refine K_aload_n 0 76 dM_isOwnHere_0 rfl rfl ?_
  refine K_aload_n 0 76 dM_isOwnHere_1 rfl rfl ?_
  refine K_getf 12 9 76 (jvR 78) dM_isOwnHere_2 pf_M_17 rfl rfl (by decide) rfl rfl ?_
  refine K_callVi mM_isHere 12 76 [jvR 78] dM_isOwnHere_5 pm_M_179 ⟨_, rfl, rfl⟩ ⟨(Nat.le_of_ble_eq_true rfl), (Nat.le_of_ble_eq_true rfl)⟩ rfl rfl (by decide) (Nat.le_of_ble_eq_true rfl) rfl (Nat.le_of_ble_eq_true rfl) (by decide) (Ci_mono hF (fun r4 μ1 h2 => ?_))
  refine K_if_ne 55 dM_isOwnHere_8 (by decide) (fun c5 => ?_) (fun c5 => ?_)
  · refine K_iconst 1 dM_isOwnHere_55 rfl ?_
    refine K_goto 60 dM_isOwnHere_56 (by decide) ?_
    exact (h2.1 c5)
  · refine K_aload_n 0 76 dM_isOwnHere_11 rfl rfl ?_
    refine K_aload_n 0 76 dM_isOwnHere_12 rfl rfl ?_
    refine K_getf 12 10 76 (jvR 79) dM_isOwnHere_13 pf_M_21 rfl rfl (by decide) rfl rfl ?_
    refine K_callVi mM_isHere 12 76 [jvR 79] dM_isOwnHere_16 pm_M_179 ⟨_, rfl, rfl⟩ ⟨(Nat.le_of_ble_eq_true rfl), (Nat.le_of_ble_eq_true rfl)⟩ rfl rfl (by decide) (Nat.le_of_ble_eq_true rfl) rfl (Nat.le_of_ble_eq_true rfl) (by decide) (Ci_mono (h2.2 c5) (fun r10 μ7 h8 => ?_))
    refine K_if_ne 55 dM_isOwnHere_19 (by decide) (fun c11 => ?_) (fun c11 => ?_)
    · refine K_iconst 1 dM_isOwnHere_55 rfl ?_
      refine K_goto 60 dM_isOwnHere_56 (by decide) ?_
      exact (h8.1 c11)
    · refine K_aload_n 0 76 dM_isOwnHere_22 rfl rfl ?_
      refine K_aload_n 0 76 dM_isOwnHere_23 rfl rfl ?_
      refine K_getf 12 11 76 (jvR 80) dM_isOwnHere_24 pf_M_24 rfl rfl (by decide) rfl rfl ?_
      refine K_callVi mM_isHere 12 76 [jvR 80] dM_isOwnHere_27 pm_M_179 ⟨_, rfl, rfl⟩ ⟨(Nat.le_of_ble_eq_true rfl), (Nat.le_of_ble_eq_true rfl)⟩ rfl rfl (by decide) (Nat.le_of_ble_eq_true rfl) rfl (Nat.le_of_ble_eq_true rfl) (by decide) (Ci_mono (h8.2 c11) (fun r16 μ13 h14 => ?_))
      refine K_if_ne 55 dM_isOwnHere_30 (by decide) (fun c17 => ?_) (fun c17 => ?_)
      · refine K_iconst 1 dM_isOwnHere_55 rfl ?_
        refine K_goto 60 dM_isOwnHere_56 (by decide) ?_
        exact (h14.1 c17)
      · refine K_aload_n 0 76 dM_isOwnHere_33 rfl rfl ?_
        refine K_aload_n 0 76 dM_isOwnHere_34 rfl rfl ?_
        refine K_getf 12 12 76 (jvR 81) dM_isOwnHere_35 pf_M_27 rfl rfl (by decide) rfl rfl ?_
        refine K_callVi mM_isHere 12 76 [jvR 81] dM_isOwnHere_38 pm_M_179 ⟨_, rfl, rfl⟩ ⟨(Nat.le_of_ble_eq_true rfl), (Nat.le_of_ble_eq_true rfl)⟩ rfl rfl (by decide) (Nat.le_of_ble_eq_true rfl) rfl (Nat.le_of_ble_eq_true rfl) (by decide) (Ci_mono (h14.2 c17) (fun r22 μ19 h20 => ?_))
        refine K_if_ne 55 dM_isOwnHere_41 (by decide) (fun c23 => ?_) (fun c23 => ?_)
        · refine K_iconst 1 dM_isOwnHere_55 rfl ?_
          refine K_goto 60 dM_isOwnHere_56 (by decide) ?_
          exact (h20.1 c23)
        · refine K_aload_n 0 76 dM_isOwnHere_44 rfl rfl ?_
          refine K_aload_n 0 76 dM_isOwnHere_45 rfl rfl ?_
          refine K_getf 12 13 76 (jvR 82) dM_isOwnHere_46 pf_M_30 rfl rfl (by decide) rfl rfl ?_
          refine K_callVi mM_isHere 12 76 [jvR 82] dM_isOwnHere_49 pm_M_179 ⟨_, rfl, rfl⟩ ⟨(Nat.le_of_ble_eq_true rfl), (Nat.le_of_ble_eq_true rfl)⟩ rfl rfl (by decide) (Nat.le_of_ble_eq_true rfl) rfl (Nat.le_of_ble_eq_true rfl) (by decide) (Ci_mono (h20.2 c23) (fun r28 μ25 h26 => ?_))
          refine K_if_eq 59 dM_isOwnHere_52 (by decide) (fun c29 => ?_) (fun c29 => ?_)
          · refine K_iconst 0 dM_isOwnHere_59 rfl ?_
            exact (h26.1 c29)
          · refine K_iconst 1 dM_isOwnHere_55 rfl ?_
            refine K_goto 60 dM_isOwnHere_56 (by decide) ?_
            exact (h26.2 c29)
set_option maxHeartbeats 8000000 in
theorem vM_isOwnHere_60 {E : jE} {μ : jMu} {Q : Option AV → jMu → Prop} {s0 : Int} (hF : ((¬ s0 = 0 → (Q (some (jvI 1)) μ)) ∧ (s0 = 0 → (Ci E mM_isHere [jvR 76, jvR 83] μ (fun r7 μ4 => ((¬ r7 = 0 → (Q (some (jvI 1)) μ4)) ∧ (r7 = 0 → (Ci E mM_isHere [jvR 76, jvR 84] μ4 (fun r14 μ11 => ((¬ r14 = 0 → (Q (some (jvI 1)) μ11)) ∧ (r14 = 0 → (Ci E mM_isHere [jvR 76, jvR 85] μ11 (fun r21 μ18 => ((¬ r21 = 0 → (Q (some (jvI 1)) μ18)) ∧ (r21 = 0 → (Ci E mM_isHere [jvR 76, jvR 86] μ18 (fun r28 μ25 => ((r28 = 0 → (Q (some (jvI 0)) μ25)) ∧ (¬ (r28 = 0) → (Q (some (jvI 1)) μ25)))))))))))))))))))) : K 121 E mM_isOwnHere 60 [some (jvR 76), none] [jvI s0] μ Q := by
  refine K_istore_n 1 dM_isOwnHere_60 rfl (Nat.le_of_ble_eq_true rfl) rfl ?_
  refine K_iload_n 1 s0 dM_isOwnHere_61 rfl rfl ?_
  refine K_if_ne 109 dM_isOwnHere_62 (by decide) (fun c1 => ?_) (fun c1 => ?_)
  · refine K_iconst 1 dM_isOwnHere_109 rfl ?_
    refine K_goto 114 dM_isOwnHere_110 (by decide) ?_
    exact K_iret dM_isOwnHere_114 (Or.inr ⟨rfl, (by decide)⟩) (hF.1 c1)
  · refine K_aload_n 0 76 dM_isOwnHere_65 rfl rfl ?_
    refine K_aload_n 0 76 dM_isOwnHere_66 rfl rfl ?_
    refine K_getf 12 14 76 (jvR 83) dM_isOwnHere_67 pf_M_33 rfl rfl (by decide) rfl rfl ?_
    refine K_callVi mM_isHere 12 76 [jvR 83] dM_isOwnHere_70 pm_M_179 ⟨_, rfl, rfl⟩ ⟨(Nat.le_of_ble_eq_true rfl), (Nat.le_of_ble_eq_true rfl)⟩ rfl rfl (by decide) (Nat.le_of_ble_eq_true rfl) rfl (Nat.le_of_ble_eq_true rfl) (by decide) (Ci_mono (hF.2 c1) (fun r7 μ4 h5 => ?_))
    refine K_if_ne 109 dM_isOwnHere_73 (by decide) (fun c8 => ?_) (fun c8 => ?_)
    · refine K_iconst 1 dM_isOwnHere_109 rfl ?_
      refine K_goto 114 dM_isOwnHere_110 (by decide) ?_
      exact K_iret dM_isOwnHere_114 (Or.inr ⟨rfl, (by decide)⟩) (h5.1 c8)
    · refine K_aload_n 0 76 dM_isOwnHere_76 rfl rfl ?_
      refine K_aload_n 0 76 dM_isOwnHere_77 rfl rfl ?_
      refine K_getf 12 15 76 (jvR 84) dM_isOwnHere_78 pf_M_36 rfl rfl (by decide) rfl rfl ?_
      refine K_callVi mM_isHere 12 76 [jvR 84] dM_isOwnHere_81 pm_M_179 ⟨_, rfl, rfl⟩ ⟨(Nat.le_of_ble_eq_true rfl), (Nat.le_of_ble_eq_true rfl)⟩ rfl rfl (by decide) (Nat.le_of_ble_eq_true rfl) rfl (Nat.le_of_ble_eq_true rfl) (by decide) (Ci_mono (h5.2 c8) (fun r14 μ11 h12 => ?_))
      refine K_if_ne 109 dM_isOwnHere_84 (by decide) (fun c15 => ?_) (fun c15 => ?_)
      · refine K_iconst 1 dM_isOwnHere_109 rfl ?_
        refine K_goto 114 dM_isOwnHere_110 (by decide) ?_
        exact K_iret dM_isOwnHere_114 (Or.inr ⟨rfl, (by decide)⟩) (h12.1 c15)
      · refine K_aload_n 0 76 dM_isOwnHere_87 rfl rfl ?_
        refine K_aload_n 0 76 dM_isOwnHere_88 rfl rfl ?_
        refine K_getf 12 16 76 (jvR 85) dM_isOwnHere_89 pf_M_39 rfl rfl (by decide) rfl rfl ?_
        refine K_callVi mM_isHere 12 76 [jvR 85] dM_isOwnHere_92 pm_M_179 ⟨_, rfl, rfl⟩ ⟨(Nat.le_of_ble_eq_true rfl), (Nat.le_of_ble_eq_true rfl)⟩ rfl rfl (by decide) (Nat.le_of_ble_eq_true rfl) rfl (Nat.le_of_ble_eq_true rfl) (by decide) (Ci_mono (h12.2 c15) (fun r21 μ18 h19 => ?_))
        refine K_if_ne 109 dM_isOwnHere_95 (by decide) (fun c22 => ?_) (fun c22 => ?_)
        · refine K_iconst 1 dM_isOwnHere_109 rfl ?_
          refine K_goto 114 dM_isOwnHere_110 (by decide) ?_
          exact K_iret dM_isOwnHere_114 (Or.inr ⟨rfl, (by decide)⟩) (h19.1 c22)
        · refine K_aload_n 0 76 dM_isOwnHere_98 rfl rfl ?_
          refine K_aload_n 0 76 dM_isOwnHere_99 rfl rfl ?_
          refine K_getf 12 17 76 (jvR 86) dM_isOwnHere_100 pf_M_42 rfl rfl (by decide) rfl rfl ?_
          refine K_callVi mM_isHere 12 76 [jvR 86] dM_isOwnHere_103 pm_M_179 ⟨_, rfl, rfl⟩ ⟨(Nat.le_of_ble_eq_true rfl), (Nat.le_of_ble_eq_true rfl)⟩ rfl rfl (by decide) (Nat.le_of_ble_eq_true rfl) rfl (Nat.le_of_ble_eq_true rfl) (by decide) (Ci_mono (h19.2 c22) (fun r28 μ25 h26 => ?_))
          refine K_if_eq 113 dM_isOwnHere_106 (by decide) (fun c29 => ?_) (fun c29 => ?_)
          · refine K_iconst 0 dM_isOwnHere_113 rfl ?_
            exact K_iret dM_isOwnHere_114 (Or.inr ⟨rfl, (by decide)⟩) (h26.1 c29)
          · refine K_iconst 1 dM_isOwnHere_109 rfl ?_
            refine K_goto 114 dM_isOwnHere_110 (by decide) ?_
            exact K_iret dM_isOwnHere_114 (Or.inr ⟨rfl, (by decide)⟩) (h26.2 c29)
set_option maxHeartbeats 8000000 in
theorem vM_nameOf_0 {E : jE} {μ : jMu} {Q : Option AV → jMu → Prop} {a0 a1 : Int} (hF : (K 121 E mM_nameOf 3 [some (jvR 76), some (jvI a0), some (jvL a1), none, some (jvI 0)] [] μ Q)) : K 121 E mM_nameOf 0 [some (jvR 76), some (jvI a0), some (jvL a1), none, none] [] μ Q := by
  refine K_iconst 0 dM_nameOf_0 rfl ?_
  refine K_istore 4 dM_nameOf_1 (Nat.le_of_ble_eq_true rfl) rfl ?_
  exact hF
set_option maxHeartbeats 8000000 in
theorem vM_nameOf_3 {E : jE} {μ : jMu} {Q : Option AV → jMu → Prop} {l1 l2 l4 : Int} (hF : ((0 ≤ l1 ∧ l1 < 10)) ∧ (((μ 87 l1) ≤ l4 → (Q (some (jvI (-1))) μ)) ∧ (¬ ((μ 87 l1) ≤ l4) → ((-2147483648 ≤ (24 * l1) ∧ (24 * l1) < 2147483648) ∧ (-2147483648 ≤ ((24 * l1) + l4) ∧ ((24 * l1) + l4) < 2147483648) ∧ (0 ≤ ((24 * l1) + l4) ∧ ((24 * l1) + l4) < 192)) ∧ ((¬ (μ 88 ((24 * l1) + l4)) = l2 → ((-2147483648 ≤ (l4 + 1) ∧ (l4 + 1) < 2147483648)) ∧ (K 121 E mM_nameOf 3 [some (jvR 76), some (jvI l1), some (jvL l2), none, some (jvI (l4 + 1))] [] μ Q)) ∧ ((μ 88 ((24 * l1) + l4)) = l2 → (Q (some (jvI l4)) μ)))))) : K 121 E mM_nameOf 3 [some (jvR 76), some (jvI l1), some (jvL l2), none, some (jvI l4)] [] μ Q := by
  refine K_iload 4 l4 dM_nameOf_3 rfl ?_
  refine K_aload_n 0 76 dM_nameOf_5 rfl rfl ?_
  refine K_getf 12 19 76 (jvR 87) dM_nameOf_6 pf_M_45 rfl rfl (by decide) rfl rfl ?_
  refine K_iload_n 1 l1 dM_nameOf_9 rfl rfl ?_
  refine K_iald 87 10 dM_nameOf_10 rfl rfl (by decide) hF.1 ?_
  refine K_icmp_ge 40 dM_nameOf_11 (by decide) (fun c1 => ?_) (fun c1 => ?_)
  · refine K_iconst (-1) dM_nameOf_40 rfl ?_
    exact K_iret dM_nameOf_41 (Or.inl rfl) (hF.2.1 c1)
  · refine K_aload_n 0 76 dM_nameOf_14 rfl rfl ?_
    refine K_getf 12 20 76 (jvR 88) dM_nameOf_15 pf_M_48 rfl rfl (by decide) rfl rfl ?_
    refine K_bipush 24 dM_nameOf_18 rfl ?_
    refine K_iload_n 1 l1 dM_nameOf_20 rfl rfl ?_
    refine K_imul dM_nameOf_21 (w32_id (hF.2.2 c1).1.1) ?_
    refine K_iload 4 l4 dM_nameOf_22 rfl ?_
    refine K_iadd dM_nameOf_24 (w32_id (hF.2.2 c1).1.2.1) ?_
    refine K_lald 88 192 dM_nameOf_25 rfl rfl (by decide) (hF.2.2 c1).1.2.2 ?_
    refine K_lload_n 2 l2 dM_nameOf_26 rfl rfl ?_
    refine K_lcmp_ne 34 dM_nameOf_27 dM_nameOf_28 (by decide) (fun c4 => ?_) (fun c4 => ?_)
    · refine K_iinc 4 dM_nameOf_34 (Nat.le_of_ble_eq_true rfl) rfl (w32_ok ((hF.2.2 c1).2.1 c4).1) rfl ?_
      refine K_goto 3 dM_nameOf_37 (by decide) ?_
      exact ((hF.2.2 c1).2.1 c4).2
    · refine K_iload 4 l4 dM_nameOf_31 rfl ?_
      exact K_iret dM_nameOf_33 (Or.inl rfl) ((hF.2.2 c1).2.2 c4)
set_option maxHeartbeats 8000000 in
theorem vM_termTold_0 {E : jE} {μ : jMu} {Q : Option AV → jMu → Prop} {a0 : Int} (hF : (((μ 76 5) = 0 → ((0 ≤ a0 ∧ a0 < 176)) ∧ (K 121 E mM_termTold 27 [some (jvR 76), some (jvI a0), some (jvI (μ 76 23)), some (jvI 1)] [] (j_up (j_up μ 91 a0 (μ 76 23)) 76 38 0) Q)) ∧ (¬ ((μ 76 5) = 0) → (Q none μ)))) : K 121 E mM_termTold 0 [some (jvR 76), some (jvI a0), none, none] [] μ Q := by
  refine K_aload_n 0 76 dM_termTold_0 rfl rfl ?_
  refine K_getf 12 5 76 (jvI (μ 76 5)) dM_termTold_1 pf_M_156 rfl rfl (by decide) rfl rfl ?_
  refine K_if_eq 8 dM_termTold_4 (by decide) (fun c1 => ?_) (fun c1 => ?_)
  · refine K_aload_n 0 76 dM_termTold_8 rfl rfl ?_
    refine K_getf 12 23 76 (jvI (μ 76 23)) dM_termTold_9 pf_M_219 rfl rfl (by decide) rfl rfl ?_
    refine K_istore_n 2 dM_termTold_12 rfl (Nat.le_of_ble_eq_true rfl) rfl ?_
    refine K_aload_n 0 76 dM_termTold_13 rfl rfl ?_
    refine K_getf 12 24 76 (jvR 91) dM_termTold_14 pf_M_58 rfl rfl (by decide) rfl rfl ?_
    refine K_iload_n 1 a0 dM_termTold_17 rfl rfl ?_
    refine K_iload_n 2 (μ 76 23) dM_termTold_18 rfl rfl ?_
    refine K_iast 91 176 dM_termTold_19 rfl rfl (by decide) (hF.1 c1).1 ?_
    refine K_aload_n 0 76 dM_termTold_20 rfl rfl ?_
    refine K_iconst 0 dM_termTold_21 rfl ?_
    refine K_putf 12 38 76 (x := 0) dM_termTold_22 pf_M_233 rfl rfl (by decide) rfl rfl rfl rfl trivial ?_
    refine K_iconst 1 dM_termTold_25 rfl ?_
    refine K_istore_n 3 dM_termTold_26 rfl (Nat.le_of_ble_eq_true rfl) rfl ?_
    exact (hF.1 c1).2
  · exact K_vret dM_termTold_7 rfl (hF.2 c1)
set_option maxHeartbeats 8000000 in
theorem vM_termTold_27 {E : jE} {μ : jMu} {Q : Option AV → jMu → Prop} {l1 l2 l3 : Int} (hF : ((¬ (μ 76 5) = 0 → ((-2147483648 ≤ ((μ 76 23) - l2) ∧ ((μ 76 23) - l2) < 2147483648) ∧ (0 ≤ l1 ∧ l1 < 176)) ∧ (Q none (j_up μ 92 l1 ((μ 76 23) - l2)))) ∧ ((μ 76 5) = 0 → ((l3 = 0 → ((-2147483648 ≤ ((μ 76 23) - l2) ∧ ((μ 76 23) - l2) < 2147483648) ∧ (0 ≤ l1 ∧ l1 < 176)) ∧ (Q none (j_up μ 92 l1 ((μ 76 23) - l2)))) ∧ (¬ (l3 = 0) → (Ci E mM_isEnded [jvR 76, jvI l2] μ (fun r10 μ7 => ((r10 = 0 → (K 121 E mM_termTold 27 [some (jvR 76), some (jvI l1), some (jvI l2), some (jvI 1)] [] μ7 Q)) ∧ (¬ (r10 = 0) → (Ci E mM_goesOn [jvR 76] μ7 (fun r16 μ13 => ((r16 = 0 → (K 121 E mM_termTold 27 [some (jvR 76), some (jvI l1), some (jvI l2), some (jvI 0)] [] μ13 Q)) ∧ (¬ (r16 = 0) → (K 121 E mM_termTold 27 [some (jvR 76), some (jvI l1), some (jvI l2), some (jvI 1)] [] μ13 Q)))))))))))))) : K 121 E mM_termTold 27 [some (jvR 76), some (jvI l1), some (jvI l2), some (jvI l3)] [] μ Q := by
  refine K_aload_n 0 76 dM_termTold_27 rfl rfl ?_
  refine K_getf 12 5 76 (jvI (μ 76 5)) dM_termTold_28 pf_M_156 rfl rfl (by decide) rfl rfl ?_
  refine K_if_ne 62 dM_termTold_31 (by decide) (fun c1 => ?_) (fun c1 => ?_)
  · refine K_aload_n 0 76 dM_termTold_62 rfl rfl ?_
    refine K_getf 12 25 76 (jvR 92) dM_termTold_63 pf_M_61 rfl rfl (by decide) rfl rfl ?_
    refine K_iload_n 1 l1 dM_termTold_66 rfl rfl ?_
    refine K_aload_n 0 76 dM_termTold_67 rfl rfl ?_
    refine K_getf 12 23 76 (jvI (μ 76 23)) dM_termTold_68 pf_M_219 rfl rfl (by decide) rfl rfl ?_
    refine K_iload_n 2 l2 dM_termTold_71 rfl rfl ?_
    refine K_isub dM_termTold_72 (w32_id (hF.1 c1).1.1) ?_
    refine K_iast 92 176 dM_termTold_73 rfl rfl (by decide) (hF.1 c1).1.2 ?_
    exact K_vret dM_termTold_74 rfl (hF.1 c1).2
  · refine K_iload_n 3 l3 dM_termTold_34 rfl rfl ?_
    refine K_if_eq 62 dM_termTold_35 (by decide) (fun c4 => ?_) (fun c4 => ?_)
    · refine K_aload_n 0 76 dM_termTold_62 rfl rfl ?_
      refine K_getf 12 25 76 (jvR 92) dM_termTold_63 pf_M_61 rfl rfl (by decide) rfl rfl ?_
      refine K_iload_n 1 l1 dM_termTold_66 rfl rfl ?_
      refine K_aload_n 0 76 dM_termTold_67 rfl rfl ?_
      refine K_getf 12 23 76 (jvI (μ 76 23)) dM_termTold_68 pf_M_219 rfl rfl (by decide) rfl rfl ?_
      refine K_iload_n 2 l2 dM_termTold_71 rfl rfl ?_
      refine K_isub dM_termTold_72 (w32_id ((hF.2 c1).1 c4).1.1) ?_
      refine K_iast 92 176 dM_termTold_73 rfl rfl (by decide) ((hF.2 c1).1 c4).1.2 ?_
      exact K_vret dM_termTold_74 rfl ((hF.2 c1).1 c4).2
    · refine K_aload_n 0 76 dM_termTold_38 rfl rfl ?_
      refine K_iload_n 2 l2 dM_termTold_39 rfl rfl ?_
      refine K_callVi mM_isEnded 12 76 [jvI l2] dM_termTold_40 pm_M_240 ⟨_, rfl, rfl⟩ ⟨(Nat.le_of_ble_eq_true rfl), (Nat.le_of_ble_eq_true rfl)⟩ rfl rfl (by decide) (Nat.le_of_ble_eq_true rfl) rfl (Nat.le_of_ble_eq_true rfl) (by decide) (Ci_mono ((hF.2 c1).2 c4) (fun r10 μ7 h8 => ?_))
      refine K_if_eq 53 dM_termTold_43 (by decide) (fun c11 => ?_) (fun c11 => ?_)
      · refine K_iconst 1 dM_termTold_53 rfl ?_
        refine K_goto 58 dM_termTold_54 (by decide) ?_
        refine K_istore_n 3 dM_termTold_58 rfl (Nat.le_of_ble_eq_true rfl) rfl ?_
        refine K_goto 27 dM_termTold_59 (by decide) ?_
        exact (h8.1 c11)
      · refine K_aload_n 0 76 dM_termTold_46 rfl rfl ?_
        refine K_callVi mM_goesOn 12 76 [] dM_termTold_47 pm_M_243 ⟨_, rfl, rfl⟩ ⟨(Nat.le_of_ble_eq_true rfl), (Nat.le_of_ble_eq_true rfl)⟩ rfl rfl (by decide) (Nat.le_of_ble_eq_true rfl) rfl (Nat.le_of_ble_eq_true rfl) (by decide) (Ci_mono (h8.2 c11) (fun r16 μ13 h14 => ?_))
        refine K_if_eq 57 dM_termTold_50 (by decide) (fun c17 => ?_) (fun c17 => ?_)
        · refine K_iconst 0 dM_termTold_57 rfl ?_
          refine K_istore_n 3 dM_termTold_58 rfl (Nat.le_of_ble_eq_true rfl) rfl ?_
          refine K_goto 27 dM_termTold_59 (by decide) ?_
          exact (h14.1 c17)
        · refine K_iconst 1 dM_termTold_53 rfl ?_
          refine K_goto 58 dM_termTold_54 (by decide) ?_
          refine K_istore_n 3 dM_termTold_58 rfl (Nat.le_of_ble_eq_true rfl) rfl ?_
          refine K_goto 27 dM_termTold_59 (by decide) ?_
          exact (h14.2 c17)
set_option maxHeartbeats 8000000 in
theorem vM_isEnded_0 {E : jE} {μ : jMu} {Q : Option AV → jMu → Prop} {a0 : Int} (hF : (Ci E mM_takesSign [jvR 76, jvI 63] μ (fun r4 μ1 => ((r4 = 0 → (Ci E mM_known [jvR 76, jvI 2, jvI 24] μ1 (fun r10 μ7 => (Cv E mM_lays [jvR 76, jvI r10, jvI a0] μ7 (fun μ11 => (((μ11 76 5) = 0 → (Ci E mM_look [jvR 76] μ11 (fun r19 μ16 => ((r19 = 40 → ((¬ (μ16 76 38) = 6 → ((-2147483648 ≤ ((μ16 76 2) + 1) ∧ ((μ16 76 2) + 1) < 2147483648) ∧ (0 ≤ (μ16 76 38) ∧ (μ16 76 38) < 7) ∧ (0 ≤ (μ16 76 38) ∧ (μ16 76 38) < 7) ∧ (0 ≤ (μ16 76 38) ∧ (μ16 76 38) < 7) ∧ (-2147483648 ≤ ((μ16 76 38) + 1) ∧ ((μ16 76 38) + 1) < 2147483648)) ∧ (Q (some (jvI 0)) (j_up (j_up (j_up (j_up (j_up μ16 76 2 ((μ16 76 2) + 1)) 99 (μ16 76 38) r10) 100 (μ16 76 38) (μ7 76 18)) 101 (μ16 76 38) 0) 76 38 ((μ16 76 38) + 1)))) ∧ ((μ16 76 38) = 6 → (Cv E mM_fail [jvR 76, jvI 4, jvI (μ16 76 2)] μ16 (fun μ25 => (Q (some (jvI 1)) μ25)))))) ∧ (¬ (r19 = 40) → (Cv E mM_ends [jvR 76, jvI r10, jvI 0, jvI (μ7 76 18)] μ16 (fun μ29 => (Q (some (jvI 1)) μ29)))))))) ∧ (¬ ((μ11 76 5) = 0) → (Q (some (jvI 1)) μ11)))))))) ∧ (¬ (r4 = 0) → (Ci E mM_known [jvR 76, jvI 3, jvI 12] μ1 (fun r37 μ34 => ((-2147483648 ≤ (100 + r37) ∧ (100 + r37) < 2147483648)) ∧ (Cv E mM_lays [jvR 76, jvI (100 + r37), jvI a0] μ34 (fun μ38 => (Q (some (jvI 1)) μ38)))))))))) : K 121 E mM_isEnded 0 [some (jvR 76), some (jvI a0), none, none] [] μ Q := by
  refine K_aload_n 0 76 dM_isEnded_0 rfl rfl ?_
  refine K_bipush 63 dM_isEnded_1 rfl ?_
  refine K_callVi mM_takesSign 12 76 [jvI 63] dM_isEnded_3 pm_M_190 ⟨_, rfl, rfl⟩ ⟨(Nat.le_of_ble_eq_true rfl), (Nat.le_of_ble_eq_true rfl)⟩ rfl rfl (by decide) (Nat.le_of_ble_eq_true rfl) rfl (Nat.le_of_ble_eq_true rfl) (by decide) (Ci_mono hF (fun r4 μ1 h2 => ?_))
  refine K_if_eq 28 dM_isEnded_6 (by decide) (fun c5 => ?_) (fun c5 => ?_)
  · refine K_aload_n 0 76 dM_isEnded_28 rfl rfl ?_
    refine K_iconst 2 dM_isEnded_29 rfl ?_
    refine K_bipush 24 dM_isEnded_30 rfl ?_
    refine K_callVi mM_known 12 76 [jvI 2, jvI 24] dM_isEnded_32 pm_M_222 ⟨_, rfl, rfl⟩ ⟨(Nat.le_of_ble_eq_true rfl), (Nat.le_of_ble_eq_true rfl)⟩ rfl rfl (by decide) (Nat.le_of_ble_eq_true rfl) rfl (Nat.le_of_ble_eq_true rfl) (by decide) (Ci_mono (h2.1 c5) (fun r10 μ7 h8 => ?_))
    refine K_istore_n 2 dM_isEnded_35 rfl (Nat.le_of_ble_eq_true rfl) rfl ?_
    refine K_aload_n 0 76 dM_isEnded_36 rfl rfl ?_
    refine K_getf 12 18 76 (jvI (μ7 76 18)) dM_isEnded_37 pf_M_204 rfl rfl (by decide) rfl rfl ?_
    refine K_istore_n 3 dM_isEnded_40 rfl (Nat.le_of_ble_eq_true rfl) rfl ?_
    refine K_aload_n 0 76 dM_isEnded_41 rfl rfl ?_
    refine K_iload_n 2 r10 dM_isEnded_42 rfl rfl ?_
    refine K_iload_n 1 a0 dM_isEnded_43 rfl rfl ?_
    refine K_callVv mM_lays 12 76 [jvI r10, jvI a0] dM_isEnded_44 pm_M_226 ⟨_, rfl, rfl⟩ ⟨(Nat.le_of_ble_eq_true rfl), (Nat.le_of_ble_eq_true rfl)⟩ rfl rfl (by decide) (Nat.le_of_ble_eq_true rfl) rfl (Nat.le_of_ble_eq_true rfl) (by decide) (Cv_mono h8 (fun μ11 h12 => ?_))
    refine K_aload_n 0 76 dM_isEnded_47 rfl rfl ?_
    refine K_getf 12 5 76 (jvI (μ11 76 5)) dM_isEnded_48 pf_M_156 rfl rfl (by decide) rfl rfl ?_
    refine K_if_eq 56 dM_isEnded_51 (by decide) (fun c14 => ?_) (fun c14 => ?_)
    · refine K_aload_n 0 76 dM_isEnded_56 rfl rfl ?_
      refine K_callVi mM_look 12 76 [] dM_isEnded_57 pm_M_168 ⟨_, rfl, rfl⟩ ⟨(Nat.le_of_ble_eq_true rfl), (Nat.le_of_ble_eq_true rfl)⟩ rfl rfl (by decide) (Nat.le_of_ble_eq_true rfl) rfl (Nat.le_of_ble_eq_true rfl) (by decide) (Ci_mono (h12.1 c14) (fun r19 μ16 h17 => ?_))
      refine K_bipush 40 dM_isEnded_60 rfl ?_
      refine K_icmp_eq 74 dM_isEnded_62 (by decide) (fun c20 => ?_) (fun c20 => ?_)
      · refine K_aload_n 0 76 dM_isEnded_74 rfl rfl ?_
        refine K_getf 12 38 76 (jvI (μ16 76 38)) dM_isEnded_75 pf_M_233 rfl rfl (by decide) rfl rfl ?_
        refine K_bipush 6 dM_isEnded_78 rfl ?_
        refine K_icmp_ne 94 dM_isEnded_80 (by decide) (fun c22 => ?_) (fun c22 => ?_)
        · refine K_aload_n 0 76 dM_isEnded_94 rfl rfl ?_
          refine K_dup dM_isEnded_95 (fun _ h => by cases h) ?_
          refine K_getf 12 2 76 (jvI (μ16 76 2)) dM_isEnded_96 pf_M_162 rfl rfl (by decide) rfl rfl ?_
          refine K_iconst 1 dM_isEnded_99 rfl ?_
          refine K_iadd dM_isEnded_100 (w32_id ((h17.1 c20).1 c22).1.1) ?_
          refine K_putf 12 2 76 (x := ((μ16 76 2) + 1)) dM_isEnded_101 pf_M_162 rfl rfl (by decide) rfl rfl rfl rfl trivial ?_
          refine K_aload_n 0 76 dM_isEnded_104 rfl rfl ?_
          refine K_getf 12 35 76 (jvR 99) dM_isEnded_105 pf_M_82 rfl rfl (by decide) rfl rfl ?_
          refine K_aload_n 0 76 dM_isEnded_108 rfl rfl ?_
          refine K_getf 12 38 76 (jvI (μ16 76 38)) dM_isEnded_109 pf_M_233 rfl rfl (by decide) rfl rfl ?_
          refine K_iload_n 2 r10 dM_isEnded_112 rfl rfl ?_
          refine K_iast 99 7 dM_isEnded_113 rfl rfl (by decide) ((h17.1 c20).1 c22).1.2.1 ?_
          refine K_aload_n 0 76 dM_isEnded_114 rfl rfl ?_
          refine K_getf 12 36 76 (jvR 100) dM_isEnded_115 pf_M_85 rfl rfl (by decide) rfl rfl ?_
          refine K_aload_n 0 76 dM_isEnded_118 rfl rfl ?_
          refine K_getf 12 38 76 (jvI (μ16 76 38)) dM_isEnded_119 pf_M_233 rfl rfl (by decide) rfl rfl ?_
          refine K_iload_n 3 (μ7 76 18) dM_isEnded_122 rfl rfl ?_
          refine K_iast 100 7 dM_isEnded_123 rfl rfl (by decide) ((h17.1 c20).1 c22).1.2.2.1 ?_
          refine K_aload_n 0 76 dM_isEnded_124 rfl rfl ?_
          refine K_getf 12 37 76 (jvR 101) dM_isEnded_125 pf_M_88 rfl rfl (by decide) rfl rfl ?_
          refine K_aload_n 0 76 dM_isEnded_128 rfl rfl ?_
          refine K_getf 12 38 76 (jvI (μ16 76 38)) dM_isEnded_129 pf_M_233 rfl rfl (by decide) rfl rfl ?_
          refine K_iconst 0 dM_isEnded_132 rfl ?_
          refine K_iast 101 7 dM_isEnded_133 rfl rfl (by decide) ((h17.1 c20).1 c22).1.2.2.2.1 ?_
          refine K_aload_n 0 76 dM_isEnded_134 rfl rfl ?_
          refine K_dup dM_isEnded_135 (fun _ h => by cases h) ?_
          refine K_getf 12 38 76 (jvI (μ16 76 38)) dM_isEnded_136 pf_M_233 rfl rfl (by decide) rfl rfl ?_
          refine K_iconst 1 dM_isEnded_139 rfl ?_
          refine K_iadd dM_isEnded_140 (w32_id ((h17.1 c20).1 c22).1.2.2.2.2) ?_
          refine K_putf 12 38 76 (x := ((μ16 76 38) + 1)) dM_isEnded_141 pf_M_233 rfl rfl (by decide) rfl rfl rfl rfl trivial ?_
          refine K_iconst 0 dM_isEnded_144 rfl ?_
          exact K_iret dM_isEnded_145 (Or.inr ⟨rfl, (by decide)⟩) ((h17.1 c20).1 c22).2
        · refine K_aload_n 0 76 dM_isEnded_83 rfl rfl ?_
          refine K_iconst 4 dM_isEnded_84 rfl ?_
          refine K_aload_n 0 76 dM_isEnded_85 rfl rfl ?_
          refine K_getf 12 2 76 (jvI (μ16 76 2)) dM_isEnded_86 pf_M_162 rfl rfl (by decide) rfl rfl ?_
          refine K_callVv mM_fail 12 76 [jvI 4, jvI (μ16 76 2)] dM_isEnded_89 pm_M_186 ⟨_, rfl, rfl⟩ ⟨(Nat.le_of_ble_eq_true rfl), (Nat.le_of_ble_eq_true rfl)⟩ rfl rfl (by decide) (Nat.le_of_ble_eq_true rfl) rfl (Nat.le_of_ble_eq_true rfl) (by decide) (Cv_mono ((h17.1 c20).2 c22) (fun μ25 h26 => ?_))
          refine K_iconst 1 dM_isEnded_92 rfl ?_
          exact K_iret dM_isEnded_93 (Or.inr ⟨rfl, (by decide)⟩) h26
      · refine K_aload_n 0 76 dM_isEnded_65 rfl rfl ?_
        refine K_iload_n 2 r10 dM_isEnded_66 rfl rfl ?_
        refine K_iconst 0 dM_isEnded_67 rfl ?_
        refine K_iload_n 3 (μ7 76 18) dM_isEnded_68 rfl rfl ?_
        refine K_callVv mM_ends 12 76 [jvI r10, jvI 0, jvI (μ7 76 18)] dM_isEnded_69 pm_M_229 ⟨_, rfl, rfl⟩ ⟨(Nat.le_of_ble_eq_true rfl), (Nat.le_of_ble_eq_true rfl)⟩ rfl rfl (by decide) (Nat.le_of_ble_eq_true rfl) rfl (Nat.le_of_ble_eq_true rfl) (by decide) (Cv_mono (h17.2 c20) (fun μ29 h30 => ?_))
        refine K_iconst 1 dM_isEnded_72 rfl ?_
        exact K_iret dM_isEnded_73 (Or.inr ⟨rfl, (by decide)⟩) h30
    · refine K_iconst 1 dM_isEnded_54 rfl ?_
      exact K_iret dM_isEnded_55 (Or.inr ⟨rfl, (by decide)⟩) (h12.2 c14)
  · refine K_aload_n 0 76 dM_isEnded_9 rfl rfl ?_
    refine K_iconst 3 dM_isEnded_10 rfl ?_
    refine K_bipush 12 dM_isEnded_11 rfl ?_
    refine K_callVi mM_known 12 76 [jvI 3, jvI 12] dM_isEnded_13 pm_M_222 ⟨_, rfl, rfl⟩ ⟨(Nat.le_of_ble_eq_true rfl), (Nat.le_of_ble_eq_true rfl)⟩ rfl rfl (by decide) (Nat.le_of_ble_eq_true rfl) rfl (Nat.le_of_ble_eq_true rfl) (by decide) (Ci_mono (h2.2 c5) (fun r37 μ34 h35 => ?_))
    refine K_istore_n 2 dM_isEnded_16 rfl (Nat.le_of_ble_eq_true rfl) rfl ?_
    refine K_aload_n 0 76 dM_isEnded_17 rfl rfl ?_
    refine K_bipush 100 dM_isEnded_18 rfl ?_
    refine K_iload_n 2 r37 dM_isEnded_20 rfl rfl ?_
    refine K_iadd dM_isEnded_21 (w32_id h35.1) ?_
    refine K_iload_n 1 a0 dM_isEnded_22 rfl rfl ?_
    refine K_callVv mM_lays 12 76 [jvI (100 + r37), jvI a0] dM_isEnded_23 pm_M_226 ⟨_, rfl, rfl⟩ ⟨(Nat.le_of_ble_eq_true rfl), (Nat.le_of_ble_eq_true rfl)⟩ rfl rfl (by decide) (Nat.le_of_ble_eq_true rfl) rfl (Nat.le_of_ble_eq_true rfl) (by decide) (Cv_mono h35.2 (fun μ38 h39 => ?_))
    refine K_iconst 1 dM_isEnded_26 rfl ?_
    exact K_iret dM_isEnded_27 (Or.inr ⟨rfl, (by decide)⟩) h39
set_option maxHeartbeats 8000000 in
theorem vM_takesSign_0 {E : jE} {μ : jMu} {Q : Option AV → jMu → Prop} {a0 : Int} (hF : ((¬ (μ 76 5) = 0 → (Q (some (jvI 0)) μ)) ∧ ((μ 76 5) = 0 → (Ci E mM_look [jvR 76] μ (fun r7 μ4 => ((r7 = a0 → ((-2147483648 ≤ ((μ4 76 2) + 1) ∧ ((μ4 76 2) + 1) < 2147483648)) ∧ (Q (some (jvI 1)) (j_up μ4 76 2 ((μ4 76 2) + 1)))) ∧ (¬ (r7 = a0) → (Q (some (jvI 0)) μ4)))))))) : K 121 E mM_takesSign 0 [some (jvR 76), some (jvI a0)] [] μ Q := by
  refine K_aload_n 0 76 dM_takesSign_0 rfl rfl ?_
  refine K_getf 12 5 76 (jvI (μ 76 5)) dM_takesSign_1 pf_M_156 rfl rfl (by decide) rfl rfl ?_
  refine K_if_ne 15 dM_takesSign_4 (by decide) (fun c1 => ?_) (fun c1 => ?_)
  · refine K_iconst 0 dM_takesSign_15 rfl ?_
    exact K_iret dM_takesSign_16 (Or.inr ⟨rfl, (by decide)⟩) (hF.1 c1)
  · refine K_aload_n 0 76 dM_takesSign_7 rfl rfl ?_
    refine K_callVi mM_look 12 76 [] dM_takesSign_8 pm_M_168 ⟨_, rfl, rfl⟩ ⟨(Nat.le_of_ble_eq_true rfl), (Nat.le_of_ble_eq_true rfl)⟩ rfl rfl (by decide) (Nat.le_of_ble_eq_true rfl) rfl (Nat.le_of_ble_eq_true rfl) (by decide) (Ci_mono (hF.2 c1) (fun r7 μ4 h5 => ?_))
    refine K_iload_n 1 a0 dM_takesSign_11 rfl rfl ?_
    refine K_icmp_eq 17 dM_takesSign_12 (by decide) (fun c8 => ?_) (fun c8 => ?_)
    · refine K_aload_n 0 76 dM_takesSign_17 rfl rfl ?_
      refine K_dup dM_takesSign_18 (fun _ h => by cases h) ?_
      refine K_getf 12 2 76 (jvI (μ4 76 2)) dM_takesSign_19 pf_M_162 rfl rfl (by decide) rfl rfl ?_
      refine K_iconst 1 dM_takesSign_22 rfl ?_
      refine K_iadd dM_takesSign_23 (w32_id (h5.1 c8).1) ?_
      refine K_putf 12 2 76 (x := ((μ4 76 2) + 1)) dM_takesSign_24 pf_M_162 rfl rfl (by decide) rfl rfl rfl rfl trivial ?_
      refine K_iconst 1 dM_takesSign_27 rfl ?_
      exact K_iret dM_takesSign_28 (Or.inr ⟨rfl, (by decide)⟩) (h5.1 c8).2
    · refine K_iconst 0 dM_takesSign_15 rfl ?_
      exact K_iret dM_takesSign_16 (Or.inr ⟨rfl, (by decide)⟩) (h5.2 c8)
set_option maxHeartbeats 8000000 in
theorem vM_known_0 {E : jE} {μ : jMu} {Q : Option AV → jMu → Prop} {a0 a1 : Int} (hF : (Cl E mM_name [jvR 76] μ (fun r4 μ1 => (((μ1 76 5) = 0 → (Ci E mM_nameOf [jvR 76, jvI a0, jvL r4] μ1 (fun r10 μ7 => ((r10 = (-1) → ((0 ≤ a0 ∧ a0 < 10)) ∧ ((¬ (μ7 87 a0) = a1 → ((0 ≤ a0 ∧ a0 < 10) ∧ (-2147483648 ≤ (24 * a0) ∧ (24 * a0) < 2147483648) ∧ (-2147483648 ≤ ((24 * a0) + (μ7 87 a0)) ∧ ((24 * a0) + (μ7 87 a0)) < 2147483648) ∧ (0 ≤ ((24 * a0) + (μ7 87 a0)) ∧ ((24 * a0) + (μ7 87 a0)) < 192)) ∧ ((¬ a0 = 2 → ((0 ≤ a0 ∧ a0 < 10) ∧ (-2147483648 ≤ ((μ7 87 a0) + 1) ∧ ((μ7 87 a0) + 1) < 2147483648) ∧ (0 ≤ a0 ∧ a0 < 10)) ∧ (Q (some (jvI (μ7 87 a0))) (j_up (j_up μ7 88 ((24 * a0) + (μ7 87 a0)) r4) 87 a0 ((μ7 87 a0) + 1)))) ∧ (a0 = 2 → ((0 ≤ (μ7 87 a0) ∧ (μ7 87 a0) < 48) ∧ (0 ≤ a0 ∧ a0 < 10) ∧ (-2147483648 ≤ ((μ7 87 a0) + 1) ∧ ((μ7 87 a0) + 1) < 2147483648) ∧ (0 ≤ a0 ∧ a0 < 10)) ∧ (Q (some (jvI (μ7 87 a0))) (j_up (j_up (j_up μ7 88 ((24 * a0) + (μ7 87 a0)) r4) 89 (μ7 87 a0) (-1)) 87 a0 ((μ7 87 a0) + 1)))))) ∧ ((μ7 87 a0) = a1 → (Cv E mM_fail [jvR 76, jvI 5, jvI (μ7 76 18)] μ7 (fun μ19 => (Q (some (jvI 0)) μ19)))))) ∧ (¬ (r10 = (-1)) → (Q (some (jvI r10)) μ7)))))) ∧ (¬ ((μ1 76 5) = 0) → (Q (some (jvI 0)) μ1)))))) : K 121 E mM_known 0 [some (jvR 76), some (jvI a0), some (jvI a1), none, none, none] [] μ Q := by
  refine K_aload_n 0 76 dM_known_0 rfl rfl ?_
  refine K_callVl mM_name 12 76 [] dM_known_1 pm_M_211 ⟨_, rfl, rfl⟩ ⟨(Nat.le_of_ble_eq_true rfl), (Nat.le_of_ble_eq_true rfl)⟩ rfl rfl (by decide) (Nat.le_of_ble_eq_true rfl) rfl (Nat.le_of_ble_eq_true rfl) (by decide) (Cl_mono hF (fun r4 μ1 h2 => ?_))
  refine K_lstore_n 3 dM_known_4 rfl (Nat.le_of_ble_eq_true rfl) rfl ?_
  refine K_aload_n 0 76 dM_known_5 rfl rfl ?_
  refine K_getf 12 5 76 (jvI (μ1 76 5)) dM_known_6 pf_M_156 rfl rfl (by decide) rfl rfl ?_
  refine K_if_eq 14 dM_known_9 (by decide) (fun c5 => ?_) (fun c5 => ?_)
  · refine K_aload_n 0 76 dM_known_14 rfl rfl ?_
    refine K_iload_n 1 a0 dM_known_15 rfl rfl ?_
    refine K_lload_n 3 r4 dM_known_16 rfl rfl ?_
    refine K_callVi mM_nameOf 12 76 [jvI a0, jvL r4] dM_known_17 pm_M_215 ⟨_, rfl, rfl⟩ ⟨(Nat.le_of_ble_eq_true rfl), (Nat.le_of_ble_eq_true rfl)⟩ rfl rfl (by decide) (Nat.le_of_ble_eq_true rfl) rfl (Nat.le_of_ble_eq_true rfl) (by decide) (Ci_mono (h2.1 c5) (fun r10 μ7 h8 => ?_))
    refine K_istore 5 dM_known_20 (Nat.le_of_ble_eq_true rfl) rfl ?_
    refine K_iload 5 r10 dM_known_22 rfl ?_
    refine K_iconst (-1) dM_known_24 rfl ?_
    refine K_icmp_eq 31 dM_known_25 (by decide) (fun c11 => ?_) (fun c11 => ?_)
    · refine K_aload_n 0 76 dM_known_31 rfl rfl ?_
      refine K_getf 12 19 76 (jvR 87) dM_known_32 pf_M_45 rfl rfl (by decide) rfl rfl ?_
      refine K_iload_n 1 a0 dM_known_35 rfl rfl ?_
      refine K_iald 87 10 dM_known_36 rfl rfl (by decide) (h8.1 c11).1 ?_
      refine K_iload_n 2 a1 dM_known_37 rfl rfl ?_
      refine K_icmp_ne 52 dM_known_38 (by decide) (fun c13 => ?_) (fun c13 => ?_)
      · refine K_aload_n 0 76 dM_known_52 rfl rfl ?_
        refine K_getf 12 19 76 (jvR 87) dM_known_53 pf_M_45 rfl rfl (by decide) rfl rfl ?_
        refine K_iload_n 1 a0 dM_known_56 rfl rfl ?_
        refine K_iald 87 10 dM_known_57 rfl rfl (by decide) ((h8.1 c11).2.1 c13).1.1 ?_
        refine K_istore 5 dM_known_58 (Nat.le_of_ble_eq_true rfl) rfl ?_
        refine K_aload_n 0 76 dM_known_60 rfl rfl ?_
        refine K_getf 12 20 76 (jvR 88) dM_known_61 pf_M_48 rfl rfl (by decide) rfl rfl ?_
        refine K_bipush 24 dM_known_64 rfl ?_
        refine K_iload_n 1 a0 dM_known_66 rfl rfl ?_
        refine K_imul dM_known_67 (w32_id ((h8.1 c11).2.1 c13).1.2.1) ?_
        refine K_iload 5 (μ7 87 a0) dM_known_68 rfl ?_
        refine K_iadd dM_known_70 (w32_id ((h8.1 c11).2.1 c13).1.2.2.1) ?_
        refine K_lload_n 3 r4 dM_known_71 rfl rfl ?_
        refine K_last 88 192 dM_known_72 rfl rfl (by decide) ((h8.1 c11).2.1 c13).1.2.2.2 ?_
        refine K_iload_n 1 a0 dM_known_73 rfl rfl ?_
        refine K_iconst 2 dM_known_74 rfl ?_
        refine K_icmp_ne 86 dM_known_75 (by decide) (fun c15 => ?_) (fun c15 => ?_)
        · refine K_aload_n 0 76 dM_known_86 rfl rfl ?_
          refine K_getf 12 19 76 (jvR 87) dM_known_87 pf_M_45 rfl rfl (by decide) rfl rfl ?_
          refine K_iload_n 1 a0 dM_known_90 rfl rfl ?_
          refine K_dup2 dM_known_91 (fun _ h => by cases h) (fun _ h => by cases h) ?_
          refine K_iald 87 10 dM_known_92 rfl rfl (by decide) (((h8.1 c11).2.1 c13).2.1 c15).1.1 ?_
          refine K_iconst 1 dM_known_93 rfl ?_
          refine K_iadd dM_known_94 (w32_id (((h8.1 c11).2.1 c13).2.1 c15).1.2.1) ?_
          refine K_iast 87 10 dM_known_95 rfl rfl (by decide) (((h8.1 c11).2.1 c13).2.1 c15).1.2.2 ?_
          refine K_iload 5 (μ7 87 a0) dM_known_96 rfl ?_
          exact K_iret dM_known_98 (Or.inl rfl) (((h8.1 c11).2.1 c13).2.1 c15).2
        · refine K_aload_n 0 76 dM_known_78 rfl rfl ?_
          refine K_getf 12 21 76 (jvR 89) dM_known_79 pf_M_52 rfl rfl (by decide) rfl rfl ?_
          refine K_iload 5 (μ7 87 a0) dM_known_82 rfl ?_
          refine K_iconst (-1) dM_known_84 rfl ?_
          refine K_iast 89 48 dM_known_85 rfl rfl (by decide) (((h8.1 c11).2.1 c13).2.2 c15).1.1 ?_
          refine K_aload_n 0 76 dM_known_86 rfl rfl ?_
          refine K_getf 12 19 76 (jvR 87) dM_known_87 pf_M_45 rfl rfl (by decide) rfl rfl ?_
          refine K_iload_n 1 a0 dM_known_90 rfl rfl ?_
          refine K_dup2 dM_known_91 (fun _ h => by cases h) (fun _ h => by cases h) ?_
          refine K_iald 87 10 dM_known_92 rfl rfl (by decide) (((h8.1 c11).2.1 c13).2.2 c15).1.2.1 ?_
          refine K_iconst 1 dM_known_93 rfl ?_
          refine K_iadd dM_known_94 (w32_id (((h8.1 c11).2.1 c13).2.2 c15).1.2.2.1) ?_
          refine K_iast 87 10 dM_known_95 rfl rfl (by decide) (((h8.1 c11).2.1 c13).2.2 c15).1.2.2.2 ?_
          refine K_iload 5 (μ7 87 a0) dM_known_96 rfl ?_
          exact K_iret dM_known_98 (Or.inl rfl) (((h8.1 c11).2.1 c13).2.2 c15).2
      · refine K_aload_n 0 76 dM_known_41 rfl rfl ?_
        refine K_iconst 5 dM_known_42 rfl ?_
        refine K_aload_n 0 76 dM_known_43 rfl rfl ?_
        refine K_getf 12 18 76 (jvI (μ7 76 18)) dM_known_44 pf_M_204 rfl rfl (by decide) rfl rfl ?_
        refine K_callVv mM_fail 12 76 [jvI 5, jvI (μ7 76 18)] dM_known_47 pm_M_186 ⟨_, rfl, rfl⟩ ⟨(Nat.le_of_ble_eq_true rfl), (Nat.le_of_ble_eq_true rfl)⟩ rfl rfl (by decide) (Nat.le_of_ble_eq_true rfl) rfl (Nat.le_of_ble_eq_true rfl) (by decide) (Cv_mono ((h8.1 c11).2.2 c13) (fun μ19 h20 => ?_))
        refine K_iconst 0 dM_known_50 rfl ?_
        exact K_iret dM_known_51 (Or.inl rfl) h20
    · refine K_iload 5 r10 dM_known_28 rfl ?_
      exact K_iret dM_known_30 (Or.inl rfl) (h8.2 c11)
  · refine K_iconst 0 dM_known_12 rfl ?_
    exact K_iret dM_known_13 (Or.inl rfl) (h2.2 c5)
set_option maxHeartbeats 8000000 in
theorem vM_lays_0 {E : jE} {μ : jMu} {Q : Option AV → jMu → Prop} {a0 a1 : Int} (hF : ((¬ (μ 76 5) = 0 → (((μ 76 5) = 0 → ((0 ≤ (μ 76 23) ∧ (μ 76 23) < 800) ∧ (-2147483648 ≤ ((μ 76 23) + 1) ∧ ((μ 76 23) + 1) < 2147483648)) ∧ (Q none (j_up (j_up μ 90 (μ 76 23) a0) 76 23 ((μ 76 23) + 1)))) ∧ (¬ ((μ 76 5) = 0) → (Q none μ)))) ∧ ((μ 76 5) = 0 → ((-2147483648 ≤ ((μ 76 23) - a1) ∧ ((μ 76 23) - a1) < 2147483648)) ∧ ((((μ 76 23) - a1) = 24 → (Cv E mM_fail [jvR 76, jvI 5, jvI (μ 76 18)] μ (fun μ9 => (((μ9 76 5) = 0 → ((0 ≤ (μ9 76 23) ∧ (μ9 76 23) < 800) ∧ (-2147483648 ≤ ((μ9 76 23) + 1) ∧ ((μ9 76 23) + 1) < 2147483648)) ∧ (Q none (j_up (j_up μ9 90 (μ9 76 23) a0) 76 23 ((μ9 76 23) + 1)))) ∧ (¬ ((μ9 76 5) = 0) → (Q none μ9)))))) ∧ (¬ (((μ 76 23) - a1) = 24) → ((¬ (μ 76 23) = 400 → (((μ 76 5) = 0 → ((0 ≤ (μ 76 23) ∧ (μ 76 23) < 800) ∧ (-2147483648 ≤ ((μ 76 23) + 1) ∧ ((μ 76 23) + 1) < 2147483648)) ∧ (Q none (j_up (j_up μ 90 (μ 76 23) a0) 76 23 ((μ 76 23) + 1)))) ∧ (¬ ((μ 76 5) = 0) → (Q none μ)))) ∧ ((μ 76 23) = 400 → (Cv E mM_fail [jvR 76, jvI 5, jvI (μ 76 18)] μ (fun μ22 => (((μ22 76 5) = 0 → ((0 ≤ (μ22 76 23) ∧ (μ22 76 23) < 800) ∧ (-2147483648 ≤ ((μ22 76 23) + 1) ∧ ((μ22 76 23) + 1) < 2147483648)) ∧ (Q none (j_up (j_up μ22 90 (μ22 76 23) a0) 76 23 ((μ22 76 23) + 1)))) ∧ (¬ ((μ22 76 5) = 0) → (Q none μ22)))))))))))) : K 121 E mM_lays 0 [some (jvR 76), some (jvI a0), some (jvI a1)] [] μ Q := by
  refine K_aload_n 0 76 dM_lays_0 rfl rfl ?_
  refine K_getf 12 5 76 (jvI (μ 76 5)) dM_lays_1 pf_M_156 rfl rfl (by decide) rfl rfl ?_
  refine K_if_ne 37 dM_lays_4 (by decide) (fun c1 => ?_) (fun c1 => ?_)
  · refine K_aload_n 0 76 dM_lays_37 rfl rfl ?_
    refine K_getf 12 5 76 (jvI (μ 76 5)) dM_lays_38 pf_M_156 rfl rfl (by decide) rfl rfl ?_
    refine K_if_eq 45 dM_lays_41 (by decide) (fun c3 => ?_) (fun c3 => ?_)
    · refine K_aload_n 0 76 dM_lays_45 rfl rfl ?_
      refine K_getf 12 22 76 (jvR 90) dM_lays_46 pf_M_55 rfl rfl (by decide) rfl rfl ?_
      refine K_aload_n 0 76 dM_lays_49 rfl rfl ?_
      refine K_getf 12 23 76 (jvI (μ 76 23)) dM_lays_50 pf_M_219 rfl rfl (by decide) rfl rfl ?_
      refine K_iload_n 1 a0 dM_lays_53 rfl rfl ?_
      refine K_iast 90 800 dM_lays_54 rfl rfl (by decide) ((hF.1 c1).1 c3).1.1 ?_
      refine K_aload_n 0 76 dM_lays_55 rfl rfl ?_
      refine K_dup dM_lays_56 (fun _ h => by cases h) ?_
      refine K_getf 12 23 76 (jvI (μ 76 23)) dM_lays_57 pf_M_219 rfl rfl (by decide) rfl rfl ?_
      refine K_iconst 1 dM_lays_60 rfl ?_
      refine K_iadd dM_lays_61 (w32_id ((hF.1 c1).1 c3).1.2) ?_
      refine K_putf 12 23 76 (x := ((μ 76 23) + 1)) dM_lays_62 pf_M_219 rfl rfl (by decide) rfl rfl rfl rfl trivial ?_
      exact K_vret dM_lays_65 rfl ((hF.1 c1).1 c3).2
    · exact K_vret dM_lays_44 rfl ((hF.1 c1).2 c3)
  · refine K_aload_n 0 76 dM_lays_7 rfl rfl ?_
    refine K_getf 12 23 76 (jvI (μ 76 23)) dM_lays_8 pf_M_219 rfl rfl (by decide) rfl rfl ?_
    refine K_iload_n 2 a1 dM_lays_11 rfl rfl ?_
    refine K_isub dM_lays_12 (w32_id (hF.2 c1).1) ?_
    refine K_bipush 24 dM_lays_13 rfl ?_
    refine K_icmp_eq 28 dM_lays_15 (by decide) (fun c7 => ?_) (fun c7 => ?_)
    · refine K_aload_n 0 76 dM_lays_28 rfl rfl ?_
      refine K_iconst 5 dM_lays_29 rfl ?_
      refine K_aload_n 0 76 dM_lays_30 rfl rfl ?_
      refine K_getf 12 18 76 (jvI (μ 76 18)) dM_lays_31 pf_M_204 rfl rfl (by decide) rfl rfl ?_
      refine K_callVv mM_fail 12 76 [jvI 5, jvI (μ 76 18)] dM_lays_34 pm_M_186 ⟨_, rfl, rfl⟩ ⟨(Nat.le_of_ble_eq_true rfl), (Nat.le_of_ble_eq_true rfl)⟩ rfl rfl (by decide) (Nat.le_of_ble_eq_true rfl) rfl (Nat.le_of_ble_eq_true rfl) (by decide) (Cv_mono ((hF.2 c1).2.1 c7) (fun μ9 h10 => ?_))
      refine K_aload_n 0 76 dM_lays_37 rfl rfl ?_
      refine K_getf 12 5 76 (jvI (μ9 76 5)) dM_lays_38 pf_M_156 rfl rfl (by decide) rfl rfl ?_
      refine K_if_eq 45 dM_lays_41 (by decide) (fun c12 => ?_) (fun c12 => ?_)
      · refine K_aload_n 0 76 dM_lays_45 rfl rfl ?_
        refine K_getf 12 22 76 (jvR 90) dM_lays_46 pf_M_55 rfl rfl (by decide) rfl rfl ?_
        refine K_aload_n 0 76 dM_lays_49 rfl rfl ?_
        refine K_getf 12 23 76 (jvI (μ9 76 23)) dM_lays_50 pf_M_219 rfl rfl (by decide) rfl rfl ?_
        refine K_iload_n 1 a0 dM_lays_53 rfl rfl ?_
        refine K_iast 90 800 dM_lays_54 rfl rfl (by decide) (h10.1 c12).1.1 ?_
        refine K_aload_n 0 76 dM_lays_55 rfl rfl ?_
        refine K_dup dM_lays_56 (fun _ h => by cases h) ?_
        refine K_getf 12 23 76 (jvI (μ9 76 23)) dM_lays_57 pf_M_219 rfl rfl (by decide) rfl rfl ?_
        refine K_iconst 1 dM_lays_60 rfl ?_
        refine K_iadd dM_lays_61 (w32_id (h10.1 c12).1.2) ?_
        refine K_putf 12 23 76 (x := ((μ9 76 23) + 1)) dM_lays_62 pf_M_219 rfl rfl (by decide) rfl rfl rfl rfl trivial ?_
        exact K_vret dM_lays_65 rfl (h10.1 c12).2
      · exact K_vret dM_lays_44 rfl (h10.2 c12)
    · refine K_aload_n 0 76 dM_lays_18 rfl rfl ?_
      refine K_getf 12 23 76 (jvI (μ 76 23)) dM_lays_19 pf_M_219 rfl rfl (by decide) rfl rfl ?_
      refine K_sipush 400 dM_lays_22 rfl ?_
      refine K_icmp_ne 37 dM_lays_25 (by decide) (fun c16 => ?_) (fun c16 => ?_)
      · refine K_aload_n 0 76 dM_lays_37 rfl rfl ?_
        refine K_getf 12 5 76 (jvI (μ 76 5)) dM_lays_38 pf_M_156 rfl rfl (by decide) rfl rfl ?_
        refine K_if_eq 45 dM_lays_41 (by decide) (fun c18 => ?_) (fun c18 => ?_)
        · refine K_aload_n 0 76 dM_lays_45 rfl rfl ?_
          refine K_getf 12 22 76 (jvR 90) dM_lays_46 pf_M_55 rfl rfl (by decide) rfl rfl ?_
          refine K_aload_n 0 76 dM_lays_49 rfl rfl ?_
          refine K_getf 12 23 76 (jvI (μ 76 23)) dM_lays_50 pf_M_219 rfl rfl (by decide) rfl rfl ?_
          refine K_iload_n 1 a0 dM_lays_53 rfl rfl ?_
          refine K_iast 90 800 dM_lays_54 rfl rfl (by decide) ((((hF.2 c1).2.2 c7).1 c16).1 c18).1.1 ?_
          refine K_aload_n 0 76 dM_lays_55 rfl rfl ?_
          refine K_dup dM_lays_56 (fun _ h => by cases h) ?_
          refine K_getf 12 23 76 (jvI (μ 76 23)) dM_lays_57 pf_M_219 rfl rfl (by decide) rfl rfl ?_
          refine K_iconst 1 dM_lays_60 rfl ?_
          refine K_iadd dM_lays_61 (w32_id ((((hF.2 c1).2.2 c7).1 c16).1 c18).1.2) ?_
          refine K_putf 12 23 76 (x := ((μ 76 23) + 1)) dM_lays_62 pf_M_219 rfl rfl (by decide) rfl rfl rfl rfl trivial ?_
          exact K_vret dM_lays_65 rfl ((((hF.2 c1).2.2 c7).1 c16).1 c18).2
        · exact K_vret dM_lays_44 rfl ((((hF.2 c1).2.2 c7).1 c16).2 c18)
      · refine K_aload_n 0 76 dM_lays_28 rfl rfl ?_
        refine K_iconst 5 dM_lays_29 rfl ?_
        refine K_aload_n 0 76 dM_lays_30 rfl rfl ?_
        refine K_getf 12 18 76 (jvI (μ 76 18)) dM_lays_31 pf_M_204 rfl rfl (by decide) rfl rfl ?_
        refine K_callVv mM_fail 12 76 [jvI 5, jvI (μ 76 18)] dM_lays_34 pm_M_186 ⟨_, rfl, rfl⟩ ⟨(Nat.le_of_ble_eq_true rfl), (Nat.le_of_ble_eq_true rfl)⟩ rfl rfl (by decide) (Nat.le_of_ble_eq_true rfl) rfl (Nat.le_of_ble_eq_true rfl) (by decide) (Cv_mono (((hF.2 c1).2.2 c7).2 c16) (fun μ22 h23 => ?_))
        refine K_aload_n 0 76 dM_lays_37 rfl rfl ?_
        refine K_getf 12 5 76 (jvI (μ22 76 5)) dM_lays_38 pf_M_156 rfl rfl (by decide) rfl rfl ?_
        refine K_if_eq 45 dM_lays_41 (by decide) (fun c25 => ?_) (fun c25 => ?_)
        · refine K_aload_n 0 76 dM_lays_45 rfl rfl ?_
          refine K_getf 12 22 76 (jvR 90) dM_lays_46 pf_M_55 rfl rfl (by decide) rfl rfl ?_
          refine K_aload_n 0 76 dM_lays_49 rfl rfl ?_
          refine K_getf 12 23 76 (jvI (μ22 76 23)) dM_lays_50 pf_M_219 rfl rfl (by decide) rfl rfl ?_
          refine K_iload_n 1 a0 dM_lays_53 rfl rfl ?_
          refine K_iast 90 800 dM_lays_54 rfl rfl (by decide) (h23.1 c25).1.1 ?_
          refine K_aload_n 0 76 dM_lays_55 rfl rfl ?_
          refine K_dup dM_lays_56 (fun _ h => by cases h) ?_
          refine K_getf 12 23 76 (jvI (μ22 76 23)) dM_lays_57 pf_M_219 rfl rfl (by decide) rfl rfl ?_
          refine K_iconst 1 dM_lays_60 rfl ?_
          refine K_iadd dM_lays_61 (w32_id (h23.1 c25).1.2) ?_
          refine K_putf 12 23 76 (x := ((μ22 76 23) + 1)) dM_lays_62 pf_M_219 rfl rfl (by decide) rfl rfl rfl rfl trivial ?_
          exact K_vret dM_lays_65 rfl (h23.1 c25).2
        · exact K_vret dM_lays_44 rfl (h23.2 c25)
set_option maxHeartbeats 8000000 in
theorem vM_ends_0 {E : jE} {μ : jMu} {Q : Option AV → jMu → Prop} {a0 a1 a2 : Int} (hF : (((μ 76 5) = 0 → ((0 ≤ a0 ∧ a0 < 48)) ∧ ((¬ (μ 89 a0) = (-1) → ((0 ≤ a0 ∧ a0 < 48)) ∧ (((μ 89 a0) = a1 → (Q none μ)) ∧ (¬ ((μ 89 a0) = a1) → (Cv E mM_fail [jvR 76, jvI 3, jvI a2] μ (fun μ8 => (Q none μ8)))))) ∧ ((μ 89 a0) = (-1) → ((0 ≤ a0 ∧ a0 < 48)) ∧ (Q none (j_up μ 89 a0 a1))))) ∧ (¬ ((μ 76 5) = 0) → (Q none μ)))) : K 121 E mM_ends 0 [some (jvR 76), some (jvI a0), some (jvI a1), some (jvI a2)] [] μ Q := by
  refine K_aload_n 0 76 dM_ends_0 rfl rfl ?_
  refine K_getf 12 5 76 (jvI (μ 76 5)) dM_ends_1 pf_M_156 rfl rfl (by decide) rfl rfl ?_
  refine K_if_eq 8 dM_ends_4 (by decide) (fun c1 => ?_) (fun c1 => ?_)
  · refine K_aload_n 0 76 dM_ends_8 rfl rfl ?_
    refine K_getf 12 21 76 (jvR 89) dM_ends_9 pf_M_52 rfl rfl (by decide) rfl rfl ?_
    refine K_iload_n 1 a0 dM_ends_12 rfl rfl ?_
    refine K_iald 89 48 dM_ends_13 rfl rfl (by decide) (hF.1 c1).1 ?_
    refine K_iconst (-1) dM_ends_14 rfl ?_
    refine K_icmp_ne 28 dM_ends_15 (by decide) (fun c3 => ?_) (fun c3 => ?_)
    · refine K_aload_n 0 76 dM_ends_28 rfl rfl ?_
      refine K_getf 12 21 76 (jvR 89) dM_ends_29 pf_M_52 rfl rfl (by decide) rfl rfl ?_
      refine K_iload_n 1 a0 dM_ends_32 rfl rfl ?_
      refine K_iald 89 48 dM_ends_33 rfl rfl (by decide) ((hF.1 c1).2.1 c3).1 ?_
      refine K_iload_n 2 a1 dM_ends_34 rfl rfl ?_
      refine K_icmp_eq 44 dM_ends_35 (by decide) (fun c5 => ?_) (fun c5 => ?_)
      · exact K_vret dM_ends_44 rfl (((hF.1 c1).2.1 c3).2.1 c5)
      · refine K_aload_n 0 76 dM_ends_38 rfl rfl ?_
        refine K_iconst 3 dM_ends_39 rfl ?_
        refine K_iload_n 3 a2 dM_ends_40 rfl rfl ?_
        refine K_callVv mM_fail 12 76 [jvI 3, jvI a2] dM_ends_41 pm_M_186 ⟨_, rfl, rfl⟩ ⟨(Nat.le_of_ble_eq_true rfl), (Nat.le_of_ble_eq_true rfl)⟩ rfl rfl (by decide) (Nat.le_of_ble_eq_true rfl) rfl (Nat.le_of_ble_eq_true rfl) (by decide) (Cv_mono (((hF.1 c1).2.1 c3).2.2 c5) (fun μ8 h9 => ?_))
        exact K_vret dM_ends_44 rfl h9
    · refine K_aload_n 0 76 dM_ends_18 rfl rfl ?_
      refine K_getf 12 21 76 (jvR 89) dM_ends_19 pf_M_52 rfl rfl (by decide) rfl rfl ?_
      refine K_iload_n 1 a0 dM_ends_22 rfl rfl ?_
      refine K_iload_n 2 a1 dM_ends_23 rfl rfl ?_
      refine K_iast 89 48 dM_ends_24 rfl rfl (by decide) ((hF.1 c1).2.2 c3).1 ?_
      refine K_goto 44 dM_ends_25 (by decide) ?_
      exact K_vret dM_ends_44 rfl ((hF.1 c1).2.2 c3).2
  · exact K_vret dM_ends_7 rfl (hF.2 c1)
set_option maxHeartbeats 8000000 in
theorem vM_goesOn_0 {E : jE} {μ : jMu} {Q : Option AV → jMu → Prop} (hF : ((¬ (μ 76 5) = 0 → (Q (some (jvI 0)) μ)) ∧ ((μ 76 5) = 0 → (((μ 76 38) ≤ 0 → (Q (some (jvI 0)) μ)) ∧ (¬ ((μ 76 38) ≤ 0) → ((-2147483648 ≤ ((μ 76 38) - 1) ∧ ((μ 76 38) - 1) < 2147483648) ∧ (0 ≤ ((μ 76 38) - 1) ∧ ((μ 76 38) - 1) < 7) ∧ (-2147483648 ≤ ((μ 101 ((μ 76 38) - 1)) + 1) ∧ ((μ 101 ((μ 76 38) - 1)) + 1) < 2147483648) ∧ (0 ≤ ((μ 76 38) - 1) ∧ ((μ 76 38) - 1) < 7) ∧ (0 ≤ ((μ 76 38) - 1) ∧ ((μ 76 38) - 1) < 7)) ∧ ((3 ≤ ((j_up μ 101 ((μ 76 38) - 1) ((μ 101 ((μ 76 38) - 1)) + 1)) 101 ((μ 76 38) - 1)) → (Cv E mM_asksSign [jvR 76, jvI 41] (j_up μ 101 ((μ 76 38) - 1) ((μ 101 ((μ 76 38) - 1)) + 1)) (fun μ9 => (((μ9 76 5) = 0 → ((0 ≤ ((μ 76 38) - 1) ∧ ((μ 76 38) - 1) < 7) ∧ (0 ≤ ((μ 76 38) - 1) ∧ ((μ 76 38) - 1) < 7) ∧ (0 ≤ ((μ 76 38) - 1) ∧ ((μ 76 38) - 1) < 7)) ∧ (Cv E mM_ends [jvR 76, jvI (μ9 99 ((μ 76 38) - 1)), jvI (μ9 101 ((μ 76 38) - 1)), jvI (μ9 100 ((μ 76 38) - 1))] μ9 (fun μ14 => ((-2147483648 ≤ ((μ14 76 38) - 1) ∧ ((μ14 76 38) - 1) < 2147483648)) ∧ (K 121 E mM_goesOn 0 [some (jvR 76), none] [] (j_up μ14 76 38 ((μ14 76 38) - 1)) Q)))) ∧ (¬ ((μ9 76 5) = 0) → (Q (some (jvI 0)) μ9)))))) ∧ (¬ (3 ≤ ((j_up μ 101 ((μ 76 38) - 1) ((μ 101 ((μ 76 38) - 1)) + 1)) 101 ((μ 76 38) - 1))) → (Ci E mM_takesSign [jvR 76, jvI 44] (j_up μ 101 ((μ 76 38) - 1) ((μ 101 ((μ 76 38) - 1)) + 1)) (fun r21 μ18 => ((r21 = 0 → (Cv E mM_asksSign [jvR 76, jvI 41] μ18 (fun μ24 => (((μ24 76 5) = 0 → ((0 ≤ ((μ 76 38) - 1) ∧ ((μ 76 38) - 1) < 7) ∧ (0 ≤ ((μ 76 38) - 1) ∧ ((μ 76 38) - 1) < 7) ∧ (0 ≤ ((μ 76 38) - 1) ∧ ((μ 76 38) - 1) < 7)) ∧ (Cv E mM_ends [jvR 76, jvI (μ24 99 ((μ 76 38) - 1)), jvI (μ24 101 ((μ 76 38) - 1)), jvI (μ24 100 ((μ 76 38) - 1))] μ24 (fun μ29 => ((-2147483648 ≤ ((μ29 76 38) - 1) ∧ ((μ29 76 38) - 1) < 2147483648)) ∧ (K 121 E mM_goesOn 0 [some (jvR 76), none] [] (j_up μ29 76 38 ((μ29 76 38) - 1)) Q)))) ∧ (¬ ((μ24 76 5) = 0) → (Q (some (jvI 0)) μ24)))))) ∧ (¬ (r21 = 0) → (Q (some (jvI 1)) μ18)))))))))))) : K 121 E mM_goesOn 0 [some (jvR 76), none] [] μ Q := by
  refine K_aload_n 0 76 dM_goesOn_0 rfl rfl ?_
  refine K_getf 12 5 76 (jvI (μ 76 5)) dM_goesOn_1 pf_M_156 rfl rfl (by decide) rfl rfl ?_
  refine K_if_ne 102 dM_goesOn_4 (by decide) (fun c1 => ?_) (fun c1 => ?_)
  · refine K_iconst 0 dM_goesOn_102 rfl ?_
    exact K_iret dM_goesOn_103 (Or.inr ⟨rfl, (by decide)⟩) (hF.1 c1)
  · refine K_aload_n 0 76 dM_goesOn_7 rfl rfl ?_
    refine K_getf 12 38 76 (jvI (μ 76 38)) dM_goesOn_8 pf_M_233 rfl rfl (by decide) rfl rfl ?_
    refine K_if_le 102 dM_goesOn_11 (by decide) (fun c4 => ?_) (fun c4 => ?_)
    · refine K_iconst 0 dM_goesOn_102 rfl ?_
      exact K_iret dM_goesOn_103 (Or.inr ⟨rfl, (by decide)⟩) ((hF.2 c1).1 c4)
    · refine K_aload_n 0 76 dM_goesOn_14 rfl rfl ?_
      refine K_getf 12 38 76 (jvI (μ 76 38)) dM_goesOn_15 pf_M_233 rfl rfl (by decide) rfl rfl ?_
      refine K_iconst 1 dM_goesOn_18 rfl ?_
      refine K_isub dM_goesOn_19 (w32_id ((hF.2 c1).2 c4).1.1) ?_
      refine K_istore_n 1 dM_goesOn_20 rfl (Nat.le_of_ble_eq_true rfl) rfl ?_
      refine K_aload_n 0 76 dM_goesOn_21 rfl rfl ?_
      refine K_getf 12 37 76 (jvR 101) dM_goesOn_22 pf_M_88 rfl rfl (by decide) rfl rfl ?_
      refine K_iload_n 1 ((μ 76 38) - 1) dM_goesOn_25 rfl rfl ?_
      refine K_dup2 dM_goesOn_26 (fun _ h => by cases h) (fun _ h => by cases h) ?_
      refine K_iald 101 7 dM_goesOn_27 rfl rfl (by decide) ((hF.2 c1).2 c4).1.2.1 ?_
      refine K_iconst 1 dM_goesOn_28 rfl ?_
      refine K_iadd dM_goesOn_29 (w32_id ((hF.2 c1).2 c4).1.2.2.1) ?_
      refine K_iast 101 7 dM_goesOn_30 rfl rfl (by decide) ((hF.2 c1).2 c4).1.2.2.2.1 ?_
      refine K_aload_n 0 76 dM_goesOn_31 rfl rfl ?_
      refine K_getf 12 37 76 (jvR 101) dM_goesOn_32 pf_M_88 rfl rfl (by decide) rfl rfl ?_
      refine K_iload_n 1 ((μ 76 38) - 1) dM_goesOn_35 rfl rfl ?_
      refine K_iald 101 7 dM_goesOn_36 rfl rfl (by decide) ((hF.2 c1).2 c4).1.2.2.2.2 ?_
      refine K_iconst 3 dM_goesOn_37 rfl ?_
      refine K_icmp_ge 52 dM_goesOn_38 (by decide) (fun c7 => ?_) (fun c7 => ?_)
      · refine K_aload_n 0 76 dM_goesOn_52 rfl rfl ?_
        refine K_bipush 41 dM_goesOn_53 rfl ?_
        refine K_callVv mM_asksSign 12 76 [jvI 41] dM_goesOn_55 pm_M_236 ⟨_, rfl, rfl⟩ ⟨(Nat.le_of_ble_eq_true rfl), (Nat.le_of_ble_eq_true rfl)⟩ rfl rfl (by decide) (Nat.le_of_ble_eq_true rfl) rfl (Nat.le_of_ble_eq_true rfl) (by decide) (Cv_mono (((hF.2 c1).2 c4).2.1 c7) (fun μ9 h10 => ?_))
        refine K_aload_n 0 76 dM_goesOn_58 rfl rfl ?_
        refine K_getf 12 5 76 (jvI (μ9 76 5)) dM_goesOn_59 pf_M_156 rfl rfl (by decide) rfl rfl ?_
        refine K_if_eq 67 dM_goesOn_62 (by decide) (fun c12 => ?_) (fun c12 => ?_)
        · refine K_aload_n 0 76 dM_goesOn_67 rfl rfl ?_
          refine K_aload_n 0 76 dM_goesOn_68 rfl rfl ?_
          refine K_getf 12 35 76 (jvR 99) dM_goesOn_69 pf_M_82 rfl rfl (by decide) rfl rfl ?_
          refine K_iload_n 1 ((μ 76 38) - 1) dM_goesOn_72 rfl rfl ?_
          refine K_iald 99 7 dM_goesOn_73 rfl rfl (by decide) (h10.1 c12).1.1 ?_
          refine K_aload_n 0 76 dM_goesOn_74 rfl rfl ?_
          refine K_getf 12 37 76 (jvR 101) dM_goesOn_75 pf_M_88 rfl rfl (by decide) rfl rfl ?_
          refine K_iload_n 1 ((μ 76 38) - 1) dM_goesOn_78 rfl rfl ?_
          refine K_iald 101 7 dM_goesOn_79 rfl rfl (by decide) (h10.1 c12).1.2.1 ?_
          refine K_aload_n 0 76 dM_goesOn_80 rfl rfl ?_
          refine K_getf 12 36 76 (jvR 100) dM_goesOn_81 pf_M_85 rfl rfl (by decide) rfl rfl ?_
          refine K_iload_n 1 ((μ 76 38) - 1) dM_goesOn_84 rfl rfl ?_
          refine K_iald 100 7 dM_goesOn_85 rfl rfl (by decide) (h10.1 c12).1.2.2 ?_
          refine K_callVv mM_ends 12 76 [jvI (μ9 99 ((μ 76 38) - 1)), jvI (μ9 101 ((μ 76 38) - 1)), jvI (μ9 100 ((μ 76 38) - 1))] dM_goesOn_86 pm_M_229 ⟨_, rfl, rfl⟩ ⟨(Nat.le_of_ble_eq_true rfl), (Nat.le_of_ble_eq_true rfl)⟩ rfl rfl (by decide) (Nat.le_of_ble_eq_true rfl) rfl (Nat.le_of_ble_eq_true rfl) (by decide) (Cv_mono (h10.1 c12).2 (fun μ14 h15 => ?_))
          refine K_aload_n 0 76 dM_goesOn_89 rfl rfl ?_
          refine K_dup dM_goesOn_90 (fun _ h => by cases h) ?_
          refine K_getf 12 38 76 (jvI (μ14 76 38)) dM_goesOn_91 pf_M_233 rfl rfl (by decide) rfl rfl ?_
          refine K_iconst 1 dM_goesOn_94 rfl ?_
          refine K_isub dM_goesOn_95 (w32_id h15.1) ?_
          refine K_putf 12 38 76 (x := ((μ14 76 38) - 1)) dM_goesOn_96 pf_M_233 rfl rfl (by decide) rfl rfl rfl rfl trivial ?_
          refine K_goto 0 dM_goesOn_99 (by decide) ?_
          exact K_forget [true, false] h15.2
        · refine K_iconst 0 dM_goesOn_65 rfl ?_
          exact K_iret dM_goesOn_66 (Or.inr ⟨rfl, (by decide)⟩) (h10.2 c12)
      · refine K_aload_n 0 76 dM_goesOn_41 rfl rfl ?_
        refine K_bipush 44 dM_goesOn_42 rfl ?_
        refine K_callVi mM_takesSign 12 76 [jvI 44] dM_goesOn_44 pm_M_190 ⟨_, rfl, rfl⟩ ⟨(Nat.le_of_ble_eq_true rfl), (Nat.le_of_ble_eq_true rfl)⟩ rfl rfl (by decide) (Nat.le_of_ble_eq_true rfl) rfl (Nat.le_of_ble_eq_true rfl) (by decide) (Ci_mono (((hF.2 c1).2 c4).2.2 c7) (fun r21 μ18 h19 => ?_))
        refine K_if_eq 52 dM_goesOn_47 (by decide) (fun c22 => ?_) (fun c22 => ?_)
        · refine K_aload_n 0 76 dM_goesOn_52 rfl rfl ?_
          refine K_bipush 41 dM_goesOn_53 rfl ?_
          refine K_callVv mM_asksSign 12 76 [jvI 41] dM_goesOn_55 pm_M_236 ⟨_, rfl, rfl⟩ ⟨(Nat.le_of_ble_eq_true rfl), (Nat.le_of_ble_eq_true rfl)⟩ rfl rfl (by decide) (Nat.le_of_ble_eq_true rfl) rfl (Nat.le_of_ble_eq_true rfl) (by decide) (Cv_mono (h19.1 c22) (fun μ24 h25 => ?_))
          refine K_aload_n 0 76 dM_goesOn_58 rfl rfl ?_
          refine K_getf 12 5 76 (jvI (μ24 76 5)) dM_goesOn_59 pf_M_156 rfl rfl (by decide) rfl rfl ?_
          refine K_if_eq 67 dM_goesOn_62 (by decide) (fun c27 => ?_) (fun c27 => ?_)
          · refine K_aload_n 0 76 dM_goesOn_67 rfl rfl ?_
            refine K_aload_n 0 76 dM_goesOn_68 rfl rfl ?_
            refine K_getf 12 35 76 (jvR 99) dM_goesOn_69 pf_M_82 rfl rfl (by decide) rfl rfl ?_
            refine K_iload_n 1 ((μ 76 38) - 1) dM_goesOn_72 rfl rfl ?_
            refine K_iald 99 7 dM_goesOn_73 rfl rfl (by decide) (h25.1 c27).1.1 ?_
            refine K_aload_n 0 76 dM_goesOn_74 rfl rfl ?_
            refine K_getf 12 37 76 (jvR 101) dM_goesOn_75 pf_M_88 rfl rfl (by decide) rfl rfl ?_
            refine K_iload_n 1 ((μ 76 38) - 1) dM_goesOn_78 rfl rfl ?_
            refine K_iald 101 7 dM_goesOn_79 rfl rfl (by decide) (h25.1 c27).1.2.1 ?_
            refine K_aload_n 0 76 dM_goesOn_80 rfl rfl ?_
            refine K_getf 12 36 76 (jvR 100) dM_goesOn_81 pf_M_85 rfl rfl (by decide) rfl rfl ?_
            refine K_iload_n 1 ((μ 76 38) - 1) dM_goesOn_84 rfl rfl ?_
            refine K_iald 100 7 dM_goesOn_85 rfl rfl (by decide) (h25.1 c27).1.2.2 ?_
            refine K_callVv mM_ends 12 76 [jvI (μ24 99 ((μ 76 38) - 1)), jvI (μ24 101 ((μ 76 38) - 1)), jvI (μ24 100 ((μ 76 38) - 1))] dM_goesOn_86 pm_M_229 ⟨_, rfl, rfl⟩ ⟨(Nat.le_of_ble_eq_true rfl), (Nat.le_of_ble_eq_true rfl)⟩ rfl rfl (by decide) (Nat.le_of_ble_eq_true rfl) rfl (Nat.le_of_ble_eq_true rfl) (by decide) (Cv_mono (h25.1 c27).2 (fun μ29 h30 => ?_))
            refine K_aload_n 0 76 dM_goesOn_89 rfl rfl ?_
            refine K_dup dM_goesOn_90 (fun _ h => by cases h) ?_
            refine K_getf 12 38 76 (jvI (μ29 76 38)) dM_goesOn_91 pf_M_233 rfl rfl (by decide) rfl rfl ?_
            refine K_iconst 1 dM_goesOn_94 rfl ?_
            refine K_isub dM_goesOn_95 (w32_id h30.1) ?_
            refine K_putf 12 38 76 (x := ((μ29 76 38) - 1)) dM_goesOn_96 pf_M_233 rfl rfl (by decide) rfl rfl rfl rfl trivial ?_
            refine K_goto 0 dM_goesOn_99 (by decide) ?_
            exact K_forget [true, false] h30.2
          · refine K_iconst 0 dM_goesOn_65 rfl ?_
            exact K_iret dM_goesOn_66 (Or.inr ⟨rfl, (by decide)⟩) (h25.2 c27)
        · refine K_iconst 1 dM_goesOn_50 rfl ?_
          exact K_iret dM_goesOn_51 (Or.inr ⟨rfl, (by decide)⟩) (h19.2 c22)
set_option maxHeartbeats 8000000 in
theorem vM_asksSign_0 {E : jE} {μ : jMu} {Q : Option AV → jMu → Prop} {a0 : Int} (hF : ((¬ (μ 76 5) = 0 → (Q none μ)) ∧ ((μ 76 5) = 0 → (Ci E mM_takesSign [jvR 76, jvI a0] μ (fun r7 μ4 => ((¬ r7 = 0 → (Q none μ4)) ∧ (r7 = 0 → (Cv E mM_fail [jvR 76, jvI 1, jvI (μ4 76 2)] μ4 (fun μ11 => (Q none μ11)))))))))) : K 121 E mM_asksSign 0 [some (jvR 76), some (jvI a0)] [] μ Q := by
  refine K_aload_n 0 76 dM_asksSign_0 rfl rfl ?_
  refine K_getf 12 5 76 (jvI (μ 76 5)) dM_asksSign_1 pf_M_156 rfl rfl (by decide) rfl rfl ?_
  refine K_if_ne 24 dM_asksSign_4 (by decide) (fun c1 => ?_) (fun c1 => ?_)
  · exact K_vret dM_asksSign_24 rfl (hF.1 c1)
  · refine K_aload_n 0 76 dM_asksSign_7 rfl rfl ?_
    refine K_iload_n 1 a0 dM_asksSign_8 rfl rfl ?_
    refine K_callVi mM_takesSign 12 76 [jvI a0] dM_asksSign_9 pm_M_190 ⟨_, rfl, rfl⟩ ⟨(Nat.le_of_ble_eq_true rfl), (Nat.le_of_ble_eq_true rfl)⟩ rfl rfl (by decide) (Nat.le_of_ble_eq_true rfl) rfl (Nat.le_of_ble_eq_true rfl) (by decide) (Ci_mono (hF.2 c1) (fun r7 μ4 h5 => ?_))
    refine K_if_ne 24 dM_asksSign_12 (by decide) (fun c8 => ?_) (fun c8 => ?_)
    · exact K_vret dM_asksSign_24 rfl (h5.1 c8)
    · refine K_aload_n 0 76 dM_asksSign_15 rfl rfl ?_
      refine K_iconst 1 dM_asksSign_16 rfl ?_
      refine K_aload_n 0 76 dM_asksSign_17 rfl rfl ?_
      refine K_getf 12 2 76 (jvI (μ4 76 2)) dM_asksSign_18 pf_M_162 rfl rfl (by decide) rfl rfl ?_
      refine K_callVv mM_fail 12 76 [jvI 1, jvI (μ4 76 2)] dM_asksSign_21 pm_M_186 ⟨_, rfl, rfl⟩ ⟨(Nat.le_of_ble_eq_true rfl), (Nat.le_of_ble_eq_true rfl)⟩ rfl rfl (by decide) (Nat.le_of_ble_eq_true rfl) rfl (Nat.le_of_ble_eq_true rfl) (by decide) (Cv_mono (h5.2 c8) (fun μ11 h12 => ?_))
      exact K_vret dM_asksSign_24 rfl h12
set_option maxHeartbeats 8000000 in
theorem vM_asks_0 {E : jE} {μ : jMu} {Q : Option AV → jMu → Prop} {wd wl : Nat} (hwd : jCt[wd]? = some (.inl (.char, wl))) (hwn : wd < 121) (hwl : wl < 2147483648) (hF : ((¬ (μ 76 5) = 0 → (Q none μ)) ∧ ((μ 76 5) = 0 → (Ci E mM_takes [jvR 76, jvR ((wd : Nat) : Int)] μ (fun r7 μ4 => ((¬ r7 = 0 → (Q none μ4)) ∧ (r7 = 0 → (Cv E mM_fail [jvR 76, jvI 1, jvI (μ4 76 2)] μ4 (fun μ11 => (Q none μ11)))))))))) : K 121 E mM_asks 0 [some (jvR 76), some (jvR ((wd : Nat) : Int))] [] μ Q := by
  refine K_aload_n 0 76 dM_asks_0 rfl rfl ?_
  refine K_getf 12 5 76 (jvI (μ 76 5)) dM_asks_1 pf_M_156 rfl rfl (by decide) rfl rfl ?_
  refine K_if_ne 24 dM_asks_4 (by decide) (fun c1 => ?_) (fun c1 => ?_)
  · exact K_vret dM_asks_24 rfl (hF.1 c1)
  · refine K_aload_n 0 76 dM_asks_7 rfl rfl ?_
    refine K_aload_n 1 ((wd : Nat) : Int) dM_asks_8 rfl rfl ?_
    refine K_callVi mM_takes 12 76 [jvR ((wd : Nat) : Int)] dM_asks_9 pm_M_183 ⟨_, rfl, rfl⟩ ⟨(Nat.le_of_ble_eq_true rfl), (Nat.le_of_ble_eq_true rfl)⟩ rfl rfl (by decide) (Nat.le_of_ble_eq_true rfl) rfl (Nat.le_of_ble_eq_true rfl) (by decide) (Ci_mono (hF.2 c1) (fun r7 μ4 h5 => ?_))
    refine K_if_ne 24 dM_asks_12 (by decide) (fun c8 => ?_) (fun c8 => ?_)
    · exact K_vret dM_asks_24 rfl (h5.1 c8)
    · refine K_aload_n 0 76 dM_asks_15 rfl rfl ?_
      refine K_iconst 1 dM_asks_16 rfl ?_
      refine K_aload_n 0 76 dM_asks_17 rfl rfl ?_
      refine K_getf 12 2 76 (jvI (μ4 76 2)) dM_asks_18 pf_M_162 rfl rfl (by decide) rfl rfl ?_
      refine K_callVv mM_fail 12 76 [jvI 1, jvI (μ4 76 2)] dM_asks_21 pm_M_186 ⟨_, rfl, rfl⟩ ⟨(Nat.le_of_ble_eq_true rfl), (Nat.le_of_ble_eq_true rfl)⟩ rfl rfl (by decide) (Nat.le_of_ble_eq_true rfl) rfl (Nat.le_of_ble_eq_true rfl) (by decide) (Cv_mono (h5.2 c8) (fun μ11 h12 => ?_))
      exact K_vret dM_asks_24 rfl h12
set_option maxHeartbeats 8000000 in
theorem vM_stepTold_0 {E : jE} {μ : jMu} {Q : Option AV → jMu → Prop} {a0 : Int} (hF : (Ci E mM_isFull [jvR 76, jvI 4, jvI 40, jvI a0] μ (fun r4 μ1 => ((r4 = 0 → ((-2147483648 ≤ (48 + (μ1 87 4)) ∧ (48 + (μ1 87 4)) < 2147483648)) ∧ (Cv E mM_termTold [jvR 76, jvI (48 + (μ1 87 4))] μ1 (fun μ7 => (Cv E mM_asks [jvR 76, jvR 81] μ7 (fun μ10 => (Cl E mM_name [jvR 76] μ10 (fun r16 μ13 => (Ci E mM_nameOf [jvR 76, jvI 0, jvL r16] μ13 (fun r20 μ17 => ((¬ (μ17 76 5) = 0 → (((μ17 76 5) = 0 → ((0 ≤ (μ1 87 4) ∧ (μ1 87 4) < 80)) ∧ (K 121 E mM_stepTold 89 [some (jvR 76), some (jvI a0), some (jvI (μ1 87 4)), some (jvL r16), none, some (jvI r20), some (jvI 0)] [] (j_up μ17 94 (μ1 87 4) r20) Q)) ∧ (¬ ((μ17 76 5) = 0) → (Q none μ17)))) ∧ ((μ17 76 5) = 0 → ((¬ r20 = (-1) → (((μ17 76 5) = 0 → ((0 ≤ (μ1 87 4) ∧ (μ1 87 4) < 80)) ∧ (K 121 E mM_stepTold 89 [some (jvR 76), some (jvI a0), some (jvI (μ1 87 4)), some (jvL r16), none, some (jvI r20), some (jvI 0)] [] (j_up μ17 94 (μ1 87 4) r20) Q)) ∧ (¬ ((μ17 76 5) = 0) → (Q none μ17)))) ∧ (r20 = (-1) → (Cv E mM_fail [jvR 76, jvI 3, jvI (μ17 76 18)] μ17 (fun μ31 => (((μ31 76 5) = 0 → ((0 ≤ (μ1 87 4) ∧ (μ1 87 4) < 80)) ∧ (K 121 E mM_stepTold 89 [some (jvR 76), some (jvI a0), some (jvI (μ1 87 4)), some (jvL r16), none, some (jvI r20), some (jvI 0)] [] (j_up μ31 94 (μ1 87 4) r20) Q)) ∧ (¬ ((μ31 76 5) = 0) → (Q none μ31)))))))))))))))))) ∧ (¬ (r4 = 0) → (Q none μ1)))))) : K 121 E mM_stepTold 0 [some (jvR 76), some (jvI a0), none, none, none, none, none] [] μ Q := by
  refine K_aload_n 0 76 dM_stepTold_0 rfl rfl ?_
  refine K_iconst 4 dM_stepTold_1 rfl ?_
  refine K_bipush 40 dM_stepTold_2 rfl ?_
  refine K_iload_n 1 a0 dM_stepTold_4 rfl rfl ?_
  refine K_callVi mM_isFull 12 76 [jvI 4, jvI 40, jvI a0] dM_stepTold_5 pm_M_246 ⟨_, rfl, rfl⟩ ⟨(Nat.le_of_ble_eq_true rfl), (Nat.le_of_ble_eq_true rfl)⟩ rfl rfl (by decide) (Nat.le_of_ble_eq_true rfl) rfl (Nat.le_of_ble_eq_true rfl) (by decide) (Ci_mono hF (fun r4 μ1 h2 => ?_))
  refine K_if_eq 12 dM_stepTold_8 (by decide) (fun c5 => ?_) (fun c5 => ?_)
  · refine K_aload_n 0 76 dM_stepTold_12 rfl rfl ?_
    refine K_getf 12 19 76 (jvR 87) dM_stepTold_13 pf_M_45 rfl rfl (by decide) rfl rfl ?_
    refine K_iconst 4 dM_stepTold_16 rfl ?_
    refine K_iald 87 10 dM_stepTold_17 rfl rfl (by decide) (by decide) ?_
    refine K_istore_n 2 dM_stepTold_18 rfl (Nat.le_of_ble_eq_true rfl) rfl ?_
    refine K_aload_n 0 76 dM_stepTold_19 rfl rfl ?_
    refine K_bipush 48 dM_stepTold_20 rfl ?_
    refine K_iload_n 2 (μ1 87 4) dM_stepTold_22 rfl rfl ?_
    refine K_iadd dM_stepTold_23 (w32_id (h2.1 c5).1) ?_
    refine K_callVv mM_termTold 12 76 [jvI (48 + (μ1 87 4))] dM_stepTold_24 pm_M_254 ⟨_, rfl, rfl⟩ ⟨(Nat.le_of_ble_eq_true rfl), (Nat.le_of_ble_eq_true rfl)⟩ rfl rfl (by decide) (Nat.le_of_ble_eq_true rfl) rfl (Nat.le_of_ble_eq_true rfl) (by decide) (Cv_mono (h2.1 c5).2 (fun μ7 h8 => ?_))
    refine K_aload_n 0 76 dM_stepTold_27 rfl rfl ?_
    refine K_aload_n 0 76 dM_stepTold_28 rfl rfl ?_
    refine K_getf 12 12 76 (jvR 81) dM_stepTold_29 pf_M_27 rfl rfl (by decide) rfl rfl ?_
    refine K_callVv mM_asks 12 76 [jvR 81] dM_stepTold_32 pm_M_257 ⟨_, rfl, rfl⟩ ⟨(Nat.le_of_ble_eq_true rfl), (Nat.le_of_ble_eq_true rfl)⟩ rfl rfl (by decide) (Nat.le_of_ble_eq_true rfl) rfl (Nat.le_of_ble_eq_true rfl) (by decide) (Cv_mono h8 (fun μ10 h11 => ?_))
    refine K_aload_n 0 76 dM_stepTold_35 rfl rfl ?_
    refine K_callVl mM_name 12 76 [] dM_stepTold_36 pm_M_211 ⟨_, rfl, rfl⟩ ⟨(Nat.le_of_ble_eq_true rfl), (Nat.le_of_ble_eq_true rfl)⟩ rfl rfl (by decide) (Nat.le_of_ble_eq_true rfl) rfl (Nat.le_of_ble_eq_true rfl) (by decide) (Cl_mono h11 (fun r16 μ13 h14 => ?_))
    refine K_lstore_n 3 dM_stepTold_39 rfl (Nat.le_of_ble_eq_true rfl) rfl ?_
    refine K_aload_n 0 76 dM_stepTold_40 rfl rfl ?_
    refine K_iconst 0 dM_stepTold_41 rfl ?_
    refine K_lload_n 3 r16 dM_stepTold_42 rfl rfl ?_
    refine K_callVi mM_nameOf 12 76 [jvI 0, jvL r16] dM_stepTold_43 pm_M_215 ⟨_, rfl, rfl⟩ ⟨(Nat.le_of_ble_eq_true rfl), (Nat.le_of_ble_eq_true rfl)⟩ rfl rfl (by decide) (Nat.le_of_ble_eq_true rfl) rfl (Nat.le_of_ble_eq_true rfl) (by decide) (Ci_mono h14 (fun r20 μ17 h18 => ?_))
    refine K_istore 5 dM_stepTold_46 (Nat.le_of_ble_eq_true rfl) rfl ?_
    refine K_aload_n 0 76 dM_stepTold_48 rfl rfl ?_
    refine K_getf 12 5 76 (jvI (μ17 76 5)) dM_stepTold_49 pf_M_156 rfl rfl (by decide) rfl rfl ?_
    refine K_if_ne 70 dM_stepTold_52 (by decide) (fun c21 => ?_) (fun c21 => ?_)
    · refine K_aload_n 0 76 dM_stepTold_70 rfl rfl ?_
      refine K_getf 12 5 76 (jvI (μ17 76 5)) dM_stepTold_71 pf_M_156 rfl rfl (by decide) rfl rfl ?_
      refine K_if_eq 78 dM_stepTold_74 (by decide) (fun c23 => ?_) (fun c23 => ?_)
      · refine K_aload_n 0 76 dM_stepTold_78 rfl rfl ?_
        refine K_getf 12 27 76 (jvR 94) dM_stepTold_79 pf_M_67 rfl rfl (by decide) rfl rfl ?_
        refine K_iload_n 2 (μ1 87 4) dM_stepTold_82 rfl rfl ?_
        refine K_iload 5 r20 dM_stepTold_83 rfl ?_
        refine K_iast 94 80 dM_stepTold_85 rfl rfl (by decide) ((h18.1 c21).1 c23).1 ?_
        refine K_iconst 0 dM_stepTold_86 rfl ?_
        refine K_istore 6 dM_stepTold_87 (Nat.le_of_ble_eq_true rfl) rfl ?_
        exact ((h18.1 c21).1 c23).2
      · exact K_vret dM_stepTold_77 rfl ((h18.1 c21).2 c23)
    · refine K_iload 5 r20 dM_stepTold_55 rfl ?_
      refine K_iconst (-1) dM_stepTold_57 rfl ?_
      refine K_icmp_ne 70 dM_stepTold_58 (by decide) (fun c26 => ?_) (fun c26 => ?_)
      · refine K_aload_n 0 76 dM_stepTold_70 rfl rfl ?_
        refine K_getf 12 5 76 (jvI (μ17 76 5)) dM_stepTold_71 pf_M_156 rfl rfl (by decide) rfl rfl ?_
        refine K_if_eq 78 dM_stepTold_74 (by decide) (fun c28 => ?_) (fun c28 => ?_)
        · refine K_aload_n 0 76 dM_stepTold_78 rfl rfl ?_
          refine K_getf 12 27 76 (jvR 94) dM_stepTold_79 pf_M_67 rfl rfl (by decide) rfl rfl ?_
          refine K_iload_n 2 (μ1 87 4) dM_stepTold_82 rfl rfl ?_
          refine K_iload 5 r20 dM_stepTold_83 rfl ?_
          refine K_iast 94 80 dM_stepTold_85 rfl rfl (by decide) (((h18.2 c21).1 c26).1 c28).1 ?_
          refine K_iconst 0 dM_stepTold_86 rfl ?_
          refine K_istore 6 dM_stepTold_87 (Nat.le_of_ble_eq_true rfl) rfl ?_
          exact (((h18.2 c21).1 c26).1 c28).2
        · exact K_vret dM_stepTold_77 rfl (((h18.2 c21).1 c26).2 c28)
      · refine K_aload_n 0 76 dM_stepTold_61 rfl rfl ?_
        refine K_iconst 3 dM_stepTold_62 rfl ?_
        refine K_aload_n 0 76 dM_stepTold_63 rfl rfl ?_
        refine K_getf 12 18 76 (jvI (μ17 76 18)) dM_stepTold_64 pf_M_204 rfl rfl (by decide) rfl rfl ?_
        refine K_callVv mM_fail 12 76 [jvI 3, jvI (μ17 76 18)] dM_stepTold_67 pm_M_186 ⟨_, rfl, rfl⟩ ⟨(Nat.le_of_ble_eq_true rfl), (Nat.le_of_ble_eq_true rfl)⟩ rfl rfl (by decide) (Nat.le_of_ble_eq_true rfl) rfl (Nat.le_of_ble_eq_true rfl) (by decide) (Cv_mono ((h18.2 c21).2 c26) (fun μ31 h32 => ?_))
        refine K_aload_n 0 76 dM_stepTold_70 rfl rfl ?_
        refine K_getf 12 5 76 (jvI (μ31 76 5)) dM_stepTold_71 pf_M_156 rfl rfl (by decide) rfl rfl ?_
        refine K_if_eq 78 dM_stepTold_74 (by decide) (fun c34 => ?_) (fun c34 => ?_)
        · refine K_aload_n 0 76 dM_stepTold_78 rfl rfl ?_
          refine K_getf 12 27 76 (jvR 94) dM_stepTold_79 pf_M_67 rfl rfl (by decide) rfl rfl ?_
          refine K_iload_n 2 (μ1 87 4) dM_stepTold_82 rfl rfl ?_
          refine K_iload 5 r20 dM_stepTold_83 rfl ?_
          refine K_iast 94 80 dM_stepTold_85 rfl rfl (by decide) (h32.1 c34).1 ?_
          refine K_iconst 0 dM_stepTold_86 rfl ?_
          refine K_istore 6 dM_stepTold_87 (Nat.le_of_ble_eq_true rfl) rfl ?_
          exact (h32.1 c34).2
        · exact K_vret dM_stepTold_77 rfl (h32.2 c34)
  · exact K_vret dM_stepTold_11 rfl (h2.2 c5)
set_option maxHeartbeats 8000000 in
theorem vM_stepTold_89 {E : jE} {μ : jMu} {Q : Option AV → jMu → Prop} {l1 l2 l3 l5 l6 : Int} (hF : ((0 ≤ l5 ∧ l5 < 24)) ∧ (((μ 93 l5) ≤ l6 → ((¬ (μ 76 5) = 0 → (Q none μ)) ∧ ((μ 76 5) = 0 → ((-2147483648 ≤ ((μ 87 4) + 1) ∧ ((μ 87 4) + 1) < 2147483648)) ∧ (Q none (j_up μ 87 4 ((μ 87 4) + 1)))))) ∧ (¬ ((μ 93 l5) ≤ l6) → ((-2147483648 ≤ (3 * l2) ∧ (3 * l2) < 2147483648) ∧ (-2147483648 ≤ ((3 * l2) + l6) ∧ ((3 * l2) + l6) < 2147483648) ∧ (-2147483648 ≤ (l2 - 1) ∧ (l2 - 1) < 2147483648)) ∧ (Ci E mM_number [jvR 76, jvI 0, jvI (l2 - 1)] μ (fun r10 μ7 => ((0 ≤ ((3 * l2) + l6) ∧ ((3 * l2) + l6) < 240) ∧ (-2147483648 ≤ (l6 + 1) ∧ (l6 + 1) < 2147483648)) ∧ (K 121 E mM_stepTold 89 [some (jvR 76), some (jvI l1), some (jvI l2), some (jvL l3), none, some (jvI l5), some (jvI (l6 + 1))] [] (j_up μ7 95 ((3 * l2) + l6) r10) Q)))))) : K 121 E mM_stepTold 89 [some (jvR 76), some (jvI l1), some (jvI l2), some (jvL l3), none, some (jvI l5), some (jvI l6)] [] μ Q := by
  refine K_iload 6 l6 dM_stepTold_89 rfl ?_
  refine K_aload_n 0 76 dM_stepTold_91 rfl rfl ?_
  refine K_getf 12 26 76 (jvR 93) dM_stepTold_92 pf_M_64 rfl rfl (by decide) rfl rfl ?_
  refine K_iload 5 l5 dM_stepTold_95 rfl ?_
  refine K_iald 93 24 dM_stepTold_97 rfl rfl (by decide) hF.1 ?_
  refine K_icmp_ge 126 dM_stepTold_98 (by decide) (fun c1 => ?_) (fun c1 => ?_)
  · refine K_aload_n 0 76 dM_stepTold_126 rfl rfl ?_
    refine K_getf 12 5 76 (jvI (μ 76 5)) dM_stepTold_127 pf_M_156 rfl rfl (by decide) rfl rfl ?_
    refine K_if_ne 143 dM_stepTold_130 (by decide) (fun c3 => ?_) (fun c3 => ?_)
    · exact K_vret dM_stepTold_143 rfl ((hF.2.1 c1).1 c3)
    · refine K_aload_n 0 76 dM_stepTold_133 rfl rfl ?_
      refine K_getf 12 19 76 (jvR 87) dM_stepTold_134 pf_M_45 rfl rfl (by decide) rfl rfl ?_
      refine K_iconst 4 dM_stepTold_137 rfl ?_
      refine K_dup2 dM_stepTold_138 (fun _ h => by cases h) (fun _ h => by cases h) ?_
      refine K_iald 87 10 dM_stepTold_139 rfl rfl (by decide) (by decide) ?_
      refine K_iconst 1 dM_stepTold_140 rfl ?_
      refine K_iadd dM_stepTold_141 (w32_id ((hF.2.1 c1).2 c3).1) ?_
      refine K_iast 87 10 dM_stepTold_142 rfl rfl (by decide) (by decide) ?_
      exact K_vret dM_stepTold_143 rfl ((hF.2.1 c1).2 c3).2
  · refine K_aload_n 0 76 dM_stepTold_101 rfl rfl ?_
    refine K_getf 12 28 76 (jvR 95) dM_stepTold_102 pf_M_70 rfl rfl (by decide) rfl rfl ?_
    refine K_iconst 3 dM_stepTold_105 rfl ?_
    refine K_iload_n 2 l2 dM_stepTold_106 rfl rfl ?_
    refine K_imul dM_stepTold_107 (w32_id (hF.2.2 c1).1.1) ?_
    refine K_iload 6 l6 dM_stepTold_108 rfl ?_
    refine K_iadd dM_stepTold_110 (w32_id (hF.2.2 c1).1.2.1) ?_
    refine K_aload_n 0 76 dM_stepTold_111 rfl rfl ?_
    refine K_iconst 0 dM_stepTold_112 rfl ?_
    refine K_iload_n 2 l2 dM_stepTold_113 rfl rfl ?_
    refine K_iconst 1 dM_stepTold_114 rfl ?_
    refine K_isub dM_stepTold_115 (w32_id (hF.2.2 c1).1.2.2) ?_
    refine K_callVi mM_number 12 76 [jvI 0, jvI (l2 - 1)] dM_stepTold_116 pm_M_261 ⟨_, rfl, rfl⟩ ⟨(Nat.le_of_ble_eq_true rfl), (Nat.le_of_ble_eq_true rfl)⟩ rfl rfl (by decide) (Nat.le_of_ble_eq_true rfl) rfl (Nat.le_of_ble_eq_true rfl) (by decide) (Ci_mono (hF.2.2 c1).2 (fun r10 μ7 h8 => ?_))
    refine K_iast 95 240 dM_stepTold_119 rfl rfl (by decide) h8.1.1 ?_
    refine K_iinc 6 dM_stepTold_120 (Nat.le_of_ble_eq_true rfl) rfl (w32_ok h8.1.2) rfl ?_
    refine K_goto 89 dM_stepTold_123 (by decide) ?_
    exact h8.2
set_option maxHeartbeats 8000000 in
theorem vM_number_0 {E : jE} {μ : jMu} {Q : Option AV → jMu → Prop} {a0 a1 : Int} (hF : (((μ 76 5) = 0 → (Ci E mM_look [jvR 76] μ (fun r6 μ3 => (Ci E mM_isDigit [jvI r6] μ3 (fun r10 μ7 => ((r10 = 0 → (Cv E mM_fail [jvR 76, jvI 1, jvI (μ7 76 2)] μ7 (fun μ13 => (Q (some (jvI 0)) μ13)))) ∧ (¬ (r10 = 0) → ((¬ (μ7 76 2) = (μ7 76 4) → (K 121 E mM_number 49 [some (jvR 76), some (jvI a0), some (jvI a1), some (jvI (μ7 76 2)), some (jvI 0)] [] μ7 Q)) ∧ ((μ7 76 2) = (μ7 76 4) → (Cv E mM_fail [jvR 76, jvI 1, jvI (μ7 76 2)] μ7 (fun μ19 => (Q (some (jvI 0)) μ19)))))))))))) ∧ (¬ ((μ 76 5) = 0) → (Q (some (jvI 0)) μ)))) : K 121 E mM_number 0 [some (jvR 76), some (jvI a0), some (jvI a1), none, none] [] μ Q := by
  refine K_aload_n 0 76 dM_number_0 rfl rfl ?_
  refine K_getf 12 5 76 (jvI (μ 76 5)) dM_number_1 pf_M_156 rfl rfl (by decide) rfl rfl ?_
  refine K_if_eq 9 dM_number_4 (by decide) (fun c1 => ?_) (fun c1 => ?_)
  · refine K_aload_n 0 76 dM_number_9 rfl rfl ?_
    refine K_callVi mM_look 12 76 [] dM_number_10 pm_M_168 ⟨_, rfl, rfl⟩ ⟨(Nat.le_of_ble_eq_true rfl), (Nat.le_of_ble_eq_true rfl)⟩ rfl rfl (by decide) (Nat.le_of_ble_eq_true rfl) rfl (Nat.le_of_ble_eq_true rfl) (by decide) (Ci_mono (hF.1 c1) (fun r6 μ3 h4 => ?_))
    refine K_callSi mM_isDigit [jvI r6] dM_number_13 pm_M_193 ⟨(Nat.le_of_ble_eq_true rfl), (Nat.le_of_ble_eq_true rfl)⟩ (Nat.le_of_ble_eq_true rfl) rfl (Nat.le_of_ble_eq_true rfl) (by decide) (Ci_mono h4 (fun r10 μ7 h8 => ?_))
    refine K_if_eq 30 dM_number_16 (by decide) (fun c11 => ?_) (fun c11 => ?_)
    · refine K_aload_n 0 76 dM_number_30 rfl rfl ?_
      refine K_iconst 1 dM_number_31 rfl ?_
      refine K_aload_n 0 76 dM_number_32 rfl rfl ?_
      refine K_getf 12 2 76 (jvI (μ7 76 2)) dM_number_33 pf_M_162 rfl rfl (by decide) rfl rfl ?_
      refine K_callVv mM_fail 12 76 [jvI 1, jvI (μ7 76 2)] dM_number_36 pm_M_186 ⟨_, rfl, rfl⟩ ⟨(Nat.le_of_ble_eq_true rfl), (Nat.le_of_ble_eq_true rfl)⟩ rfl rfl (by decide) (Nat.le_of_ble_eq_true rfl) rfl (Nat.le_of_ble_eq_true rfl) (by decide) (Cv_mono (h8.1 c11) (fun μ13 h14 => ?_))
      refine K_iconst 0 dM_number_39 rfl ?_
      exact K_iret dM_number_40 (Or.inl rfl) h14
    · refine K_aload_n 0 76 dM_number_19 rfl rfl ?_
      refine K_getf 12 2 76 (jvI (μ7 76 2)) dM_number_20 pf_M_162 rfl rfl (by decide) rfl rfl ?_
      refine K_aload_n 0 76 dM_number_23 rfl rfl ?_
      refine K_getf 12 4 76 (jvI (μ7 76 4)) dM_number_24 pf_M_176 rfl rfl (by decide) rfl rfl ?_
      refine K_icmp_ne 41 dM_number_27 (by decide) (fun c17 => ?_) (fun c17 => ?_)
      · refine K_aload_n 0 76 dM_number_41 rfl rfl ?_
        refine K_getf 12 2 76 (jvI (μ7 76 2)) dM_number_42 pf_M_162 rfl rfl (by decide) rfl rfl ?_
        refine K_istore_n 3 dM_number_45 rfl (Nat.le_of_ble_eq_true rfl) rfl ?_
        refine K_iconst 0 dM_number_46 rfl ?_
        refine K_istore 4 dM_number_47 (Nat.le_of_ble_eq_true rfl) rfl ?_
        exact ((h8.2 c11).1 c17)
      · refine K_aload_n 0 76 dM_number_30 rfl rfl ?_
        refine K_iconst 1 dM_number_31 rfl ?_
        refine K_aload_n 0 76 dM_number_32 rfl rfl ?_
        refine K_getf 12 2 76 (jvI (μ7 76 2)) dM_number_33 pf_M_162 rfl rfl (by decide) rfl rfl ?_
        refine K_callVv mM_fail 12 76 [jvI 1, jvI (μ7 76 2)] dM_number_36 pm_M_186 ⟨_, rfl, rfl⟩ ⟨(Nat.le_of_ble_eq_true rfl), (Nat.le_of_ble_eq_true rfl)⟩ rfl rfl (by decide) (Nat.le_of_ble_eq_true rfl) rfl (Nat.le_of_ble_eq_true rfl) (by decide) (Cv_mono ((h8.2 c11).2 c17) (fun μ19 h20 => ?_))
        refine K_iconst 0 dM_number_39 rfl ?_
        exact K_iret dM_number_40 (Or.inl rfl) h20
  · refine K_iconst 0 dM_number_7 rfl ?_
    exact K_iret dM_number_8 (Or.inl rfl) (hF.2 c1)
set_option maxHeartbeats 8000000 in
theorem vM_number_49 {E : jE} {μ : jMu} {Q : Option AV → jMu → Prop} {l1 l2 l3 l4 : Int} (hF : (((μ 76 3) ≤ (μ 76 2) → (Ci E mM_isIn [jvL l4, jvL l1, jvL l2] (j_up μ 76 4 (μ 76 2)) (fun r6 μ3 => ((¬ r6 = 0 → (Q (some (jvI l4)) μ3)) ∧ (r6 = 0 → (Cv E mM_fail [jvR 76, jvI 2, jvI l3] μ3 (fun μ10 => (Q (some (jvI l4)) μ10)))))))) ∧ (¬ ((μ 76 3) ≤ (μ 76 2)) → ((0 ≤ (μ 76 2) ∧ (μ 76 2) < 1600)) ∧ (Ci E mM_isDigit [jvI (μ 77 (μ 76 2))] μ (fun r17 μ14 => ((r17 = 0 → (Ci E mM_isIn [jvL l4, jvL l1, jvL l2] (j_up μ14 76 4 (μ14 76 2)) (fun r23 μ20 => ((¬ r23 = 0 → (Q (some (jvI l4)) μ20)) ∧ (r23 = 0 → (Cv E mM_fail [jvR 76, jvI 2, jvI l3] μ20 (fun μ27 => (Q (some (jvI l4)) μ27)))))))) ∧ (¬ (r17 = 0) → ((-2147483648 ≤ ((μ14 76 2) - l3) ∧ ((μ14 76 2) - l3) < 2147483648)) ∧ ((¬ ((μ14 76 2) - l3) = 4 → ((-2147483648 ≤ (10 * l4) ∧ (10 * l4) < 2147483648) ∧ (0 ≤ (μ14 76 2) ∧ (μ14 76 2) < 1600) ∧ (-2147483648 ≤ ((10 * l4) + (μ14 77 (μ14 76 2))) ∧ ((10 * l4) + (μ14 77 (μ14 76 2))) < 2147483648) ∧ (-2147483648 ≤ (((10 * l4) + (μ14 77 (μ14 76 2))) - 48) ∧ (((10 * l4) + (μ14 77 (μ14 76 2))) - 48) < 2147483648) ∧ (-2147483648 ≤ ((μ14 76 2) + 1) ∧ ((μ14 76 2) + 1) < 2147483648)) ∧ (K 121 E mM_number 49 [some (jvR 76), some (jvI l1), some (jvI l2), some (jvI l3), some (jvI (((10 * l4) + (μ14 77 (μ14 76 2))) - 48))] [] (j_up μ14 76 2 ((μ14 76 2) + 1)) Q)) ∧ (((μ14 76 2) - l3) = 4 → (Cv E mM_fail [jvR 76, jvI 1, jvI (μ14 76 2)] μ14 (fun μ33 => (Q (some (jvI 0)) μ33)))))))))))) : K 121 E mM_number 49 [some (jvR 76), some (jvI l1), some (jvI l2), some (jvI l3), some (jvI l4)] [] μ Q := by
  refine K_aload_n 0 76 dM_number_49 rfl rfl ?_
  refine K_getf 12 2 76 (jvI (μ 76 2)) dM_number_50 pf_M_162 rfl rfl (by decide) rfl rfl ?_
  refine K_aload_n 0 76 dM_number_53 rfl rfl ?_
  refine K_getf 12 3 76 (jvI (μ 76 3)) dM_number_54 pf_M_165 rfl rfl (by decide) rfl rfl ?_
  refine K_icmp_ge 129 dM_number_57 (by decide) (fun c1 => ?_) (fun c1 => ?_)
  · refine K_aload_n 0 76 dM_number_129 rfl rfl ?_
    refine K_aload_n 0 76 dM_number_130 rfl rfl ?_
    refine K_getf 12 2 76 (jvI (μ 76 2)) dM_number_131 pf_M_162 rfl rfl (by decide) rfl rfl ?_
    refine K_putf 12 4 76 (x := (μ 76 2)) dM_number_134 pf_M_176 rfl rfl (by decide) rfl rfl rfl rfl trivial ?_
    refine K_iload 4 l4 dM_number_137 rfl ?_
    refine K_i2l dM_number_139 rfl ?_
    refine K_iload_n 1 l1 dM_number_140 rfl rfl ?_
    refine K_i2l dM_number_141 rfl ?_
    refine K_iload_n 2 l2 dM_number_142 rfl rfl ?_
    refine K_i2l dM_number_143 rfl ?_
    refine K_callSi mM_isIn [jvL l4, jvL l1, jvL l2] dM_number_144 pm_M_196 ⟨(Nat.le_of_ble_eq_true rfl), (Nat.le_of_ble_eq_true rfl)⟩ (Nat.le_of_ble_eq_true rfl) rfl (Nat.le_of_ble_eq_true rfl) (by decide) (Ci_mono (hF.1 c1) (fun r6 μ3 h4 => ?_))
    refine K_if_ne 156 dM_number_147 (by decide) (fun c7 => ?_) (fun c7 => ?_)
    · refine K_iload 4 l4 dM_number_156 rfl ?_
      exact K_iret dM_number_158 (Or.inl rfl) (h4.1 c7)
    · refine K_aload_n 0 76 dM_number_150 rfl rfl ?_
      refine K_iconst 2 dM_number_151 rfl ?_
      refine K_iload_n 3 l3 dM_number_152 rfl rfl ?_
      refine K_callVv mM_fail 12 76 [jvI 2, jvI l3] dM_number_153 pm_M_186 ⟨_, rfl, rfl⟩ ⟨(Nat.le_of_ble_eq_true rfl), (Nat.le_of_ble_eq_true rfl)⟩ rfl rfl (by decide) (Nat.le_of_ble_eq_true rfl) rfl (Nat.le_of_ble_eq_true rfl) (by decide) (Cv_mono (h4.2 c7) (fun μ10 h11 => ?_))
      refine K_iload 4 l4 dM_number_156 rfl ?_
      exact K_iret dM_number_158 (Or.inl rfl) h11
  · refine K_aload_n 0 76 dM_number_60 rfl rfl ?_
    refine K_getf 12 0 76 (jvR 77) dM_number_61 pf_M_7 rfl rfl (by decide) rfl rfl ?_
    refine K_aload_n 0 76 dM_number_64 rfl rfl ?_
    refine K_getf 12 2 76 (jvI (μ 76 2)) dM_number_65 pf_M_162 rfl rfl (by decide) rfl rfl ?_
    refine K_iald 77 1600 dM_number_68 rfl rfl (by decide) (hF.2 c1).1 ?_
    refine K_callSi mM_isDigit [jvI (μ 77 (μ 76 2))] dM_number_69 pm_M_193 ⟨(Nat.le_of_ble_eq_true rfl), (Nat.le_of_ble_eq_true rfl)⟩ (Nat.le_of_ble_eq_true rfl) rfl (Nat.le_of_ble_eq_true rfl) (by decide) (Ci_mono (hF.2 c1).2 (fun r17 μ14 h15 => ?_))
    refine K_if_eq 129 dM_number_72 (by decide) (fun c18 => ?_) (fun c18 => ?_)
    · refine K_aload_n 0 76 dM_number_129 rfl rfl ?_
      refine K_aload_n 0 76 dM_number_130 rfl rfl ?_
      refine K_getf 12 2 76 (jvI (μ14 76 2)) dM_number_131 pf_M_162 rfl rfl (by decide) rfl rfl ?_
      refine K_putf 12 4 76 (x := (μ14 76 2)) dM_number_134 pf_M_176 rfl rfl (by decide) rfl rfl rfl rfl trivial ?_
      refine K_iload 4 l4 dM_number_137 rfl ?_
      refine K_i2l dM_number_139 rfl ?_
      refine K_iload_n 1 l1 dM_number_140 rfl rfl ?_
      refine K_i2l dM_number_141 rfl ?_
      refine K_iload_n 2 l2 dM_number_142 rfl rfl ?_
      refine K_i2l dM_number_143 rfl ?_
      refine K_callSi mM_isIn [jvL l4, jvL l1, jvL l2] dM_number_144 pm_M_196 ⟨(Nat.le_of_ble_eq_true rfl), (Nat.le_of_ble_eq_true rfl)⟩ (Nat.le_of_ble_eq_true rfl) rfl (Nat.le_of_ble_eq_true rfl) (by decide) (Ci_mono (h15.1 c18) (fun r23 μ20 h21 => ?_))
      refine K_if_ne 156 dM_number_147 (by decide) (fun c24 => ?_) (fun c24 => ?_)
      · refine K_iload 4 l4 dM_number_156 rfl ?_
        exact K_iret dM_number_158 (Or.inl rfl) (h21.1 c24)
      · refine K_aload_n 0 76 dM_number_150 rfl rfl ?_
        refine K_iconst 2 dM_number_151 rfl ?_
        refine K_iload_n 3 l3 dM_number_152 rfl rfl ?_
        refine K_callVv mM_fail 12 76 [jvI 2, jvI l3] dM_number_153 pm_M_186 ⟨_, rfl, rfl⟩ ⟨(Nat.le_of_ble_eq_true rfl), (Nat.le_of_ble_eq_true rfl)⟩ rfl rfl (by decide) (Nat.le_of_ble_eq_true rfl) rfl (Nat.le_of_ble_eq_true rfl) (by decide) (Cv_mono (h21.2 c24) (fun μ27 h28 => ?_))
        refine K_iload 4 l4 dM_number_156 rfl ?_
        exact K_iret dM_number_158 (Or.inl rfl) h28
    · refine K_aload_n 0 76 dM_number_75 rfl rfl ?_
      refine K_getf 12 2 76 (jvI (μ14 76 2)) dM_number_76 pf_M_162 rfl rfl (by decide) rfl rfl ?_
      refine K_iload_n 3 l3 dM_number_79 rfl rfl ?_
      refine K_isub dM_number_80 (w32_id (h15.2 c18).1) ?_
      refine K_iconst 4 dM_number_81 rfl ?_
      refine K_icmp_ne 96 dM_number_82 (by decide) (fun c31 => ?_) (fun c31 => ?_)
      · refine K_bipush 10 dM_number_96 rfl ?_
        refine K_iload 4 l4 dM_number_98 rfl ?_
        refine K_imul dM_number_100 (w32_id ((h15.2 c18).2.1 c31).1.1) ?_
        refine K_aload_n 0 76 dM_number_101 rfl rfl ?_
        refine K_getf 12 0 76 (jvR 77) dM_number_102 pf_M_7 rfl rfl (by decide) rfl rfl ?_
        refine K_aload_n 0 76 dM_number_105 rfl rfl ?_
        refine K_getf 12 2 76 (jvI (μ14 76 2)) dM_number_106 pf_M_162 rfl rfl (by decide) rfl rfl ?_
        refine K_iald 77 1600 dM_number_109 rfl rfl (by decide) ((h15.2 c18).2.1 c31).1.2.1 ?_
        refine K_iadd dM_number_110 (w32_id ((h15.2 c18).2.1 c31).1.2.2.1) ?_
        refine K_bipush 48 dM_number_111 rfl ?_
        refine K_isub dM_number_113 (w32_id ((h15.2 c18).2.1 c31).1.2.2.2.1) ?_
        refine K_istore 4 dM_number_114 (Nat.le_of_ble_eq_true rfl) rfl ?_
        refine K_aload_n 0 76 dM_number_116 rfl rfl ?_
        refine K_dup dM_number_117 (fun _ h => by cases h) ?_
        refine K_getf 12 2 76 (jvI (μ14 76 2)) dM_number_118 pf_M_162 rfl rfl (by decide) rfl rfl ?_
        refine K_iconst 1 dM_number_121 rfl ?_
        refine K_iadd dM_number_122 (w32_id ((h15.2 c18).2.1 c31).1.2.2.2.2) ?_
        refine K_putf 12 2 76 (x := ((μ14 76 2) + 1)) dM_number_123 pf_M_162 rfl rfl (by decide) rfl rfl rfl rfl trivial ?_
        refine K_goto 49 dM_number_126 (by decide) ?_
        exact ((h15.2 c18).2.1 c31).2
      · refine K_aload_n 0 76 dM_number_85 rfl rfl ?_
        refine K_iconst 1 dM_number_86 rfl ?_
        refine K_aload_n 0 76 dM_number_87 rfl rfl ?_
        refine K_getf 12 2 76 (jvI (μ14 76 2)) dM_number_88 pf_M_162 rfl rfl (by decide) rfl rfl ?_
        refine K_callVv mM_fail 12 76 [jvI 1, jvI (μ14 76 2)] dM_number_91 pm_M_186 ⟨_, rfl, rfl⟩ ⟨(Nat.le_of_ble_eq_true rfl), (Nat.le_of_ble_eq_true rfl)⟩ rfl rfl (by decide) (Nat.le_of_ble_eq_true rfl) rfl (Nat.le_of_ble_eq_true rfl) (by decide) (Cv_mono ((h15.2 c18).2.2 c31) (fun μ33 h34 => ?_))
        refine K_iconst 0 dM_number_94 rfl ?_
        exact K_iret dM_number_95 (Or.inl rfl) h34
set_option maxHeartbeats 8000000 in
theorem vM_isDigit_0 {E : jE} {μ : jMu} {Q : Option AV → jMu → Prop} {a0 : Int} (hF : ((a0 < 48 → (Q (some (jvI 0)) μ)) ∧ (¬ (a0 < 48) → ((57 < a0 → (Q (some (jvI 0)) μ)) ∧ (¬ (57 < a0) → (Q (some (jvI 1)) μ)))))) : K 121 E mM_isDigit 0 [some (jvI a0)] [] μ Q := by
  refine K_iload_n 0 a0 dM_isDigit_0 rfl rfl ?_
  refine K_bipush 48 dM_isDigit_1 rfl ?_
  refine K_icmp_lt 16 dM_isDigit_3 (by decide) (fun c1 => ?_) (fun c1 => ?_)
  · refine K_iconst 0 dM_isDigit_16 rfl ?_
    exact K_iret dM_isDigit_17 (Or.inr ⟨rfl, (by decide)⟩) (hF.1 c1)
  · refine K_iload_n 0 a0 dM_isDigit_6 rfl rfl ?_
    refine K_bipush 57 dM_isDigit_7 rfl ?_
    refine K_icmp_gt 16 dM_isDigit_9 (by decide) (fun c4 => ?_) (fun c4 => ?_)
    · refine K_iconst 0 dM_isDigit_16 rfl ?_
      exact K_iret dM_isDigit_17 (Or.inr ⟨rfl, (by decide)⟩) ((hF.2 c1).1 c4)
    · refine K_iconst 1 dM_isDigit_12 rfl ?_
      refine K_goto 17 dM_isDigit_13 (by decide) ?_
      exact K_iret dM_isDigit_17 (Or.inr ⟨rfl, (by decide)⟩) ((hF.2 c1).2 c4)
set_option maxHeartbeats 8000000 in
theorem vM_isIn_0 {E : jE} {μ : jMu} {Q : Option AV → jMu → Prop} {a0 a1 a2 : Int} (hF : ((a0 < a1 → (Q (some (jvI 0)) μ)) ∧ (¬ (a0 < a1) → ((a2 < a0 → (Q (some (jvI 0)) μ)) ∧ (¬ (a2 < a0) → (Q (some (jvI 1)) μ)))))) : K 121 E mM_isIn 0 [some (jvL a0), none, some (jvL a1), none, some (jvL a2), none] [] μ Q := by
  refine K_lload_n 0 a0 dM_isIn_0 rfl rfl ?_
  refine K_lload_n 2 a1 dM_isIn_1 rfl rfl ?_
  refine K_lcmp_lt 17 dM_isIn_2 dM_isIn_3 (by decide) (fun c1 => ?_) (fun c1 => ?_)
  · refine K_iconst 0 dM_isIn_17 rfl ?_
    exact K_iret dM_isIn_18 (Or.inr ⟨rfl, (by decide)⟩) (hF.1 c1)
  · refine K_lload_n 0 a0 dM_isIn_6 rfl rfl ?_
    refine K_lload 4 a2 dM_isIn_7 rfl ?_
    refine K_lcmp_gt 17 dM_isIn_9 dM_isIn_10 (by decide) (fun c4 => ?_) (fun c4 => ?_)
    · refine K_iconst 0 dM_isIn_17 rfl ?_
      exact K_iret dM_isIn_18 (Or.inr ⟨rfl, (by decide)⟩) ((hF.2 c1).1 c4)
    · refine K_iconst 1 dM_isIn_13 rfl ?_
      refine K_goto 18 dM_isIn_14 (by decide) ?_
      exact K_iret dM_isIn_18 (Or.inr ⟨rfl, (by decide)⟩) ((hF.2 c1).2 c4)
set_option maxHeartbeats 8000000 in
theorem vM_readerTold_0 {E : jE} {μ : jMu} {Q : Option AV → jMu → Prop} {a0 : Int} (hF : (Ci E mM_isFull [jvR 76, jvI 1, jvI 6, jvI a0] μ (fun r4 μ1 => ((r4 = 0 → (Ci E mM_newName [jvR 76, jvI 1] μ1 (fun r10 μ7 => (Cv E mM_asks [jvR 76, jvR 84] μ7 (fun μ11 => (Ci E mM_number [jvR 76, jvI 0, jvI 100] μ11 (fun r17 μ14 => (Cv E mM_asks [jvR 76, jvR 85] μ14 (fun μ18 => ((-2147483648 ≤ ((μ18 87 4) - 1) ∧ ((μ18 87 4) - 1) < 2147483648)) ∧ (Ci E mM_number [jvR 76, jvI 0, jvI ((μ18 87 4) - 1)] μ18 (fun r24 μ21 => (Cv E mM_asks [jvR 76, jvR 86] μ21 (fun μ25 => ((-2147483648 ≤ ((μ25 87 4) - 1) ∧ ((μ25 87 4) - 1) < 2147483648)) ∧ (Ci E mM_number [jvR 76, jvI r24, jvI ((μ25 87 4) - 1)] μ25 (fun r31 μ28 => (((μ28 76 5) = 0 → ((0 ≤ r10 ∧ r10 < 12) ∧ (0 ≤ r10 ∧ r10 < 12) ∧ (0 ≤ r10 ∧ r10 < 12) ∧ (-2147483648 ≤ ((μ28 87 1) + 1) ∧ ((μ28 87 1) + 1) < 2147483648)) ∧ (Q none (j_up (j_up (j_up (j_up μ28 96 r10 r17) 97 r10 r24) 98 r10 r31) 87 1 ((μ28 87 1) + 1)))) ∧ (¬ ((μ28 76 5) = 0) → (Q none μ28)))))))))))))))))) ∧ (¬ (r4 = 0) → (Q none μ1)))))) : K 121 E mM_readerTold 0 [some (jvR 76), some (jvI a0), none, none, none, none] [] μ Q := by
  refine K_aload_n 0 76 dM_readerTold_0 rfl rfl ?_
  refine K_iconst 1 dM_readerTold_1 rfl ?_
  refine K_bipush 6 dM_readerTold_2 rfl ?_
  refine K_iload_n 1 a0 dM_readerTold_4 rfl rfl ?_
  refine K_callVi mM_isFull 12 76 [jvI 1, jvI 6, jvI a0] dM_readerTold_5 pm_M_246 ⟨_, rfl, rfl⟩ ⟨(Nat.le_of_ble_eq_true rfl), (Nat.le_of_ble_eq_true rfl)⟩ rfl rfl (by decide) (Nat.le_of_ble_eq_true rfl) rfl (Nat.le_of_ble_eq_true rfl) (by decide) (Ci_mono hF (fun r4 μ1 h2 => ?_))
  refine K_if_eq 12 dM_readerTold_8 (by decide) (fun c5 => ?_) (fun c5 => ?_)
  · refine K_aload_n 0 76 dM_readerTold_12 rfl rfl ?_
    refine K_iconst 1 dM_readerTold_13 rfl ?_
    refine K_callVi mM_newName 12 76 [jvI 1] dM_readerTold_14 pm_M_250 ⟨_, rfl, rfl⟩ ⟨(Nat.le_of_ble_eq_true rfl), (Nat.le_of_ble_eq_true rfl)⟩ rfl rfl (by decide) (Nat.le_of_ble_eq_true rfl) rfl (Nat.le_of_ble_eq_true rfl) (by decide) (Ci_mono (h2.1 c5) (fun r10 μ7 h8 => ?_))
    refine K_istore_n 2 dM_readerTold_17 rfl (Nat.le_of_ble_eq_true rfl) rfl ?_
    refine K_aload_n 0 76 dM_readerTold_18 rfl rfl ?_
    refine K_aload_n 0 76 dM_readerTold_19 rfl rfl ?_
    refine K_getf 12 15 76 (jvR 84) dM_readerTold_20 pf_M_36 rfl rfl (by decide) rfl rfl ?_
    refine K_callVv mM_asks 12 76 [jvR 84] dM_readerTold_23 pm_M_257 ⟨_, rfl, rfl⟩ ⟨(Nat.le_of_ble_eq_true rfl), (Nat.le_of_ble_eq_true rfl)⟩ rfl rfl (by decide) (Nat.le_of_ble_eq_true rfl) rfl (Nat.le_of_ble_eq_true rfl) (by decide) (Cv_mono h8 (fun μ11 h12 => ?_))
    refine K_aload_n 0 76 dM_readerTold_26 rfl rfl ?_
    refine K_iconst 0 dM_readerTold_27 rfl ?_
    refine K_bipush 100 dM_readerTold_28 rfl ?_
    refine K_callVi mM_number 12 76 [jvI 0, jvI 100] dM_readerTold_30 pm_M_261 ⟨_, rfl, rfl⟩ ⟨(Nat.le_of_ble_eq_true rfl), (Nat.le_of_ble_eq_true rfl)⟩ rfl rfl (by decide) (Nat.le_of_ble_eq_true rfl) rfl (Nat.le_of_ble_eq_true rfl) (by decide) (Ci_mono h12 (fun r17 μ14 h15 => ?_))
    refine K_istore_n 3 dM_readerTold_33 rfl (Nat.le_of_ble_eq_true rfl) rfl ?_
    refine K_aload_n 0 76 dM_readerTold_34 rfl rfl ?_
    refine K_aload_n 0 76 dM_readerTold_35 rfl rfl ?_
    refine K_getf 12 16 76 (jvR 85) dM_readerTold_36 pf_M_39 rfl rfl (by decide) rfl rfl ?_
    refine K_callVv mM_asks 12 76 [jvR 85] dM_readerTold_39 pm_M_257 ⟨_, rfl, rfl⟩ ⟨(Nat.le_of_ble_eq_true rfl), (Nat.le_of_ble_eq_true rfl)⟩ rfl rfl (by decide) (Nat.le_of_ble_eq_true rfl) rfl (Nat.le_of_ble_eq_true rfl) (by decide) (Cv_mono h15 (fun μ18 h19 => ?_))
    refine K_aload_n 0 76 dM_readerTold_42 rfl rfl ?_
    refine K_iconst 0 dM_readerTold_43 rfl ?_
    refine K_aload_n 0 76 dM_readerTold_44 rfl rfl ?_
    refine K_getf 12 19 76 (jvR 87) dM_readerTold_45 pf_M_45 rfl rfl (by decide) rfl rfl ?_
    refine K_iconst 4 dM_readerTold_48 rfl ?_
    refine K_iald 87 10 dM_readerTold_49 rfl rfl (by decide) (by decide) ?_
    refine K_iconst 1 dM_readerTold_50 rfl ?_
    refine K_isub dM_readerTold_51 (w32_id h19.1) ?_
    refine K_callVi mM_number 12 76 [jvI 0, jvI ((μ18 87 4) - 1)] dM_readerTold_52 pm_M_261 ⟨_, rfl, rfl⟩ ⟨(Nat.le_of_ble_eq_true rfl), (Nat.le_of_ble_eq_true rfl)⟩ rfl rfl (by decide) (Nat.le_of_ble_eq_true rfl) rfl (Nat.le_of_ble_eq_true rfl) (by decide) (Ci_mono h19.2 (fun r24 μ21 h22 => ?_))
    refine K_istore 4 dM_readerTold_55 (Nat.le_of_ble_eq_true rfl) rfl ?_
    refine K_aload_n 0 76 dM_readerTold_57 rfl rfl ?_
    refine K_aload_n 0 76 dM_readerTold_58 rfl rfl ?_
    refine K_getf 12 17 76 (jvR 86) dM_readerTold_59 pf_M_42 rfl rfl (by decide) rfl rfl ?_
    refine K_callVv mM_asks 12 76 [jvR 86] dM_readerTold_62 pm_M_257 ⟨_, rfl, rfl⟩ ⟨(Nat.le_of_ble_eq_true rfl), (Nat.le_of_ble_eq_true rfl)⟩ rfl rfl (by decide) (Nat.le_of_ble_eq_true rfl) rfl (Nat.le_of_ble_eq_true rfl) (by decide) (Cv_mono h22 (fun μ25 h26 => ?_))
    refine K_aload_n 0 76 dM_readerTold_65 rfl rfl ?_
    refine K_iload 4 r24 dM_readerTold_66 rfl ?_
    refine K_aload_n 0 76 dM_readerTold_68 rfl rfl ?_
    refine K_getf 12 19 76 (jvR 87) dM_readerTold_69 pf_M_45 rfl rfl (by decide) rfl rfl ?_
    refine K_iconst 4 dM_readerTold_72 rfl ?_
    refine K_iald 87 10 dM_readerTold_73 rfl rfl (by decide) (by decide) ?_
    refine K_iconst 1 dM_readerTold_74 rfl ?_
    refine K_isub dM_readerTold_75 (w32_id h26.1) ?_
    refine K_callVi mM_number 12 76 [jvI r24, jvI ((μ25 87 4) - 1)] dM_readerTold_76 pm_M_261 ⟨_, rfl, rfl⟩ ⟨(Nat.le_of_ble_eq_true rfl), (Nat.le_of_ble_eq_true rfl)⟩ rfl rfl (by decide) (Nat.le_of_ble_eq_true rfl) rfl (Nat.le_of_ble_eq_true rfl) (by decide) (Ci_mono h26.2 (fun r31 μ28 h29 => ?_))
    refine K_istore 5 dM_readerTold_79 (Nat.le_of_ble_eq_true rfl) rfl ?_
    refine K_aload_n 0 76 dM_readerTold_81 rfl rfl ?_
    refine K_getf 12 5 76 (jvI (μ28 76 5)) dM_readerTold_82 pf_M_156 rfl rfl (by decide) rfl rfl ?_
    refine K_if_eq 89 dM_readerTold_85 (by decide) (fun c32 => ?_) (fun c32 => ?_)
    · refine K_aload_n 0 76 dM_readerTold_89 rfl rfl ?_
      refine K_getf 12 29 76 (jvR 96) dM_readerTold_90 pf_M_73 rfl rfl (by decide) rfl rfl ?_
      refine K_iload_n 2 r10 dM_readerTold_93 rfl rfl ?_
      refine K_iload_n 3 r17 dM_readerTold_94 rfl rfl ?_
      refine K_iast 96 12 dM_readerTold_95 rfl rfl (by decide) (h29.1 c32).1.1 ?_
      refine K_aload_n 0 76 dM_readerTold_96 rfl rfl ?_
      refine K_getf 12 30 76 (jvR 97) dM_readerTold_97 pf_M_76 rfl rfl (by decide) rfl rfl ?_
      refine K_iload_n 2 r10 dM_readerTold_100 rfl rfl ?_
      refine K_iload 4 r24 dM_readerTold_101 rfl ?_
      refine K_iast 97 12 dM_readerTold_103 rfl rfl (by decide) (h29.1 c32).1.2.1 ?_
      refine K_aload_n 0 76 dM_readerTold_104 rfl rfl ?_
      refine K_getf 12 31 76 (jvR 98) dM_readerTold_105 pf_M_79 rfl rfl (by decide) rfl rfl ?_
      refine K_iload_n 2 r10 dM_readerTold_108 rfl rfl ?_
      refine K_iload 5 r31 dM_readerTold_109 rfl ?_
      refine K_iast 98 12 dM_readerTold_111 rfl rfl (by decide) (h29.1 c32).1.2.2.1 ?_
      refine K_aload_n 0 76 dM_readerTold_112 rfl rfl ?_
      refine K_getf 12 19 76 (jvR 87) dM_readerTold_113 pf_M_45 rfl rfl (by decide) rfl rfl ?_
      refine K_iconst 1 dM_readerTold_116 rfl ?_
      refine K_dup2 dM_readerTold_117 (fun _ h => by cases h) (fun _ h => by cases h) ?_
      refine K_iald 87 10 dM_readerTold_118 rfl rfl (by decide) (by decide) ?_
      refine K_iconst 1 dM_readerTold_119 rfl ?_
      refine K_iadd dM_readerTold_120 (w32_id (h29.1 c32).1.2.2.2) ?_
      refine K_iast 87 10 dM_readerTold_121 rfl rfl (by decide) (by decide) ?_
      exact K_vret dM_readerTold_122 rfl (h29.1 c32).2
    · exact K_vret dM_readerTold_88 rfl (h29.2 c32)
  · exact K_vret dM_readerTold_11 rfl (h2.2 c5)
set_option maxHeartbeats 8000000 in
theorem vM_stands0_0 {E : jE} {μ : jMu} {Q : Option AV → jMu → Prop} (hF : (K 121 E mM_stands0 2 [some (jvR 76), some (jvI 0)] [] μ Q)) : K 121 E mM_stands0 0 [some (jvR 76), none] [] μ Q := by
  refine K_iconst 0 dM_stands0_0 rfl ?_
  refine K_istore_n 1 dM_stands0_1 rfl (Nat.le_of_ble_eq_true rfl) rfl ?_
  exact hF
set_option maxHeartbeats 8000000 in
theorem vM_stands0_2 {E : jE} {μ : jMu} {Q : Option AV → jMu → Prop} {l1 : Int} (hF : ((5 ≤ l1 → (K 121 E mM_stands0 29 [some (jvR 76), some (jvI 0)] [] μ Q)) ∧ (¬ (5 ≤ l1) → ((-2147483648 ≤ (5 + l1) ∧ (5 + l1) < 2147483648) ∧ (0 ≤ l1 ∧ l1 < 10) ∧ (0 ≤ (5 + l1) ∧ (5 + l1) < 10) ∧ (-2147483648 ≤ (l1 + 1) ∧ (l1 + 1) < 2147483648)) ∧ (K 121 E mM_stands0 2 [some (jvR 76), some (jvI (l1 + 1))] [] (j_up μ 87 (5 + l1) (μ 87 l1)) Q)))) : K 121 E mM_stands0 2 [some (jvR 76), some (jvI l1)] [] μ Q := by
  refine K_iload_n 1 l1 dM_stands0_2 rfl rfl ?_
  refine K_iconst 5 dM_stands0_3 rfl ?_
  refine K_icmp_ge 27 dM_stands0_4 (by decide) (fun c1 => ?_) (fun c1 => ?_)
  · refine K_iconst 0 dM_stands0_27 rfl ?_
    refine K_istore_n 1 dM_stands0_28 rfl (Nat.le_of_ble_eq_true rfl) rfl ?_
    exact (hF.1 c1)
  · refine K_aload_n 0 76 dM_stands0_7 rfl rfl ?_
    refine K_getf 12 19 76 (jvR 87) dM_stands0_8 pf_M_45 rfl rfl (by decide) rfl rfl ?_
    refine K_iconst 5 dM_stands0_11 rfl ?_
    refine K_iload_n 1 l1 dM_stands0_12 rfl rfl ?_
    refine K_iadd dM_stands0_13 (w32_id (hF.2 c1).1.1) ?_
    refine K_aload_n 0 76 dM_stands0_14 rfl rfl ?_
    refine K_getf 12 19 76 (jvR 87) dM_stands0_15 pf_M_45 rfl rfl (by decide) rfl rfl ?_
    refine K_iload_n 1 l1 dM_stands0_18 rfl rfl ?_
    refine K_iald 87 10 dM_stands0_19 rfl rfl (by decide) (hF.2 c1).1.2.1 ?_
    refine K_iast 87 10 dM_stands0_20 rfl rfl (by decide) (hF.2 c1).1.2.2.1 ?_
    refine K_iinc 1 dM_stands0_21 (Nat.le_of_ble_eq_true rfl) rfl (w32_ok (hF.2 c1).1.2.2.2) rfl ?_
    refine K_goto 2 dM_stands0_24 (by decide) ?_
    exact (hF.2 c1).2
set_option maxHeartbeats 8000000 in
theorem vM_stands0_29 {E : jE} {μ : jMu} {Q : Option AV → jMu → Prop} {l1 : Int} (hF : ((96 ≤ l1 → (K 121 E mM_stands0 58 [some (jvR 76), some (jvI 0)] [] μ Q)) ∧ (¬ (96 ≤ l1) → ((-2147483648 ≤ (96 + l1) ∧ (96 + l1) < 2147483648) ∧ (0 ≤ l1 ∧ l1 < 192) ∧ (0 ≤ (96 + l1) ∧ (96 + l1) < 192) ∧ (-2147483648 ≤ (l1 + 1) ∧ (l1 + 1) < 2147483648)) ∧ (K 121 E mM_stands0 29 [some (jvR 76), some (jvI (l1 + 1))] [] (j_up μ 88 (96 + l1) (μ 88 l1)) Q)))) : K 121 E mM_stands0 29 [some (jvR 76), some (jvI l1)] [] μ Q := by
  refine K_iload_n 1 l1 dM_stands0_29 rfl rfl ?_
  refine K_bipush 96 dM_stands0_30 rfl ?_
  refine K_icmp_ge 56 dM_stands0_32 (by decide) (fun c1 => ?_) (fun c1 => ?_)
  · refine K_iconst 0 dM_stands0_56 rfl ?_
    refine K_istore_n 1 dM_stands0_57 rfl (Nat.le_of_ble_eq_true rfl) rfl ?_
    exact (hF.1 c1)
  · refine K_aload_n 0 76 dM_stands0_35 rfl rfl ?_
    refine K_getf 12 20 76 (jvR 88) dM_stands0_36 pf_M_48 rfl rfl (by decide) rfl rfl ?_
    refine K_bipush 96 dM_stands0_39 rfl ?_
    refine K_iload_n 1 l1 dM_stands0_41 rfl rfl ?_
    refine K_iadd dM_stands0_42 (w32_id (hF.2 c1).1.1) ?_
    refine K_aload_n 0 76 dM_stands0_43 rfl rfl ?_
    refine K_getf 12 20 76 (jvR 88) dM_stands0_44 pf_M_48 rfl rfl (by decide) rfl rfl ?_
    refine K_iload_n 1 l1 dM_stands0_47 rfl rfl ?_
    refine K_lald 88 192 dM_stands0_48 rfl rfl (by decide) (hF.2 c1).1.2.1 ?_
    refine K_last 88 192 dM_stands0_49 rfl rfl (by decide) (hF.2 c1).1.2.2.1 ?_
    refine K_iinc 1 dM_stands0_50 (Nat.le_of_ble_eq_true rfl) rfl (w32_ok (hF.2 c1).1.2.2.2) rfl ?_
    refine K_goto 29 dM_stands0_53 (by decide) ?_
    exact (hF.2 c1).2
set_option maxHeartbeats 8000000 in
theorem vM_stands0_58 {E : jE} {μ : jMu} {Q : Option AV → jMu → Prop} {l1 : Int} (hF : ((24 ≤ l1 → (K 121 E mM_stands0 87 [some (jvR 76), some (jvI 0)] [] μ Q)) ∧ (¬ (24 ≤ l1) → ((-2147483648 ≤ (24 + l1) ∧ (24 + l1) < 2147483648) ∧ (0 ≤ l1 ∧ l1 < 48) ∧ (0 ≤ (24 + l1) ∧ (24 + l1) < 48) ∧ (-2147483648 ≤ (l1 + 1) ∧ (l1 + 1) < 2147483648)) ∧ (K 121 E mM_stands0 58 [some (jvR 76), some (jvI (l1 + 1))] [] (j_up μ 89 (24 + l1) (μ 89 l1)) Q)))) : K 121 E mM_stands0 58 [some (jvR 76), some (jvI l1)] [] μ Q := by
  refine K_iload_n 1 l1 dM_stands0_58 rfl rfl ?_
  refine K_bipush 24 dM_stands0_59 rfl ?_
  refine K_icmp_ge 85 dM_stands0_61 (by decide) (fun c1 => ?_) (fun c1 => ?_)
  · refine K_iconst 0 dM_stands0_85 rfl ?_
    refine K_istore_n 1 dM_stands0_86 rfl (Nat.le_of_ble_eq_true rfl) rfl ?_
    exact (hF.1 c1)
  · refine K_aload_n 0 76 dM_stands0_64 rfl rfl ?_
    refine K_getf 12 21 76 (jvR 89) dM_stands0_65 pf_M_52 rfl rfl (by decide) rfl rfl ?_
    refine K_bipush 24 dM_stands0_68 rfl ?_
    refine K_iload_n 1 l1 dM_stands0_70 rfl rfl ?_
    refine K_iadd dM_stands0_71 (w32_id (hF.2 c1).1.1) ?_
    refine K_aload_n 0 76 dM_stands0_72 rfl rfl ?_
    refine K_getf 12 21 76 (jvR 89) dM_stands0_73 pf_M_52 rfl rfl (by decide) rfl rfl ?_
    refine K_iload_n 1 l1 dM_stands0_76 rfl rfl ?_
    refine K_iald 89 48 dM_stands0_77 rfl rfl (by decide) (hF.2 c1).1.2.1 ?_
    refine K_iast 89 48 dM_stands0_78 rfl rfl (by decide) (hF.2 c1).1.2.2.1 ?_
    refine K_iinc 1 dM_stands0_79 (Nat.le_of_ble_eq_true rfl) rfl (w32_ok (hF.2 c1).1.2.2.2) rfl ?_
    refine K_goto 58 dM_stands0_82 (by decide) ?_
    exact (hF.2 c1).2
set_option maxHeartbeats 8000000 in
theorem vM_stands0_87 {E : jE} {μ : jMu} {Q : Option AV → jMu → Prop} {l1 : Int} (hF : (((μ 76 23) ≤ l1 → (K 121 E mM_stands0 119 [some (jvR 76), some (jvI 0)] [] μ Q)) ∧ (¬ ((μ 76 23) ≤ l1) → ((-2147483648 ≤ (400 + l1) ∧ (400 + l1) < 2147483648) ∧ (0 ≤ l1 ∧ l1 < 800) ∧ (0 ≤ (400 + l1) ∧ (400 + l1) < 800) ∧ (-2147483648 ≤ (l1 + 1) ∧ (l1 + 1) < 2147483648)) ∧ (K 121 E mM_stands0 87 [some (jvR 76), some (jvI (l1 + 1))] [] (j_up μ 90 (400 + l1) (μ 90 l1)) Q)))) : K 121 E mM_stands0 87 [some (jvR 76), some (jvI l1)] [] μ Q := by
  refine K_iload_n 1 l1 dM_stands0_87 rfl rfl ?_
  refine K_aload_n 0 76 dM_stands0_88 rfl rfl ?_
  refine K_getf 12 23 76 (jvI (μ 76 23)) dM_stands0_89 pf_M_219 rfl rfl (by decide) rfl rfl ?_
  refine K_icmp_ge 117 dM_stands0_92 (by decide) (fun c1 => ?_) (fun c1 => ?_)
  · refine K_iconst 0 dM_stands0_117 rfl ?_
    refine K_istore_n 1 dM_stands0_118 rfl (Nat.le_of_ble_eq_true rfl) rfl ?_
    exact (hF.1 c1)
  · refine K_aload_n 0 76 dM_stands0_95 rfl rfl ?_
    refine K_getf 12 22 76 (jvR 90) dM_stands0_96 pf_M_55 rfl rfl (by decide) rfl rfl ?_
    refine K_sipush 400 dM_stands0_99 rfl ?_
    refine K_iload_n 1 l1 dM_stands0_102 rfl rfl ?_
    refine K_iadd dM_stands0_103 (w32_id (hF.2 c1).1.1) ?_
    refine K_aload_n 0 76 dM_stands0_104 rfl rfl ?_
    refine K_getf 12 22 76 (jvR 90) dM_stands0_105 pf_M_55 rfl rfl (by decide) rfl rfl ?_
    refine K_iload_n 1 l1 dM_stands0_108 rfl rfl ?_
    refine K_iald 90 800 dM_stands0_109 rfl rfl (by decide) (hF.2 c1).1.2.1 ?_
    refine K_iast 90 800 dM_stands0_110 rfl rfl (by decide) (hF.2 c1).1.2.2.1 ?_
    refine K_iinc 1 dM_stands0_111 (Nat.le_of_ble_eq_true rfl) rfl (w32_ok (hF.2 c1).1.2.2.2) rfl ?_
    refine K_goto 87 dM_stands0_114 (by decide) ?_
    exact (hF.2 c1).2
set_option maxHeartbeats 8000000 in
theorem vM_stands0_119 {E : jE} {μ : jMu} {Q : Option AV → jMu → Prop} {l1 : Int} (hF : ((88 ≤ l1 → (K 121 E mM_stands0 167 [some (jvR 76), some (jvI 0)] [] μ Q)) ∧ (¬ (88 ≤ l1) → ((-2147483648 ≤ (88 + l1) ∧ (88 + l1) < 2147483648) ∧ (0 ≤ l1 ∧ l1 < 176) ∧ (-2147483648 ≤ (400 + (μ 91 l1)) ∧ (400 + (μ 91 l1)) < 2147483648) ∧ (0 ≤ (88 + l1) ∧ (88 + l1) < 176) ∧ (-2147483648 ≤ (88 + l1) ∧ (88 + l1) < 2147483648) ∧ (0 ≤ l1 ∧ l1 < 176) ∧ (0 ≤ (88 + l1) ∧ (88 + l1) < 176) ∧ (-2147483648 ≤ (l1 + 1) ∧ (l1 + 1) < 2147483648)) ∧ (K 121 E mM_stands0 119 [some (jvR 76), some (jvI (l1 + 1))] [] (j_up (j_up μ 91 (88 + l1) (400 + (μ 91 l1))) 92 (88 + l1) (μ 92 l1)) Q)))) : K 121 E mM_stands0 119 [some (jvR 76), some (jvI l1)] [] μ Q := by
  refine K_iload_n 1 l1 dM_stands0_119 rfl rfl ?_
  refine K_bipush 88 dM_stands0_120 rfl ?_
  refine K_icmp_ge 165 dM_stands0_122 (by decide) (fun c1 => ?_) (fun c1 => ?_)
  · refine K_iconst 0 dM_stands0_165 rfl ?_
    refine K_istore_n 1 dM_stands0_166 rfl (Nat.le_of_ble_eq_true rfl) rfl ?_
    exact (hF.1 c1)
  · refine K_aload_n 0 76 dM_stands0_125 rfl rfl ?_
    refine K_getf 12 24 76 (jvR 91) dM_stands0_126 pf_M_58 rfl rfl (by decide) rfl rfl ?_
    refine K_bipush 88 dM_stands0_129 rfl ?_
    refine K_iload_n 1 l1 dM_stands0_131 rfl rfl ?_
    refine K_iadd dM_stands0_132 (w32_id (hF.2 c1).1.1) ?_
    refine K_sipush 400 dM_stands0_133 rfl ?_
    refine K_aload_n 0 76 dM_stands0_136 rfl rfl ?_
    refine K_getf 12 24 76 (jvR 91) dM_stands0_137 pf_M_58 rfl rfl (by decide) rfl rfl ?_
    refine K_iload_n 1 l1 dM_stands0_140 rfl rfl ?_
    refine K_iald 91 176 dM_stands0_141 rfl rfl (by decide) (hF.2 c1).1.2.1 ?_
    refine K_iadd dM_stands0_142 (w32_id (hF.2 c1).1.2.2.1) ?_
    refine K_iast 91 176 dM_stands0_143 rfl rfl (by decide) (hF.2 c1).1.2.2.2.1 ?_
    refine K_aload_n 0 76 dM_stands0_144 rfl rfl ?_
    refine K_getf 12 25 76 (jvR 92) dM_stands0_145 pf_M_61 rfl rfl (by decide) rfl rfl ?_
    refine K_bipush 88 dM_stands0_148 rfl ?_
    refine K_iload_n 1 l1 dM_stands0_150 rfl rfl ?_
    refine K_iadd dM_stands0_151 (w32_id (hF.2 c1).1.2.2.2.2.1) ?_
    refine K_aload_n 0 76 dM_stands0_152 rfl rfl ?_
    refine K_getf 12 25 76 (jvR 92) dM_stands0_153 pf_M_61 rfl rfl (by decide) rfl rfl ?_
    refine K_iload_n 1 l1 dM_stands0_156 rfl rfl ?_
    refine K_iald 92 176 dM_stands0_157 rfl rfl (by decide) (hF.2 c1).1.2.2.2.2.2.1 ?_
    refine K_iast 92 176 dM_stands0_158 rfl rfl (by decide) (hF.2 c1).1.2.2.2.2.2.2.1 ?_
    refine K_iinc 1 dM_stands0_159 (Nat.le_of_ble_eq_true rfl) rfl (w32_ok (hF.2 c1).1.2.2.2.2.2.2.2) rfl ?_
    refine K_goto 119 dM_stands0_162 (by decide) ?_
    exact (hF.2 c1).2
set_option maxHeartbeats 8000000 in
theorem vM_stands0_167 {E : jE} {μ : jMu} {Q : Option AV → jMu → Prop} {l1 : Int} (hF : ((12 ≤ l1 → (K 121 E mM_stands0 203 [some (jvR 76), some (jvI 0)] [] μ Q)) ∧ (¬ (12 ≤ l1) → ((-2147483648 ≤ (12 + l1) ∧ (12 + l1) < 2147483648) ∧ (0 ≤ l1 ∧ l1 < 24) ∧ (0 ≤ (12 + l1) ∧ (12 + l1) < 24) ∧ (0 ≤ l1 ∧ l1 < 12) ∧ (-2147483648 ≤ (l1 + 1) ∧ (l1 + 1) < 2147483648)) ∧ (K 121 E mM_stands0 167 [some (jvR 76), some (jvI (l1 + 1))] [] (j_up (j_up μ 93 (12 + l1) (μ 93 l1)) 107 l1 0) Q)))) : K 121 E mM_stands0 167 [some (jvR 76), some (jvI l1)] [] μ Q := by
  refine K_iload_n 1 l1 dM_stands0_167 rfl rfl ?_
  refine K_bipush 12 dM_stands0_168 rfl ?_
  refine K_icmp_ge 201 dM_stands0_170 (by decide) (fun c1 => ?_) (fun c1 => ?_)
  · refine K_iconst 0 dM_stands0_201 rfl ?_
    refine K_istore_n 1 dM_stands0_202 rfl (Nat.le_of_ble_eq_true rfl) rfl ?_
    exact (hF.1 c1)
  · refine K_aload_n 0 76 dM_stands0_173 rfl rfl ?_
    refine K_getf 12 26 76 (jvR 93) dM_stands0_174 pf_M_64 rfl rfl (by decide) rfl rfl ?_
    refine K_bipush 12 dM_stands0_177 rfl ?_
    refine K_iload_n 1 l1 dM_stands0_179 rfl rfl ?_
    refine K_iadd dM_stands0_180 (w32_id (hF.2 c1).1.1) ?_
    refine K_aload_n 0 76 dM_stands0_181 rfl rfl ?_
    refine K_getf 12 26 76 (jvR 93) dM_stands0_182 pf_M_64 rfl rfl (by decide) rfl rfl ?_
    refine K_iload_n 1 l1 dM_stands0_185 rfl rfl ?_
    refine K_iald 93 24 dM_stands0_186 rfl rfl (by decide) (hF.2 c1).1.2.1 ?_
    refine K_iast 93 24 dM_stands0_187 rfl rfl (by decide) (hF.2 c1).1.2.2.1 ?_
    refine K_aload_n 0 76 dM_stands0_188 rfl rfl ?_
    refine K_getf 12 45 76 (jvR 107) dM_stands0_189 pf_M_106 rfl rfl (by decide) rfl rfl ?_
    refine K_iload_n 1 l1 dM_stands0_192 rfl rfl ?_
    refine K_iconst 0 dM_stands0_193 rfl ?_
    refine K_zast 107 12 dM_stands0_194 rfl rfl (by decide) (hF.2 c1).1.2.2.2.1 (by decide) ?_
    refine K_iinc 1 dM_stands0_195 (Nat.le_of_ble_eq_true rfl) rfl (w32_ok (hF.2 c1).1.2.2.2.2) rfl ?_
    refine K_goto 167 dM_stands0_198 (by decide) ?_
    exact (hF.2 c1).2
set_option maxHeartbeats 8000000 in
theorem vM_stands0_203 {E : jE} {μ : jMu} {Q : Option AV → jMu → Prop} {l1 : Int} (hF : ((40 ≤ l1 → (K 121 E mM_stands0 232 [some (jvR 76), some (jvI 0)] [] μ Q)) ∧ (¬ (40 ≤ l1) → ((-2147483648 ≤ (40 + l1) ∧ (40 + l1) < 2147483648) ∧ (0 ≤ l1 ∧ l1 < 80) ∧ (0 ≤ (40 + l1) ∧ (40 + l1) < 80) ∧ (-2147483648 ≤ (l1 + 1) ∧ (l1 + 1) < 2147483648)) ∧ (K 121 E mM_stands0 203 [some (jvR 76), some (jvI (l1 + 1))] [] (j_up μ 94 (40 + l1) (μ 94 l1)) Q)))) : K 121 E mM_stands0 203 [some (jvR 76), some (jvI l1)] [] μ Q := by
  refine K_iload_n 1 l1 dM_stands0_203 rfl rfl ?_
  refine K_bipush 40 dM_stands0_204 rfl ?_
  refine K_icmp_ge 230 dM_stands0_206 (by decide) (fun c1 => ?_) (fun c1 => ?_)
  · refine K_iconst 0 dM_stands0_230 rfl ?_
    refine K_istore_n 1 dM_stands0_231 rfl (Nat.le_of_ble_eq_true rfl) rfl ?_
    exact (hF.1 c1)
  · refine K_aload_n 0 76 dM_stands0_209 rfl rfl ?_
    refine K_getf 12 27 76 (jvR 94) dM_stands0_210 pf_M_67 rfl rfl (by decide) rfl rfl ?_
    refine K_bipush 40 dM_stands0_213 rfl ?_
    refine K_iload_n 1 l1 dM_stands0_215 rfl rfl ?_
    refine K_iadd dM_stands0_216 (w32_id (hF.2 c1).1.1) ?_
    refine K_aload_n 0 76 dM_stands0_217 rfl rfl ?_
    refine K_getf 12 27 76 (jvR 94) dM_stands0_218 pf_M_67 rfl rfl (by decide) rfl rfl ?_
    refine K_iload_n 1 l1 dM_stands0_221 rfl rfl ?_
    refine K_iald 94 80 dM_stands0_222 rfl rfl (by decide) (hF.2 c1).1.2.1 ?_
    refine K_iast 94 80 dM_stands0_223 rfl rfl (by decide) (hF.2 c1).1.2.2.1 ?_
    refine K_iinc 1 dM_stands0_224 (Nat.le_of_ble_eq_true rfl) rfl (w32_ok (hF.2 c1).1.2.2.2) rfl ?_
    refine K_goto 203 dM_stands0_227 (by decide) ?_
    exact (hF.2 c1).2
set_option maxHeartbeats 8000000 in
theorem vM_stands0_232 {E : jE} {μ : jMu} {Q : Option AV → jMu → Prop} {l1 : Int} (hF : ((120 ≤ l1 → (K 121 E mM_stands0 261 [some (jvR 76), some (jvI 0)] [] μ Q)) ∧ (¬ (120 ≤ l1) → ((-2147483648 ≤ (120 + l1) ∧ (120 + l1) < 2147483648) ∧ (0 ≤ l1 ∧ l1 < 240) ∧ (0 ≤ (120 + l1) ∧ (120 + l1) < 240) ∧ (-2147483648 ≤ (l1 + 1) ∧ (l1 + 1) < 2147483648)) ∧ (K 121 E mM_stands0 232 [some (jvR 76), some (jvI (l1 + 1))] [] (j_up μ 95 (120 + l1) (μ 95 l1)) Q)))) : K 121 E mM_stands0 232 [some (jvR 76), some (jvI l1)] [] μ Q := by
  refine K_iload_n 1 l1 dM_stands0_232 rfl rfl ?_
  refine K_bipush 120 dM_stands0_233 rfl ?_
  refine K_icmp_ge 259 dM_stands0_235 (by decide) (fun c1 => ?_) (fun c1 => ?_)
  · refine K_iconst 0 dM_stands0_259 rfl ?_
    refine K_istore_n 1 dM_stands0_260 rfl (Nat.le_of_ble_eq_true rfl) rfl ?_
    exact (hF.1 c1)
  · refine K_aload_n 0 76 dM_stands0_238 rfl rfl ?_
    refine K_getf 12 28 76 (jvR 95) dM_stands0_239 pf_M_70 rfl rfl (by decide) rfl rfl ?_
    refine K_bipush 120 dM_stands0_242 rfl ?_
    refine K_iload_n 1 l1 dM_stands0_244 rfl rfl ?_
    refine K_iadd dM_stands0_245 (w32_id (hF.2 c1).1.1) ?_
    refine K_aload_n 0 76 dM_stands0_246 rfl rfl ?_
    refine K_getf 12 28 76 (jvR 95) dM_stands0_247 pf_M_70 rfl rfl (by decide) rfl rfl ?_
    refine K_iload_n 1 l1 dM_stands0_250 rfl rfl ?_
    refine K_iald 95 240 dM_stands0_251 rfl rfl (by decide) (hF.2 c1).1.2.1 ?_
    refine K_iast 95 240 dM_stands0_252 rfl rfl (by decide) (hF.2 c1).1.2.2.1 ?_
    refine K_iinc 1 dM_stands0_253 (Nat.le_of_ble_eq_true rfl) rfl (w32_ok (hF.2 c1).1.2.2.2) rfl ?_
    refine K_goto 232 dM_stands0_256 (by decide) ?_
    exact (hF.2 c1).2
set_option maxHeartbeats 8000000 in
theorem vM_stands0_261 {E : jE} {μ : jMu} {Q : Option AV → jMu → Prop} {l1 : Int} (hF : ((6 ≤ l1 → ((¬ (μ 76 32) = (-1) → (Cv E mM_knows [jvR 76] (j_up μ 76 33 (μ 76 32)) (fun μ5 => (Q none μ5)))) ∧ ((μ 76 32) = (-1) → ((-2147483648 ≤ ((μ 87 4) - 1) ∧ ((μ 87 4) - 1) < 2147483648)) ∧ (Cv E mM_knows [jvR 76] (j_up μ 76 33 ((μ 87 4) - 1)) (fun μ9 => (Q none μ9)))))) ∧ (¬ (6 ≤ l1) → ((-2147483648 ≤ (6 + l1) ∧ (6 + l1) < 2147483648) ∧ (0 ≤ l1 ∧ l1 < 12) ∧ (0 ≤ (6 + l1) ∧ (6 + l1) < 12) ∧ (-2147483648 ≤ (6 + l1) ∧ (6 + l1) < 2147483648) ∧ (0 ≤ l1 ∧ l1 < 12) ∧ (0 ≤ (6 + l1) ∧ (6 + l1) < 12) ∧ (-2147483648 ≤ (6 + l1) ∧ (6 + l1) < 2147483648) ∧ (0 ≤ l1 ∧ l1 < 12) ∧ (0 ≤ (6 + l1) ∧ (6 + l1) < 12) ∧ (0 ≤ l1 ∧ l1 < 6) ∧ (-2147483648 ≤ (l1 + 1) ∧ (l1 + 1) < 2147483648)) ∧ (K 121 E mM_stands0 261 [some (jvR 76), some (jvI (l1 + 1))] [] (j_up (j_up (j_up (j_up μ 96 (6 + l1) (μ 96 l1)) 97 (6 + l1) (μ 97 l1)) 98 (6 + l1) (μ 98 l1)) 109 l1 0) Q)))) : K 121 E mM_stands0 261 [some (jvR 76), some (jvI l1)] [] μ Q := by
  refine K_iload_n 1 l1 dM_stands0_261 rfl rfl ?_
  refine K_bipush 6 dM_stands0_262 rfl ?_
  refine K_icmp_ge 325 dM_stands0_264 (by decide) (fun c1 => ?_) (fun c1 => ?_)
  · refine K_aload_n 0 76 dM_stands0_325 rfl rfl ?_
    refine K_aload_n 0 76 dM_stands0_326 rfl rfl ?_
    refine K_getf 12 32 76 (jvI (μ 76 32)) dM_stands0_327 pf_M_276 rfl rfl (by decide) rfl rfl ?_
    refine K_iconst (-1) dM_stands0_330 rfl ?_
    refine K_icmp_ne 345 dM_stands0_331 (by decide) (fun c3 => ?_) (fun c3 => ?_)
    · refine K_aload_n 0 76 dM_stands0_345 rfl rfl ?_
      refine K_getf 12 32 76 (jvI (μ 76 32)) dM_stands0_346 pf_M_276 rfl rfl (by decide) rfl rfl ?_
      refine K_putf 12 33 76 (x := (μ 76 32)) dM_stands0_349 pf_M_288 rfl rfl (by decide) rfl rfl rfl rfl trivial ?_
      refine K_aload_n 0 76 dM_stands0_352 rfl rfl ?_
      refine K_callVv mM_knows 12 76 [] dM_stands0_353 pm_M_291 ⟨_, rfl, rfl⟩ ⟨(Nat.le_of_ble_eq_true rfl), (Nat.le_of_ble_eq_true rfl)⟩ rfl rfl (by decide) (Nat.le_of_ble_eq_true rfl) rfl (Nat.le_of_ble_eq_true rfl) (by decide) (Cv_mono ((hF.1 c1).1 c3) (fun μ5 h6 => ?_))
      exact K_vret dM_stands0_356 rfl h6
    · refine K_aload_n 0 76 dM_stands0_334 rfl rfl ?_
      refine K_getf 12 19 76 (jvR 87) dM_stands0_335 pf_M_45 rfl rfl (by decide) rfl rfl ?_
      refine K_iconst 4 dM_stands0_338 rfl ?_
      refine K_iald 87 10 dM_stands0_339 rfl rfl (by decide) (by decide) ?_
      refine K_iconst 1 dM_stands0_340 rfl ?_
      refine K_isub dM_stands0_341 (w32_id ((hF.1 c1).2 c3).1) ?_
      refine K_goto 349 dM_stands0_342 (by decide) ?_
      refine K_putf 12 33 76 (x := ((μ 87 4) - 1)) dM_stands0_349 pf_M_288 rfl rfl (by decide) rfl rfl rfl rfl trivial ?_
      refine K_aload_n 0 76 dM_stands0_352 rfl rfl ?_
      refine K_callVv mM_knows 12 76 [] dM_stands0_353 pm_M_291 ⟨_, rfl, rfl⟩ ⟨(Nat.le_of_ble_eq_true rfl), (Nat.le_of_ble_eq_true rfl)⟩ rfl rfl (by decide) (Nat.le_of_ble_eq_true rfl) rfl (Nat.le_of_ble_eq_true rfl) (by decide) (Cv_mono ((hF.1 c1).2 c3).2 (fun μ9 h10 => ?_))
      exact K_vret dM_stands0_356 rfl h10
  · refine K_aload_n 0 76 dM_stands0_267 rfl rfl ?_
    refine K_getf 12 29 76 (jvR 96) dM_stands0_268 pf_M_73 rfl rfl (by decide) rfl rfl ?_
    refine K_bipush 6 dM_stands0_271 rfl ?_
    refine K_iload_n 1 l1 dM_stands0_273 rfl rfl ?_
    refine K_iadd dM_stands0_274 (w32_id (hF.2 c1).1.1) ?_
    refine K_aload_n 0 76 dM_stands0_275 rfl rfl ?_
    refine K_getf 12 29 76 (jvR 96) dM_stands0_276 pf_M_73 rfl rfl (by decide) rfl rfl ?_
    refine K_iload_n 1 l1 dM_stands0_279 rfl rfl ?_
    refine K_iald 96 12 dM_stands0_280 rfl rfl (by decide) (hF.2 c1).1.2.1 ?_
    refine K_iast 96 12 dM_stands0_281 rfl rfl (by decide) (hF.2 c1).1.2.2.1 ?_
    refine K_aload_n 0 76 dM_stands0_282 rfl rfl ?_
    refine K_getf 12 30 76 (jvR 97) dM_stands0_283 pf_M_76 rfl rfl (by decide) rfl rfl ?_
    refine K_bipush 6 dM_stands0_286 rfl ?_
    refine K_iload_n 1 l1 dM_stands0_288 rfl rfl ?_
    refine K_iadd dM_stands0_289 (w32_id (hF.2 c1).1.2.2.2.1) ?_
    refine K_aload_n 0 76 dM_stands0_290 rfl rfl ?_
    refine K_getf 12 30 76 (jvR 97) dM_stands0_291 pf_M_76 rfl rfl (by decide) rfl rfl ?_
    refine K_iload_n 1 l1 dM_stands0_294 rfl rfl ?_
    refine K_iald 97 12 dM_stands0_295 rfl rfl (by decide) (hF.2 c1).1.2.2.2.2.1 ?_
    refine K_iast 97 12 dM_stands0_296 rfl rfl (by decide) (hF.2 c1).1.2.2.2.2.2.1 ?_
    refine K_aload_n 0 76 dM_stands0_297 rfl rfl ?_
    refine K_getf 12 31 76 (jvR 98) dM_stands0_298 pf_M_79 rfl rfl (by decide) rfl rfl ?_
    refine K_bipush 6 dM_stands0_301 rfl ?_
    refine K_iload_n 1 l1 dM_stands0_303 rfl rfl ?_
    refine K_iadd dM_stands0_304 (w32_id (hF.2 c1).1.2.2.2.2.2.2.1) ?_
    refine K_aload_n 0 76 dM_stands0_305 rfl rfl ?_
    refine K_getf 12 31 76 (jvR 98) dM_stands0_306 pf_M_79 rfl rfl (by decide) rfl rfl ?_
    refine K_iload_n 1 l1 dM_stands0_309 rfl rfl ?_
    refine K_iald 98 12 dM_stands0_310 rfl rfl (by decide) (hF.2 c1).1.2.2.2.2.2.2.2.1 ?_
    refine K_iast 98 12 dM_stands0_311 rfl rfl (by decide) (hF.2 c1).1.2.2.2.2.2.2.2.2.1 ?_
    refine K_aload_n 0 76 dM_stands0_312 rfl rfl ?_
    refine K_getf 12 47 76 (jvR 109) dM_stands0_313 pf_M_113 rfl rfl (by decide) rfl rfl ?_
    refine K_iload_n 1 l1 dM_stands0_316 rfl rfl ?_
    refine K_iconst 0 dM_stands0_317 rfl ?_
    refine K_zast 109 6 dM_stands0_318 rfl rfl (by decide) (hF.2 c1).1.2.2.2.2.2.2.2.2.2.1 (by decide) ?_
    refine K_iinc 1 dM_stands0_319 (Nat.le_of_ble_eq_true rfl) rfl (w32_ok (hF.2 c1).1.2.2.2.2.2.2.2.2.2.2) rfl ?_
    refine K_goto 261 dM_stands0_322 (by decide) ?_
    exact (hF.2 c1).2
set_option maxHeartbeats 8000000 in
theorem vM_knows_0 {E : jE} {μ : jMu} {Q : Option AV → jMu → Prop} (hF : (K 121 E mM_knows 2 [some (jvR 76), some (jvI 0), none, none, none] [] μ Q)) : K 121 E mM_knows 0 [some (jvR 76), none, none, none, none] [] μ Q := by
  refine K_iconst 0 dM_knows_0 rfl ?_
  refine K_istore_n 1 dM_knows_1 rfl (Nat.le_of_ble_eq_true rfl) rfl ?_
  exact hF
set_option maxHeartbeats 8000000 in
theorem vM_knows_2 {E : jE} {μ : jMu} {Q : Option AV → jMu → Prop} {l1 : Int} (hF : (Ci E mM_steps [jvR 76] μ (fun r4 μ1 => ((r4 ≤ l1 → (Ci E mM_steps [jvR 76] (j_up μ1 76 44 0) (fun r10 μ7 => ((¬ r10 = 0 → ((0 ≤ (μ7 76 33) ∧ (μ7 76 33) < 40)) ∧ (Ci E mM_steps [jvR 76] μ7 (fun r16 μ13 => ((-2147483648 ≤ (r16 - 1) ∧ (r16 - 1) < 2147483648)) ∧ (K 121 E mM_knows 146 [some (jvR 76), some (jvL (ishl64 1 (μ7 103 (μ7 76 33)))), none, some (jvI (r16 - 1)), none] [] μ13 Q)))) ∧ (r10 = 0 → (Q none μ7)))))) ∧ (¬ (r4 ≤ l1) → (K 121 E mM_knows 12 [some (jvR 76), some (jvI l1), some (jvI 0), none, none] [] μ1 Q)))))) : K 121 E mM_knows 2 [some (jvR 76), some (jvI l1), none, none, none] [] μ Q := by
  refine K_iload_n 1 l1 dM_knows_2 rfl rfl ?_
  refine K_aload_n 0 76 dM_knows_3 rfl rfl ?_
  refine K_callVi mM_steps 12 76 [] dM_knows_4 pm_M_294 ⟨_, rfl, rfl⟩ ⟨(Nat.le_of_ble_eq_true rfl), (Nat.le_of_ble_eq_true rfl)⟩ rfl rfl (by decide) (Nat.le_of_ble_eq_true rfl) rfl (Nat.le_of_ble_eq_true rfl) (by decide) (Ci_mono hF (fun r4 μ1 h2 => ?_))
  refine K_icmp_ge 114 dM_knows_7 (by decide) (fun c5 => ?_) (fun c5 => ?_)
  · refine K_aload_n 0 76 dM_knows_114 rfl rfl ?_
    refine K_iconst 0 dM_knows_115 rfl ?_
    refine K_putf 12 44 76 (x := 0) dM_knows_116 pf_M_331 rfl rfl (by decide) rfl rfl rfl rfl trivial ?_
    refine K_aload_n 0 76 dM_knows_119 rfl rfl ?_
    refine K_callVi mM_steps 12 76 [] dM_knows_120 pm_M_294 ⟨_, rfl, rfl⟩ ⟨(Nat.le_of_ble_eq_true rfl), (Nat.le_of_ble_eq_true rfl)⟩ rfl rfl (by decide) (Nat.le_of_ble_eq_true rfl) rfl (Nat.le_of_ble_eq_true rfl) (by decide) (Ci_mono (h2.1 c5) (fun r10 μ7 h8 => ?_))
    refine K_if_ne 127 dM_knows_123 (by decide) (fun c11 => ?_) (fun c11 => ?_)
    · refine K_lconst 1 dM_knows_127 rfl ?_
      refine K_aload_n 0 76 dM_knows_128 rfl rfl ?_
      refine K_getf 12 40 76 (jvR 103) dM_knows_129 pf_M_94 rfl rfl (by decide) rfl rfl ?_
      refine K_aload_n 0 76 dM_knows_132 rfl rfl ?_
      refine K_getf 12 33 76 (jvI (μ7 76 33)) dM_knows_133 pf_M_288 rfl rfl (by decide) rfl rfl ?_
      refine K_iald 103 40 dM_knows_136 rfl rfl (by decide) (h8.1 c11).1 ?_
      refine K_lshl dM_knows_137 rfl ?_
      refine K_lstore_n 1 dM_knows_138 rfl (Nat.le_of_ble_eq_true rfl) rfl ?_
      refine K_aload_n 0 76 dM_knows_139 rfl rfl ?_
      refine K_callVi mM_steps 12 76 [] dM_knows_140 pm_M_294 ⟨_, rfl, rfl⟩ ⟨(Nat.le_of_ble_eq_true rfl), (Nat.le_of_ble_eq_true rfl)⟩ rfl rfl (by decide) (Nat.le_of_ble_eq_true rfl) rfl (Nat.le_of_ble_eq_true rfl) (by decide) (Ci_mono (h8.1 c11).2 (fun r16 μ13 h14 => ?_))
      refine K_iconst 1 dM_knows_143 rfl ?_
      refine K_isub dM_knows_144 (w32_id h14.1) ?_
      refine K_istore_n 3 dM_knows_145 rfl (Nat.le_of_ble_eq_true rfl) rfl ?_
      exact h14.2
    · exact K_vret dM_knows_126 rfl (h8.2 c11)
  · refine K_iconst 0 dM_knows_10 rfl ?_
    refine K_istore_n 2 dM_knows_11 rfl (Nat.le_of_ble_eq_true rfl) rfl ?_
    exact (h2.2 c5)
set_option maxHeartbeats 8000000 in
theorem vM_knows_12 {E : jE} {μ : jMu} {Q : Option AV → jMu → Prop} {l1 l2 : Int} (hF : ((-2147483648 ≤ (48 + l2) ∧ (48 + l2) < 2147483648)) ∧ (Ci E mM_fromOf [jvR 76, jvI (48 + l2)] μ (fun r4 μ1 => ((-2147483648 ≤ (48 + l1) ∧ (48 + l1) < 2147483648)) ∧ (Ci E mM_fromOf [jvR 76, jvI (48 + l1)] μ1 (fun r8 μ5 => (Ci E mM_areSame [jvR 76, jvI r4, jvI r8] μ5 (fun r12 μ9 => ((¬ r12 = 0 → ((0 ≤ l1 ∧ l1 < 40) ∧ (0 ≤ l1 ∧ l1 < 40)) ∧ (K 121 E mM_knows 57 [some (jvR 76), some (jvI l1), some (jvI l2), some (jvI 0), none] [] (j_up (j_up μ9 103 l1 l2) 104 l1 0) Q)) ∧ (r12 = 0 → ((-2147483648 ≤ (l2 + 1) ∧ (l2 + 1) < 2147483648)) ∧ (K 121 E mM_knows 12 [some (jvR 76), some (jvI l1), some (jvI (l2 + 1)), none, none] [] μ9 Q)))))))))) : K 121 E mM_knows 12 [some (jvR 76), some (jvI l1), some (jvI l2), none, none] [] μ Q := by
  refine K_aload_n 0 76 dM_knows_12 rfl rfl ?_
  refine K_aload_n 0 76 dM_knows_13 rfl rfl ?_
  refine K_bipush 48 dM_knows_14 rfl ?_
  refine K_iload_n 2 l2 dM_knows_16 rfl rfl ?_
  refine K_iadd dM_knows_17 (w32_id hF.1) ?_
  refine K_callVi mM_fromOf 12 76 [jvI (48 + l2)] dM_knows_18 pm_M_313 ⟨_, rfl, rfl⟩ ⟨(Nat.le_of_ble_eq_true rfl), (Nat.le_of_ble_eq_true rfl)⟩ rfl rfl (by decide) (Nat.le_of_ble_eq_true rfl) rfl (Nat.le_of_ble_eq_true rfl) (by decide) (Ci_mono hF.2 (fun r4 μ1 h2 => ?_))
  refine K_aload_n 0 76 dM_knows_21 rfl rfl ?_
  refine K_bipush 48 dM_knows_22 rfl ?_
  refine K_iload_n 1 l1 dM_knows_24 rfl rfl ?_
  refine K_iadd dM_knows_25 (w32_id h2.1) ?_
  refine K_callVi mM_fromOf 12 76 [jvI (48 + l1)] dM_knows_26 pm_M_313 ⟨_, rfl, rfl⟩ ⟨(Nat.le_of_ble_eq_true rfl), (Nat.le_of_ble_eq_true rfl)⟩ rfl rfl (by decide) (Nat.le_of_ble_eq_true rfl) rfl (Nat.le_of_ble_eq_true rfl) (by decide) (Ci_mono h2.2 (fun r8 μ5 h6 => ?_))
  refine K_callVi mM_areSame 12 76 [jvI r4, jvI r8] dM_knows_29 pm_M_306 ⟨_, rfl, rfl⟩ ⟨(Nat.le_of_ble_eq_true rfl), (Nat.le_of_ble_eq_true rfl)⟩ rfl rfl (by decide) (Nat.le_of_ble_eq_true rfl) rfl (Nat.le_of_ble_eq_true rfl) (by decide) (Ci_mono h6 (fun r12 μ9 h10 => ?_))
  refine K_if_ne 41 dM_knows_32 (by decide) (fun c13 => ?_) (fun c13 => ?_)
  · refine K_aload_n 0 76 dM_knows_41 rfl rfl ?_
    refine K_getf 12 40 76 (jvR 103) dM_knows_42 pf_M_94 rfl rfl (by decide) rfl rfl ?_
    refine K_iload_n 1 l1 dM_knows_45 rfl rfl ?_
    refine K_iload_n 2 l2 dM_knows_46 rfl rfl ?_
    refine K_iast 103 40 dM_knows_47 rfl rfl (by decide) (h10.1 c13).1.1 ?_
    refine K_aload_n 0 76 dM_knows_48 rfl rfl ?_
    refine K_getf 12 41 76 (jvR 104) dM_knows_49 pf_M_97 rfl rfl (by decide) rfl rfl ?_
    refine K_iload_n 1 l1 dM_knows_52 rfl rfl ?_
    refine K_lconst 0 dM_knows_53 rfl ?_
    refine K_last 104 40 dM_knows_54 rfl rfl (by decide) (h10.1 c13).1.2 ?_
    refine K_iconst 0 dM_knows_55 rfl ?_
    refine K_istore_n 3 dM_knows_56 rfl (Nat.le_of_ble_eq_true rfl) rfl ?_
    exact (h10.1 c13).2
  · refine K_iinc 2 dM_knows_35 (Nat.le_of_ble_eq_true rfl) rfl (w32_ok (h10.2 c13).1) rfl ?_
    refine K_goto 12 dM_knows_38 (by decide) ?_
    exact (h10.2 c13).2
set_option maxHeartbeats 8000000 in
theorem vM_knows_57 {E : jE} {μ : jMu} {Q : Option AV → jMu → Prop} {l1 l2 l3 : Int} (hF : (Ci E mM_namesMany [jvR 76, jvI l1] μ (fun r4 μ1 => ((r4 ≤ l3 → ((0 ≤ l1 ∧ l1 < 40) ∧ (-2147483648 ≤ (l1 + 1) ∧ (l1 + 1) < 2147483648)) ∧ (K 121 E mM_knows 2 [some (jvR 76), some (jvI (l1 + 1)), none, none, none] [] (j_up μ1 106 l1 (-1)) Q)) ∧ (¬ (r4 ≤ l3) → ((0 ≤ l1 ∧ l1 < 40)) ∧ (Ci E mM_namedBy [jvR 76, jvI l1, jvI l3] μ1 (fun r10 μ7 => (Ci E mM_namedBy [jvR 76, jvI l1, jvI l3] μ7 (fun r14 μ11 => ((0 ≤ r14 ∧ r14 < 40) ∧ (0 ≤ l1 ∧ l1 < 40) ∧ (-2147483648 ≤ (l3 + 1) ∧ (l3 + 1) < 2147483648)) ∧ (K 121 E mM_knows 57 [some (jvR 76), some (jvI l1), some (jvI l2), some (jvI (l3 + 1)), none] [] (j_up μ11 104 l1 (ior64 (μ1 104 l1) (ior64 (ishl64 1 r10) (μ11 104 r14)))) Q)))))))))) : K 121 E mM_knows 57 [some (jvR 76), some (jvI l1), some (jvI l2), some (jvI l3), none] [] μ Q := by
  refine K_iload_n 3 l3 dM_knows_57 rfl rfl ?_
  refine K_aload_n 0 76 dM_knows_58 rfl rfl ?_
  refine K_iload_n 1 l1 dM_knows_59 rfl rfl ?_
  refine K_callVi mM_namesMany 12 76 [jvI l1] dM_knows_60 pm_M_328 ⟨_, rfl, rfl⟩ ⟨(Nat.le_of_ble_eq_true rfl), (Nat.le_of_ble_eq_true rfl)⟩ rfl rfl (by decide) (Nat.le_of_ble_eq_true rfl) rfl (Nat.le_of_ble_eq_true rfl) (by decide) (Ci_mono hF (fun r4 μ1 h2 => ?_))
  refine K_icmp_ge 101 dM_knows_63 (by decide) (fun c5 => ?_) (fun c5 => ?_)
  · refine K_aload_n 0 76 dM_knows_101 rfl rfl ?_
    refine K_getf 12 43 76 (jvR 106) dM_knows_102 pf_M_103 rfl rfl (by decide) rfl rfl ?_
    refine K_iload_n 1 l1 dM_knows_105 rfl rfl ?_
    refine K_iconst (-1) dM_knows_106 rfl ?_
    refine K_iast 106 40 dM_knows_107 rfl rfl (by decide) (h2.1 c5).1.1 ?_
    refine K_iinc 1 dM_knows_108 (Nat.le_of_ble_eq_true rfl) rfl (w32_ok (h2.1 c5).1.2) rfl ?_
    refine K_goto 2 dM_knows_111 (by decide) ?_
    exact K_forget [true, true, false, false, true] (h2.1 c5).2
  · refine K_aload_n 0 76 dM_knows_66 rfl rfl ?_
    refine K_getf 12 41 76 (jvR 104) dM_knows_67 pf_M_97 rfl rfl (by decide) rfl rfl ?_
    refine K_iload_n 1 l1 dM_knows_70 rfl rfl ?_
    refine K_dup2 dM_knows_71 (fun _ h => by cases h) (fun _ h => by cases h) ?_
    refine K_lald 104 40 dM_knows_72 rfl rfl (by decide) (h2.2 c5).1 ?_
    refine K_lconst 1 dM_knows_73 rfl ?_
    refine K_aload_n 0 76 dM_knows_74 rfl rfl ?_
    refine K_iload_n 1 l1 dM_knows_75 rfl rfl ?_
    refine K_iload_n 3 l3 dM_knows_76 rfl rfl ?_
    refine K_callVi mM_namedBy 12 76 [jvI l1, jvI l3] dM_knows_77 pm_M_319 ⟨_, rfl, rfl⟩ ⟨(Nat.le_of_ble_eq_true rfl), (Nat.le_of_ble_eq_true rfl)⟩ rfl rfl (by decide) (Nat.le_of_ble_eq_true rfl) rfl (Nat.le_of_ble_eq_true rfl) (by decide) (Ci_mono (h2.2 c5).2 (fun r10 μ7 h8 => ?_))
    refine K_lshl dM_knows_80 rfl ?_
    refine K_aload_n 0 76 dM_knows_81 rfl rfl ?_
    refine K_getf 12 41 76 (jvR 104) dM_knows_82 pf_M_97 rfl rfl (by decide) rfl rfl ?_
    refine K_aload_n 0 76 dM_knows_85 rfl rfl ?_
    refine K_iload_n 1 l1 dM_knows_86 rfl rfl ?_
    refine K_iload_n 3 l3 dM_knows_87 rfl rfl ?_
    refine K_callVi mM_namedBy 12 76 [jvI l1, jvI l3] dM_knows_88 pm_M_319 ⟨_, rfl, rfl⟩ ⟨(Nat.le_of_ble_eq_true rfl), (Nat.le_of_ble_eq_true rfl)⟩ rfl rfl (by decide) (Nat.le_of_ble_eq_true rfl) rfl (Nat.le_of_ble_eq_true rfl) (by decide) (Ci_mono h8 (fun r14 μ11 h12 => ?_))
    refine K_lald 104 40 dM_knows_91 rfl rfl (by decide) h12.1.1 ?_
    refine K_lor dM_knows_92 rfl ?_
    refine K_lor dM_knows_93 rfl ?_
    refine K_last 104 40 dM_knows_94 rfl rfl (by decide) h12.1.2.1 ?_
    refine K_iinc 3 dM_knows_95 (Nat.le_of_ble_eq_true rfl) rfl (w32_ok h12.1.2.2) rfl ?_
    refine K_goto 57 dM_knows_98 (by decide) ?_
    exact h12.2
set_option maxHeartbeats 8000000 in
theorem vM_knows_146 {E : jE} {μ : jMu} {Q : Option AV → jMu → Prop} {l1 l3 : Int} (hF : ((l3 < 0 → (K 121 E mM_knows 204 [some (jvR 76), some (jvL l1), none, some (jvI 0), none] [] μ Q)) ∧ (¬ (l3 < 0) → (K 121 E mM_knows 153 [some (jvR 76), some (jvL l1), none, some (jvI l3), some (jvI 0)] [] μ Q)))) : K 121 E mM_knows 146 [some (jvR 76), some (jvL l1), none, some (jvI l3), none] [] μ Q := by
  refine K_iload_n 3 l3 dM_knows_146 rfl rfl ?_
  refine K_if_lt 202 dM_knows_147 (by decide) (fun c1 => ?_) (fun c1 => ?_)
  · refine K_iconst 0 dM_knows_202 rfl ?_
    refine K_istore_n 3 dM_knows_203 rfl (Nat.le_of_ble_eq_true rfl) rfl ?_
    exact (hF.1 c1)
  · refine K_iconst 0 dM_knows_150 rfl ?_
    refine K_istore 4 dM_knows_151 (Nat.le_of_ble_eq_true rfl) rfl ?_
    exact (hF.2 c1)
set_option maxHeartbeats 8000000 in
theorem vM_knows_153 {E : jE} {μ : jMu} {Q : Option AV → jMu → Prop} {l1 l3 l4 : Int} (hF : (Ci E mM_namesMany [jvR 76, jvI l3] μ (fun r4 μ1 => ((r4 ≤ l4 → ((-2147483648 ≤ (l3 - 1) ∧ (l3 - 1) < 2147483648)) ∧ (K 121 E mM_knows 146 [some (jvR 76), some (jvL l1), none, some (jvI (l3 - 1)), none] [] μ1 Q)) ∧ (¬ (r4 ≤ l4) → ((¬ (iand64 (ishr64 l1 l3) 1) = 1 → ((-2147483648 ≤ (l4 + 1) ∧ (l4 + 1) < 2147483648)) ∧ (K 121 E mM_knows 153 [some (jvR 76), some (jvL l1), none, some (jvI l3), some (jvI (l4 + 1))] [] μ1 Q)) ∧ ((iand64 (ishr64 l1 l3) 1) = 1 → (Ci E mM_namedBy [jvR 76, jvI l3, jvI l4] μ1 (fun r12 μ9 => ((0 ≤ r12 ∧ r12 < 40) ∧ (-2147483648 ≤ (l4 + 1) ∧ (l4 + 1) < 2147483648)) ∧ (K 121 E mM_knows 153 [some (jvR 76), some (jvL (ior64 l1 (ishl64 1 (μ9 103 r12)))), none, some (jvI l3), some (jvI (l4 + 1))] [] μ9 Q)))))))))) : K 121 E mM_knows 153 [some (jvR 76), some (jvL l1), none, some (jvI l3), some (jvI l4)] [] μ Q := by
  refine K_iload 4 l4 dM_knows_153 rfl ?_
  refine K_aload_n 0 76 dM_knows_155 rfl rfl ?_
  refine K_iload_n 3 l3 dM_knows_156 rfl rfl ?_
  refine K_callVi mM_namesMany 12 76 [jvI l3] dM_knows_157 pm_M_328 ⟨_, rfl, rfl⟩ ⟨(Nat.le_of_ble_eq_true rfl), (Nat.le_of_ble_eq_true rfl)⟩ rfl rfl (by decide) (Nat.le_of_ble_eq_true rfl) rfl (Nat.le_of_ble_eq_true rfl) (by decide) (Ci_mono hF (fun r4 μ1 h2 => ?_))
  refine K_icmp_ge 196 dM_knows_160 (by decide) (fun c5 => ?_) (fun c5 => ?_)
  · refine K_iinc 3 dM_knows_196 (Nat.le_of_ble_eq_true rfl) rfl (w32_okn (h2.1 c5).1) rfl ?_
    refine K_goto 146 dM_knows_199 (by decide) ?_
    exact K_forget [true, true, true, true, false] (h2.1 c5).2
  · refine K_lload_n 1 l1 dM_knows_163 rfl rfl ?_
    refine K_iload_n 3 l3 dM_knows_164 rfl rfl ?_
    refine K_lshr dM_knows_165 rfl ?_
    refine K_lconst 1 dM_knows_166 rfl ?_
    refine K_land dM_knows_167 rfl ?_
    refine K_lconst 1 dM_knows_168 rfl ?_
    refine K_lcmp_ne 190 dM_knows_169 dM_knows_170 (by decide) (fun c7 => ?_) (fun c7 => ?_)
    · refine K_iinc 4 dM_knows_190 (Nat.le_of_ble_eq_true rfl) rfl (w32_ok ((h2.2 c5).1 c7).1) rfl ?_
      refine K_goto 153 dM_knows_193 (by decide) ?_
      exact ((h2.2 c5).1 c7).2
    · refine K_lload_n 1 l1 dM_knows_173 rfl rfl ?_
      refine K_lconst 1 dM_knows_174 rfl ?_
      refine K_aload_n 0 76 dM_knows_175 rfl rfl ?_
      refine K_getf 12 40 76 (jvR 103) dM_knows_176 pf_M_94 rfl rfl (by decide) rfl rfl ?_
      refine K_aload_n 0 76 dM_knows_179 rfl rfl ?_
      refine K_iload_n 3 l3 dM_knows_180 rfl rfl ?_
      refine K_iload 4 l4 dM_knows_181 rfl ?_
      refine K_callVi mM_namedBy 12 76 [jvI l3, jvI l4] dM_knows_183 pm_M_319 ⟨_, rfl, rfl⟩ ⟨(Nat.le_of_ble_eq_true rfl), (Nat.le_of_ble_eq_true rfl)⟩ rfl rfl (by decide) (Nat.le_of_ble_eq_true rfl) rfl (Nat.le_of_ble_eq_true rfl) (by decide) (Ci_mono ((h2.2 c5).2 c7) (fun r12 μ9 h10 => ?_))
      refine K_iald 103 40 dM_knows_186 rfl rfl (by decide) h10.1.1 ?_
      refine K_lshl dM_knows_187 rfl ?_
      refine K_lor dM_knows_188 rfl ?_
      refine K_lstore_n 1 dM_knows_189 rfl (Nat.le_of_ble_eq_true rfl) rfl ?_
      refine K_iinc 4 dM_knows_190 (Nat.le_of_ble_eq_true rfl) rfl (w32_ok h10.1.2) rfl ?_
      refine K_goto 153 dM_knows_193 (by decide) ?_
      exact h10.2
set_option maxHeartbeats 8000000 in
theorem vM_knows_204 {E : jE} {μ : jMu} {Q : Option AV → jMu → Prop} {l1 l3 : Int} (hF : (Ci E mM_steps [jvR 76] μ (fun r4 μ1 => ((r4 ≤ l3 → (Q none μ1)) ∧ (¬ (r4 ≤ l3) → ((¬ (iand64 (ishr64 l1 l3) 1) = 0 → ((0 ≤ (μ1 76 44) ∧ (μ1 76 44) < 40) ∧ (0 ≤ l3 ∧ l3 < 40) ∧ (-2147483648 ≤ ((μ1 76 44) + 1) ∧ ((μ1 76 44) + 1) < 2147483648) ∧ (-2147483648 ≤ (l3 + 1) ∧ (l3 + 1) < 2147483648)) ∧ (K 121 E mM_knows 204 [some (jvR 76), some (jvL l1), none, some (jvI (l3 + 1)), none] [] (j_up (j_up (j_up μ1 105 (μ1 76 44) l3) 106 l3 (μ1 76 44)) 76 44 ((μ1 76 44) + 1)) Q)) ∧ ((iand64 (ishr64 l1 l3) 1) = 0 → ((-2147483648 ≤ (l3 + 1) ∧ (l3 + 1) < 2147483648)) ∧ (K 121 E mM_knows 204 [some (jvR 76), some (jvL l1), none, some (jvI (l3 + 1)), none] [] μ1 Q)))))))) : K 121 E mM_knows 204 [some (jvR 76), some (jvL l1), none, some (jvI l3), none] [] μ Q := by
  refine K_iload_n 3 l3 dM_knows_204 rfl rfl ?_
  refine K_aload_n 0 76 dM_knows_205 rfl rfl ?_
  refine K_callVi mM_steps 12 76 [] dM_knows_206 pm_M_294 ⟨_, rfl, rfl⟩ ⟨(Nat.le_of_ble_eq_true rfl), (Nat.le_of_ble_eq_true rfl)⟩ rfl rfl (by decide) (Nat.le_of_ble_eq_true rfl) rfl (Nat.le_of_ble_eq_true rfl) (by decide) (Ci_mono hF (fun r4 μ1 h2 => ?_))
  refine K_icmp_ge 261 dM_knows_209 (by decide) (fun c5 => ?_) (fun c5 => ?_)
  · exact K_vret dM_knows_261 rfl (h2.1 c5)
  · refine K_lload_n 1 l1 dM_knows_212 rfl rfl ?_
    refine K_iload_n 3 l3 dM_knows_213 rfl rfl ?_
    refine K_lshr dM_knows_214 rfl ?_
    refine K_lconst 1 dM_knows_215 rfl ?_
    refine K_land dM_knows_216 rfl ?_
    refine K_lconst 0 dM_knows_217 rfl ?_
    refine K_lcmp_ne 225 dM_knows_218 dM_knows_219 (by decide) (fun c8 => ?_) (fun c8 => ?_)
    · refine K_aload_n 0 76 dM_knows_225 rfl rfl ?_
      refine K_getf 12 42 76 (jvR 105) dM_knows_226 pf_M_100 rfl rfl (by decide) rfl rfl ?_
      refine K_aload_n 0 76 dM_knows_229 rfl rfl ?_
      refine K_getf 12 44 76 (jvI (μ1 76 44)) dM_knows_230 pf_M_331 rfl rfl (by decide) rfl rfl ?_
      refine K_iload_n 3 l3 dM_knows_233 rfl rfl ?_
      refine K_iast 105 40 dM_knows_234 rfl rfl (by decide) ((h2.2 c5).1 c8).1.1 ?_
      refine K_aload_n 0 76 dM_knows_235 rfl rfl ?_
      refine K_getf 12 43 76 (jvR 106) dM_knows_236 pf_M_103 rfl rfl (by decide) rfl rfl ?_
      refine K_iload_n 3 l3 dM_knows_239 rfl rfl ?_
      refine K_aload_n 0 76 dM_knows_240 rfl rfl ?_
      refine K_getf 12 44 76 (jvI (μ1 76 44)) dM_knows_241 pf_M_331 rfl rfl (by decide) rfl rfl ?_
      refine K_iast 106 40 dM_knows_244 rfl rfl (by decide) ((h2.2 c5).1 c8).1.2.1 ?_
      refine K_aload_n 0 76 dM_knows_245 rfl rfl ?_
      refine K_dup dM_knows_246 (fun _ h => by cases h) ?_
      refine K_getf 12 44 76 (jvI (μ1 76 44)) dM_knows_247 pf_M_331 rfl rfl (by decide) rfl rfl ?_
      refine K_iconst 1 dM_knows_250 rfl ?_
      refine K_iadd dM_knows_251 (w32_id ((h2.2 c5).1 c8).1.2.2.1) ?_
      refine K_putf 12 44 76 (x := ((μ1 76 44) + 1)) dM_knows_252 pf_M_331 rfl rfl (by decide) rfl rfl rfl rfl trivial ?_
      refine K_iinc 3 dM_knows_255 (Nat.le_of_ble_eq_true rfl) rfl (w32_ok ((h2.2 c5).1 c8).1.2.2.2) rfl ?_
      refine K_goto 204 dM_knows_258 (by decide) ?_
      exact ((h2.2 c5).1 c8).2
    · refine K_goto 255 dM_knows_222 (by decide) ?_
      refine K_iinc 3 dM_knows_255 (Nat.le_of_ble_eq_true rfl) rfl (w32_ok ((h2.2 c5).2 c8).1) rfl ?_
      refine K_goto 204 dM_knows_258 (by decide) ?_
      exact ((h2.2 c5).2 c8).2
set_option maxHeartbeats 8000000 in
theorem vM_steps_0 {E : jE} {μ : jMu} {Q : Option AV → jMu → Prop} (hF : (Q (some (jvI (μ 87 9))) μ)) : K 121 E mM_steps 0 [some (jvR 76)] [] μ Q := by
  refine K_aload_n 0 76 dM_steps_0 rfl rfl ?_
  refine K_getf 12 19 76 (jvR 87) dM_steps_1 pf_M_45 rfl rfl (by decide) rfl rfl ?_
  refine K_bipush 9 dM_steps_4 rfl ?_
  refine K_iald 87 10 dM_steps_6 rfl rfl (by decide) (by decide) ?_
  exact K_iret dM_steps_7 (Or.inl rfl) hF
set_option maxHeartbeats 8000000 in
theorem vM_fromOf_0 {E : jE} {μ : jMu} {Q : Option AV → jMu → Prop} {a0 : Int} (hF : ((-2147483648 ≤ (88 + a0) ∧ (88 + a0) < 2147483648) ∧ (0 ≤ (88 + a0) ∧ (88 + a0) < 176)) ∧ (Q (some (jvI (μ 91 (88 + a0)))) μ)) : K 121 E mM_fromOf 0 [some (jvR 76), some (jvI a0)] [] μ Q := by
  refine K_aload_n 0 76 dM_fromOf_0 rfl rfl ?_
  refine K_getf 12 24 76 (jvR 91) dM_fromOf_1 pf_M_58 rfl rfl (by decide) rfl rfl ?_
  refine K_bipush 88 dM_fromOf_4 rfl ?_
  refine K_iload_n 1 a0 dM_fromOf_6 rfl rfl ?_
  refine K_iadd dM_fromOf_7 (w32_id hF.1.1) ?_
  refine K_iald 91 176 dM_fromOf_8 rfl rfl (by decide) hF.1.2 ?_
  exact K_iret dM_fromOf_9 (Or.inl rfl) hF.2
set_option maxHeartbeats 8000000 in
theorem vM_areSame_0 {E : jE} {μ : jMu} {Q : Option AV → jMu → Prop} {a0 a1 : Int} (hF : (Ci E mM_partLong [jvR 76, jvI a0] μ (fun r4 μ1 => (Ci E mM_partLong [jvR 76, jvI a1] μ1 (fun r8 μ5 => ((r4 = r8 → (K 121 E mM_areSame 20 [some (jvR 76), some (jvI a0), some (jvI a1), some (jvI r4), some (jvI 0)] [] μ5 Q)) ∧ (¬ (r4 = r8) → (Q (some (jvI 0)) μ5)))))))) : K 121 E mM_areSame 0 [some (jvR 76), some (jvI a0), some (jvI a1), none, none] [] μ Q := by
  refine K_aload_n 0 76 dM_areSame_0 rfl rfl ?_
  refine K_iload_n 1 a0 dM_areSame_1 rfl rfl ?_
  refine K_callVi mM_partLong 12 76 [jvI a0] dM_areSame_2 pm_M_303 ⟨_, rfl, rfl⟩ ⟨(Nat.le_of_ble_eq_true rfl), (Nat.le_of_ble_eq_true rfl)⟩ rfl rfl (by decide) (Nat.le_of_ble_eq_true rfl) rfl (Nat.le_of_ble_eq_true rfl) (by decide) (Ci_mono hF (fun r4 μ1 h2 => ?_))
  refine K_istore_n 3 dM_areSame_5 rfl (Nat.le_of_ble_eq_true rfl) rfl ?_
  refine K_iload_n 3 r4 dM_areSame_6 rfl rfl ?_
  refine K_aload_n 0 76 dM_areSame_7 rfl rfl ?_
  refine K_iload_n 2 a1 dM_areSame_8 rfl rfl ?_
  refine K_callVi mM_partLong 12 76 [jvI a1] dM_areSame_9 pm_M_303 ⟨_, rfl, rfl⟩ ⟨(Nat.le_of_ble_eq_true rfl), (Nat.le_of_ble_eq_true rfl)⟩ rfl rfl (by decide) (Nat.le_of_ble_eq_true rfl) rfl (Nat.le_of_ble_eq_true rfl) (by decide) (Ci_mono h2 (fun r8 μ5 h6 => ?_))
  refine K_icmp_eq 17 dM_areSame_12 (by decide) (fun c9 => ?_) (fun c9 => ?_)
  · refine K_iconst 0 dM_areSame_17 rfl ?_
    refine K_istore 4 dM_areSame_18 (Nat.le_of_ble_eq_true rfl) rfl ?_
    exact (h6.1 c9)
  · refine K_iconst 0 dM_areSame_15 rfl ?_
    exact K_iret dM_areSame_16 (Or.inr ⟨rfl, (by decide)⟩) (h6.2 c9)
set_option maxHeartbeats 8000000 in
theorem vM_areSame_20 {E : jE} {μ : jMu} {Q : Option AV → jMu → Prop} {l1 l2 l3 l4 : Int} (hF : ((l3 ≤ l4 → (Q (some (jvI 1)) μ)) ∧ (¬ (l3 ≤ l4) → ((-2147483648 ≤ (l1 + l4) ∧ (l1 + l4) < 2147483648) ∧ (0 ≤ (l1 + l4) ∧ (l1 + l4) < 800) ∧ (-2147483648 ≤ (l2 + l4) ∧ (l2 + l4) < 2147483648) ∧ (0 ≤ (l2 + l4) ∧ (l2 + l4) < 800)) ∧ (((μ 90 (l1 + l4)) = (μ 90 (l2 + l4)) → ((-2147483648 ≤ (l4 + 1) ∧ (l4 + 1) < 2147483648)) ∧ (K 121 E mM_areSame 20 [some (jvR 76), some (jvI l1), some (jvI l2), some (jvI l3), some (jvI (l4 + 1))] [] μ Q)) ∧ (¬ ((μ 90 (l1 + l4)) = (μ 90 (l2 + l4))) → (Q (some (jvI 0)) μ)))))) : K 121 E mM_areSame 20 [some (jvR 76), some (jvI l1), some (jvI l2), some (jvI l3), some (jvI l4)] [] μ Q := by
  refine K_iload 4 l4 dM_areSame_20 rfl ?_
  refine K_iload_n 3 l3 dM_areSame_22 rfl rfl ?_
  refine K_icmp_ge 55 dM_areSame_23 (by decide) (fun c1 => ?_) (fun c1 => ?_)
  · refine K_iconst 1 dM_areSame_55 rfl ?_
    exact K_iret dM_areSame_56 (Or.inr ⟨rfl, (by decide)⟩) (hF.1 c1)
  · refine K_aload_n 0 76 dM_areSame_26 rfl rfl ?_
    refine K_getf 12 22 76 (jvR 90) dM_areSame_27 pf_M_55 rfl rfl (by decide) rfl rfl ?_
    refine K_iload_n 1 l1 dM_areSame_30 rfl rfl ?_
    refine K_iload 4 l4 dM_areSame_31 rfl ?_
    refine K_iadd dM_areSame_33 (w32_id (hF.2 c1).1.1) ?_
    refine K_iald 90 800 dM_areSame_34 rfl rfl (by decide) (hF.2 c1).1.2.1 ?_
    refine K_aload_n 0 76 dM_areSame_35 rfl rfl ?_
    refine K_getf 12 22 76 (jvR 90) dM_areSame_36 pf_M_55 rfl rfl (by decide) rfl rfl ?_
    refine K_iload_n 2 l2 dM_areSame_39 rfl rfl ?_
    refine K_iload 4 l4 dM_areSame_40 rfl ?_
    refine K_iadd dM_areSame_42 (w32_id (hF.2 c1).1.2.2.1) ?_
    refine K_iald 90 800 dM_areSame_43 rfl rfl (by decide) (hF.2 c1).1.2.2.2 ?_
    refine K_icmp_eq 49 dM_areSame_44 (by decide) (fun c4 => ?_) (fun c4 => ?_)
    · refine K_iinc 4 dM_areSame_49 (Nat.le_of_ble_eq_true rfl) rfl (w32_ok ((hF.2 c1).2.1 c4).1) rfl ?_
      refine K_goto 20 dM_areSame_52 (by decide) ?_
      exact ((hF.2 c1).2.1 c4).2
    · refine K_iconst 0 dM_areSame_47 rfl ?_
      exact K_iret dM_areSame_48 (Or.inr ⟨rfl, (by decide)⟩) ((hF.2 c1).2.2 c4)
set_option maxHeartbeats 8000000 in
theorem vM_partLong_0 {E : jE} {μ : jMu} {Q : Option AV → jMu → Prop} {a0 : Int} (hF : (K 121 E mM_partLong 4 [some (jvR 76), some (jvI a0), some (jvI 1), some (jvI a0)] [] μ Q)) : K 121 E mM_partLong 0 [some (jvR 76), some (jvI a0), none, none] [] μ Q := by
  refine K_iconst 1 dM_partLong_0 rfl ?_
  refine K_istore_n 2 dM_partLong_1 rfl (Nat.le_of_ble_eq_true rfl) rfl ?_
  refine K_iload_n 1 a0 dM_partLong_2 rfl rfl ?_
  refine K_istore_n 3 dM_partLong_3 rfl (Nat.le_of_ble_eq_true rfl) rfl ?_
  exact hF
set_option maxHeartbeats 8000000 in
theorem vM_partLong_4 {E : jE} {μ : jMu} {Q : Option AV → jMu → Prop} {l1 l2 l3 : Int} (hF : ((l2 ≤ 0 → ((-2147483648 ≤ (l3 - l1) ∧ (l3 - l1) < 2147483648)) ∧ (Q (some (jvI (l3 - l1))) μ)) ∧ (¬ (l2 ≤ 0) → ((-2147483648 ≤ (l2 - 1) ∧ (l2 - 1) < 2147483648) ∧ (0 ≤ l3 ∧ l3 < 800)) ∧ ((100 ≤ (μ 90 l3) → ((-2147483648 ≤ (l3 + 1) ∧ (l3 + 1) < 2147483648)) ∧ (K 121 E mM_partLong 4 [some (jvR 76), some (jvI l1), some (jvI (l2 - 1)), some (jvI (l3 + 1))] [] μ Q)) ∧ (¬ (100 ≤ (μ 90 l3)) → ((0 ≤ l3 ∧ l3 < 800) ∧ (-2147483648 ≤ (24 + (μ 90 l3)) ∧ (24 + (μ 90 l3)) < 2147483648) ∧ (0 ≤ (24 + (μ 90 l3)) ∧ (24 + (μ 90 l3)) < 48) ∧ (-2147483648 ≤ ((l2 - 1) + (μ 89 (24 + (μ 90 l3)))) ∧ ((l2 - 1) + (μ 89 (24 + (μ 90 l3)))) < 2147483648) ∧ (-2147483648 ≤ (l3 + 1) ∧ (l3 + 1) < 2147483648)) ∧ (K 121 E mM_partLong 4 [some (jvR 76), some (jvI l1), some (jvI ((l2 - 1) + (μ 89 (24 + (μ 90 l3))))), some (jvI (l3 + 1))] [] μ Q)))))) : K 121 E mM_partLong 4 [some (jvR 76), some (jvI l1), some (jvI l2), some (jvI l3)] [] μ Q := by
  refine K_iload_n 2 l2 dM_partLong_4 rfl rfl ?_
  refine K_if_le 45 dM_partLong_5 (by decide) (fun c1 => ?_) (fun c1 => ?_)
  · refine K_iload_n 3 l3 dM_partLong_45 rfl rfl ?_
    refine K_iload_n 1 l1 dM_partLong_46 rfl rfl ?_
    refine K_isub dM_partLong_47 (w32_id (hF.1 c1).1) ?_
    exact K_iret dM_partLong_48 (Or.inl rfl) (hF.1 c1).2
  · refine K_iinc 2 dM_partLong_8 (Nat.le_of_ble_eq_true rfl) rfl (w32_okn (hF.2 c1).1.1) rfl ?_
    refine K_aload_n 0 76 dM_partLong_11 rfl rfl ?_
    refine K_getf 12 22 76 (jvR 90) dM_partLong_12 pf_M_55 rfl rfl (by decide) rfl rfl ?_
    refine K_iload_n 3 l3 dM_partLong_15 rfl rfl ?_
    refine K_iald 90 800 dM_partLong_16 rfl rfl (by decide) (hF.2 c1).1.2 ?_
    refine K_bipush 100 dM_partLong_17 rfl ?_
    refine K_icmp_ge 39 dM_partLong_19 (by decide) (fun c4 => ?_) (fun c4 => ?_)
    · refine K_iinc 3 dM_partLong_39 (Nat.le_of_ble_eq_true rfl) rfl (w32_ok ((hF.2 c1).2.1 c4).1) rfl ?_
      refine K_goto 4 dM_partLong_42 (by decide) ?_
      exact ((hF.2 c1).2.1 c4).2
    · refine K_iload_n 2 (l2 - 1) dM_partLong_22 rfl rfl ?_
      refine K_aload_n 0 76 dM_partLong_23 rfl rfl ?_
      refine K_getf 12 21 76 (jvR 89) dM_partLong_24 pf_M_52 rfl rfl (by decide) rfl rfl ?_
      refine K_bipush 24 dM_partLong_27 rfl ?_
      refine K_aload_n 0 76 dM_partLong_29 rfl rfl ?_
      refine K_getf 12 22 76 (jvR 90) dM_partLong_30 pf_M_55 rfl rfl (by decide) rfl rfl ?_
      refine K_iload_n 3 l3 dM_partLong_33 rfl rfl ?_
      refine K_iald 90 800 dM_partLong_34 rfl rfl (by decide) ((hF.2 c1).2.2 c4).1.1 ?_
      refine K_iadd dM_partLong_35 (w32_id ((hF.2 c1).2.2 c4).1.2.1) ?_
      refine K_iald 89 48 dM_partLong_36 rfl rfl (by decide) ((hF.2 c1).2.2 c4).1.2.2.1 ?_
      refine K_iadd dM_partLong_37 (w32_id ((hF.2 c1).2.2 c4).1.2.2.2.1) ?_
      refine K_istore_n 2 dM_partLong_38 rfl (Nat.le_of_ble_eq_true rfl) rfl ?_
      refine K_iinc 3 dM_partLong_39 (Nat.le_of_ble_eq_true rfl) rfl (w32_ok ((hF.2 c1).2.2 c4).1.2.2.2.2) rfl ?_
      refine K_goto 4 dM_partLong_42 (by decide) ?_
      exact ((hF.2 c1).2.2 c4).2
set_option maxHeartbeats 8000000 in
theorem vM_namesMany_0 {E : jE} {μ : jMu} {Q : Option AV → jMu → Prop} {a0 : Int} (hF : (Ci E mM_ruleBy [jvR 76, jvI a0] μ (fun r4 μ1 => ((-2147483648 ≤ (12 + r4) ∧ (12 + r4) < 2147483648) ∧ (0 ≤ (12 + r4) ∧ (12 + r4) < 24)) ∧ (Q (some (jvI (μ1 93 (12 + r4)))) μ1)))) : K 121 E mM_namesMany 0 [some (jvR 76), some (jvI a0)] [] μ Q := by
  refine K_aload_n 0 76 dM_namesMany_0 rfl rfl ?_
  refine K_getf 12 26 76 (jvR 93) dM_namesMany_1 pf_M_64 rfl rfl (by decide) rfl rfl ?_
  refine K_bipush 12 dM_namesMany_4 rfl ?_
  refine K_aload_n 0 76 dM_namesMany_6 rfl rfl ?_
  refine K_iload_n 1 a0 dM_namesMany_7 rfl rfl ?_
  refine K_callVi mM_ruleBy 12 76 [jvI a0] dM_namesMany_8 pm_M_300 ⟨_, rfl, rfl⟩ ⟨(Nat.le_of_ble_eq_true rfl), (Nat.le_of_ble_eq_true rfl)⟩ rfl rfl (by decide) (Nat.le_of_ble_eq_true rfl) rfl (Nat.le_of_ble_eq_true rfl) (by decide) (Ci_mono hF (fun r4 μ1 h2 => ?_))
  refine K_iadd dM_namesMany_11 (w32_id h2.1.1) ?_
  refine K_iald 93 24 dM_namesMany_12 rfl rfl (by decide) h2.1.2 ?_
  exact K_iret dM_namesMany_13 (Or.inl rfl) h2.2
set_option maxHeartbeats 8000000 in
theorem vM_ruleBy_0 {E : jE} {μ : jMu} {Q : Option AV → jMu → Prop} {a0 : Int} (hF : ((-2147483648 ≤ (40 + a0) ∧ (40 + a0) < 2147483648) ∧ (0 ≤ (40 + a0) ∧ (40 + a0) < 80)) ∧ (Q (some (jvI (μ 94 (40 + a0)))) μ)) : K 121 E mM_ruleBy 0 [some (jvR 76), some (jvI a0)] [] μ Q := by
  refine K_aload_n 0 76 dM_ruleBy_0 rfl rfl ?_
  refine K_getf 12 27 76 (jvR 94) dM_ruleBy_1 pf_M_67 rfl rfl (by decide) rfl rfl ?_
  refine K_bipush 40 dM_ruleBy_4 rfl ?_
  refine K_iload_n 1 a0 dM_ruleBy_6 rfl rfl ?_
  refine K_iadd dM_ruleBy_7 (w32_id hF.1.1) ?_
  refine K_iald 94 80 dM_ruleBy_8 rfl rfl (by decide) hF.1.2 ?_
  exact K_iret dM_ruleBy_9 (Or.inl rfl) hF.2
set_option maxHeartbeats 8000000 in
theorem vM_namedBy_0 {E : jE} {μ : jMu} {Q : Option AV → jMu → Prop} {a0 a1 : Int} (hF : ((-2147483648 ≤ (3 * a0) ∧ (3 * a0) < 2147483648) ∧ (-2147483648 ≤ (120 + (3 * a0)) ∧ (120 + (3 * a0)) < 2147483648) ∧ (-2147483648 ≤ ((120 + (3 * a0)) + a1) ∧ ((120 + (3 * a0)) + a1) < 2147483648) ∧ (0 ≤ ((120 + (3 * a0)) + a1) ∧ ((120 + (3 * a0)) + a1) < 240)) ∧ (Q (some (jvI (μ 95 ((120 + (3 * a0)) + a1)))) μ)) : K 121 E mM_namedBy 0 [some (jvR 76), some (jvI a0), some (jvI a1)] [] μ Q := by
  refine K_aload_n 0 76 dM_namedBy_0 rfl rfl ?_
  refine K_getf 12 28 76 (jvR 95) dM_namedBy_1 pf_M_70 rfl rfl (by decide) rfl rfl ?_
  refine K_bipush 120 dM_namedBy_4 rfl ?_
  refine K_iconst 3 dM_namedBy_6 rfl ?_
  refine K_iload_n 1 a0 dM_namedBy_7 rfl rfl ?_
  refine K_imul dM_namedBy_8 (w32_id hF.1.1) ?_
  refine K_iadd dM_namedBy_9 (w32_id hF.1.2.1) ?_
  refine K_iload_n 2 a1 dM_namedBy_10 rfl rfl ?_
  refine K_iadd dM_namedBy_11 (w32_id hF.1.2.2.1) ?_
  refine K_iald 95 240 dM_namedBy_12 rfl rfl (by decide) hF.1.2.2.2 ?_
  exact K_iret dM_namedBy_13 (Or.inl rfl) hF.2
set_option maxHeartbeats 8000000 in
theorem vM_fault_0 {E : jE} {μ : jMu} {Q : Option AV → jMu → Prop} {a0 : Int} (hF : ((¬ a0 = 0 → ((¬ a0 = 1 → (Q (some (jvI (-1))) μ)) ∧ (a0 = 1 → (Q (some (jvI (μ 76 8))) μ)))) ∧ (a0 = 0 → (Q (some (jvI (μ 76 7))) μ)))) : K 121 E mM_fault 0 [some (jvR 76), some (jvI a0)] [] μ Q := by
  refine K_iload_n 1 a0 dM_fault_0 rfl rfl ?_
  refine K_if_ne 11 dM_fault_1 (by decide) (fun c1 => ?_) (fun c1 => ?_)
  · refine K_iload_n 1 a0 dM_fault_11 rfl rfl ?_
    refine K_iconst 1 dM_fault_12 rfl ?_
    refine K_icmp_ne 23 dM_fault_13 (by decide) (fun c3 => ?_) (fun c3 => ?_)
    · refine K_iconst (-1) dM_fault_23 rfl ?_
      exact K_iret dM_fault_24 (Or.inl rfl) ((hF.1 c1).1 c3)
    · refine K_aload_n 0 76 dM_fault_16 rfl rfl ?_
      refine K_getf 12 8 76 (jvI (μ 76 8)) dM_fault_17 pf_M_13 rfl rfl (by decide) rfl rfl ?_
      refine K_goto 24 dM_fault_20 (by decide) ?_
      exact K_iret dM_fault_24 (Or.inl rfl) ((hF.1 c1).2 c3)
  · refine K_aload_n 0 76 dM_fault_4 rfl rfl ?_
    refine K_getf 12 7 76 (jvI (μ 76 7)) dM_fault_5 pf_M_282 rfl rfl (by decide) rfl rfl ?_
    refine K_goto 24 dM_fault_8 (by decide) ?_
    exact K_iret dM_fault_24 (Or.inl rfl) (hF.2 c1)
set_option maxHeartbeats 8000000 in
theorem vM_has_0 {E : jE} {μ : jMu} {Q : Option AV → jMu → Prop} {a0 : Int} (hF : ((a0 = 0 → (Ci E mM_rules [jvR 76] μ (fun r6 μ3 => (Q (some (jvI r6)) μ3)))) ∧ (a0 = 1 → (Ci E mM_steps [jvR 76] μ (fun r11 μ8 => (Q (some (jvI r11)) μ8)))) ∧ (a0 = 2 → (Ci E mM_readers [jvR 76] μ (fun r16 μ13 => (Q (some (jvI r16)) μ13)))) ∧ (a0 = 3 → (Q (some (jvI (μ 87 7))) μ)) ∧ (a0 = 4 → (Q (some (jvI (μ 87 8))) μ)) ∧ (a0 = 5 → (Ci E mM_steps [jvR 76] μ (fun r23 μ20 => ((¬ r23 = 0 → (Q (some (jvI (μ20 76 33))) μ20)) ∧ (r23 = 0 → (Q (some (jvI (-1))) μ20)))))) ∧ (a0 = 6 → (Ci E mM_manyOf [jvR 76, jvI a0] μ (fun r31 μ28 => (Q (some (jvI r31)) μ28)))) ∧ (a0 = 7 → (Ci E mM_manyOf [jvR 76, jvI a0] μ (fun r36 μ33 => (Q (some (jvI r36)) μ33)))) ∧ (a0 = 8 → (Ci E mM_manyOf [jvR 76, jvI a0] μ (fun r41 μ38 => (Q (some (jvI r41)) μ38)))) ∧ (a0 = 9 → (Ci E mM_manyOf [jvR 76, jvI a0] μ (fun r46 μ43 => (Q (some (jvI r46)) μ43)))) ∧ (a0 = 10 → (Q (some (jvI (μ 76 44))) μ)) ∧ (a0 = 11 → (Ci E mM_wrongMany [jvR 76] μ (fun r52 μ49 => (Q (some (jvI r52)) μ49)))) ∧ (a0 = 12 → (Ci E mM_falls [jvR 76] μ (fun r57 μ54 => (Q (some (jvI r57)) μ54)))) ∧ (a0 = 13 → (Ci E mM_askedMany [jvR 76] μ (fun r62 μ59 => (Q (some (jvI r62)) μ59)))) ∧ ((a0 < 0 ∨ 13 < a0) → (Q (some (jvI (-1))) μ)))) : K 121 E mM_has 0 [some (jvR 76), some (jvI a0)] [] μ Q := by
  refine K_iload_n 1 a0 dM_has_0 rfl rfl ?_
  refine K_table dM_has_1 (fun i hi9 ha9 => ?_) rfl 145 (by decide) (fun c1 => ?_)
  · match i, hi9, ha9 with
    | 0, _, ha9 =>
      have c1 : a0 = 0 := by omega
      refine ⟨_, 72, rfl, by decide, ?_⟩
      refine K_aload_n 0 76 dM_has_72 rfl rfl ?_
      refine K_callVi mM_rules 12 76 [] dM_has_73 pm_M_297 ⟨_, rfl, rfl⟩ ⟨(Nat.le_of_ble_eq_true rfl), (Nat.le_of_ble_eq_true rfl)⟩ rfl rfl (by decide) (Nat.le_of_ble_eq_true rfl) rfl (Nat.le_of_ble_eq_true rfl) (by decide) (Ci_mono (hF.1 c1) (fun r6 μ3 h4 => ?_))
      exact K_iret dM_has_76 (Or.inl rfl) h4
    | 1, _, ha9 =>
      have c1 : a0 = 1 := by omega
      refine ⟨_, 77, rfl, by decide, ?_⟩
      refine K_aload_n 0 76 dM_has_77 rfl rfl ?_
      refine K_callVi mM_steps 12 76 [] dM_has_78 pm_M_294 ⟨_, rfl, rfl⟩ ⟨(Nat.le_of_ble_eq_true rfl), (Nat.le_of_ble_eq_true rfl)⟩ rfl rfl (by decide) (Nat.le_of_ble_eq_true rfl) rfl (Nat.le_of_ble_eq_true rfl) (by decide) (Ci_mono (hF.2.1 c1) (fun r11 μ8 h9 => ?_))
      exact K_iret dM_has_81 (Or.inl rfl) h9
    | 2, _, ha9 =>
      have c1 : a0 = 2 := by omega
      refine ⟨_, 82, rfl, by decide, ?_⟩
      refine K_aload_n 0 76 dM_has_82 rfl rfl ?_
      refine K_callVi mM_readers 12 76 [] dM_has_83 pm_M_334 ⟨_, rfl, rfl⟩ ⟨(Nat.le_of_ble_eq_true rfl), (Nat.le_of_ble_eq_true rfl)⟩ rfl rfl (by decide) (Nat.le_of_ble_eq_true rfl) rfl (Nat.le_of_ble_eq_true rfl) (by decide) (Ci_mono (hF.2.2.1 c1) (fun r16 μ13 h14 => ?_))
      exact K_iret dM_has_86 (Or.inl rfl) h14
    | 3, _, ha9 =>
      have c1 : a0 = 3 := by omega
      refine ⟨_, 87, rfl, by decide, ?_⟩
      refine K_aload_n 0 76 dM_has_87 rfl rfl ?_
      refine K_getf 12 19 76 (jvR 87) dM_has_88 pf_M_45 rfl rfl (by decide) rfl rfl ?_
      refine K_bipush 7 dM_has_91 rfl ?_
      refine K_iald 87 10 dM_has_93 rfl rfl (by decide) (by decide) ?_
      exact K_iret dM_has_94 (Or.inl rfl) (hF.2.2.2.1 c1)
    | 4, _, ha9 =>
      have c1 : a0 = 4 := by omega
      refine ⟨_, 95, rfl, by decide, ?_⟩
      refine K_aload_n 0 76 dM_has_95 rfl rfl ?_
      refine K_getf 12 19 76 (jvR 87) dM_has_96 pf_M_45 rfl rfl (by decide) rfl rfl ?_
      refine K_bipush 8 dM_has_99 rfl ?_
      refine K_iald 87 10 dM_has_101 rfl rfl (by decide) (by decide) ?_
      exact K_iret dM_has_102 (Or.inl rfl) (hF.2.2.2.2.1 c1)
    | 5, _, ha9 =>
      have c1 : a0 = 5 := by omega
      refine ⟨_, 103, rfl, by decide, ?_⟩
      refine K_aload_n 0 76 dM_has_103 rfl rfl ?_
      refine K_callVi mM_steps 12 76 [] dM_has_104 pm_M_294 ⟨_, rfl, rfl⟩ ⟨(Nat.le_of_ble_eq_true rfl), (Nat.le_of_ble_eq_true rfl)⟩ rfl rfl (by decide) (Nat.le_of_ble_eq_true rfl) rfl (Nat.le_of_ble_eq_true rfl) (by decide) (Ci_mono (hF.2.2.2.2.2.1 c1) (fun r23 μ20 h21 => ?_))
      refine K_if_ne 114 dM_has_107 (by decide) (fun c24 => ?_) (fun c24 => ?_)
      · refine K_aload_n 0 76 dM_has_114 rfl rfl ?_
        refine K_getf 12 33 76 (jvI (μ20 76 33)) dM_has_115 pf_M_288 rfl rfl (by decide) rfl rfl ?_
        exact K_iret dM_has_118 (Or.inl rfl) (h21.1 c24)
      · refine K_iconst (-1) dM_has_110 rfl ?_
        refine K_goto 118 dM_has_111 (by decide) ?_
        exact K_iret dM_has_118 (Or.inl rfl) (h21.2 c24)
    | 6, _, ha9 =>
      have c1 : a0 = 6 := by omega
      refine ⟨_, 119, rfl, by decide, ?_⟩
      refine K_aload_n 0 76 dM_has_119 rfl rfl ?_
      refine K_iload_n 1 a0 dM_has_120 rfl rfl ?_
      refine K_callVi mM_manyOf 12 76 [jvI a0] dM_has_121 pm_M_346 ⟨_, rfl, rfl⟩ ⟨(Nat.le_of_ble_eq_true rfl), (Nat.le_of_ble_eq_true rfl)⟩ rfl rfl (by decide) (Nat.le_of_ble_eq_true rfl) rfl (Nat.le_of_ble_eq_true rfl) (by decide) (Ci_mono (hF.2.2.2.2.2.2.1 c1) (fun r31 μ28 h29 => ?_))
      exact K_iret dM_has_124 (Or.inl rfl) h29
    | 7, _, ha9 =>
      have c1 : a0 = 7 := by omega
      refine ⟨_, 119, rfl, by decide, ?_⟩
      refine K_aload_n 0 76 dM_has_119 rfl rfl ?_
      refine K_iload_n 1 a0 dM_has_120 rfl rfl ?_
      refine K_callVi mM_manyOf 12 76 [jvI a0] dM_has_121 pm_M_346 ⟨_, rfl, rfl⟩ ⟨(Nat.le_of_ble_eq_true rfl), (Nat.le_of_ble_eq_true rfl)⟩ rfl rfl (by decide) (Nat.le_of_ble_eq_true rfl) rfl (Nat.le_of_ble_eq_true rfl) (by decide) (Ci_mono (hF.2.2.2.2.2.2.2.1 c1) (fun r36 μ33 h34 => ?_))
      exact K_iret dM_has_124 (Or.inl rfl) h34
    | 8, _, ha9 =>
      have c1 : a0 = 8 := by omega
      refine ⟨_, 119, rfl, by decide, ?_⟩
      refine K_aload_n 0 76 dM_has_119 rfl rfl ?_
      refine K_iload_n 1 a0 dM_has_120 rfl rfl ?_
      refine K_callVi mM_manyOf 12 76 [jvI a0] dM_has_121 pm_M_346 ⟨_, rfl, rfl⟩ ⟨(Nat.le_of_ble_eq_true rfl), (Nat.le_of_ble_eq_true rfl)⟩ rfl rfl (by decide) (Nat.le_of_ble_eq_true rfl) rfl (Nat.le_of_ble_eq_true rfl) (by decide) (Ci_mono (hF.2.2.2.2.2.2.2.2.1 c1) (fun r41 μ38 h39 => ?_))
      exact K_iret dM_has_124 (Or.inl rfl) h39
    | 9, _, ha9 =>
      have c1 : a0 = 9 := by omega
      refine ⟨_, 119, rfl, by decide, ?_⟩
      refine K_aload_n 0 76 dM_has_119 rfl rfl ?_
      refine K_iload_n 1 a0 dM_has_120 rfl rfl ?_
      refine K_callVi mM_manyOf 12 76 [jvI a0] dM_has_121 pm_M_346 ⟨_, rfl, rfl⟩ ⟨(Nat.le_of_ble_eq_true rfl), (Nat.le_of_ble_eq_true rfl)⟩ rfl rfl (by decide) (Nat.le_of_ble_eq_true rfl) rfl (Nat.le_of_ble_eq_true rfl) (by decide) (Ci_mono (hF.2.2.2.2.2.2.2.2.2.1 c1) (fun r46 μ43 h44 => ?_))
      exact K_iret dM_has_124 (Or.inl rfl) h44
    | 10, _, ha9 =>
      have c1 : a0 = 10 := by omega
      refine ⟨_, 125, rfl, by decide, ?_⟩
      refine K_aload_n 0 76 dM_has_125 rfl rfl ?_
      refine K_getf 12 44 76 (jvI (μ 76 44)) dM_has_126 pf_M_331 rfl rfl (by decide) rfl rfl ?_
      exact K_iret dM_has_129 (Or.inl rfl) (hF.2.2.2.2.2.2.2.2.2.2.1 c1)
    | 11, _, ha9 =>
      have c1 : a0 = 11 := by omega
      refine ⟨_, 130, rfl, by decide, ?_⟩
      refine K_aload_n 0 76 dM_has_130 rfl rfl ?_
      refine K_callVi mM_wrongMany 12 76 [] dM_has_131 pm_M_349 ⟨_, rfl, rfl⟩ ⟨(Nat.le_of_ble_eq_true rfl), (Nat.le_of_ble_eq_true rfl)⟩ rfl rfl (by decide) (Nat.le_of_ble_eq_true rfl) rfl (Nat.le_of_ble_eq_true rfl) (by decide) (Ci_mono (hF.2.2.2.2.2.2.2.2.2.2.2.1 c1) (fun r52 μ49 h50 => ?_))
      exact K_iret dM_has_134 (Or.inl rfl) h50
    | 12, _, ha9 =>
      have c1 : a0 = 12 := by omega
      refine ⟨_, 135, rfl, by decide, ?_⟩
      refine K_aload_n 0 76 dM_has_135 rfl rfl ?_
      refine K_callVi mM_falls 12 76 [] dM_has_136 pm_M_352 ⟨_, rfl, rfl⟩ ⟨(Nat.le_of_ble_eq_true rfl), (Nat.le_of_ble_eq_true rfl)⟩ rfl rfl (by decide) (Nat.le_of_ble_eq_true rfl) rfl (Nat.le_of_ble_eq_true rfl) (by decide) (Ci_mono (hF.2.2.2.2.2.2.2.2.2.2.2.2.1 c1) (fun r57 μ54 h55 => ?_))
      exact K_iret dM_has_139 (Or.inl rfl) h55
    | 13, _, ha9 =>
      have c1 : a0 = 13 := by omega
      refine ⟨_, 140, rfl, by decide, ?_⟩
      refine K_aload_n 0 76 dM_has_140 rfl rfl ?_
      refine K_callVi mM_askedMany 12 76 [] dM_has_141 pm_M_355 ⟨_, rfl, rfl⟩ ⟨(Nat.le_of_ble_eq_true rfl), (Nat.le_of_ble_eq_true rfl)⟩ rfl rfl (by decide) (Nat.le_of_ble_eq_true rfl) rfl (Nat.le_of_ble_eq_true rfl) (by decide) (Ci_mono (hF.2.2.2.2.2.2.2.2.2.2.2.2.2.1 c1) (fun r62 μ59 h60 => ?_))
      exact K_iret dM_has_144 (Or.inl rfl) h60
    | i + 14, hi9, _ => exact absurd hi9 (by simp <;> omega)
  · skip
    refine K_iconst (-1) dM_has_145 rfl ?_
    exact K_iret dM_has_146 (Or.inl rfl) (hF.2.2.2.2.2.2.2.2.2.2.2.2.2.2 c1)
set_option maxHeartbeats 8000000 in
theorem vM_rules_0 {E : jE} {μ : jMu} {Q : Option AV → jMu → Prop} (hF : (Q (some (jvI (μ 87 5))) μ)) : K 121 E mM_rules 0 [some (jvR 76)] [] μ Q := by
  refine K_aload_n 0 76 dM_rules_0 rfl rfl ?_
  refine K_getf 12 19 76 (jvR 87) dM_rules_1 pf_M_45 rfl rfl (by decide) rfl rfl ?_
  refine K_iconst 5 dM_rules_4 rfl ?_
  refine K_iald 87 10 dM_rules_5 rfl rfl (by decide) (by decide) ?_
  exact K_iret dM_rules_6 (Or.inl rfl) hF
set_option maxHeartbeats 8000000 in
theorem vM_readers_0 {E : jE} {μ : jMu} {Q : Option AV → jMu → Prop} (hF : (Q (some (jvI (μ 87 6))) μ)) : K 121 E mM_readers 0 [some (jvR 76)] [] μ Q := by
  refine K_aload_n 0 76 dM_readers_0 rfl rfl ?_
  refine K_getf 12 19 76 (jvR 87) dM_readers_1 pf_M_45 rfl rfl (by decide) rfl rfl ?_
  refine K_bipush 6 dM_readers_4 rfl ?_
  refine K_iald 87 10 dM_readers_6 rfl rfl (by decide) (by decide) ?_
  exact K_iret dM_readers_7 (Or.inl rfl) hF
set_option maxHeartbeats 8000000 in
theorem vM_manyOf_0 {E : jE} {μ : jMu} {Q : Option AV → jMu → Prop} {a0 : Int} (hF : (K 121 E mM_manyOf 4 [some (jvR 76), some (jvI a0), some (jvI 0), some (jvI 0)] [] μ Q)) : K 121 E mM_manyOf 0 [some (jvR 76), some (jvI a0), none, none] [] μ Q := by
  refine K_iconst 0 dM_manyOf_0 rfl ?_
  refine K_istore_n 2 dM_manyOf_1 rfl (Nat.le_of_ble_eq_true rfl) rfl ?_
  refine K_iconst 0 dM_manyOf_2 rfl ?_
  refine K_istore_n 3 dM_manyOf_3 rfl (Nat.le_of_ble_eq_true rfl) rfl ?_
  exact hF
set_option maxHeartbeats 8000000 in
theorem vM_manyOf_4 {E : jE} {μ : jMu} {Q : Option AV → jMu → Prop} {l1 l2 l3 : Int} (hF : (Ci E mM_steps [jvR 76] μ (fun r4 μ1 => ((r4 ≤ l3 → (Q (some (jvI l2)) μ1)) ∧ (¬ (r4 ≤ l3) → ((¬ l1 = 6 → ((¬ l1 = 7 → ((¬ l1 = 8 → (Ci E mM_coveredBy [jvR 76, jvI l3] μ1 (fun r17 μ14 => ((r17 = (-1) → ((-2147483648 ≤ (l3 + 1) ∧ (l3 + 1) < 2147483648)) ∧ (K 121 E mM_manyOf 4 [some (jvR 76), some (jvI l1), some (jvI l2), some (jvI (l3 + 1))] [] μ14 Q)) ∧ (¬ (r17 = (-1)) → ((-2147483648 ≤ (l2 + 1) ∧ (l2 + 1) < 2147483648) ∧ (-2147483648 ≤ (l3 + 1) ∧ (l3 + 1) < 2147483648)) ∧ (K 121 E mM_manyOf 4 [some (jvR 76), some (jvI l1), some (jvI (l2 + 1)), some (jvI (l3 + 1))] [] μ14 Q)))))) ∧ (l1 = 8 → ((0 ≤ l3 ∧ l3 < 40)) ∧ ((l3 ≤ (μ1 103 l3) → ((-2147483648 ≤ (l3 + 1) ∧ (l3 + 1) < 2147483648)) ∧ (K 121 E mM_manyOf 4 [some (jvR 76), some (jvI l1), some (jvI l2), some (jvI (l3 + 1))] [] μ1 Q)) ∧ (¬ (l3 ≤ (μ1 103 l3)) → ((-2147483648 ≤ (l2 + 1) ∧ (l2 + 1) < 2147483648) ∧ (-2147483648 ≤ (l3 + 1) ∧ (l3 + 1) < 2147483648)) ∧ (K 121 E mM_manyOf 4 [some (jvR 76), some (jvI l1), some (jvI (l2 + 1)), some (jvI (l3 + 1))] [] μ1 Q)))))) ∧ (l1 = 7 → (Ci E mM_isNeeded [jvR 76, jvI l3] μ1 (fun r25 μ22 => ((r25 = 0 → ((-2147483648 ≤ (l3 + 1) ∧ (l3 + 1) < 2147483648)) ∧ (K 121 E mM_manyOf 4 [some (jvR 76), some (jvI l1), some (jvI l2), some (jvI (l3 + 1))] [] μ22 Q)) ∧ (¬ (r25 = 0) → ((-2147483648 ≤ (l2 + 1) ∧ (l2 + 1) < 2147483648) ∧ (-2147483648 ≤ (l3 + 1) ∧ (l3 + 1) < 2147483648)) ∧ (K 121 E mM_manyOf 4 [some (jvR 76), some (jvI l1), some (jvI (l2 + 1)), some (jvI (l3 + 1))] [] μ22 Q)))))))) ∧ (l1 = 6 → (Ci E mM_isRight [jvR 76, jvI l3] μ1 (fun r31 μ28 => ((r31 = 0 → ((-2147483648 ≤ (l3 + 1) ∧ (l3 + 1) < 2147483648)) ∧ (K 121 E mM_manyOf 4 [some (jvR 76), some (jvI l1), some (jvI l2), some (jvI (l3 + 1))] [] μ28 Q)) ∧ (¬ (r31 = 0) → ((-2147483648 ≤ (l2 + 1) ∧ (l2 + 1) < 2147483648) ∧ (-2147483648 ≤ (l3 + 1) ∧ (l3 + 1) < 2147483648)) ∧ (K 121 E mM_manyOf 4 [some (jvR 76), some (jvI l1), some (jvI (l2 + 1)), some (jvI (l3 + 1))] [] μ28 Q)))))))))))) : K 121 E mM_manyOf 4 [some (jvR 76), some (jvI l1), some (jvI l2), some (jvI l3)] [] μ Q := by
  refine K_iload_n 3 l3 dM_manyOf_4 rfl rfl ?_
  refine K_aload_n 0 76 dM_manyOf_5 rfl rfl ?_
  refine K_callVi mM_steps 12 76 [] dM_manyOf_6 pm_M_294 ⟨_, rfl, rfl⟩ ⟨(Nat.le_of_ble_eq_true rfl), (Nat.le_of_ble_eq_true rfl)⟩ rfl rfl (by decide) (Nat.le_of_ble_eq_true rfl) rfl (Nat.le_of_ble_eq_true rfl) (by decide) (Ci_mono hF (fun r4 μ1 h2 => ?_))
  refine K_icmp_ge 83 dM_manyOf_9 (by decide) (fun c5 => ?_) (fun c5 => ?_)
  · refine K_iload_n 2 l2 dM_manyOf_83 rfl rfl ?_
    exact K_iret dM_manyOf_84 (Or.inl rfl) (h2.1 c5)
  · refine K_iload_n 1 l1 dM_manyOf_12 rfl rfl ?_
    refine K_bipush 6 dM_manyOf_13 rfl ?_
    refine K_icmp_ne 29 dM_manyOf_15 (by decide) (fun c8 => ?_) (fun c8 => ?_)
    · refine K_iload_n 1 l1 dM_manyOf_29 rfl rfl ?_
      refine K_bipush 7 dM_manyOf_30 rfl ?_
      refine K_icmp_ne 46 dM_manyOf_32 (by decide) (fun c10 => ?_) (fun c10 => ?_)
      · refine K_iload_n 1 l1 dM_manyOf_46 rfl rfl ?_
        refine K_bipush 8 dM_manyOf_47 rfl ?_
        refine K_icmp_ne 65 dM_manyOf_49 (by decide) (fun c12 => ?_) (fun c12 => ?_)
        · refine K_aload_n 0 76 dM_manyOf_65 rfl rfl ?_
          refine K_iload_n 3 l3 dM_manyOf_66 rfl rfl ?_
          refine K_callVi mM_coveredBy 12 76 [jvI l3] dM_manyOf_67 pm_M_343 ⟨_, rfl, rfl⟩ ⟨(Nat.le_of_ble_eq_true rfl), (Nat.le_of_ble_eq_true rfl)⟩ rfl rfl (by decide) (Nat.le_of_ble_eq_true rfl) rfl (Nat.le_of_ble_eq_true rfl) (by decide) (Ci_mono ((((h2.2 c5).1 c8).1 c10).1 c12) (fun r17 μ14 h15 => ?_))
          refine K_iconst (-1) dM_manyOf_70 rfl ?_
          refine K_icmp_eq 77 dM_manyOf_71 (by decide) (fun c18 => ?_) (fun c18 => ?_)
          · refine K_iinc 3 dM_manyOf_77 (Nat.le_of_ble_eq_true rfl) rfl (w32_ok (h15.1 c18).1) rfl ?_
            refine K_goto 4 dM_manyOf_80 (by decide) ?_
            exact (h15.1 c18).2
          · refine K_iinc 2 dM_manyOf_74 (Nat.le_of_ble_eq_true rfl) rfl (w32_ok (h15.2 c18).1.1) rfl ?_
            refine K_iinc 3 dM_manyOf_77 (Nat.le_of_ble_eq_true rfl) rfl (w32_ok (h15.2 c18).1.2) rfl ?_
            refine K_goto 4 dM_manyOf_80 (by decide) ?_
            exact (h15.2 c18).2
        · refine K_aload_n 0 76 dM_manyOf_52 rfl rfl ?_
          refine K_getf 12 40 76 (jvR 103) dM_manyOf_53 pf_M_94 rfl rfl (by decide) rfl rfl ?_
          refine K_iload_n 3 l3 dM_manyOf_56 rfl rfl ?_
          refine K_iald 103 40 dM_manyOf_57 rfl rfl (by decide) ((((h2.2 c5).1 c8).1 c10).2 c12).1 ?_
          refine K_iload_n 3 l3 dM_manyOf_58 rfl rfl ?_
          refine K_icmp_ge 77 dM_manyOf_59 (by decide) (fun c20 => ?_) (fun c20 => ?_)
          · refine K_iinc 3 dM_manyOf_77 (Nat.le_of_ble_eq_true rfl) rfl (w32_ok (((((h2.2 c5).1 c8).1 c10).2 c12).2.1 c20).1) rfl ?_
            refine K_goto 4 dM_manyOf_80 (by decide) ?_
            exact (((((h2.2 c5).1 c8).1 c10).2 c12).2.1 c20).2
          · refine K_goto 74 dM_manyOf_62 (by decide) ?_
            refine K_iinc 2 dM_manyOf_74 (Nat.le_of_ble_eq_true rfl) rfl (w32_ok (((((h2.2 c5).1 c8).1 c10).2 c12).2.2 c20).1.1) rfl ?_
            refine K_iinc 3 dM_manyOf_77 (Nat.le_of_ble_eq_true rfl) rfl (w32_ok (((((h2.2 c5).1 c8).1 c10).2 c12).2.2 c20).1.2) rfl ?_
            refine K_goto 4 dM_manyOf_80 (by decide) ?_
            exact (((((h2.2 c5).1 c8).1 c10).2 c12).2.2 c20).2
      · refine K_aload_n 0 76 dM_manyOf_35 rfl rfl ?_
        refine K_iload_n 3 l3 dM_manyOf_36 rfl rfl ?_
        refine K_callVi mM_isNeeded 12 76 [jvI l3] dM_manyOf_37 pm_M_340 ⟨_, rfl, rfl⟩ ⟨(Nat.le_of_ble_eq_true rfl), (Nat.le_of_ble_eq_true rfl)⟩ rfl rfl (by decide) (Nat.le_of_ble_eq_true rfl) rfl (Nat.le_of_ble_eq_true rfl) (by decide) (Ci_mono (((h2.2 c5).1 c8).2 c10) (fun r25 μ22 h23 => ?_))
        refine K_if_eq 77 dM_manyOf_40 (by decide) (fun c26 => ?_) (fun c26 => ?_)
        · refine K_iinc 3 dM_manyOf_77 (Nat.le_of_ble_eq_true rfl) rfl (w32_ok (h23.1 c26).1) rfl ?_
          refine K_goto 4 dM_manyOf_80 (by decide) ?_
          exact (h23.1 c26).2
        · refine K_goto 74 dM_manyOf_43 (by decide) ?_
          refine K_iinc 2 dM_manyOf_74 (Nat.le_of_ble_eq_true rfl) rfl (w32_ok (h23.2 c26).1.1) rfl ?_
          refine K_iinc 3 dM_manyOf_77 (Nat.le_of_ble_eq_true rfl) rfl (w32_ok (h23.2 c26).1.2) rfl ?_
          refine K_goto 4 dM_manyOf_80 (by decide) ?_
          exact (h23.2 c26).2
    · refine K_aload_n 0 76 dM_manyOf_18 rfl rfl ?_
      refine K_iload_n 3 l3 dM_manyOf_19 rfl rfl ?_
      refine K_callVi mM_isRight 12 76 [jvI l3] dM_manyOf_20 pm_M_337 ⟨_, rfl, rfl⟩ ⟨(Nat.le_of_ble_eq_true rfl), (Nat.le_of_ble_eq_true rfl)⟩ rfl rfl (by decide) (Nat.le_of_ble_eq_true rfl) rfl (Nat.le_of_ble_eq_true rfl) (by decide) (Ci_mono ((h2.2 c5).2 c8) (fun r31 μ28 h29 => ?_))
      refine K_if_eq 77 dM_manyOf_23 (by decide) (fun c32 => ?_) (fun c32 => ?_)
      · refine K_iinc 3 dM_manyOf_77 (Nat.le_of_ble_eq_true rfl) rfl (w32_ok (h29.1 c32).1) rfl ?_
        refine K_goto 4 dM_manyOf_80 (by decide) ?_
        exact (h29.1 c32).2
      · refine K_goto 74 dM_manyOf_26 (by decide) ?_
        refine K_iinc 2 dM_manyOf_74 (Nat.le_of_ble_eq_true rfl) rfl (w32_ok (h29.2 c32).1.1) rfl ?_
        refine K_iinc 3 dM_manyOf_77 (Nat.le_of_ble_eq_true rfl) rfl (w32_ok (h29.2 c32).1.2) rfl ?_
        refine K_goto 4 dM_manyOf_80 (by decide) ?_
        exact (h29.2 c32).2
set_option maxHeartbeats 8000000 in
theorem vM_isRight_0 {E : jE} {μ : jMu} {Q : Option AV → jMu → Prop} {a0 : Int} (hF : (Ci E mM_ruleBy [jvR 76, jvI a0] μ (fun r4 μ1 => (Cv E mM_noHoles [jvR 76] μ1 (fun μ5 => (K 121 E mM_isRight 12 [some (jvR 76), some (jvI a0), some (jvI r4), some (jvI 0)] [] μ5 Q)))))) : K 121 E mM_isRight 0 [some (jvR 76), some (jvI a0), none, none] [] μ Q := by
  refine K_aload_n 0 76 dM_isRight_0 rfl rfl ?_
  refine K_iload_n 1 a0 dM_isRight_1 rfl rfl ?_
  refine K_callVi mM_ruleBy 12 76 [jvI a0] dM_isRight_2 pm_M_300 ⟨_, rfl, rfl⟩ ⟨(Nat.le_of_ble_eq_true rfl), (Nat.le_of_ble_eq_true rfl)⟩ rfl rfl (by decide) (Nat.le_of_ble_eq_true rfl) rfl (Nat.le_of_ble_eq_true rfl) (by decide) (Ci_mono hF (fun r4 μ1 h2 => ?_))
  refine K_istore_n 2 dM_isRight_5 rfl (Nat.le_of_ble_eq_true rfl) rfl ?_
  refine K_aload_n 0 76 dM_isRight_6 rfl rfl ?_
  refine K_callVv mM_noHoles 12 76 [] dM_isRight_7 pm_M_310 ⟨_, rfl, rfl⟩ ⟨(Nat.le_of_ble_eq_true rfl), (Nat.le_of_ble_eq_true rfl)⟩ rfl rfl (by decide) (Nat.le_of_ble_eq_true rfl) rfl (Nat.le_of_ble_eq_true rfl) (by decide) (Cv_mono h2 (fun μ5 h6 => ?_))
  refine K_iconst 0 dM_isRight_10 rfl ?_
  refine K_istore_n 3 dM_isRight_11 rfl (Nat.le_of_ble_eq_true rfl) rfl ?_
  exact h6
set_option maxHeartbeats 8000000 in
theorem vM_isRight_12 {E : jE} {μ : jMu} {Q : Option AV → jMu → Prop} {l1 l2 l3 : Int} (hF : ((-2147483648 ≤ (12 + l2) ∧ (12 + l2) < 2147483648) ∧ (0 ≤ (12 + l2) ∧ (12 + l2) < 24)) ∧ (((μ 93 (12 + l2)) ≤ l3 → ((-2147483648 ≤ (4 * l2) ∧ (4 * l2) < 2147483648) ∧ (-2147483648 ≤ ((4 * l2) + 3) ∧ ((4 * l2) + 3) < 2147483648)) ∧ (Ci E mM_fromOf [jvR 76, jvI ((4 * l2) + 3)] μ (fun r6 μ3 => ((-2147483648 ≤ (4 * l2) ∧ (4 * l2) < 2147483648) ∧ (-2147483648 ≤ ((4 * l2) + 3) ∧ ((4 * l2) + 3) < 2147483648)) ∧ (Ci E mM_longOf [jvR 76, jvI ((4 * l2) + 3)] μ3 (fun r10 μ7 => ((-2147483648 ≤ (48 + l1) ∧ (48 + l1) < 2147483648)) ∧ (Ci E mM_fromOf [jvR 76, jvI (48 + l1)] μ7 (fun r14 μ11 => (Ci E mM_isMatch [jvR 76, jvI r6, jvI r10, jvI r14] μ11 (fun r18 μ15 => ((r18 = 0 ∨ r18 = 1)) ∧ (Q (some (jvI r18)) μ15)))))))))) ∧ (¬ ((μ 93 (12 + l2)) ≤ l3) → ((-2147483648 ≤ (4 * l2) ∧ (4 * l2) < 2147483648) ∧ (-2147483648 ≤ ((4 * l2) + l3) ∧ ((4 * l2) + l3) < 2147483648)) ∧ (Ci E mM_fromOf [jvR 76, jvI ((4 * l2) + l3)] μ (fun r23 μ20 => ((-2147483648 ≤ (4 * l2) ∧ (4 * l2) < 2147483648) ∧ (-2147483648 ≤ ((4 * l2) + l3) ∧ ((4 * l2) + l3) < 2147483648)) ∧ (Ci E mM_longOf [jvR 76, jvI ((4 * l2) + l3)] μ20 (fun r27 μ24 => (Ci E mM_namedBy [jvR 76, jvI l1, jvI l3] μ24 (fun r31 μ28 => ((-2147483648 ≤ (48 + r31) ∧ (48 + r31) < 2147483648)) ∧ (Ci E mM_fromOf [jvR 76, jvI (48 + r31)] μ28 (fun r35 μ32 => (Ci E mM_isMatch [jvR 76, jvI r23, jvI r27, jvI r35] μ32 (fun r39 μ36 => ((¬ r39 = 0 → ((-2147483648 ≤ (l3 + 1) ∧ (l3 + 1) < 2147483648)) ∧ (K 121 E mM_isRight 12 [some (jvR 76), some (jvI l1), some (jvI l2), some (jvI (l3 + 1))] [] μ36 Q)) ∧ (r39 = 0 → (Q (some (jvI 0)) μ36)))))))))))))))) : K 121 E mM_isRight 12 [some (jvR 76), some (jvI l1), some (jvI l2), some (jvI l3)] [] μ Q := by
  refine K_iload_n 3 l3 dM_isRight_12 rfl rfl ?_
  refine K_aload_n 0 76 dM_isRight_13 rfl rfl ?_
  refine K_getf 12 26 76 (jvR 93) dM_isRight_14 pf_M_64 rfl rfl (by decide) rfl rfl ?_
  refine K_bipush 12 dM_isRight_17 rfl ?_
  refine K_iload_n 2 l2 dM_isRight_19 rfl rfl ?_
  refine K_iadd dM_isRight_20 (w32_id hF.1.1) ?_
  refine K_iald 93 24 dM_isRight_21 rfl rfl (by decide) hF.1.2 ?_
  refine K_icmp_ge 71 dM_isRight_22 (by decide) (fun c1 => ?_) (fun c1 => ?_)
  · refine K_aload_n 0 76 dM_isRight_71 rfl rfl ?_
    refine K_aload_n 0 76 dM_isRight_72 rfl rfl ?_
    refine K_iconst 4 dM_isRight_73 rfl ?_
    refine K_iload_n 2 l2 dM_isRight_74 rfl rfl ?_
    refine K_imul dM_isRight_75 (w32_id (hF.2.1 c1).1.1) ?_
    refine K_iconst 3 dM_isRight_76 rfl ?_
    refine K_iadd dM_isRight_77 (w32_id (hF.2.1 c1).1.2) ?_
    refine K_callVi mM_fromOf 12 76 [jvI ((4 * l2) + 3)] dM_isRight_78 pm_M_313 ⟨_, rfl, rfl⟩ ⟨(Nat.le_of_ble_eq_true rfl), (Nat.le_of_ble_eq_true rfl)⟩ rfl rfl (by decide) (Nat.le_of_ble_eq_true rfl) rfl (Nat.le_of_ble_eq_true rfl) (by decide) (Ci_mono (hF.2.1 c1).2 (fun r6 μ3 h4 => ?_))
    refine K_aload_n 0 76 dM_isRight_81 rfl rfl ?_
    refine K_iconst 4 dM_isRight_82 rfl ?_
    refine K_iload_n 2 l2 dM_isRight_83 rfl rfl ?_
    refine K_imul dM_isRight_84 (w32_id h4.1.1) ?_
    refine K_iconst 3 dM_isRight_85 rfl ?_
    refine K_iadd dM_isRight_86 (w32_id h4.1.2) ?_
    refine K_callVi mM_longOf 12 76 [jvI ((4 * l2) + 3)] dM_isRight_87 pm_M_316 ⟨_, rfl, rfl⟩ ⟨(Nat.le_of_ble_eq_true rfl), (Nat.le_of_ble_eq_true rfl)⟩ rfl rfl (by decide) (Nat.le_of_ble_eq_true rfl) rfl (Nat.le_of_ble_eq_true rfl) (by decide) (Ci_mono h4.2 (fun r10 μ7 h8 => ?_))
    refine K_aload_n 0 76 dM_isRight_90 rfl rfl ?_
    refine K_bipush 48 dM_isRight_91 rfl ?_
    refine K_iload_n 1 l1 dM_isRight_93 rfl rfl ?_
    refine K_iadd dM_isRight_94 (w32_id h8.1) ?_
    refine K_callVi mM_fromOf 12 76 [jvI (48 + l1)] dM_isRight_95 pm_M_313 ⟨_, rfl, rfl⟩ ⟨(Nat.le_of_ble_eq_true rfl), (Nat.le_of_ble_eq_true rfl)⟩ rfl rfl (by decide) (Nat.le_of_ble_eq_true rfl) rfl (Nat.le_of_ble_eq_true rfl) (by decide) (Ci_mono h8.2 (fun r14 μ11 h12 => ?_))
    refine K_callVi mM_isMatch 12 76 [jvI r6, jvI r10, jvI r14] dM_isRight_98 pm_M_322 ⟨_, rfl, rfl⟩ ⟨(Nat.le_of_ble_eq_true rfl), (Nat.le_of_ble_eq_true rfl)⟩ rfl rfl (by decide) (Nat.le_of_ble_eq_true rfl) rfl (Nat.le_of_ble_eq_true rfl) (by decide) (Ci_mono h12 (fun r18 μ15 h16 => ?_))
    exact K_iret dM_isRight_101 (Or.inr ⟨rfl, h16.1⟩) h16.2
  · refine K_aload_n 0 76 dM_isRight_25 rfl rfl ?_
    refine K_aload_n 0 76 dM_isRight_26 rfl rfl ?_
    refine K_iconst 4 dM_isRight_27 rfl ?_
    refine K_iload_n 2 l2 dM_isRight_28 rfl rfl ?_
    refine K_imul dM_isRight_29 (w32_id (hF.2.2 c1).1.1) ?_
    refine K_iload_n 3 l3 dM_isRight_30 rfl rfl ?_
    refine K_iadd dM_isRight_31 (w32_id (hF.2.2 c1).1.2) ?_
    refine K_callVi mM_fromOf 12 76 [jvI ((4 * l2) + l3)] dM_isRight_32 pm_M_313 ⟨_, rfl, rfl⟩ ⟨(Nat.le_of_ble_eq_true rfl), (Nat.le_of_ble_eq_true rfl)⟩ rfl rfl (by decide) (Nat.le_of_ble_eq_true rfl) rfl (Nat.le_of_ble_eq_true rfl) (by decide) (Ci_mono (hF.2.2 c1).2 (fun r23 μ20 h21 => ?_))
    refine K_aload_n 0 76 dM_isRight_35 rfl rfl ?_
    refine K_iconst 4 dM_isRight_36 rfl ?_
    refine K_iload_n 2 l2 dM_isRight_37 rfl rfl ?_
    refine K_imul dM_isRight_38 (w32_id h21.1.1) ?_
    refine K_iload_n 3 l3 dM_isRight_39 rfl rfl ?_
    refine K_iadd dM_isRight_40 (w32_id h21.1.2) ?_
    refine K_callVi mM_longOf 12 76 [jvI ((4 * l2) + l3)] dM_isRight_41 pm_M_316 ⟨_, rfl, rfl⟩ ⟨(Nat.le_of_ble_eq_true rfl), (Nat.le_of_ble_eq_true rfl)⟩ rfl rfl (by decide) (Nat.le_of_ble_eq_true rfl) rfl (Nat.le_of_ble_eq_true rfl) (by decide) (Ci_mono h21.2 (fun r27 μ24 h25 => ?_))
    refine K_aload_n 0 76 dM_isRight_44 rfl rfl ?_
    refine K_bipush 48 dM_isRight_45 rfl ?_
    refine K_aload_n 0 76 dM_isRight_47 rfl rfl ?_
    refine K_iload_n 1 l1 dM_isRight_48 rfl rfl ?_
    refine K_iload_n 3 l3 dM_isRight_49 rfl rfl ?_
    refine K_callVi mM_namedBy 12 76 [jvI l1, jvI l3] dM_isRight_50 pm_M_319 ⟨_, rfl, rfl⟩ ⟨(Nat.le_of_ble_eq_true rfl), (Nat.le_of_ble_eq_true rfl)⟩ rfl rfl (by decide) (Nat.le_of_ble_eq_true rfl) rfl (Nat.le_of_ble_eq_true rfl) (by decide) (Ci_mono h25 (fun r31 μ28 h29 => ?_))
    refine K_iadd dM_isRight_53 (w32_id h29.1) ?_
    refine K_callVi mM_fromOf 12 76 [jvI (48 + r31)] dM_isRight_54 pm_M_313 ⟨_, rfl, rfl⟩ ⟨(Nat.le_of_ble_eq_true rfl), (Nat.le_of_ble_eq_true rfl)⟩ rfl rfl (by decide) (Nat.le_of_ble_eq_true rfl) rfl (Nat.le_of_ble_eq_true rfl) (by decide) (Ci_mono h29.2 (fun r35 μ32 h33 => ?_))
    refine K_callVi mM_isMatch 12 76 [jvI r23, jvI r27, jvI r35] dM_isRight_57 pm_M_322 ⟨_, rfl, rfl⟩ ⟨(Nat.le_of_ble_eq_true rfl), (Nat.le_of_ble_eq_true rfl)⟩ rfl rfl (by decide) (Nat.le_of_ble_eq_true rfl) rfl (Nat.le_of_ble_eq_true rfl) (by decide) (Ci_mono h33 (fun r39 μ36 h37 => ?_))
    refine K_if_ne 65 dM_isRight_60 (by decide) (fun c40 => ?_) (fun c40 => ?_)
    · refine K_iinc 3 dM_isRight_65 (Nat.le_of_ble_eq_true rfl) rfl (w32_ok (h37.1 c40).1) rfl ?_
      refine K_goto 12 dM_isRight_68 (by decide) ?_
      exact (h37.1 c40).2
    · refine K_iconst 0 dM_isRight_63 rfl ?_
      exact K_iret dM_isRight_64 (Or.inr ⟨rfl, (by decide)⟩) (h37.2 c40)
set_option maxHeartbeats 8000000 in
theorem vM_noHoles_0 {E : jE} {μ : jMu} {Q : Option AV → jMu → Prop} (hF : (K 121 E mM_noHoles 2 [some (jvR 76), some (jvI 0)] [] μ Q)) : K 121 E mM_noHoles 0 [some (jvR 76), none] [] μ Q := by
  refine K_iconst 0 dM_noHoles_0 rfl ?_
  refine K_istore_n 1 dM_noHoles_1 rfl (Nat.le_of_ble_eq_true rfl) rfl ?_
  exact hF
set_option maxHeartbeats 8000000 in
theorem vM_noHoles_2 {E : jE} {μ : jMu} {Q : Option AV → jMu → Prop} {l1 : Int} (hF : ((12 ≤ l1 → (Q none μ)) ∧ (¬ (12 ≤ l1) → ((0 ≤ l1 ∧ l1 < 12) ∧ (-2147483648 ≤ (l1 + 1) ∧ (l1 + 1) < 2147483648)) ∧ (K 121 E mM_noHoles 2 [some (jvR 76), some (jvI (l1 + 1))] [] (j_up μ 102 l1 (-1)) Q)))) : K 121 E mM_noHoles 2 [some (jvR 76), some (jvI l1)] [] μ Q := by
  refine K_iload_n 1 l1 dM_noHoles_2 rfl rfl ?_
  refine K_bipush 12 dM_noHoles_3 rfl ?_
  refine K_icmp_ge 21 dM_noHoles_5 (by decide) (fun c1 => ?_) (fun c1 => ?_)
  · exact K_vret dM_noHoles_21 rfl (hF.1 c1)
  · refine K_aload_n 0 76 dM_noHoles_8 rfl rfl ?_
    refine K_getf 12 39 76 (jvR 102) dM_noHoles_9 pf_M_91 rfl rfl (by decide) rfl rfl ?_
    refine K_iload_n 1 l1 dM_noHoles_12 rfl rfl ?_
    refine K_iconst (-1) dM_noHoles_13 rfl ?_
    refine K_iast 102 12 dM_noHoles_14 rfl rfl (by decide) (hF.2 c1).1.1 ?_
    refine K_iinc 1 dM_noHoles_15 (Nat.le_of_ble_eq_true rfl) rfl (w32_ok (hF.2 c1).1.2) rfl ?_
    refine K_goto 2 dM_noHoles_18 (by decide) ?_
    exact (hF.2 c1).2
set_option maxHeartbeats 8000000 in
theorem vM_longOf_0 {E : jE} {μ : jMu} {Q : Option AV → jMu → Prop} {a0 : Int} (hF : ((-2147483648 ≤ (88 + a0) ∧ (88 + a0) < 2147483648) ∧ (0 ≤ (88 + a0) ∧ (88 + a0) < 176)) ∧ (Q (some (jvI (μ 92 (88 + a0)))) μ)) : K 121 E mM_longOf 0 [some (jvR 76), some (jvI a0)] [] μ Q := by
  refine K_aload_n 0 76 dM_longOf_0 rfl rfl ?_
  refine K_getf 12 25 76 (jvR 92) dM_longOf_1 pf_M_61 rfl rfl (by decide) rfl rfl ?_
  refine K_bipush 88 dM_longOf_4 rfl ?_
  refine K_iload_n 1 a0 dM_longOf_6 rfl rfl ?_
  refine K_iadd dM_longOf_7 (w32_id hF.1.1) ?_
  refine K_iald 92 176 dM_longOf_8 rfl rfl (by decide) hF.1.2 ?_
  exact K_iret dM_longOf_9 (Or.inl rfl) hF.2
set_option maxHeartbeats 8000000 in
theorem vM_isMatch_0 {E : jE} {μ : jMu} {Q : Option AV → jMu → Prop} {a0 a1 a2 : Int} (hF : (K 121 E mM_isMatch 6 [some (jvR 76), some (jvI a0), some (jvI a1), some (jvI a2), some (jvI a2), some (jvI 0), none] [] μ Q)) : K 121 E mM_isMatch 0 [some (jvR 76), some (jvI a0), some (jvI a1), some (jvI a2), none, none, none] [] μ Q := by
  refine K_iload_n 3 a2 dM_isMatch_0 rfl rfl ?_
  refine K_istore 4 dM_isMatch_1 (Nat.le_of_ble_eq_true rfl) rfl ?_
  refine K_iconst 0 dM_isMatch_3 rfl ?_
  refine K_istore 5 dM_isMatch_4 (Nat.le_of_ble_eq_true rfl) rfl ?_
  exact hF
set_option maxHeartbeats 8000000 in
theorem vM_isMatch_6 {E : jE} {μ : jMu} {Q : Option AV → jMu → Prop} {l1 l2 l3 l4 l5 : Int} (hF : ((l2 ≤ l5 → (Q (some (jvI 1)) μ)) ∧ (¬ (l2 ≤ l5) → ((-2147483648 ≤ (l1 + l5) ∧ (l1 + l5) < 2147483648) ∧ (0 ≤ (l1 + l5) ∧ (l1 + l5) < 800)) ∧ ((100 ≤ (μ 90 (l1 + l5)) → ((-2147483648 ≤ ((μ 90 (l1 + l5)) - 100) ∧ ((μ 90 (l1 + l5)) - 100) < 2147483648) ∧ (0 ≤ ((μ 90 (l1 + l5)) - 100) ∧ ((μ 90 (l1 + l5)) - 100) < 12)) ∧ ((¬ (μ 102 ((μ 90 (l1 + l5)) - 100)) = (-1) → ((-2147483648 ≤ ((μ 90 (l1 + l5)) - 100) ∧ ((μ 90 (l1 + l5)) - 100) < 2147483648) ∧ (0 ≤ ((μ 90 (l1 + l5)) - 100) ∧ ((μ 90 (l1 + l5)) - 100) < 12)) ∧ (Ci E mM_areSame [jvR 76, jvI (μ 102 ((μ 90 (l1 + l5)) - 100)), jvI l4] μ (fun r11 μ8 => ((¬ r11 = 0 → (Ci E mM_partLong [jvR 76, jvI l4] μ8 (fun r17 μ14 => ((-2147483648 ≤ (l4 + r17) ∧ (l4 + r17) < 2147483648) ∧ (-2147483648 ≤ (l5 + 1) ∧ (l5 + 1) < 2147483648)) ∧ (K 121 E mM_isMatch 6 [some (jvR 76), some (jvI l1), some (jvI l2), some (jvI l3), some (jvI (l4 + r17)), some (jvI (l5 + 1)), none] [] μ14 Q)))) ∧ (r11 = 0 → (Q (some (jvI 0)) μ8)))))) ∧ ((μ 102 ((μ 90 (l1 + l5)) - 100)) = (-1) → ((-2147483648 ≤ ((μ 90 (l1 + l5)) - 100) ∧ ((μ 90 (l1 + l5)) - 100) < 2147483648) ∧ (0 ≤ ((μ 90 (l1 + l5)) - 100) ∧ ((μ 90 (l1 + l5)) - 100) < 12)) ∧ (Ci E mM_partLong [jvR 76, jvI l4] (j_up μ 102 ((μ 90 (l1 + l5)) - 100) l4) (fun r22 μ19 => ((-2147483648 ≤ (l4 + r22) ∧ (l4 + r22) < 2147483648) ∧ (-2147483648 ≤ (l5 + 1) ∧ (l5 + 1) < 2147483648)) ∧ (K 121 E mM_isMatch 6 [some (jvR 76), some (jvI l1), some (jvI l2), some (jvI l3), some (jvI (l4 + r22)), some (jvI (l5 + 1)), none] [] μ19 Q)))))) ∧ (¬ (100 ≤ (μ 90 (l1 + l5))) → ((0 ≤ l4 ∧ l4 < 800)) ∧ (((μ 90 l4) = (μ 90 (l1 + l5)) → ((-2147483648 ≤ (l4 + 1) ∧ (l4 + 1) < 2147483648) ∧ (-2147483648 ≤ (l5 + 1) ∧ (l5 + 1) < 2147483648)) ∧ (K 121 E mM_isMatch 6 [some (jvR 76), some (jvI l1), some (jvI l2), some (jvI l3), some (jvI (l4 + 1)), some (jvI (l5 + 1)), none] [] μ Q)) ∧ (¬ ((μ 90 l4) = (μ 90 (l1 + l5))) → (Q (some (jvI 0)) μ)))))))) : K 121 E mM_isMatch 6 [some (jvR 76), some (jvI l1), some (jvI l2), some (jvI l3), some (jvI l4), some (jvI l5), none] [] μ Q := by
  refine K_iload 5 l5 dM_isMatch_6 rfl ?_
  refine K_iload_n 2 l2 dM_isMatch_8 rfl rfl ?_
  refine K_icmp_ge 117 dM_isMatch_9 (by decide) (fun c1 => ?_) (fun c1 => ?_)
  · refine K_iconst 1 dM_isMatch_117 rfl ?_
    exact K_iret dM_isMatch_118 (Or.inr ⟨rfl, (by decide)⟩) (hF.1 c1)
  · refine K_aload_n 0 76 dM_isMatch_12 rfl rfl ?_
    refine K_getf 12 22 76 (jvR 90) dM_isMatch_13 pf_M_55 rfl rfl (by decide) rfl rfl ?_
    refine K_iload_n 1 l1 dM_isMatch_16 rfl rfl ?_
    refine K_iload 5 l5 dM_isMatch_17 rfl ?_
    refine K_iadd dM_isMatch_19 (w32_id (hF.2 c1).1.1) ?_
    refine K_iald 90 800 dM_isMatch_20 rfl rfl (by decide) (hF.2 c1).1.2 ?_
    refine K_istore 6 dM_isMatch_21 (Nat.le_of_ble_eq_true rfl) rfl ?_
    refine K_iload 6 (μ 90 (l1 + l5)) dM_isMatch_23 rfl ?_
    refine K_bipush 100 dM_isMatch_25 rfl ?_
    refine K_icmp_ge 50 dM_isMatch_27 (by decide) (fun c4 => ?_) (fun c4 => ?_)
    · refine K_aload_n 0 76 dM_isMatch_50 rfl rfl ?_
      refine K_getf 12 39 76 (jvR 102) dM_isMatch_51 pf_M_91 rfl rfl (by decide) rfl rfl ?_
      refine K_iload 6 (μ 90 (l1 + l5)) dM_isMatch_54 rfl ?_
      refine K_bipush 100 dM_isMatch_56 rfl ?_
      refine K_isub dM_isMatch_58 (w32_id ((hF.2 c1).2.1 c4).1.1) ?_
      refine K_iald 102 12 dM_isMatch_59 rfl rfl (by decide) ((hF.2 c1).2.1 c4).1.2 ?_
      refine K_iconst (-1) dM_isMatch_60 rfl ?_
      refine K_icmp_ne 79 dM_isMatch_61 (by decide) (fun c6 => ?_) (fun c6 => ?_)
      · refine K_aload_n 0 76 dM_isMatch_79 rfl rfl ?_
        refine K_aload_n 0 76 dM_isMatch_80 rfl rfl ?_
        refine K_getf 12 39 76 (jvR 102) dM_isMatch_81 pf_M_91 rfl rfl (by decide) rfl rfl ?_
        refine K_iload 6 (μ 90 (l1 + l5)) dM_isMatch_84 rfl ?_
        refine K_bipush 100 dM_isMatch_86 rfl ?_
        refine K_isub dM_isMatch_88 (w32_id (((hF.2 c1).2.1 c4).2.1 c6).1.1) ?_
        refine K_iald 102 12 dM_isMatch_89 rfl rfl (by decide) (((hF.2 c1).2.1 c4).2.1 c6).1.2 ?_
        refine K_iload 4 l4 dM_isMatch_90 rfl ?_
        refine K_callVi mM_areSame 12 76 [jvI (μ 102 ((μ 90 (l1 + l5)) - 100)), jvI l4] dM_isMatch_92 pm_M_306 ⟨_, rfl, rfl⟩ ⟨(Nat.le_of_ble_eq_true rfl), (Nat.le_of_ble_eq_true rfl)⟩ rfl rfl (by decide) (Nat.le_of_ble_eq_true rfl) rfl (Nat.le_of_ble_eq_true rfl) (by decide) (Ci_mono (((hF.2 c1).2.1 c4).2.1 c6).2 (fun r11 μ8 h9 => ?_))
        refine K_if_ne 100 dM_isMatch_95 (by decide) (fun c12 => ?_) (fun c12 => ?_)
        · refine K_iload 4 l4 dM_isMatch_100 rfl ?_
          refine K_aload_n 0 76 dM_isMatch_102 rfl rfl ?_
          refine K_iload 4 l4 dM_isMatch_103 rfl ?_
          refine K_callVi mM_partLong 12 76 [jvI l4] dM_isMatch_105 pm_M_303 ⟨_, rfl, rfl⟩ ⟨(Nat.le_of_ble_eq_true rfl), (Nat.le_of_ble_eq_true rfl)⟩ rfl rfl (by decide) (Nat.le_of_ble_eq_true rfl) rfl (Nat.le_of_ble_eq_true rfl) (by decide) (Ci_mono (h9.1 c12) (fun r17 μ14 h15 => ?_))
          refine K_iadd dM_isMatch_108 (w32_id h15.1.1) ?_
          refine K_istore 4 dM_isMatch_109 (Nat.le_of_ble_eq_true rfl) rfl ?_
          refine K_iinc 5 dM_isMatch_111 (Nat.le_of_ble_eq_true rfl) rfl (w32_ok h15.1.2) rfl ?_
          refine K_goto 6 dM_isMatch_114 (by decide) ?_
          exact K_forget [true, true, true, true, true, true, false] h15.2
        · refine K_iconst 0 dM_isMatch_98 rfl ?_
          exact K_iret dM_isMatch_99 (Or.inr ⟨rfl, (by decide)⟩) (h9.2 c12)
      · refine K_aload_n 0 76 dM_isMatch_64 rfl rfl ?_
        refine K_getf 12 39 76 (jvR 102) dM_isMatch_65 pf_M_91 rfl rfl (by decide) rfl rfl ?_
        refine K_iload 6 (μ 90 (l1 + l5)) dM_isMatch_68 rfl ?_
        refine K_bipush 100 dM_isMatch_70 rfl ?_
        refine K_isub dM_isMatch_72 (w32_id (((hF.2 c1).2.1 c4).2.2 c6).1.1) ?_
        refine K_iload 4 l4 dM_isMatch_73 rfl ?_
        refine K_iast 102 12 dM_isMatch_75 rfl rfl (by decide) (((hF.2 c1).2.1 c4).2.2 c6).1.2 ?_
        refine K_goto 100 dM_isMatch_76 (by decide) ?_
        refine K_iload 4 l4 dM_isMatch_100 rfl ?_
        refine K_aload_n 0 76 dM_isMatch_102 rfl rfl ?_
        refine K_iload 4 l4 dM_isMatch_103 rfl ?_
        refine K_callVi mM_partLong 12 76 [jvI l4] dM_isMatch_105 pm_M_303 ⟨_, rfl, rfl⟩ ⟨(Nat.le_of_ble_eq_true rfl), (Nat.le_of_ble_eq_true rfl)⟩ rfl rfl (by decide) (Nat.le_of_ble_eq_true rfl) rfl (Nat.le_of_ble_eq_true rfl) (by decide) (Ci_mono (((hF.2 c1).2.1 c4).2.2 c6).2 (fun r22 μ19 h20 => ?_))
        refine K_iadd dM_isMatch_108 (w32_id h20.1.1) ?_
        refine K_istore 4 dM_isMatch_109 (Nat.le_of_ble_eq_true rfl) rfl ?_
        refine K_iinc 5 dM_isMatch_111 (Nat.le_of_ble_eq_true rfl) rfl (w32_ok h20.1.2) rfl ?_
        refine K_goto 6 dM_isMatch_114 (by decide) ?_
        exact K_forget [true, true, true, true, true, true, false] h20.2
    · refine K_aload_n 0 76 dM_isMatch_30 rfl rfl ?_
      refine K_getf 12 22 76 (jvR 90) dM_isMatch_31 pf_M_55 rfl rfl (by decide) rfl rfl ?_
      refine K_iload 4 l4 dM_isMatch_34 rfl ?_
      refine K_iald 90 800 dM_isMatch_36 rfl rfl (by decide) ((hF.2 c1).2.2 c4).1 ?_
      refine K_iload 6 (μ 90 (l1 + l5)) dM_isMatch_37 rfl ?_
      refine K_icmp_eq 44 dM_isMatch_39 (by decide) (fun c23 => ?_) (fun c23 => ?_)
      · refine K_iinc 4 dM_isMatch_44 (Nat.le_of_ble_eq_true rfl) rfl (w32_ok (((hF.2 c1).2.2 c4).2.1 c23).1.1) rfl ?_
        refine K_goto 111 dM_isMatch_47 (by decide) ?_
        refine K_iinc 5 dM_isMatch_111 (Nat.le_of_ble_eq_true rfl) rfl (w32_ok (((hF.2 c1).2.2 c4).2.1 c23).1.2) rfl ?_
        refine K_goto 6 dM_isMatch_114 (by decide) ?_
        exact K_forget [true, true, true, true, true, true, false] (((hF.2 c1).2.2 c4).2.1 c23).2
      · refine K_iconst 0 dM_isMatch_42 rfl ?_
        exact K_iret dM_isMatch_43 (Or.inr ⟨rfl, (by decide)⟩) (((hF.2 c1).2.2 c4).2.2 c23)
set_option maxHeartbeats 8000000 in
theorem vM_isNeeded_0 {E : jE} {μ : jMu} {Q : Option AV → jMu → Prop} {a0 : Int} (hF : ((a0 = (μ 76 33) → (Q (some (jvI 1)) μ)) ∧ (¬ (a0 = (μ 76 33)) → ((0 ≤ (μ 76 33) ∧ (μ 76 33) < 40)) ∧ ((¬ (iand64 (ishr64 (μ 104 (μ 76 33)) a0) 1) = 1 → (Q (some (jvI 0)) μ)) ∧ ((iand64 (ishr64 (μ 104 (μ 76 33)) a0) 1) = 1 → (Q (some (jvI 1)) μ)))))) : K 121 E mM_isNeeded 0 [some (jvR 76), some (jvI a0)] [] μ Q := by
  refine K_iload_n 1 a0 dM_isNeeded_0 rfl rfl ?_
  refine K_aload_n 0 76 dM_isNeeded_1 rfl rfl ?_
  refine K_getf 12 33 76 (jvI (μ 76 33)) dM_isNeeded_2 pf_M_288 rfl rfl (by decide) rfl rfl ?_
  refine K_icmp_eq 26 dM_isNeeded_5 (by decide) (fun c1 => ?_) (fun c1 => ?_)
  · refine K_iconst 1 dM_isNeeded_26 rfl ?_
    refine K_goto 31 dM_isNeeded_27 (by decide) ?_
    exact K_iret dM_isNeeded_31 (Or.inr ⟨rfl, (by decide)⟩) (hF.1 c1)
  · refine K_aload_n 0 76 dM_isNeeded_8 rfl rfl ?_
    refine K_getf 12 41 76 (jvR 104) dM_isNeeded_9 pf_M_97 rfl rfl (by decide) rfl rfl ?_
    refine K_aload_n 0 76 dM_isNeeded_12 rfl rfl ?_
    refine K_getf 12 33 76 (jvI (μ 76 33)) dM_isNeeded_13 pf_M_288 rfl rfl (by decide) rfl rfl ?_
    refine K_lald 104 40 dM_isNeeded_16 rfl rfl (by decide) (hF.2 c1).1 ?_
    refine K_iload_n 1 a0 dM_isNeeded_17 rfl rfl ?_
    refine K_lshr dM_isNeeded_18 rfl ?_
    refine K_lconst 1 dM_isNeeded_19 rfl ?_
    refine K_land dM_isNeeded_20 rfl ?_
    refine K_lconst 1 dM_isNeeded_21 rfl ?_
    refine K_lcmp_ne 30 dM_isNeeded_22 dM_isNeeded_23 (by decide) (fun c4 => ?_) (fun c4 => ?_)
    · refine K_iconst 0 dM_isNeeded_30 rfl ?_
      exact K_iret dM_isNeeded_31 (Or.inr ⟨rfl, (by decide)⟩) ((hF.2 c1).2.1 c4)
    · refine K_iconst 1 dM_isNeeded_26 rfl ?_
      refine K_goto 31 dM_isNeeded_27 (by decide) ?_
      exact K_iret dM_isNeeded_31 (Or.inr ⟨rfl, (by decide)⟩) ((hF.2 c1).2.2 c4)
set_option maxHeartbeats 8000000 in
theorem vM_coveredBy_0 {E : jE} {μ : jMu} {Q : Option AV → jMu → Prop} {a0 : Int} (hF : (K 121 E mM_coveredBy 2 [some (jvR 76), some (jvI a0), some (jvI 0)] [] μ Q)) : K 121 E mM_coveredBy 0 [some (jvR 76), some (jvI a0), none] [] μ Q := by
  refine K_iconst 0 dM_coveredBy_0 rfl ?_
  refine K_istore_n 2 dM_coveredBy_1 rfl (Nat.le_of_ble_eq_true rfl) rfl ?_
  exact hF
set_option maxHeartbeats 8000000 in
theorem vM_coveredBy_2 {E : jE} {μ : jMu} {Q : Option AV → jMu → Prop} {l1 l2 : Int} (hF : ((l1 ≤ l2 → (Q (some (jvI (-1))) μ)) ∧ (¬ (l1 ≤ l2) → (Ci E mM_isCover [jvR 76, jvI l2, jvI l1] μ (fun r7 μ4 => ((r7 = 0 → ((-2147483648 ≤ (l2 + 1) ∧ (l2 + 1) < 2147483648)) ∧ (K 121 E mM_coveredBy 2 [some (jvR 76), some (jvI l1), some (jvI (l2 + 1))] [] μ4 Q)) ∧ (¬ (r7 = 0) → (Q (some (jvI l2)) μ4)))))))) : K 121 E mM_coveredBy 2 [some (jvR 76), some (jvI l1), some (jvI l2)] [] μ Q := by
  refine K_iload_n 2 l2 dM_coveredBy_2 rfl rfl ?_
  refine K_iload_n 1 l1 dM_coveredBy_3 rfl rfl ?_
  refine K_icmp_ge 24 dM_coveredBy_4 (by decide) (fun c1 => ?_) (fun c1 => ?_)
  · refine K_iconst (-1) dM_coveredBy_24 rfl ?_
    exact K_iret dM_coveredBy_25 (Or.inl rfl) (hF.1 c1)
  · refine K_aload_n 0 76 dM_coveredBy_7 rfl rfl ?_
    refine K_iload_n 2 l2 dM_coveredBy_8 rfl rfl ?_
    refine K_iload_n 1 l1 dM_coveredBy_9 rfl rfl ?_
    refine K_callVi mM_isCover 12 76 [jvI l2, jvI l1] dM_coveredBy_10 pm_M_325 ⟨_, rfl, rfl⟩ ⟨(Nat.le_of_ble_eq_true rfl), (Nat.le_of_ble_eq_true rfl)⟩ rfl rfl (by decide) (Nat.le_of_ble_eq_true rfl) rfl (Nat.le_of_ble_eq_true rfl) (by decide) (Ci_mono (hF.2 c1) (fun r7 μ4 h5 => ?_))
    refine K_if_eq 18 dM_coveredBy_13 (by decide) (fun c8 => ?_) (fun c8 => ?_)
    · refine K_iinc 2 dM_coveredBy_18 (Nat.le_of_ble_eq_true rfl) rfl (w32_ok (h5.1 c8).1) rfl ?_
      refine K_goto 2 dM_coveredBy_21 (by decide) ?_
      exact (h5.1 c8).2
    · refine K_iload_n 2 l2 dM_coveredBy_16 rfl rfl ?_
      exact K_iret dM_coveredBy_17 (Or.inl rfl) (h5.2 c8)
set_option maxHeartbeats 8000000 in
theorem vM_isCover_0 {E : jE} {μ : jMu} {Q : Option AV → jMu → Prop} {a0 a1 : Int} (hF : (Cv E mM_noHoles [jvR 76] μ (fun μ1 => ((-2147483648 ≤ (48 + a0) ∧ (48 + a0) < 2147483648)) ∧ (Ci E mM_fromOf [jvR 76, jvI (48 + a0)] μ1 (fun r7 μ4 => ((-2147483648 ≤ (48 + a0) ∧ (48 + a0) < 2147483648)) ∧ (Ci E mM_longOf [jvR 76, jvI (48 + a0)] μ4 (fun r11 μ8 => ((-2147483648 ≤ (48 + a1) ∧ (48 + a1) < 2147483648)) ∧ (Ci E mM_fromOf [jvR 76, jvI (48 + a1)] μ8 (fun r15 μ12 => (Ci E mM_isMatch [jvR 76, jvI r7, jvI r11, jvI r15] μ12 (fun r19 μ16 => ((r19 = 0 ∨ r19 = 1)) ∧ (Q (some (jvI r19)) μ16)))))))))))) : K 121 E mM_isCover 0 [some (jvR 76), some (jvI a0), some (jvI a1)] [] μ Q := by
  refine K_aload_n 0 76 dM_isCover_0 rfl rfl ?_
  refine K_callVv mM_noHoles 12 76 [] dM_isCover_1 pm_M_310 ⟨_, rfl, rfl⟩ ⟨(Nat.le_of_ble_eq_true rfl), (Nat.le_of_ble_eq_true rfl)⟩ rfl rfl (by decide) (Nat.le_of_ble_eq_true rfl) rfl (Nat.le_of_ble_eq_true rfl) (by decide) (Cv_mono hF (fun μ1 h2 => ?_))
  refine K_aload_n 0 76 dM_isCover_4 rfl rfl ?_
  refine K_aload_n 0 76 dM_isCover_5 rfl rfl ?_
  refine K_bipush 48 dM_isCover_6 rfl ?_
  refine K_iload_n 1 a0 dM_isCover_8 rfl rfl ?_
  refine K_iadd dM_isCover_9 (w32_id h2.1) ?_
  refine K_callVi mM_fromOf 12 76 [jvI (48 + a0)] dM_isCover_10 pm_M_313 ⟨_, rfl, rfl⟩ ⟨(Nat.le_of_ble_eq_true rfl), (Nat.le_of_ble_eq_true rfl)⟩ rfl rfl (by decide) (Nat.le_of_ble_eq_true rfl) rfl (Nat.le_of_ble_eq_true rfl) (by decide) (Ci_mono h2.2 (fun r7 μ4 h5 => ?_))
  refine K_aload_n 0 76 dM_isCover_13 rfl rfl ?_
  refine K_bipush 48 dM_isCover_14 rfl ?_
  refine K_iload_n 1 a0 dM_isCover_16 rfl rfl ?_
  refine K_iadd dM_isCover_17 (w32_id h5.1) ?_
  refine K_callVi mM_longOf 12 76 [jvI (48 + a0)] dM_isCover_18 pm_M_316 ⟨_, rfl, rfl⟩ ⟨(Nat.le_of_ble_eq_true rfl), (Nat.le_of_ble_eq_true rfl)⟩ rfl rfl (by decide) (Nat.le_of_ble_eq_true rfl) rfl (Nat.le_of_ble_eq_true rfl) (by decide) (Ci_mono h5.2 (fun r11 μ8 h9 => ?_))
  refine K_aload_n 0 76 dM_isCover_21 rfl rfl ?_
  refine K_bipush 48 dM_isCover_22 rfl ?_
  refine K_iload_n 2 a1 dM_isCover_24 rfl rfl ?_
  refine K_iadd dM_isCover_25 (w32_id h9.1) ?_
  refine K_callVi mM_fromOf 12 76 [jvI (48 + a1)] dM_isCover_26 pm_M_313 ⟨_, rfl, rfl⟩ ⟨(Nat.le_of_ble_eq_true rfl), (Nat.le_of_ble_eq_true rfl)⟩ rfl rfl (by decide) (Nat.le_of_ble_eq_true rfl) rfl (Nat.le_of_ble_eq_true rfl) (by decide) (Ci_mono h9.2 (fun r15 μ12 h13 => ?_))
  refine K_callVi mM_isMatch 12 76 [jvI r7, jvI r11, jvI r15] dM_isCover_29 pm_M_322 ⟨_, rfl, rfl⟩ ⟨(Nat.le_of_ble_eq_true rfl), (Nat.le_of_ble_eq_true rfl)⟩ rfl rfl (by decide) (Nat.le_of_ble_eq_true rfl) rfl (Nat.le_of_ble_eq_true rfl) (by decide) (Ci_mono h13 (fun r19 μ16 h17 => ?_))
  exact K_iret dM_isCover_32 (Or.inr ⟨rfl, h17.1⟩) h17.2
set_option maxHeartbeats 8000000 in
theorem vM_wrongMany_0 {E : jE} {μ : jMu} {Q : Option AV → jMu → Prop} (hF : (K 121 E mM_wrongMany 4 [some (jvR 76), some (jvI 0), some (jvI 0)] [] μ Q)) : K 121 E mM_wrongMany 0 [some (jvR 76), none, none] [] μ Q := by
  refine K_iconst 0 dM_wrongMany_0 rfl ?_
  refine K_istore_n 1 dM_wrongMany_1 rfl (Nat.le_of_ble_eq_true rfl) rfl ?_
  refine K_iconst 0 dM_wrongMany_2 rfl ?_
  refine K_istore_n 2 dM_wrongMany_3 rfl (Nat.le_of_ble_eq_true rfl) rfl ?_
  exact hF
set_option maxHeartbeats 8000000 in
theorem vM_wrongMany_4 {E : jE} {μ : jMu} {Q : Option AV → jMu → Prop} {l1 l2 : Int} (hF : (Ci E mM_rules [jvR 76] μ (fun r4 μ1 => ((r4 ≤ l2 → (Q (some (jvI l1)) μ1)) ∧ (¬ (r4 ≤ l2) → ((0 ≤ l2 ∧ l2 < 12)) ∧ (((μ1 107 l2) = 0 → ((-2147483648 ≤ (l2 + 1) ∧ (l2 + 1) < 2147483648)) ∧ (K 121 E mM_wrongMany 4 [some (jvR 76), some (jvI l1), some (jvI (l2 + 1))] [] μ1 Q)) ∧ (¬ ((μ1 107 l2) = 0) → ((-2147483648 ≤ (l1 + 1) ∧ (l1 + 1) < 2147483648) ∧ (-2147483648 ≤ (l2 + 1) ∧ (l2 + 1) < 2147483648)) ∧ (K 121 E mM_wrongMany 4 [some (jvR 76), some (jvI (l1 + 1)), some (jvI (l2 + 1))] [] μ1 Q)))))))) : K 121 E mM_wrongMany 4 [some (jvR 76), some (jvI l1), some (jvI l2)] [] μ Q := by
  refine K_iload_n 2 l2 dM_wrongMany_4 rfl rfl ?_
  refine K_aload_n 0 76 dM_wrongMany_5 rfl rfl ?_
  refine K_callVi mM_rules 12 76 [] dM_wrongMany_6 pm_M_297 ⟨_, rfl, rfl⟩ ⟨(Nat.le_of_ble_eq_true rfl), (Nat.le_of_ble_eq_true rfl)⟩ rfl rfl (by decide) (Nat.le_of_ble_eq_true rfl) rfl (Nat.le_of_ble_eq_true rfl) (by decide) (Ci_mono hF (fun r4 μ1 h2 => ?_))
  refine K_icmp_ge 30 dM_wrongMany_9 (by decide) (fun c5 => ?_) (fun c5 => ?_)
  · refine K_iload_n 1 l1 dM_wrongMany_30 rfl rfl ?_
    exact K_iret dM_wrongMany_31 (Or.inl rfl) (h2.1 c5)
  · refine K_aload_n 0 76 dM_wrongMany_12 rfl rfl ?_
    refine K_getf 12 45 76 (jvR 107) dM_wrongMany_13 pf_M_106 rfl rfl (by decide) rfl rfl ?_
    refine K_iload_n 2 l2 dM_wrongMany_16 rfl rfl ?_
    refine K_zald 107 12 dM_wrongMany_17 rfl rfl (by decide) (h2.2 c5).1 ?_
    refine K_if_eq 24 dM_wrongMany_18 (by decide) (fun c8 => ?_) (fun c8 => ?_)
    · refine K_iinc 2 dM_wrongMany_24 (Nat.le_of_ble_eq_true rfl) rfl (w32_ok ((h2.2 c5).2.1 c8).1) rfl ?_
      refine K_goto 4 dM_wrongMany_27 (by decide) ?_
      exact ((h2.2 c5).2.1 c8).2
    · refine K_iinc 1 dM_wrongMany_21 (Nat.le_of_ble_eq_true rfl) rfl (w32_ok ((h2.2 c5).2.2 c8).1.1) rfl ?_
      refine K_iinc 2 dM_wrongMany_24 (Nat.le_of_ble_eq_true rfl) rfl (w32_ok ((h2.2 c5).2.2 c8).1.2) rfl ?_
      refine K_goto 4 dM_wrongMany_27 (by decide) ?_
      exact ((h2.2 c5).2.2 c8).2
set_option maxHeartbeats 8000000 in
theorem vM_falls_0 {E : jE} {μ : jMu} {Q : Option AV → jMu → Prop} (hF : (K 121 E mM_falls 4 [some (jvR 76), some (jvI 0), some (jvI 0), none] [] μ Q)) : K 121 E mM_falls 0 [some (jvR 76), none, none, none] [] μ Q := by
  refine K_iconst 0 dM_falls_0 rfl ?_
  refine K_istore_n 1 dM_falls_1 rfl (Nat.le_of_ble_eq_true rfl) rfl ?_
  refine K_iconst 0 dM_falls_2 rfl ?_
  refine K_istore_n 2 dM_falls_3 rfl (Nat.le_of_ble_eq_true rfl) rfl ?_
  exact hF
set_option maxHeartbeats 8000000 in
theorem vM_falls_4 {E : jE} {μ : jMu} {Q : Option AV → jMu → Prop} {l1 l2 : Int} (hF : (Ci E mM_steps [jvR 76] μ (fun r4 μ1 => ((r4 ≤ l2 → (Q (some (jvI l1)) μ1)) ∧ (¬ (r4 ≤ l2) → (Ci E mM_ruleBy [jvR 76, jvI l2] μ1 (fun r11 μ8 => ((0 ≤ r11 ∧ r11 < 12) ∧ (0 ≤ l2 ∧ l2 < 40) ∧ ((μ8 107 r11) = 0 ∨ (μ8 107 r11) = 1)) ∧ (K 121 E mM_falls 30 [some (jvR 76), some (jvI l1), some (jvI l2), some (jvI 0)] [] (j_up μ8 108 l2 (μ8 107 r11)) Q)))))))) : K 121 E mM_falls 4 [some (jvR 76), some (jvI l1), some (jvI l2), none] [] μ Q := by
  refine K_iload_n 2 l2 dM_falls_4 rfl rfl ?_
  refine K_aload_n 0 76 dM_falls_5 rfl rfl ?_
  refine K_callVi mM_steps 12 76 [] dM_falls_6 pm_M_294 ⟨_, rfl, rfl⟩ ⟨(Nat.le_of_ble_eq_true rfl), (Nat.le_of_ble_eq_true rfl)⟩ rfl rfl (by decide) (Nat.le_of_ble_eq_true rfl) rfl (Nat.le_of_ble_eq_true rfl) (by decide) (Ci_mono hF (fun r4 μ1 h2 => ?_))
  refine K_icmp_ge 97 dM_falls_9 (by decide) (fun c5 => ?_) (fun c5 => ?_)
  · refine K_iload_n 1 l1 dM_falls_97 rfl rfl ?_
    exact K_iret dM_falls_98 (Or.inl rfl) (h2.1 c5)
  · refine K_aload_n 0 76 dM_falls_12 rfl rfl ?_
    refine K_getf 12 46 76 (jvR 108) dM_falls_13 pf_M_110 rfl rfl (by decide) rfl rfl ?_
    refine K_iload_n 2 l2 dM_falls_16 rfl rfl ?_
    refine K_aload_n 0 76 dM_falls_17 rfl rfl ?_
    refine K_getf 12 45 76 (jvR 107) dM_falls_18 pf_M_106 rfl rfl (by decide) rfl rfl ?_
    refine K_aload_n 0 76 dM_falls_21 rfl rfl ?_
    refine K_iload_n 2 l2 dM_falls_22 rfl rfl ?_
    refine K_callVi mM_ruleBy 12 76 [jvI l2] dM_falls_23 pm_M_300 ⟨_, rfl, rfl⟩ ⟨(Nat.le_of_ble_eq_true rfl), (Nat.le_of_ble_eq_true rfl)⟩ rfl rfl (by decide) (Nat.le_of_ble_eq_true rfl) rfl (Nat.le_of_ble_eq_true rfl) (by decide) (Ci_mono (h2.2 c5) (fun r11 μ8 h9 => ?_))
    refine K_zald 107 12 dM_falls_26 rfl rfl (by decide) h9.1.1 ?_
    refine K_zast 108 40 dM_falls_27 rfl rfl (by decide) h9.1.2.1 h9.1.2.2 ?_
    refine K_iconst 0 dM_falls_28 rfl ?_
    refine K_istore_n 3 dM_falls_29 rfl (Nat.le_of_ble_eq_true rfl) rfl ?_
    exact h9.2
set_option maxHeartbeats 8000000 in
theorem vM_falls_30 {E : jE} {μ : jMu} {Q : Option AV → jMu → Prop} {l1 l2 l3 : Int} (hF : (Ci E mM_namesMany [jvR 76, jvI l2] μ (fun r4 μ1 => ((r4 ≤ l3 → ((0 ≤ l2 ∧ l2 < 40)) ∧ (((μ1 108 l2) = 0 → ((-2147483648 ≤ (l2 + 1) ∧ (l2 + 1) < 2147483648)) ∧ (K 121 E mM_falls 4 [some (jvR 76), some (jvI l1), some (jvI (l2 + 1)), none] [] μ1 Q)) ∧ (¬ ((μ1 108 l2) = 0) → ((-2147483648 ≤ (l1 + 1) ∧ (l1 + 1) < 2147483648) ∧ (-2147483648 ≤ (l2 + 1) ∧ (l2 + 1) < 2147483648)) ∧ (K 121 E mM_falls 4 [some (jvR 76), some (jvI (l1 + 1)), some (jvI (l2 + 1)), none] [] μ1 Q)))) ∧ (¬ (r4 ≤ l3) → ((0 ≤ l2 ∧ l2 < 40)) ∧ ((¬ (μ1 108 l2) = 0 → ((0 ≤ l2 ∧ l2 < 40) ∧ (-2147483648 ≤ (l3 + 1) ∧ (l3 + 1) < 2147483648)) ∧ (K 121 E mM_falls 30 [some (jvR 76), some (jvI l1), some (jvI l2), some (jvI (l3 + 1))] [] (j_up μ1 108 l2 1) Q)) ∧ ((μ1 108 l2) = 0 → (Ci E mM_namedBy [jvR 76, jvI l2, jvI l3] μ1 (fun r14 μ11 => ((0 ≤ r14 ∧ r14 < 40)) ∧ (((μ11 108 r14) = 0 → ((0 ≤ l2 ∧ l2 < 40) ∧ (-2147483648 ≤ (l3 + 1) ∧ (l3 + 1) < 2147483648)) ∧ (K 121 E mM_falls 30 [some (jvR 76), some (jvI l1), some (jvI l2), some (jvI (l3 + 1))] [] (j_up μ11 108 l2 0) Q)) ∧ (¬ ((μ11 108 r14) = 0) → ((0 ≤ l2 ∧ l2 < 40) ∧ (-2147483648 ≤ (l3 + 1) ∧ (l3 + 1) < 2147483648)) ∧ (K 121 E mM_falls 30 [some (jvR 76), some (jvI l1), some (jvI l2), some (jvI (l3 + 1))] [] (j_up μ11 108 l2 1) Q)))))))))))) : K 121 E mM_falls 30 [some (jvR 76), some (jvI l1), some (jvI l2), some (jvI l3)] [] μ Q := by
  refine K_iload_n 3 l3 dM_falls_30 rfl rfl ?_
  refine K_aload_n 0 76 dM_falls_31 rfl rfl ?_
  refine K_iload_n 2 l2 dM_falls_32 rfl rfl ?_
  refine K_callVi mM_namesMany 12 76 [jvI l2] dM_falls_33 pm_M_328 ⟨_, rfl, rfl⟩ ⟨(Nat.le_of_ble_eq_true rfl), (Nat.le_of_ble_eq_true rfl)⟩ rfl rfl (by decide) (Nat.le_of_ble_eq_true rfl) rfl (Nat.le_of_ble_eq_true rfl) (by decide) (Ci_mono hF (fun r4 μ1 h2 => ?_))
  refine K_icmp_ge 79 dM_falls_36 (by decide) (fun c5 => ?_) (fun c5 => ?_)
  · refine K_aload_n 0 76 dM_falls_79 rfl rfl ?_
    refine K_getf 12 46 76 (jvR 108) dM_falls_80 pf_M_110 rfl rfl (by decide) rfl rfl ?_
    refine K_iload_n 2 l2 dM_falls_83 rfl rfl ?_
    refine K_zald 108 40 dM_falls_84 rfl rfl (by decide) (h2.1 c5).1 ?_
    refine K_if_eq 91 dM_falls_85 (by decide) (fun c7 => ?_) (fun c7 => ?_)
    · refine K_iinc 2 dM_falls_91 (Nat.le_of_ble_eq_true rfl) rfl (w32_ok ((h2.1 c5).2.1 c7).1) rfl ?_
      refine K_goto 4 dM_falls_94 (by decide) ?_
      exact K_forget [true, true, true, false] ((h2.1 c5).2.1 c7).2
    · refine K_iinc 1 dM_falls_88 (Nat.le_of_ble_eq_true rfl) rfl (w32_ok ((h2.1 c5).2.2 c7).1.1) rfl ?_
      refine K_iinc 2 dM_falls_91 (Nat.le_of_ble_eq_true rfl) rfl (w32_ok ((h2.1 c5).2.2 c7).1.2) rfl ?_
      refine K_goto 4 dM_falls_94 (by decide) ?_
      exact K_forget [true, true, true, false] ((h2.1 c5).2.2 c7).2
  · refine K_aload_n 0 76 dM_falls_39 rfl rfl ?_
    refine K_getf 12 46 76 (jvR 108) dM_falls_40 pf_M_110 rfl rfl (by decide) rfl rfl ?_
    refine K_iload_n 2 l2 dM_falls_43 rfl rfl ?_
    refine K_aload_n 0 76 dM_falls_44 rfl rfl ?_
    refine K_getf 12 46 76 (jvR 108) dM_falls_45 pf_M_110 rfl rfl (by decide) rfl rfl ?_
    refine K_iload_n 2 l2 dM_falls_48 rfl rfl ?_
    refine K_zald 108 40 dM_falls_49 rfl rfl (by decide) (h2.2 c5).1 ?_
    refine K_if_ne 67 dM_falls_50 (by decide) (fun c9 => ?_) (fun c9 => ?_)
    · refine K_iconst 1 dM_falls_67 rfl ?_
      refine K_goto 72 dM_falls_68 (by decide) ?_
      refine K_zast 108 40 dM_falls_72 rfl rfl (by decide) ((h2.2 c5).2.1 c9).1.1 (by decide) ?_
      refine K_iinc 3 dM_falls_73 (Nat.le_of_ble_eq_true rfl) rfl (w32_ok ((h2.2 c5).2.1 c9).1.2) rfl ?_
      refine K_goto 30 dM_falls_76 (by decide) ?_
      exact ((h2.2 c5).2.1 c9).2
    · refine K_aload_n 0 76 dM_falls_53 rfl rfl ?_
      refine K_getf 12 46 76 (jvR 108) dM_falls_54 pf_M_110 rfl rfl (by decide) rfl rfl ?_
      refine K_aload_n 0 76 dM_falls_57 rfl rfl ?_
      refine K_iload_n 2 l2 dM_falls_58 rfl rfl ?_
      refine K_iload_n 3 l3 dM_falls_59 rfl rfl ?_
      refine K_callVi mM_namedBy 12 76 [jvI l2, jvI l3] dM_falls_60 pm_M_319 ⟨_, rfl, rfl⟩ ⟨(Nat.le_of_ble_eq_true rfl), (Nat.le_of_ble_eq_true rfl)⟩ rfl rfl (by decide) (Nat.le_of_ble_eq_true rfl) rfl (Nat.le_of_ble_eq_true rfl) (by decide) (Ci_mono ((h2.2 c5).2.2 c9) (fun r14 μ11 h12 => ?_))
      refine K_zald 108 40 dM_falls_63 rfl rfl (by decide) h12.1 ?_
      refine K_if_eq 71 dM_falls_64 (by decide) (fun c15 => ?_) (fun c15 => ?_)
      · refine K_iconst 0 dM_falls_71 rfl ?_
        refine K_zast 108 40 dM_falls_72 rfl rfl (by decide) (h12.2.1 c15).1.1 (by decide) ?_
        refine K_iinc 3 dM_falls_73 (Nat.le_of_ble_eq_true rfl) rfl (w32_ok (h12.2.1 c15).1.2) rfl ?_
        refine K_goto 30 dM_falls_76 (by decide) ?_
        exact (h12.2.1 c15).2
      · refine K_iconst 1 dM_falls_67 rfl ?_
        refine K_goto 72 dM_falls_68 (by decide) ?_
        refine K_zast 108 40 dM_falls_72 rfl rfl (by decide) (h12.2.2 c15).1.1 (by decide) ?_
        refine K_iinc 3 dM_falls_73 (Nat.le_of_ble_eq_true rfl) rfl (w32_ok (h12.2.2 c15).1.2) rfl ?_
        refine K_goto 30 dM_falls_76 (by decide) ?_
        exact (h12.2.2 c15).2
set_option maxHeartbeats 8000000 in
theorem vM_askedMany_0 {E : jE} {μ : jMu} {Q : Option AV → jMu → Prop} (hF : (K 121 E mM_askedMany 4 [some (jvR 76), some (jvI 0), some (jvI 0)] [] μ Q)) : K 121 E mM_askedMany 0 [some (jvR 76), none, none] [] μ Q := by
  refine K_iconst 0 dM_askedMany_0 rfl ?_
  refine K_istore_n 1 dM_askedMany_1 rfl (Nat.le_of_ble_eq_true rfl) rfl ?_
  refine K_iconst 0 dM_askedMany_2 rfl ?_
  refine K_istore_n 2 dM_askedMany_3 rfl (Nat.le_of_ble_eq_true rfl) rfl ?_
  exact hF
set_option maxHeartbeats 8000000 in
theorem vM_askedMany_4 {E : jE} {μ : jMu} {Q : Option AV → jMu → Prop} {l1 l2 : Int} (hF : (Ci E mM_readers [jvR 76] μ (fun r4 μ1 => ((r4 ≤ l2 → (Q (some (jvI l1)) μ1)) ∧ (¬ (r4 ≤ l2) → ((0 ≤ l2 ∧ l2 < 6)) ∧ (((μ1 109 l2) = 0 → ((-2147483648 ≤ (l2 + 1) ∧ (l2 + 1) < 2147483648)) ∧ (K 121 E mM_askedMany 4 [some (jvR 76), some (jvI l1), some (jvI (l2 + 1))] [] μ1 Q)) ∧ (¬ ((μ1 109 l2) = 0) → ((-2147483648 ≤ (l1 + 1) ∧ (l1 + 1) < 2147483648) ∧ (-2147483648 ≤ (l2 + 1) ∧ (l2 + 1) < 2147483648)) ∧ (K 121 E mM_askedMany 4 [some (jvR 76), some (jvI (l1 + 1)), some (jvI (l2 + 1))] [] μ1 Q)))))))) : K 121 E mM_askedMany 4 [some (jvR 76), some (jvI l1), some (jvI l2)] [] μ Q := by
  refine K_iload_n 2 l2 dM_askedMany_4 rfl rfl ?_
  refine K_aload_n 0 76 dM_askedMany_5 rfl rfl ?_
  refine K_callVi mM_readers 12 76 [] dM_askedMany_6 pm_M_334 ⟨_, rfl, rfl⟩ ⟨(Nat.le_of_ble_eq_true rfl), (Nat.le_of_ble_eq_true rfl)⟩ rfl rfl (by decide) (Nat.le_of_ble_eq_true rfl) rfl (Nat.le_of_ble_eq_true rfl) (by decide) (Ci_mono hF (fun r4 μ1 h2 => ?_))
  refine K_icmp_ge 30 dM_askedMany_9 (by decide) (fun c5 => ?_) (fun c5 => ?_)
  · refine K_iload_n 1 l1 dM_askedMany_30 rfl rfl ?_
    exact K_iret dM_askedMany_31 (Or.inl rfl) (h2.1 c5)
  · refine K_aload_n 0 76 dM_askedMany_12 rfl rfl ?_
    refine K_getf 12 47 76 (jvR 109) dM_askedMany_13 pf_M_113 rfl rfl (by decide) rfl rfl ?_
    refine K_iload_n 2 l2 dM_askedMany_16 rfl rfl ?_
    refine K_zald 109 6 dM_askedMany_17 rfl rfl (by decide) (h2.2 c5).1 ?_
    refine K_if_eq 24 dM_askedMany_18 (by decide) (fun c8 => ?_) (fun c8 => ?_)
    · refine K_iinc 2 dM_askedMany_24 (Nat.le_of_ble_eq_true rfl) rfl (w32_ok ((h2.2 c5).2.1 c8).1) rfl ?_
      refine K_goto 4 dM_askedMany_27 (by decide) ?_
      exact ((h2.2 c5).2.1 c8).2
    · refine K_iinc 1 dM_askedMany_21 (Nat.le_of_ble_eq_true rfl) rfl (w32_ok ((h2.2 c5).2.2 c8).1.1) rfl ?_
      refine K_iinc 2 dM_askedMany_24 (Nat.le_of_ble_eq_true rfl) rfl (w32_ok ((h2.2 c5).2.2 c8).1.2) rfl ?_
      refine K_goto 4 dM_askedMany_27 (by decide) ?_
      exact ((h2.2 c5).2.2 c8).2
set_option maxHeartbeats 8000000 in
theorem vM_letter_0 {E : jE} {μ : jMu} {Q : Option AV → jMu → Prop} {a0 a1 a2 : Int} (hF : (Ci E mM_isIn [jvL a0, jvL 0, jvL 3] μ (fun r4 μ1 => ((r4 = 0 → (Q (some (jvI (-1))) μ1)) ∧ (¬ (r4 = 0) → ((-2147483648 ≤ (5 + a0) ∧ (5 + a0) < 2147483648) ∧ (0 ≤ (5 + a0) ∧ (5 + a0) < 10) ∧ (-2147483648 ≤ ((μ1 87 (5 + a0)) - 1) ∧ ((μ1 87 (5 + a0)) - 1) < 2147483648)) ∧ (Ci E mM_isIn [jvL a1, jvL 0, jvL ((μ1 87 (5 + a0)) - 1)] μ1 (fun r11 μ8 => ((r11 = 0 → (Q (some (jvI (-1))) μ8)) ∧ (¬ (r11 = 0) → (Ci E mM_isIn [jvL a2, jvL 0, jvL 5] μ8 (fun r18 μ15 => ((¬ r18 = 0 → ((-2147483648 ≤ (24 * a0) ∧ (24 * a0) < 2147483648) ∧ (-2147483648 ≤ (96 + (24 * a0)) ∧ (96 + (24 * a0)) < 2147483648) ∧ (-2147483648 ≤ ((96 + (24 * a0)) + a1) ∧ ((96 + (24 * a0)) + a1) < 2147483648) ∧ (0 ≤ ((96 + (24 * a0)) + a1) ∧ ((96 + (24 * a0)) + a1) < 192)) ∧ (K 121 E mM_letter 69 [some (jvR 76), some (jvI a0), some (jvI a1), some (jvI a2), some (jvL (μ15 88 ((96 + (24 * a0)) + a1))), none, some (jvI 0), some (jvL (μ15 88 ((96 + (24 * a0)) + a1))), none] [] μ15 Q)) ∧ (r18 = 0 → (Q (some (jvI (-1))) μ15)))))))))))))) : K 121 E mM_letter 0 [some (jvR 76), some (jvI a0), some (jvI a1), some (jvI a2), none, none, none, none, none] [] μ Q := by
  refine K_iload_n 1 a0 dM_letter_0 rfl rfl ?_
  refine K_i2l dM_letter_1 rfl ?_
  refine K_lconst 0 dM_letter_2 rfl ?_
  refine K_ldc2 3 dM_letter_3 pc_M_358 rfl ?_
  refine K_callSi mM_isIn [jvL a0, jvL 0, jvL 3] dM_letter_6 pm_M_196 ⟨(Nat.le_of_ble_eq_true rfl), (Nat.le_of_ble_eq_true rfl)⟩ (Nat.le_of_ble_eq_true rfl) rfl (Nat.le_of_ble_eq_true rfl) (by decide) (Ci_mono hF (fun r4 μ1 h2 => ?_))
  refine K_if_eq 44 dM_letter_9 (by decide) (fun c5 => ?_) (fun c5 => ?_)
  · refine K_iconst (-1) dM_letter_44 rfl ?_
    exact K_iret dM_letter_45 (Or.inl rfl) (h2.1 c5)
  · refine K_iload_n 2 a1 dM_letter_12 rfl rfl ?_
    refine K_i2l dM_letter_13 rfl ?_
    refine K_lconst 0 dM_letter_14 rfl ?_
    refine K_aload_n 0 76 dM_letter_15 rfl rfl ?_
    refine K_getf 12 19 76 (jvR 87) dM_letter_16 pf_M_45 rfl rfl (by decide) rfl rfl ?_
    refine K_iconst 5 dM_letter_19 rfl ?_
    refine K_iload_n 1 a0 dM_letter_20 rfl rfl ?_
    refine K_iadd dM_letter_21 (w32_id (h2.2 c5).1.1) ?_
    refine K_iald 87 10 dM_letter_22 rfl rfl (by decide) (h2.2 c5).1.2.1 ?_
    refine K_iconst 1 dM_letter_23 rfl ?_
    refine K_isub dM_letter_24 (w32_id (h2.2 c5).1.2.2) ?_
    refine K_i2l dM_letter_25 rfl ?_
    refine K_callSi mM_isIn [jvL a1, jvL 0, jvL ((μ1 87 (5 + a0)) - 1)] dM_letter_26 pm_M_196 ⟨(Nat.le_of_ble_eq_true rfl), (Nat.le_of_ble_eq_true rfl)⟩ (Nat.le_of_ble_eq_true rfl) rfl (Nat.le_of_ble_eq_true rfl) (by decide) (Ci_mono (h2.2 c5).2 (fun r11 μ8 h9 => ?_))
    refine K_if_eq 44 dM_letter_29 (by decide) (fun c12 => ?_) (fun c12 => ?_)
    · refine K_iconst (-1) dM_letter_44 rfl ?_
      exact K_iret dM_letter_45 (Or.inl rfl) (h9.1 c12)
    · refine K_iload_n 3 a2 dM_letter_32 rfl rfl ?_
      refine K_i2l dM_letter_33 rfl ?_
      refine K_lconst 0 dM_letter_34 rfl ?_
      refine K_ldc2 5 dM_letter_35 pc_M_360 rfl ?_
      refine K_callSi mM_isIn [jvL a2, jvL 0, jvL 5] dM_letter_38 pm_M_196 ⟨(Nat.le_of_ble_eq_true rfl), (Nat.le_of_ble_eq_true rfl)⟩ (Nat.le_of_ble_eq_true rfl) rfl (Nat.le_of_ble_eq_true rfl) (by decide) (Ci_mono (h9.2 c12) (fun r18 μ15 h16 => ?_))
      refine K_if_ne 46 dM_letter_41 (by decide) (fun c19 => ?_) (fun c19 => ?_)
      · refine K_aload_n 0 76 dM_letter_46 rfl rfl ?_
        refine K_getf 12 20 76 (jvR 88) dM_letter_47 pf_M_48 rfl rfl (by decide) rfl rfl ?_
        refine K_bipush 96 dM_letter_50 rfl ?_
        refine K_bipush 24 dM_letter_52 rfl ?_
        refine K_iload_n 1 a0 dM_letter_54 rfl rfl ?_
        refine K_imul dM_letter_55 (w32_id (h16.1 c19).1.1) ?_
        refine K_iadd dM_letter_56 (w32_id (h16.1 c19).1.2.1) ?_
        refine K_iload_n 2 a1 dM_letter_57 rfl rfl ?_
        refine K_iadd dM_letter_58 (w32_id (h16.1 c19).1.2.2.1) ?_
        refine K_lald 88 192 dM_letter_59 rfl rfl (by decide) (h16.1 c19).1.2.2.2 ?_
        refine K_lstore 4 dM_letter_60 (Nat.le_of_ble_eq_true rfl) rfl ?_
        refine K_iconst 0 dM_letter_62 rfl ?_
        refine K_istore 6 dM_letter_63 (Nat.le_of_ble_eq_true rfl) rfl ?_
        refine K_lload 4 (μ15 88 ((96 + (24 * a0)) + a1)) dM_letter_65 rfl ?_
        refine K_lstore 7 dM_letter_67 (Nat.le_of_ble_eq_true rfl) rfl ?_
        exact (h16.1 c19).2
      · refine K_iconst (-1) dM_letter_44 rfl ?_
        exact K_iret dM_letter_45 (Or.inl rfl) (h16.2 c19)
set_option maxHeartbeats 8000000 in
theorem vM_letter_69 {E : jE} {μ : jMu} {Q : Option AV → jMu → Prop} {l1 l2 l3 l4 l6 l7 : Int} (hF : ((l7 ≤ 0 → ((l3 < l6 → ((-2147483648 ≤ (l6 - 1) ∧ (l6 - 1) < 2147483648)) ∧ (K 121 E mM_letter 104 [some (jvR 76), some (jvI l1), some (jvI l2), some (jvI l3), some (jvL l4), none, some (jvI l6), some (jvI (l6 - 1)), none] [] μ Q)) ∧ (¬ (l3 < l6) → (Q (some (jvI 0)) μ)))) ∧ (¬ (l7 ≤ 0) → ((-2147483648 ≤ (l6 + 1) ∧ (l6 + 1) < 2147483648) ∧ (-9223372036854775808 ≤ (Int.tdiv l7 27) ∧ (Int.tdiv l7 27) < 9223372036854775808)) ∧ (K 121 E mM_letter 69 [some (jvR 76), some (jvI l1), some (jvI l2), some (jvI l3), some (jvL l4), none, some (jvI (l6 + 1)), some (jvL (Int.tdiv l7 27)), none] [] μ Q)))) : K 121 E mM_letter 69 [some (jvR 76), some (jvI l1), some (jvI l2), some (jvI l3), some (jvL l4), none, some (jvI l6), some (jvL l7), none] [] μ Q := by
  refine K_lload 7 l7 dM_letter_69 rfl ?_
  refine K_lconst 0 dM_letter_71 rfl ?_
  refine K_lcmp_le 90 dM_letter_72 dM_letter_73 (by decide) (fun c1 => ?_) (fun c1 => ?_)
  · refine K_iload_n 3 l3 dM_letter_90 rfl rfl ?_
    refine K_iload 6 l6 dM_letter_91 rfl ?_
    refine K_icmp_lt 98 dM_letter_93 (by decide) (fun c3 => ?_) (fun c3 => ?_)
    · refine K_iload 6 l6 dM_letter_98 rfl ?_
      refine K_iconst 1 dM_letter_100 rfl ?_
      refine K_isub dM_letter_101 (w32_id ((hF.1 c1).1 c3).1) ?_
      refine K_istore 7 dM_letter_102 (Nat.le_of_ble_eq_true rfl) rfl ?_
      exact ((hF.1 c1).1 c3).2
    · refine K_iconst 0 dM_letter_96 rfl ?_
      exact K_iret dM_letter_97 (Or.inl rfl) ((hF.1 c1).2 c3)
  · refine K_iinc 6 dM_letter_76 (Nat.le_of_ble_eq_true rfl) rfl (w32_ok (hF.2 c1).1.1) rfl ?_
    refine K_lload 7 l7 dM_letter_79 rfl ?_
    refine K_ldc2 27 dM_letter_81 pc_M_207 rfl ?_
    refine K_ldiv dM_letter_84 (by decide) (w64_id (hF.2 c1).1.2) ?_
    refine K_lstore 7 dM_letter_85 (Nat.le_of_ble_eq_true rfl) rfl ?_
    refine K_goto 69 dM_letter_87 (by decide) ?_
    exact (hF.2 c1).2
set_option maxHeartbeats 8000000 in
theorem vM_letter_104 {E : jE} {μ : jMu} {Q : Option AV → jMu → Prop} {l1 l2 l3 l4 l6 l7 : Int} (hF : ((l7 ≤ l3 → ((-2147483648 ≤ (Int.tmod l4 27) ∧ (Int.tmod l4 27) < 2147483648)) ∧ (Q (some (jvI (Int.tmod l4 27))) μ)) ∧ (¬ (l7 ≤ l3) → ((-9223372036854775808 ≤ (Int.tdiv l4 27) ∧ (Int.tdiv l4 27) < 9223372036854775808) ∧ (-2147483648 ≤ (l7 - 1) ∧ (l7 - 1) < 2147483648)) ∧ (K 121 E mM_letter 104 [some (jvR 76), some (jvI l1), some (jvI l2), some (jvI l3), some (jvL (Int.tdiv l4 27)), none, some (jvI l6), some (jvI (l7 - 1)), none] [] μ Q)))) : K 121 E mM_letter 104 [some (jvR 76), some (jvI l1), some (jvI l2), some (jvI l3), some (jvL l4), none, some (jvI l6), some (jvI l7), none] [] μ Q := by
  refine K_iload 7 l7 dM_letter_104 rfl ?_
  refine K_iload_n 3 l3 dM_letter_106 rfl rfl ?_
  refine K_icmp_le 124 dM_letter_107 (by decide) (fun c1 => ?_) (fun c1 => ?_)
  · refine K_lload 4 l4 dM_letter_124 rfl ?_
    refine K_ldc2 27 dM_letter_126 pc_M_207 rfl ?_
    refine K_lrem dM_letter_129 (by decide) rfl ?_
    refine K_l2i dM_letter_130 (w32_id (hF.1 c1).1) ?_
    exact K_iret dM_letter_131 (Or.inl rfl) (hF.1 c1).2
  · refine K_lload 4 l4 dM_letter_110 rfl ?_
    refine K_ldc2 27 dM_letter_112 pc_M_207 rfl ?_
    refine K_ldiv dM_letter_115 (by decide) (w64_id (hF.2 c1).1.1) ?_
    refine K_lstore 4 dM_letter_116 (Nat.le_of_ble_eq_true rfl) rfl ?_
    refine K_iinc 7 dM_letter_118 (Nat.le_of_ble_eq_true rfl) rfl (w32_okn (hF.2 c1).1.2) rfl ?_
    refine K_goto 104 dM_letter_121 (by decide) ?_
    exact (hF.2 c1).2
set_option maxHeartbeats 8000000 in
theorem vM_rule_0 {E : jE} {μ : jMu} {Q : Option AV → jMu → Prop} {a0 a1 : Int} (hF : (Ci E mM_isRule [jvR 76, jvI a0] μ (fun r4 μ1 => ((¬ r4 = 0 → ((a1 = 0 → ((-2147483648 ≤ (12 + a0) ∧ (12 + a0) < 2147483648) ∧ (0 ≤ (12 + a0) ∧ (12 + a0) < 24)) ∧ (Q (some (jvI (μ1 93 (12 + a0)))) μ1)) ∧ (a1 = 1 → (K 121 E mM_rule 57 [some (jvR 76), some (jvI a0), some (jvI a1), some (jvI 0), some (jvI 0)] [] μ1 Q)) ∧ (a1 = 2 → ((0 ≤ a0 ∧ a0 < 12)) ∧ (((μ1 107 a0) = 0 → (Q (some (jvI 0)) μ1)) ∧ (¬ ((μ1 107 a0) = 0) → (Q (some (jvI 1)) μ1)))) ∧ (a1 = 3 → (Ci E mM_fallsBy [jvR 76, jvI a0] μ1 (fun r17 μ14 => (Q (some (jvI r17)) μ14)))) ∧ ((a1 < 0 ∨ 3 < a1) → (Q (some (jvI (-1))) μ1)))) ∧ (r4 = 0 → (Q (some (jvI (-1))) μ1)))))) : K 121 E mM_rule 0 [some (jvR 76), some (jvI a0), some (jvI a1), none, none] [] μ Q := by
  refine K_aload_n 0 76 dM_rule_0 rfl rfl ?_
  refine K_iload_n 1 a0 dM_rule_1 rfl rfl ?_
  refine K_callVi mM_isRule 12 76 [jvI a0] dM_rule_2 pm_M_362 ⟨_, rfl, rfl⟩ ⟨(Nat.le_of_ble_eq_true rfl), (Nat.le_of_ble_eq_true rfl)⟩ rfl rfl (by decide) (Nat.le_of_ble_eq_true rfl) rfl (Nat.le_of_ble_eq_true rfl) (by decide) (Ci_mono hF (fun r4 μ1 h2 => ?_))
  refine K_if_ne 10 dM_rule_5 (by decide) (fun c5 => ?_) (fun c5 => ?_)
  · refine K_iconst 0 dM_rule_10 rfl ?_
    refine K_istore_n 3 dM_rule_11 rfl (Nat.le_of_ble_eq_true rfl) rfl ?_
    refine K_iload_n 2 a1 dM_rule_12 rfl rfl ?_
    refine K_table dM_rule_13 (fun i hi9 ha9 => ?_) rfl 108 (by decide) (fun c7 => ?_)
    · match i, hi9, ha9 with
      | 0, _, ha9 =>
        have c7 : a1 = 0 := by omega
        refine ⟨_, 44, rfl, by decide, ?_⟩
        refine K_aload_n 0 76 dM_rule_44 rfl rfl ?_
        refine K_getf 12 26 76 (jvR 93) dM_rule_45 pf_M_64 rfl rfl (by decide) rfl rfl ?_
        refine K_bipush 12 dM_rule_48 rfl ?_
        refine K_iload_n 1 a0 dM_rule_50 rfl rfl ?_
        refine K_iadd dM_rule_51 (w32_id ((h2.1 c5).1 c7).1.1) ?_
        refine K_iald 93 24 dM_rule_52 rfl rfl (by decide) ((h2.1 c5).1 c7).1.2 ?_
        exact K_iret dM_rule_53 (Or.inl rfl) ((h2.1 c5).1 c7).2
      | 1, _, ha9 =>
        have c7 : a1 = 1 := by omega
        refine ⟨_, 54, rfl, by decide, ?_⟩
        refine K_iconst 0 dM_rule_54 rfl ?_
        refine K_istore 4 dM_rule_55 (Nat.le_of_ble_eq_true rfl) rfl ?_
        exact ((h2.1 c5).2.1 c7)
      | 2, _, ha9 =>
        have c7 : a1 = 2 := by omega
        refine ⟨_, 87, rfl, by decide, ?_⟩
        refine K_aload_n 0 76 dM_rule_87 rfl rfl ?_
        refine K_getf 12 45 76 (jvR 107) dM_rule_88 pf_M_106 rfl rfl (by decide) rfl rfl ?_
        refine K_iload_n 1 a0 dM_rule_91 rfl rfl ?_
        refine K_zald 107 12 dM_rule_92 rfl rfl (by decide) ((h2.1 c5).2.2.1 c7).1 ?_
        refine K_if_eq 100 dM_rule_93 (by decide) (fun c10 => ?_) (fun c10 => ?_)
        · refine K_iconst 0 dM_rule_100 rfl ?_
          exact K_iret dM_rule_101 (Or.inl rfl) (((h2.1 c5).2.2.1 c7).2.1 c10)
        · refine K_iconst 1 dM_rule_96 rfl ?_
          refine K_goto 101 dM_rule_97 (by decide) ?_
          exact K_iret dM_rule_101 (Or.inl rfl) (((h2.1 c5).2.2.1 c7).2.2 c10)
      | 3, _, ha9 =>
        have c7 : a1 = 3 := by omega
        refine ⟨_, 102, rfl, by decide, ?_⟩
        refine K_aload_n 0 76 dM_rule_102 rfl rfl ?_
        refine K_iload_n 1 a0 dM_rule_103 rfl rfl ?_
        refine K_callVi mM_fallsBy 12 76 [jvI a0] dM_rule_104 pm_M_365 ⟨_, rfl, rfl⟩ ⟨(Nat.le_of_ble_eq_true rfl), (Nat.le_of_ble_eq_true rfl)⟩ rfl rfl (by decide) (Nat.le_of_ble_eq_true rfl) rfl (Nat.le_of_ble_eq_true rfl) (by decide) (Ci_mono ((h2.1 c5).2.2.2.1 c7) (fun r17 μ14 h15 => ?_))
        exact K_iret dM_rule_107 (Or.inl rfl) h15
      | i + 4, hi9, _ => exact absurd hi9 (by simp <;> omega)
    · skip
      refine K_iconst (-1) dM_rule_108 rfl ?_
      exact K_iret dM_rule_109 (Or.inl rfl) ((h2.1 c5).2.2.2.2 c7)
  · refine K_iconst (-1) dM_rule_8 rfl ?_
    exact K_iret dM_rule_9 (Or.inl rfl) (h2.2 c5)
set_option maxHeartbeats 8000000 in
theorem vM_rule_57 {E : jE} {μ : jMu} {Q : Option AV → jMu → Prop} {l1 l2 l3 l4 : Int} (hF : (Ci E mM_steps [jvR 76] μ (fun r4 μ1 => ((r4 ≤ l4 → (Q (some (jvI l3)) μ1)) ∧ (¬ (r4 ≤ l4) → (Ci E mM_ruleBy [jvR 76, jvI l4] μ1 (fun r11 μ8 => ((¬ r11 = l1 → ((-2147483648 ≤ (l4 + 1) ∧ (l4 + 1) < 2147483648)) ∧ (K 121 E mM_rule 57 [some (jvR 76), some (jvI l1), some (jvI l2), some (jvI l3), some (jvI (l4 + 1))] [] μ8 Q)) ∧ (r11 = l1 → ((-2147483648 ≤ (l3 + 1) ∧ (l3 + 1) < 2147483648) ∧ (-2147483648 ≤ (l4 + 1) ∧ (l4 + 1) < 2147483648)) ∧ (K 121 E mM_rule 57 [some (jvR 76), some (jvI l1), some (jvI l2), some (jvI (l3 + 1)), some (jvI (l4 + 1))] [] μ8 Q)))))))))) : K 121 E mM_rule 57 [some (jvR 76), some (jvI l1), some (jvI l2), some (jvI l3), some (jvI l4)] [] μ Q := by
  refine K_iload 4 l4 dM_rule_57 rfl ?_
  refine K_aload_n 0 76 dM_rule_59 rfl rfl ?_
  refine K_callVi mM_steps 12 76 [] dM_rule_60 pm_M_294 ⟨_, rfl, rfl⟩ ⟨(Nat.le_of_ble_eq_true rfl), (Nat.le_of_ble_eq_true rfl)⟩ rfl rfl (by decide) (Nat.le_of_ble_eq_true rfl) rfl (Nat.le_of_ble_eq_true rfl) (by decide) (Ci_mono hF (fun r4 μ1 h2 => ?_))
  refine K_icmp_ge 85 dM_rule_63 (by decide) (fun c5 => ?_) (fun c5 => ?_)
  · refine K_iload_n 3 l3 dM_rule_85 rfl rfl ?_
    exact K_iret dM_rule_86 (Or.inl rfl) (h2.1 c5)
  · refine K_aload_n 0 76 dM_rule_66 rfl rfl ?_
    refine K_iload 4 l4 dM_rule_67 rfl ?_
    refine K_callVi mM_ruleBy 12 76 [jvI l4] dM_rule_69 pm_M_300 ⟨_, rfl, rfl⟩ ⟨(Nat.le_of_ble_eq_true rfl), (Nat.le_of_ble_eq_true rfl)⟩ rfl rfl (by decide) (Nat.le_of_ble_eq_true rfl) rfl (Nat.le_of_ble_eq_true rfl) (by decide) (Ci_mono (h2.2 c5) (fun r11 μ8 h9 => ?_))
    refine K_iload_n 1 l1 dM_rule_72 rfl rfl ?_
    refine K_icmp_ne 79 dM_rule_73 (by decide) (fun c12 => ?_) (fun c12 => ?_)
    · refine K_iinc 4 dM_rule_79 (Nat.le_of_ble_eq_true rfl) rfl (w32_ok (h9.1 c12).1) rfl ?_
      refine K_goto 57 dM_rule_82 (by decide) ?_
      exact (h9.1 c12).2
    · refine K_iinc 3 dM_rule_76 (Nat.le_of_ble_eq_true rfl) rfl (w32_ok (h9.2 c12).1.1) rfl ?_
      refine K_iinc 4 dM_rule_79 (Nat.le_of_ble_eq_true rfl) rfl (w32_ok (h9.2 c12).1.2) rfl ?_
      refine K_goto 57 dM_rule_82 (by decide) ?_
      exact (h9.2 c12).2
set_option maxHeartbeats 8000000 in
theorem vM_isRule_0 {E : jE} {μ : jMu} {Q : Option AV → jMu → Prop} {a0 : Int} (hF : (Ci E mM_rules [jvR 76] μ (fun r4 μ1 => ((-2147483648 ≤ (r4 - 1) ∧ (r4 - 1) < 2147483648)) ∧ (Ci E mM_isIn [jvL a0, jvL 0, jvL (r4 - 1)] μ1 (fun r8 μ5 => ((r8 = 0 ∨ r8 = 1)) ∧ (Q (some (jvI r8)) μ5)))))) : K 121 E mM_isRule 0 [some (jvR 76), some (jvI a0)] [] μ Q := by
  refine K_iload_n 1 a0 dM_isRule_0 rfl rfl ?_
  refine K_i2l dM_isRule_1 rfl ?_
  refine K_lconst 0 dM_isRule_2 rfl ?_
  refine K_aload_n 0 76 dM_isRule_3 rfl rfl ?_
  refine K_callVi mM_rules 12 76 [] dM_isRule_4 pm_M_297 ⟨_, rfl, rfl⟩ ⟨(Nat.le_of_ble_eq_true rfl), (Nat.le_of_ble_eq_true rfl)⟩ rfl rfl (by decide) (Nat.le_of_ble_eq_true rfl) rfl (Nat.le_of_ble_eq_true rfl) (by decide) (Ci_mono hF (fun r4 μ1 h2 => ?_))
  refine K_iconst 1 dM_isRule_7 rfl ?_
  refine K_isub dM_isRule_8 (w32_id h2.1) ?_
  refine K_i2l dM_isRule_9 rfl ?_
  refine K_callSi mM_isIn [jvL a0, jvL 0, jvL (r4 - 1)] dM_isRule_10 pm_M_196 ⟨(Nat.le_of_ble_eq_true rfl), (Nat.le_of_ble_eq_true rfl)⟩ (Nat.le_of_ble_eq_true rfl) rfl (Nat.le_of_ble_eq_true rfl) (by decide) (Ci_mono h2.2 (fun r8 μ5 h6 => ?_))
  exact K_iret dM_isRule_13 (Or.inr ⟨rfl, h6.1⟩) h6.2
set_option maxHeartbeats 8000000 in
theorem vM_fallsBy_0 {E : jE} {μ : jMu} {Q : Option AV → jMu → Prop} {a0 : Int} (hF : (K 121 E mM_fallsBy 4 [some (jvR 76), some (jvI a0), some (jvI 0), some (jvI 0), none] [] μ Q)) : K 121 E mM_fallsBy 0 [some (jvR 76), some (jvI a0), none, none, none] [] μ Q := by
  refine K_iconst 0 dM_fallsBy_0 rfl ?_
  refine K_istore_n 2 dM_fallsBy_1 rfl (Nat.le_of_ble_eq_true rfl) rfl ?_
  refine K_iconst 0 dM_fallsBy_2 rfl ?_
  refine K_istore_n 3 dM_fallsBy_3 rfl (Nat.le_of_ble_eq_true rfl) rfl ?_
  exact hF
set_option maxHeartbeats 8000000 in
theorem vM_fallsBy_4 {E : jE} {μ : jMu} {Q : Option AV → jMu → Prop} {l1 l2 l3 : Int} (hF : (Ci E mM_steps [jvR 76] μ (fun r4 μ1 => ((r4 ≤ l3 → (Q (some (jvI l2)) μ1)) ∧ (¬ (r4 ≤ l3) → (Ci E mM_ruleBy [jvR 76, jvI l3] μ1 (fun r11 μ8 => ((¬ r11 = l1 → ((0 ≤ l3 ∧ l3 < 40)) ∧ (K 121 E mM_fallsBy 35 [some (jvR 76), some (jvI l1), some (jvI l2), some (jvI l3), some (jvI 0)] [] (j_up μ8 108 l3 0) Q)) ∧ (r11 = l1 → ((0 ≤ l3 ∧ l3 < 40)) ∧ (K 121 E mM_fallsBy 35 [some (jvR 76), some (jvI l1), some (jvI l2), some (jvI l3), some (jvI 0)] [] (j_up μ8 108 l3 1) Q)))))))))) : K 121 E mM_fallsBy 4 [some (jvR 76), some (jvI l1), some (jvI l2), some (jvI l3), none] [] μ Q := by
  refine K_iload_n 3 l3 dM_fallsBy_4 rfl rfl ?_
  refine K_aload_n 0 76 dM_fallsBy_5 rfl rfl ?_
  refine K_callVi mM_steps 12 76 [] dM_fallsBy_6 pm_M_294 ⟨_, rfl, rfl⟩ ⟨(Nat.le_of_ble_eq_true rfl), (Nat.le_of_ble_eq_true rfl)⟩ rfl rfl (by decide) (Nat.le_of_ble_eq_true rfl) rfl (Nat.le_of_ble_eq_true rfl) (by decide) (Ci_mono hF (fun r4 μ1 h2 => ?_))
  refine K_icmp_ge 104 dM_fallsBy_9 (by decide) (fun c5 => ?_) (fun c5 => ?_)
  · refine K_iload_n 2 l2 dM_fallsBy_104 rfl rfl ?_
    exact K_iret dM_fallsBy_105 (Or.inl rfl) (h2.1 c5)
  · refine K_aload_n 0 76 dM_fallsBy_12 rfl rfl ?_
    refine K_getf 12 46 76 (jvR 108) dM_fallsBy_13 pf_M_110 rfl rfl (by decide) rfl rfl ?_
    refine K_iload_n 3 l3 dM_fallsBy_16 rfl rfl ?_
    refine K_aload_n 0 76 dM_fallsBy_17 rfl rfl ?_
    refine K_iload_n 3 l3 dM_fallsBy_18 rfl rfl ?_
    refine K_callVi mM_ruleBy 12 76 [jvI l3] dM_fallsBy_19 pm_M_300 ⟨_, rfl, rfl⟩ ⟨(Nat.le_of_ble_eq_true rfl), (Nat.le_of_ble_eq_true rfl)⟩ rfl rfl (by decide) (Nat.le_of_ble_eq_true rfl) rfl (Nat.le_of_ble_eq_true rfl) (by decide) (Ci_mono (h2.2 c5) (fun r11 μ8 h9 => ?_))
    refine K_iload_n 1 l1 dM_fallsBy_22 rfl rfl ?_
    refine K_icmp_ne 30 dM_fallsBy_23 (by decide) (fun c12 => ?_) (fun c12 => ?_)
    · refine K_iconst 0 dM_fallsBy_30 rfl ?_
      refine K_zast 108 40 dM_fallsBy_31 rfl rfl (by decide) (h9.1 c12).1 (by decide) ?_
      refine K_iconst 0 dM_fallsBy_32 rfl ?_
      refine K_istore 4 dM_fallsBy_33 (Nat.le_of_ble_eq_true rfl) rfl ?_
      exact (h9.1 c12).2
    · refine K_iconst 1 dM_fallsBy_26 rfl ?_
      refine K_goto 31 dM_fallsBy_27 (by decide) ?_
      refine K_zast 108 40 dM_fallsBy_31 rfl rfl (by decide) (h9.2 c12).1 (by decide) ?_
      refine K_iconst 0 dM_fallsBy_32 rfl ?_
      refine K_istore 4 dM_fallsBy_33 (Nat.le_of_ble_eq_true rfl) rfl ?_
      exact (h9.2 c12).2
set_option maxHeartbeats 8000000 in
theorem vM_fallsBy_35 {E : jE} {μ : jMu} {Q : Option AV → jMu → Prop} {l1 l2 l3 l4 : Int} (hF : (Ci E mM_namesMany [jvR 76, jvI l3] μ (fun r4 μ1 => ((r4 ≤ l4 → ((0 ≤ l3 ∧ l3 < 40)) ∧ (((μ1 108 l3) = 0 → ((-2147483648 ≤ (l3 + 1) ∧ (l3 + 1) < 2147483648)) ∧ (K 121 E mM_fallsBy 4 [some (jvR 76), some (jvI l1), some (jvI l2), some (jvI (l3 + 1)), none] [] μ1 Q)) ∧ (¬ ((μ1 108 l3) = 0) → ((-2147483648 ≤ (l2 + 1) ∧ (l2 + 1) < 2147483648) ∧ (-2147483648 ≤ (l3 + 1) ∧ (l3 + 1) < 2147483648)) ∧ (K 121 E mM_fallsBy 4 [some (jvR 76), some (jvI l1), some (jvI (l2 + 1)), some (jvI (l3 + 1)), none] [] μ1 Q)))) ∧ (¬ (r4 ≤ l4) → ((0 ≤ l3 ∧ l3 < 40)) ∧ ((¬ (μ1 108 l3) = 0 → ((0 ≤ l3 ∧ l3 < 40) ∧ (-2147483648 ≤ (l4 + 1) ∧ (l4 + 1) < 2147483648)) ∧ (K 121 E mM_fallsBy 35 [some (jvR 76), some (jvI l1), some (jvI l2), some (jvI l3), some (jvI (l4 + 1))] [] (j_up μ1 108 l3 1) Q)) ∧ ((μ1 108 l3) = 0 → (Ci E mM_namedBy [jvR 76, jvI l3, jvI l4] μ1 (fun r14 μ11 => ((0 ≤ r14 ∧ r14 < 40)) ∧ (((μ11 108 r14) = 0 → ((0 ≤ l3 ∧ l3 < 40) ∧ (-2147483648 ≤ (l4 + 1) ∧ (l4 + 1) < 2147483648)) ∧ (K 121 E mM_fallsBy 35 [some (jvR 76), some (jvI l1), some (jvI l2), some (jvI l3), some (jvI (l4 + 1))] [] (j_up μ11 108 l3 0) Q)) ∧ (¬ ((μ11 108 r14) = 0) → ((0 ≤ l3 ∧ l3 < 40) ∧ (-2147483648 ≤ (l4 + 1) ∧ (l4 + 1) < 2147483648)) ∧ (K 121 E mM_fallsBy 35 [some (jvR 76), some (jvI l1), some (jvI l2), some (jvI l3), some (jvI (l4 + 1))] [] (j_up μ11 108 l3 1) Q)))))))))))) : K 121 E mM_fallsBy 35 [some (jvR 76), some (jvI l1), some (jvI l2), some (jvI l3), some (jvI l4)] [] μ Q := by
  refine K_iload 4 l4 dM_fallsBy_35 rfl ?_
  refine K_aload_n 0 76 dM_fallsBy_37 rfl rfl ?_
  refine K_iload_n 3 l3 dM_fallsBy_38 rfl rfl ?_
  refine K_callVi mM_namesMany 12 76 [jvI l3] dM_fallsBy_39 pm_M_328 ⟨_, rfl, rfl⟩ ⟨(Nat.le_of_ble_eq_true rfl), (Nat.le_of_ble_eq_true rfl)⟩ rfl rfl (by decide) (Nat.le_of_ble_eq_true rfl) rfl (Nat.le_of_ble_eq_true rfl) (by decide) (Ci_mono hF (fun r4 μ1 h2 => ?_))
  refine K_icmp_ge 86 dM_fallsBy_42 (by decide) (fun c5 => ?_) (fun c5 => ?_)
  · refine K_aload_n 0 76 dM_fallsBy_86 rfl rfl ?_
    refine K_getf 12 46 76 (jvR 108) dM_fallsBy_87 pf_M_110 rfl rfl (by decide) rfl rfl ?_
    refine K_iload_n 3 l3 dM_fallsBy_90 rfl rfl ?_
    refine K_zald 108 40 dM_fallsBy_91 rfl rfl (by decide) (h2.1 c5).1 ?_
    refine K_if_eq 98 dM_fallsBy_92 (by decide) (fun c7 => ?_) (fun c7 => ?_)
    · refine K_iinc 3 dM_fallsBy_98 (Nat.le_of_ble_eq_true rfl) rfl (w32_ok ((h2.1 c5).2.1 c7).1) rfl ?_
      refine K_goto 4 dM_fallsBy_101 (by decide) ?_
      exact K_forget [true, true, true, true, false] ((h2.1 c5).2.1 c7).2
    · refine K_iinc 2 dM_fallsBy_95 (Nat.le_of_ble_eq_true rfl) rfl (w32_ok ((h2.1 c5).2.2 c7).1.1) rfl ?_
      refine K_iinc 3 dM_fallsBy_98 (Nat.le_of_ble_eq_true rfl) rfl (w32_ok ((h2.1 c5).2.2 c7).1.2) rfl ?_
      refine K_goto 4 dM_fallsBy_101 (by decide) ?_
      exact K_forget [true, true, true, true, false] ((h2.1 c5).2.2 c7).2
  · refine K_aload_n 0 76 dM_fallsBy_45 rfl rfl ?_
    refine K_getf 12 46 76 (jvR 108) dM_fallsBy_46 pf_M_110 rfl rfl (by decide) rfl rfl ?_
    refine K_iload_n 3 l3 dM_fallsBy_49 rfl rfl ?_
    refine K_aload_n 0 76 dM_fallsBy_50 rfl rfl ?_
    refine K_getf 12 46 76 (jvR 108) dM_fallsBy_51 pf_M_110 rfl rfl (by decide) rfl rfl ?_
    refine K_iload_n 3 l3 dM_fallsBy_54 rfl rfl ?_
    refine K_zald 108 40 dM_fallsBy_55 rfl rfl (by decide) (h2.2 c5).1 ?_
    refine K_if_ne 74 dM_fallsBy_56 (by decide) (fun c9 => ?_) (fun c9 => ?_)
    · refine K_iconst 1 dM_fallsBy_74 rfl ?_
      refine K_goto 79 dM_fallsBy_75 (by decide) ?_
      refine K_zast 108 40 dM_fallsBy_79 rfl rfl (by decide) ((h2.2 c5).2.1 c9).1.1 (by decide) ?_
      refine K_iinc 4 dM_fallsBy_80 (Nat.le_of_ble_eq_true rfl) rfl (w32_ok ((h2.2 c5).2.1 c9).1.2) rfl ?_
      refine K_goto 35 dM_fallsBy_83 (by decide) ?_
      exact ((h2.2 c5).2.1 c9).2
    · refine K_aload_n 0 76 dM_fallsBy_59 rfl rfl ?_
      refine K_getf 12 46 76 (jvR 108) dM_fallsBy_60 pf_M_110 rfl rfl (by decide) rfl rfl ?_
      refine K_aload_n 0 76 dM_fallsBy_63 rfl rfl ?_
      refine K_iload_n 3 l3 dM_fallsBy_64 rfl rfl ?_
      refine K_iload 4 l4 dM_fallsBy_65 rfl ?_
      refine K_callVi mM_namedBy 12 76 [jvI l3, jvI l4] dM_fallsBy_67 pm_M_319 ⟨_, rfl, rfl⟩ ⟨(Nat.le_of_ble_eq_true rfl), (Nat.le_of_ble_eq_true rfl)⟩ rfl rfl (by decide) (Nat.le_of_ble_eq_true rfl) rfl (Nat.le_of_ble_eq_true rfl) (by decide) (Ci_mono ((h2.2 c5).2.2 c9) (fun r14 μ11 h12 => ?_))
      refine K_zald 108 40 dM_fallsBy_70 rfl rfl (by decide) h12.1 ?_
      refine K_if_eq 78 dM_fallsBy_71 (by decide) (fun c15 => ?_) (fun c15 => ?_)
      · refine K_iconst 0 dM_fallsBy_78 rfl ?_
        refine K_zast 108 40 dM_fallsBy_79 rfl rfl (by decide) (h12.2.1 c15).1.1 (by decide) ?_
        refine K_iinc 4 dM_fallsBy_80 (Nat.le_of_ble_eq_true rfl) rfl (w32_ok (h12.2.1 c15).1.2) rfl ?_
        refine K_goto 35 dM_fallsBy_83 (by decide) ?_
        exact (h12.2.1 c15).2
      · refine K_iconst 1 dM_fallsBy_74 rfl ?_
        refine K_goto 79 dM_fallsBy_75 (by decide) ?_
        refine K_zast 108 40 dM_fallsBy_79 rfl rfl (by decide) (h12.2.2 c15).1.1 (by decide) ?_
        refine K_iinc 4 dM_fallsBy_80 (Nat.le_of_ble_eq_true rfl) rfl (w32_ok (h12.2.2 c15).1.2) rfl ?_
        refine K_goto 35 dM_fallsBy_83 (by decide) ?_
        exact (h12.2.2 c15).2
set_option maxHeartbeats 8000000 in
theorem vM_step_0 {E : jE} {μ : jMu} {Q : Option AV → jMu → Prop} {a0 a1 : Int} (hF : (Ci E mM_isStep [jvR 76, jvI a0] μ (fun r4 μ1 => ((¬ r4 = 0 → ((a1 = 0 → (Ci E mM_ruleBy [jvR 76, jvI a0] μ1 (fun r12 μ9 => (Q (some (jvI r12)) μ9)))) ∧ (a1 = 1 → (Ci E mM_namesMany [jvR 76, jvI a0] μ1 (fun r17 μ14 => (Q (some (jvI r17)) μ14)))) ∧ (a1 = 2 → (Ci E mM_isRight [jvR 76, jvI a0] μ1 (fun r22 μ19 => ((r22 = 0 → (Q (some (jvI 0)) μ19)) ∧ (¬ (r22 = 0) → (Q (some (jvI 1)) μ19)))))) ∧ (a1 = 3 → (Ci E mM_isNeeded [jvR 76, jvI a0] μ1 (fun r30 μ27 => ((r30 = 0 → (Q (some (jvI 0)) μ27)) ∧ (¬ (r30 = 0) → (Q (some (jvI 1)) μ27)))))) ∧ (a1 = 4 → ((0 ≤ a0 ∧ a0 < 40)) ∧ (Q (some (jvI (μ1 103 a0))) μ1)) ∧ (a1 = 5 → (Ci E mM_coveredBy [jvR 76, jvI a0] μ1 (fun r39 μ36 => (Q (some (jvI r39)) μ36)))) ∧ (a1 = 6 → ((0 ≤ a0 ∧ a0 < 40)) ∧ (Q (some (jvI (μ1 106 a0))) μ1)) ∧ (a1 = 7 → (Ci E mM_falls [jvR 76] μ1 (fun r45 μ42 => ((r45 < 0 → (Q (some (jvI 0)) μ42)) ∧ (¬ (r45 < 0) → ((0 ≤ a0 ∧ a0 < 40)) ∧ (((μ42 108 a0) = 0 → (Q (some (jvI 0)) μ42)) ∧ (¬ ((μ42 108 a0) = 0) → (Q (some (jvI 1)) μ42)))))))) ∧ (a1 = 8 → (Ci E mM_namers [jvR 76, jvI a0] μ1 (fun r56 μ53 => (Q (some (jvI r56)) μ53)))) ∧ (a1 = 9 → ((-2147483648 ≤ (48 + a0) ∧ (48 + a0) < 2147483648)) ∧ (Ci E mM_longOf [jvR 76, jvI (48 + a0)] μ1 (fun r61 μ58 => (Q (some (jvI r61)) μ58)))) ∧ (a1 = 10 → (Ci E mM_seenOf [jvR 76, jvI a0, jvI (-1)] μ1 (fun r66 μ63 => (Q (some (jvI r66)) μ63)))) ∧ ((a1 < 0 ∨ 10 < a1) → (Q (some (jvI (-1))) μ1)))) ∧ (r4 = 0 → (Q (some (jvI (-1))) μ1)))))) : K 121 E mM_step 0 [some (jvR 76), some (jvI a0), some (jvI a1)] [] μ Q := by
  refine K_aload_n 0 76 dM_step_0 rfl rfl ?_
  refine K_iload_n 1 a0 dM_step_1 rfl rfl ?_
  refine K_callVi mM_isStep 12 76 [jvI a0] dM_step_2 pm_M_368 ⟨_, rfl, rfl⟩ ⟨(Nat.le_of_ble_eq_true rfl), (Nat.le_of_ble_eq_true rfl)⟩ rfl rfl (by decide) (Nat.le_of_ble_eq_true rfl) rfl (Nat.le_of_ble_eq_true rfl) (by decide) (Ci_mono hF (fun r4 μ1 h2 => ?_))
  refine K_if_ne 10 dM_step_5 (by decide) (fun c5 => ?_) (fun c5 => ?_)
  · refine K_iload_n 2 a1 dM_step_10 rfl rfl ?_
    refine K_table dM_step_11 (fun i hi9 ha9 => ?_) rfl 172 (by decide) (fun c7 => ?_)
    · match i, hi9, ha9 with
      | 0, _, ha9 =>
        have c7 : a1 = 0 := by omega
        refine ⟨_, 68, rfl, by decide, ?_⟩
        refine K_aload_n 0 76 dM_step_68 rfl rfl ?_
        refine K_iload_n 1 a0 dM_step_69 rfl rfl ?_
        refine K_callVi mM_ruleBy 12 76 [jvI a0] dM_step_70 pm_M_300 ⟨_, rfl, rfl⟩ ⟨(Nat.le_of_ble_eq_true rfl), (Nat.le_of_ble_eq_true rfl)⟩ rfl rfl (by decide) (Nat.le_of_ble_eq_true rfl) rfl (Nat.le_of_ble_eq_true rfl) (by decide) (Ci_mono ((h2.1 c5).1 c7) (fun r12 μ9 h10 => ?_))
        exact K_iret dM_step_73 (Or.inl rfl) h10
      | 1, _, ha9 =>
        have c7 : a1 = 1 := by omega
        refine ⟨_, 74, rfl, by decide, ?_⟩
        refine K_aload_n 0 76 dM_step_74 rfl rfl ?_
        refine K_iload_n 1 a0 dM_step_75 rfl rfl ?_
        refine K_callVi mM_namesMany 12 76 [jvI a0] dM_step_76 pm_M_328 ⟨_, rfl, rfl⟩ ⟨(Nat.le_of_ble_eq_true rfl), (Nat.le_of_ble_eq_true rfl)⟩ rfl rfl (by decide) (Nat.le_of_ble_eq_true rfl) rfl (Nat.le_of_ble_eq_true rfl) (by decide) (Ci_mono ((h2.1 c5).2.1 c7) (fun r17 μ14 h15 => ?_))
        exact K_iret dM_step_79 (Or.inl rfl) h15
      | 2, _, ha9 =>
        have c7 : a1 = 2 := by omega
        refine ⟨_, 80, rfl, by decide, ?_⟩
        refine K_aload_n 0 76 dM_step_80 rfl rfl ?_
        refine K_iload_n 1 a0 dM_step_81 rfl rfl ?_
        refine K_callVi mM_isRight 12 76 [jvI a0] dM_step_82 pm_M_337 ⟨_, rfl, rfl⟩ ⟨(Nat.le_of_ble_eq_true rfl), (Nat.le_of_ble_eq_true rfl)⟩ rfl rfl (by decide) (Nat.le_of_ble_eq_true rfl) rfl (Nat.le_of_ble_eq_true rfl) (by decide) (Ci_mono ((h2.1 c5).2.2.1 c7) (fun r22 μ19 h20 => ?_))
        refine K_if_eq 92 dM_step_85 (by decide) (fun c23 => ?_) (fun c23 => ?_)
        · refine K_iconst 0 dM_step_92 rfl ?_
          exact K_iret dM_step_93 (Or.inl rfl) (h20.1 c23)
        · refine K_iconst 1 dM_step_88 rfl ?_
          refine K_goto 93 dM_step_89 (by decide) ?_
          exact K_iret dM_step_93 (Or.inl rfl) (h20.2 c23)
      | 3, _, ha9 =>
        have c7 : a1 = 3 := by omega
        refine ⟨_, 94, rfl, by decide, ?_⟩
        refine K_aload_n 0 76 dM_step_94 rfl rfl ?_
        refine K_iload_n 1 a0 dM_step_95 rfl rfl ?_
        refine K_callVi mM_isNeeded 12 76 [jvI a0] dM_step_96 pm_M_340 ⟨_, rfl, rfl⟩ ⟨(Nat.le_of_ble_eq_true rfl), (Nat.le_of_ble_eq_true rfl)⟩ rfl rfl (by decide) (Nat.le_of_ble_eq_true rfl) rfl (Nat.le_of_ble_eq_true rfl) (by decide) (Ci_mono ((h2.1 c5).2.2.2.1 c7) (fun r30 μ27 h28 => ?_))
        refine K_if_eq 106 dM_step_99 (by decide) (fun c31 => ?_) (fun c31 => ?_)
        · refine K_iconst 0 dM_step_106 rfl ?_
          exact K_iret dM_step_107 (Or.inl rfl) (h28.1 c31)
        · refine K_iconst 1 dM_step_102 rfl ?_
          refine K_goto 107 dM_step_103 (by decide) ?_
          exact K_iret dM_step_107 (Or.inl rfl) (h28.2 c31)
      | 4, _, ha9 =>
        have c7 : a1 = 4 := by omega
        refine ⟨_, 108, rfl, by decide, ?_⟩
        refine K_aload_n 0 76 dM_step_108 rfl rfl ?_
        refine K_getf 12 40 76 (jvR 103) dM_step_109 pf_M_94 rfl rfl (by decide) rfl rfl ?_
        refine K_iload_n 1 a0 dM_step_112 rfl rfl ?_
        refine K_iald 103 40 dM_step_113 rfl rfl (by decide) ((h2.1 c5).2.2.2.2.1 c7).1 ?_
        exact K_iret dM_step_114 (Or.inl rfl) ((h2.1 c5).2.2.2.2.1 c7).2
      | 5, _, ha9 =>
        have c7 : a1 = 5 := by omega
        refine ⟨_, 115, rfl, by decide, ?_⟩
        refine K_aload_n 0 76 dM_step_115 rfl rfl ?_
        refine K_iload_n 1 a0 dM_step_116 rfl rfl ?_
        refine K_callVi mM_coveredBy 12 76 [jvI a0] dM_step_117 pm_M_343 ⟨_, rfl, rfl⟩ ⟨(Nat.le_of_ble_eq_true rfl), (Nat.le_of_ble_eq_true rfl)⟩ rfl rfl (by decide) (Nat.le_of_ble_eq_true rfl) rfl (Nat.le_of_ble_eq_true rfl) (by decide) (Ci_mono ((h2.1 c5).2.2.2.2.2.1 c7) (fun r39 μ36 h37 => ?_))
        exact K_iret dM_step_120 (Or.inl rfl) h37
      | 6, _, ha9 =>
        have c7 : a1 = 6 := by omega
        refine ⟨_, 121, rfl, by decide, ?_⟩
        refine K_aload_n 0 76 dM_step_121 rfl rfl ?_
        refine K_getf 12 43 76 (jvR 106) dM_step_122 pf_M_103 rfl rfl (by decide) rfl rfl ?_
        refine K_iload_n 1 a0 dM_step_125 rfl rfl ?_
        refine K_iald 106 40 dM_step_126 rfl rfl (by decide) ((h2.1 c5).2.2.2.2.2.2.1 c7).1 ?_
        exact K_iret dM_step_127 (Or.inl rfl) ((h2.1 c5).2.2.2.2.2.2.1 c7).2
      | 7, _, ha9 =>
        have c7 : a1 = 7 := by omega
        refine ⟨_, 128, rfl, by decide, ?_⟩
        refine K_aload_n 0 76 dM_step_128 rfl rfl ?_
        refine K_callVi mM_falls 12 76 [] dM_step_129 pm_M_352 ⟨_, rfl, rfl⟩ ⟨(Nat.le_of_ble_eq_true rfl), (Nat.le_of_ble_eq_true rfl)⟩ rfl rfl (by decide) (Nat.le_of_ble_eq_true rfl) rfl (Nat.le_of_ble_eq_true rfl) (by decide) (Ci_mono ((h2.1 c5).2.2.2.2.2.2.2.1 c7) (fun r45 μ42 h43 => ?_))
        refine K_if_lt 148 dM_step_132 (by decide) (fun c46 => ?_) (fun c46 => ?_)
        · refine K_iconst 0 dM_step_148 rfl ?_
          exact K_iret dM_step_149 (Or.inl rfl) (h43.1 c46)
        · refine K_aload_n 0 76 dM_step_135 rfl rfl ?_
          refine K_getf 12 46 76 (jvR 108) dM_step_136 pf_M_110 rfl rfl (by decide) rfl rfl ?_
          refine K_iload_n 1 a0 dM_step_139 rfl rfl ?_
          refine K_zald 108 40 dM_step_140 rfl rfl (by decide) (h43.2 c46).1 ?_
          refine K_if_eq 148 dM_step_141 (by decide) (fun c49 => ?_) (fun c49 => ?_)
          · refine K_iconst 0 dM_step_148 rfl ?_
            exact K_iret dM_step_149 (Or.inl rfl) ((h43.2 c46).2.1 c49)
          · refine K_iconst 1 dM_step_144 rfl ?_
            refine K_goto 149 dM_step_145 (by decide) ?_
            exact K_iret dM_step_149 (Or.inl rfl) ((h43.2 c46).2.2 c49)
      | 8, _, ha9 =>
        have c7 : a1 = 8 := by omega
        refine ⟨_, 150, rfl, by decide, ?_⟩
        refine K_aload_n 0 76 dM_step_150 rfl rfl ?_
        refine K_iload_n 1 a0 dM_step_151 rfl rfl ?_
        refine K_callVi mM_namers 12 76 [jvI a0] dM_step_152 pm_M_371 ⟨_, rfl, rfl⟩ ⟨(Nat.le_of_ble_eq_true rfl), (Nat.le_of_ble_eq_true rfl)⟩ rfl rfl (by decide) (Nat.le_of_ble_eq_true rfl) rfl (Nat.le_of_ble_eq_true rfl) (by decide) (Ci_mono ((h2.1 c5).2.2.2.2.2.2.2.2.1 c7) (fun r56 μ53 h54 => ?_))
        exact K_iret dM_step_155 (Or.inl rfl) h54
      | 9, _, ha9 =>
        have c7 : a1 = 9 := by omega
        refine ⟨_, 156, rfl, by decide, ?_⟩
        refine K_aload_n 0 76 dM_step_156 rfl rfl ?_
        refine K_bipush 48 dM_step_157 rfl ?_
        refine K_iload_n 1 a0 dM_step_159 rfl rfl ?_
        refine K_iadd dM_step_160 (w32_id ((h2.1 c5).2.2.2.2.2.2.2.2.2.1 c7).1) ?_
        refine K_callVi mM_longOf 12 76 [jvI (48 + a0)] dM_step_161 pm_M_316 ⟨_, rfl, rfl⟩ ⟨(Nat.le_of_ble_eq_true rfl), (Nat.le_of_ble_eq_true rfl)⟩ rfl rfl (by decide) (Nat.le_of_ble_eq_true rfl) rfl (Nat.le_of_ble_eq_true rfl) (by decide) (Ci_mono ((h2.1 c5).2.2.2.2.2.2.2.2.2.1 c7).2 (fun r61 μ58 h59 => ?_))
        exact K_iret dM_step_164 (Or.inl rfl) h59
      | 10, _, ha9 =>
        have c7 : a1 = 10 := by omega
        refine ⟨_, 165, rfl, by decide, ?_⟩
        refine K_aload_n 0 76 dM_step_165 rfl rfl ?_
        refine K_iload_n 1 a0 dM_step_166 rfl rfl ?_
        refine K_iconst (-1) dM_step_167 rfl ?_
        refine K_callVi mM_seenOf 12 76 [jvI a0, jvI (-1)] dM_step_168 pm_M_374 ⟨_, rfl, rfl⟩ ⟨(Nat.le_of_ble_eq_true rfl), (Nat.le_of_ble_eq_true rfl)⟩ rfl rfl (by decide) (Nat.le_of_ble_eq_true rfl) rfl (Nat.le_of_ble_eq_true rfl) (by decide) (Ci_mono ((h2.1 c5).2.2.2.2.2.2.2.2.2.2.1 c7) (fun r66 μ63 h64 => ?_))
        exact K_iret dM_step_171 (Or.inl rfl) h64
      | i + 11, hi9, _ => exact absurd hi9 (by simp <;> omega)
    · skip
      refine K_iconst (-1) dM_step_172 rfl ?_
      exact K_iret dM_step_173 (Or.inl rfl) ((h2.1 c5).2.2.2.2.2.2.2.2.2.2.2 c7)
  · refine K_iconst (-1) dM_step_8 rfl ?_
    exact K_iret dM_step_9 (Or.inl rfl) (h2.2 c5)
set_option maxHeartbeats 8000000 in
theorem vM_isStep_0 {E : jE} {μ : jMu} {Q : Option AV → jMu → Prop} {a0 : Int} (hF : (Ci E mM_steps [jvR 76] μ (fun r4 μ1 => ((-2147483648 ≤ (r4 - 1) ∧ (r4 - 1) < 2147483648)) ∧ (Ci E mM_isIn [jvL a0, jvL 0, jvL (r4 - 1)] μ1 (fun r8 μ5 => ((r8 = 0 ∨ r8 = 1)) ∧ (Q (some (jvI r8)) μ5)))))) : K 121 E mM_isStep 0 [some (jvR 76), some (jvI a0)] [] μ Q := by
  refine K_iload_n 1 a0 dM_isStep_0 rfl rfl ?_
  refine K_i2l dM_isStep_1 rfl ?_
  refine K_lconst 0 dM_isStep_2 rfl ?_
  refine K_aload_n 0 76 dM_isStep_3 rfl rfl ?_
  refine K_callVi mM_steps 12 76 [] dM_isStep_4 pm_M_294 ⟨_, rfl, rfl⟩ ⟨(Nat.le_of_ble_eq_true rfl), (Nat.le_of_ble_eq_true rfl)⟩ rfl rfl (by decide) (Nat.le_of_ble_eq_true rfl) rfl (Nat.le_of_ble_eq_true rfl) (by decide) (Ci_mono hF (fun r4 μ1 h2 => ?_))
  refine K_iconst 1 dM_isStep_7 rfl ?_
  refine K_isub dM_isStep_8 (w32_id h2.1) ?_
  refine K_i2l dM_isStep_9 rfl ?_
  refine K_callSi mM_isIn [jvL a0, jvL 0, jvL (r4 - 1)] dM_isStep_10 pm_M_196 ⟨(Nat.le_of_ble_eq_true rfl), (Nat.le_of_ble_eq_true rfl)⟩ (Nat.le_of_ble_eq_true rfl) rfl (Nat.le_of_ble_eq_true rfl) (by decide) (Ci_mono h2.2 (fun r8 μ5 h6 => ?_))
  exact K_iret dM_isStep_13 (Or.inr ⟨rfl, h6.1⟩) h6.2
set_option maxHeartbeats 8000000 in
theorem vM_namers_0 {E : jE} {μ : jMu} {Q : Option AV → jMu → Prop} {a0 : Int} (hF : ((-2147483648 ≤ (a0 + 1) ∧ (a0 + 1) < 2147483648)) ∧ (K 121 E mM_namers 6 [some (jvR 76), some (jvI a0), some (jvI 0), some (jvI (a0 + 1)), none, none] [] μ Q)) : K 121 E mM_namers 0 [some (jvR 76), some (jvI a0), none, none, none, none] [] μ Q := by
  refine K_iconst 0 dM_namers_0 rfl ?_
  refine K_istore_n 2 dM_namers_1 rfl (Nat.le_of_ble_eq_true rfl) rfl ?_
  refine K_iload_n 1 a0 dM_namers_2 rfl rfl ?_
  refine K_iconst 1 dM_namers_3 rfl ?_
  refine K_iadd dM_namers_4 (w32_id hF.1) ?_
  refine K_istore_n 3 dM_namers_5 rfl (Nat.le_of_ble_eq_true rfl) rfl ?_
  exact hF.2
set_option maxHeartbeats 8000000 in
theorem vM_namers_6 {E : jE} {μ : jMu} {Q : Option AV → jMu → Prop} {l1 l2 l3 : Int} (hF : (Ci E mM_steps [jvR 76] μ (fun r4 μ1 => ((r4 ≤ l3 → (Q (some (jvI l2)) μ1)) ∧ (¬ (r4 ≤ l3) → (K 121 E mM_namers 20 [some (jvR 76), some (jvI l1), some (jvI l2), some (jvI l3), some (jvI 0), some (jvI 0)] [] μ1 Q)))))) : K 121 E mM_namers 6 [some (jvR 76), some (jvI l1), some (jvI l2), some (jvI l3), none, none] [] μ Q := by
  refine K_iload_n 3 l3 dM_namers_6 rfl rfl ?_
  refine K_aload_n 0 76 dM_namers_7 rfl rfl ?_
  refine K_callVi mM_steps 12 76 [] dM_namers_8 pm_M_294 ⟨_, rfl, rfl⟩ ⟨(Nat.le_of_ble_eq_true rfl), (Nat.le_of_ble_eq_true rfl)⟩ rfl rfl (by decide) (Nat.le_of_ble_eq_true rfl) rfl (Nat.le_of_ble_eq_true rfl) (by decide) (Ci_mono hF (fun r4 μ1 h2 => ?_))
  refine K_icmp_ge 73 dM_namers_11 (by decide) (fun c5 => ?_) (fun c5 => ?_)
  · refine K_iload_n 2 l2 dM_namers_73 rfl rfl ?_
    exact K_iret dM_namers_74 (Or.inl rfl) (h2.1 c5)
  · refine K_iconst 0 dM_namers_14 rfl ?_
    refine K_istore 4 dM_namers_15 (Nat.le_of_ble_eq_true rfl) rfl ?_
    refine K_iconst 0 dM_namers_17 rfl ?_
    refine K_istore 5 dM_namers_18 (Nat.le_of_ble_eq_true rfl) rfl ?_
    exact (h2.2 c5)
set_option maxHeartbeats 8000000 in
theorem vM_namers_20 {E : jE} {μ : jMu} {Q : Option AV → jMu → Prop} {l1 l2 l3 l4 l5 : Int} (hF : (Ci E mM_namesMany [jvR 76, jvI l3] μ (fun r4 μ1 => ((r4 ≤ l5 → ((l4 = 0 → ((-2147483648 ≤ (l3 + 1) ∧ (l3 + 1) < 2147483648)) ∧ (K 121 E mM_namers 6 [some (jvR 76), some (jvI l1), some (jvI l2), some (jvI (l3 + 1)), none, none] [] μ1 Q)) ∧ (¬ (l4 = 0) → ((-2147483648 ≤ (l2 + 1) ∧ (l2 + 1) < 2147483648) ∧ (-2147483648 ≤ (l3 + 1) ∧ (l3 + 1) < 2147483648)) ∧ (K 121 E mM_namers 6 [some (jvR 76), some (jvI l1), some (jvI (l2 + 1)), some (jvI (l3 + 1)), none, none] [] μ1 Q)))) ∧ (¬ (r4 ≤ l5) → ((¬ l4 = 0 → ((-2147483648 ≤ (l5 + 1) ∧ (l5 + 1) < 2147483648)) ∧ (K 121 E mM_namers 20 [some (jvR 76), some (jvI l1), some (jvI l2), some (jvI l3), some (jvI 1), some (jvI (l5 + 1))] [] μ1 Q)) ∧ (l4 = 0 → (Ci E mM_namedBy [jvR 76, jvI l3, jvI l5] μ1 (fun r14 μ11 => ((¬ r14 = l1 → ((-2147483648 ≤ (l5 + 1) ∧ (l5 + 1) < 2147483648)) ∧ (K 121 E mM_namers 20 [some (jvR 76), some (jvI l1), some (jvI l2), some (jvI l3), some (jvI 0), some (jvI (l5 + 1))] [] μ11 Q)) ∧ (r14 = l1 → ((-2147483648 ≤ (l5 + 1) ∧ (l5 + 1) < 2147483648)) ∧ (K 121 E mM_namers 20 [some (jvR 76), some (jvI l1), some (jvI l2), some (jvI l3), some (jvI 1), some (jvI (l5 + 1))] [] μ11 Q)))))))))))) : K 121 E mM_namers 20 [some (jvR 76), some (jvI l1), some (jvI l2), some (jvI l3), some (jvI l4), some (jvI l5)] [] μ Q := by
  refine K_iload 5 l5 dM_namers_20 rfl ?_
  refine K_aload_n 0 76 dM_namers_22 rfl rfl ?_
  refine K_iload_n 3 l3 dM_namers_23 rfl rfl ?_
  refine K_callVi mM_namesMany 12 76 [jvI l3] dM_namers_24 pm_M_328 ⟨_, rfl, rfl⟩ ⟨(Nat.le_of_ble_eq_true rfl), (Nat.le_of_ble_eq_true rfl)⟩ rfl rfl (by decide) (Nat.le_of_ble_eq_true rfl) rfl (Nat.le_of_ble_eq_true rfl) (by decide) (Ci_mono hF (fun r4 μ1 h2 => ?_))
  refine K_icmp_ge 59 dM_namers_27 (by decide) (fun c5 => ?_) (fun c5 => ?_)
  · refine K_iload 4 l4 dM_namers_59 rfl ?_
    refine K_if_eq 67 dM_namers_61 (by decide) (fun c7 => ?_) (fun c7 => ?_)
    · refine K_iinc 3 dM_namers_67 (Nat.le_of_ble_eq_true rfl) rfl (w32_ok ((h2.1 c5).1 c7).1) rfl ?_
      refine K_goto 6 dM_namers_70 (by decide) ?_
      exact K_forget [true, true, true, true, false, false] ((h2.1 c5).1 c7).2
    · refine K_iinc 2 dM_namers_64 (Nat.le_of_ble_eq_true rfl) rfl (w32_ok ((h2.1 c5).2 c7).1.1) rfl ?_
      refine K_iinc 3 dM_namers_67 (Nat.le_of_ble_eq_true rfl) rfl (w32_ok ((h2.1 c5).2 c7).1.2) rfl ?_
      refine K_goto 6 dM_namers_70 (by decide) ?_
      exact K_forget [true, true, true, true, false, false] ((h2.1 c5).2 c7).2
  · refine K_iload 4 l4 dM_namers_30 rfl ?_
    refine K_if_ne 46 dM_namers_32 (by decide) (fun c9 => ?_) (fun c9 => ?_)
    · refine K_iconst 1 dM_namers_46 rfl ?_
      refine K_goto 51 dM_namers_47 (by decide) ?_
      refine K_istore 4 dM_namers_51 (Nat.le_of_ble_eq_true rfl) rfl ?_
      refine K_iinc 5 dM_namers_53 (Nat.le_of_ble_eq_true rfl) rfl (w32_ok ((h2.2 c5).1 c9).1) rfl ?_
      refine K_goto 20 dM_namers_56 (by decide) ?_
      exact ((h2.2 c5).1 c9).2
    · refine K_aload_n 0 76 dM_namers_35 rfl rfl ?_
      refine K_iload_n 3 l3 dM_namers_36 rfl rfl ?_
      refine K_iload 5 l5 dM_namers_37 rfl ?_
      refine K_callVi mM_namedBy 12 76 [jvI l3, jvI l5] dM_namers_39 pm_M_319 ⟨_, rfl, rfl⟩ ⟨(Nat.le_of_ble_eq_true rfl), (Nat.le_of_ble_eq_true rfl)⟩ rfl rfl (by decide) (Nat.le_of_ble_eq_true rfl) rfl (Nat.le_of_ble_eq_true rfl) (by decide) (Ci_mono ((h2.2 c5).2 c9) (fun r14 μ11 h12 => ?_))
      refine K_iload_n 1 l1 dM_namers_42 rfl rfl ?_
      refine K_icmp_ne 50 dM_namers_43 (by decide) (fun c15 => ?_) (fun c15 => ?_)
      · refine K_iconst 0 dM_namers_50 rfl ?_
        refine K_istore 4 dM_namers_51 (Nat.le_of_ble_eq_true rfl) rfl ?_
        refine K_iinc 5 dM_namers_53 (Nat.le_of_ble_eq_true rfl) rfl (w32_ok (h12.1 c15).1) rfl ?_
        refine K_goto 20 dM_namers_56 (by decide) ?_
        exact (h12.1 c15).2
      · refine K_iconst 1 dM_namers_46 rfl ?_
        refine K_goto 51 dM_namers_47 (by decide) ?_
        refine K_istore 4 dM_namers_51 (Nat.le_of_ble_eq_true rfl) rfl ?_
        refine K_iinc 5 dM_namers_53 (Nat.le_of_ble_eq_true rfl) rfl (w32_ok (h12.2 c15).1) rfl ?_
        refine K_goto 20 dM_namers_56 (by decide) ?_
        exact (h12.2 c15).2
