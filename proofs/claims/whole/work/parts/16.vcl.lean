set_option maxHeartbeats 8000000 in
theorem vLaw_18 {E : jE} {μ : jMu} {Q : Option AV → jMu → Prop} (hE : E.2.2.1 ≤ 3072) {l3 : Int} (hF : ((-2147483648 ≤ ((E.2.2.1 : Int) - 6) ∧ ((E.2.2.1 : Int) - 6) < 2147483648)) ∧ ((((E.2.2.1 : Int) - 6) < l3 → (Q (some (jvI 1)) μ)) ∧ (¬ (((E.2.2.1 : Int) - 6) < l3) → ((0 ≤ l3 ∧ l3 < (E.2.2.1 : Int))) ∧ (((iand32 (E.2.2.2.1 (l3).toNat).toInt 63) = 0 → ((-2147483648 ≤ (l3 + 1) ∧ (l3 + 1) < 2147483648) ∧ (0 ≤ (l3 + 1) ∧ (l3 + 1) < (E.2.2.1 : Int)) ∧ (-2147483648 ≤ (l3 + 2) ∧ (l3 + 2) < 2147483648) ∧ (0 ≤ (l3 + 2) ∧ (l3 + 2) < (E.2.2.1 : Int)) ∧ (-2147483648 ≤ (l3 + 3) ∧ (l3 + 3) < 2147483648) ∧ (0 ≤ (l3 + 3) ∧ (l3 + 3) < (E.2.2.1 : Int)) ∧ (-2147483648 ≤ (l3 + 4) ∧ (l3 + 4) < 2147483648) ∧ (0 ≤ (l3 + 4) ∧ (l3 + 4) < (E.2.2.1 : Int)) ∧ (-2147483648 ≤ (l3 + 5) ∧ (l3 + 5) < 2147483648) ∧ (0 ≤ (l3 + 5) ∧ (l3 + 5) < (E.2.2.1 : Int))) ∧ (Ci E mX_feed [jvR 0, jvI (E.2.2.2.1 ((l3 + 1)).toNat).toInt, jvI (E.2.2.2.1 ((l3 + 2)).toNat).toInt, jvI (E.2.2.2.1 ((l3 + 3)).toNat).toInt, jvI (E.2.2.2.1 ((l3 + 4)).toNat).toInt, jvI (E.2.2.2.1 ((l3 + 5)).toNat).toInt] μ (fun r9 μ6 => ((-2147483648 ≤ (l3 + 1) ∧ (l3 + 1) < 2147483648) ∧ (0 ≤ (l3 + 1) ∧ (l3 + 1) < (E.2.2.1 : Int)) ∧ (-2147483648 ≤ (l3 + 2) ∧ (l3 + 2) < 2147483648) ∧ (0 ≤ (l3 + 2) ∧ (l3 + 2) < (E.2.2.1 : Int)) ∧ (-2147483648 ≤ (l3 + 3) ∧ (l3 + 3) < 2147483648) ∧ (0 ≤ (l3 + 3) ∧ (l3 + 3) < (E.2.2.1 : Int)) ∧ (-2147483648 ≤ (l3 + 4) ∧ (l3 + 4) < 2147483648) ∧ (0 ≤ (l3 + 4) ∧ (l3 + 4) < (E.2.2.1 : Int)) ∧ (-2147483648 ≤ (l3 + 5) ∧ (l3 + 5) < 2147483648) ∧ (0 ≤ (l3 + 5) ∧ (l3 + 5) < (E.2.2.1 : Int))) ∧ (Ci E mM_feed [jvR 76, jvI (E.2.2.2.1 ((l3 + 1)).toNat).toInt, jvI (E.2.2.2.1 ((l3 + 2)).toNat).toInt, jvI (E.2.2.2.1 ((l3 + 3)).toNat).toInt, jvI (E.2.2.2.1 ((l3 + 4)).toNat).toInt, jvI (E.2.2.2.1 ((l3 + 5)).toNat).toInt] μ6 (fun r13 μ10 => ((r9 = r13 → ((-2147483648 ≤ (l3 + 6) ∧ (l3 + 6) < 2147483648)) ∧ (K 0 E mLaw 18 [some (jvR (-2)), some (jvR 0), some (jvR 76), some (jvI (l3 + 6))] [] μ10 Q)) ∧ (¬ (r9 = r13) → (Q (some (jvI 0)) μ10)))))))) ∧ ((iand32 (E.2.2.2.1 (l3).toNat).toInt 63) = 1 → ((-2147483648 ≤ (l3 + 1) ∧ (l3 + 1) < 2147483648) ∧ (0 ≤ (l3 + 1) ∧ (l3 + 1) < (E.2.2.1 : Int))) ∧ (Ci E mX_end [jvR 0, jvI (E.2.2.2.1 ((l3 + 1)).toNat).toInt] μ (fun r20 μ17 => ((-2147483648 ≤ (l3 + 1) ∧ (l3 + 1) < 2147483648) ∧ (0 ≤ (l3 + 1) ∧ (l3 + 1) < (E.2.2.1 : Int))) ∧ (Ci E mM_end [jvR 76, jvI (E.2.2.2.1 ((l3 + 1)).toNat).toInt] μ17 (fun r24 μ21 => ((r20 = r24 → ((-2147483648 ≤ (l3 + 6) ∧ (l3 + 6) < 2147483648)) ∧ (K 0 E mLaw 18 [some (jvR (-2)), some (jvR 0), some (jvR 76), some (jvI (l3 + 6))] [] μ21 Q)) ∧ (¬ (r20 = r24) → (Q (some (jvI 0)) μ21)))))))) ∧ ((iand32 (E.2.2.2.1 (l3).toNat).toInt 63) = 2 → (Ci E mX_proof [jvR 0] μ (fun r31 μ28 => (Ci E mM_proof [jvR 76] μ28 (fun r35 μ32 => ((r31 = r35 → ((-2147483648 ≤ (l3 + 6) ∧ (l3 + 6) < 2147483648)) ∧ (K 0 E mLaw 18 [some (jvR (-2)), some (jvR 0), some (jvR 76), some (jvI (l3 + 6))] [] μ32 Q)) ∧ (¬ (r31 = r35) → (Q (some (jvI 0)) μ32)))))))) ∧ ((iand32 (E.2.2.2.1 (l3).toNat).toInt 63) = 3 → ((-2147483648 ≤ (l3 + 1) ∧ (l3 + 1) < 2147483648) ∧ (0 ≤ (l3 + 1) ∧ (l3 + 1) < (E.2.2.1 : Int))) ∧ (Ci E mX_fault [jvR 0, jvI (E.2.2.2.1 ((l3 + 1)).toNat).toInt] μ (fun r42 μ39 => ((-2147483648 ≤ (l3 + 1) ∧ (l3 + 1) < 2147483648) ∧ (0 ≤ (l3 + 1) ∧ (l3 + 1) < (E.2.2.1 : Int))) ∧ (Ci E mM_fault [jvR 76, jvI (E.2.2.2.1 ((l3 + 1)).toNat).toInt] μ39 (fun r46 μ43 => ((r42 = r46 → ((-2147483648 ≤ (l3 + 6) ∧ (l3 + 6) < 2147483648)) ∧ (K 0 E mLaw 18 [some (jvR (-2)), some (jvR 0), some (jvR 76), some (jvI (l3 + 6))] [] μ43 Q)) ∧ (¬ (r42 = r46) → (Q (some (jvI 0)) μ43)))))))) ∧ ((iand32 (E.2.2.2.1 (l3).toNat).toInt 63) = 4 → ((-2147483648 ≤ (l3 + 1) ∧ (l3 + 1) < 2147483648) ∧ (0 ≤ (l3 + 1) ∧ (l3 + 1) < (E.2.2.1 : Int))) ∧ (Ci E mX_has [jvR 0, jvI (E.2.2.2.1 ((l3 + 1)).toNat).toInt] μ (fun r53 μ50 => ((-2147483648 ≤ (l3 + 1) ∧ (l3 + 1) < 2147483648) ∧ (0 ≤ (l3 + 1) ∧ (l3 + 1) < (E.2.2.1 : Int))) ∧ (Ci E mM_has [jvR 76, jvI (E.2.2.2.1 ((l3 + 1)).toNat).toInt] μ50 (fun r57 μ54 => ((r53 = r57 → ((-2147483648 ≤ (l3 + 6) ∧ (l3 + 6) < 2147483648)) ∧ (K 0 E mLaw 18 [some (jvR (-2)), some (jvR 0), some (jvR 76), some (jvI (l3 + 6))] [] μ54 Q)) ∧ (¬ (r53 = r57) → (Q (some (jvI 0)) μ54)))))))) ∧ ((iand32 (E.2.2.2.1 (l3).toNat).toInt 63) = 5 → ((-2147483648 ≤ (l3 + 1) ∧ (l3 + 1) < 2147483648) ∧ (0 ≤ (l3 + 1) ∧ (l3 + 1) < (E.2.2.1 : Int)) ∧ (-2147483648 ≤ (l3 + 2) ∧ (l3 + 2) < 2147483648) ∧ (0 ≤ (l3 + 2) ∧ (l3 + 2) < (E.2.2.1 : Int)) ∧ (-2147483648 ≤ (l3 + 3) ∧ (l3 + 3) < 2147483648) ∧ (0 ≤ (l3 + 3) ∧ (l3 + 3) < (E.2.2.1 : Int))) ∧ (Ci E mX_letter [jvR 0, jvI (E.2.2.2.1 ((l3 + 1)).toNat).toInt, jvI (E.2.2.2.1 ((l3 + 2)).toNat).toInt, jvI (E.2.2.2.1 ((l3 + 3)).toNat).toInt] μ (fun r64 μ61 => ((-2147483648 ≤ (l3 + 1) ∧ (l3 + 1) < 2147483648) ∧ (0 ≤ (l3 + 1) ∧ (l3 + 1) < (E.2.2.1 : Int)) ∧ (-2147483648 ≤ (l3 + 2) ∧ (l3 + 2) < 2147483648) ∧ (0 ≤ (l3 + 2) ∧ (l3 + 2) < (E.2.2.1 : Int)) ∧ (-2147483648 ≤ (l3 + 3) ∧ (l3 + 3) < 2147483648) ∧ (0 ≤ (l3 + 3) ∧ (l3 + 3) < (E.2.2.1 : Int))) ∧ (Ci E mM_letter [jvR 76, jvI (E.2.2.2.1 ((l3 + 1)).toNat).toInt, jvI (E.2.2.2.1 ((l3 + 2)).toNat).toInt, jvI (E.2.2.2.1 ((l3 + 3)).toNat).toInt] μ61 (fun r68 μ65 => ((r64 = r68 → ((-2147483648 ≤ (l3 + 6) ∧ (l3 + 6) < 2147483648)) ∧ (K 0 E mLaw 18 [some (jvR (-2)), some (jvR 0), some (jvR 76), some (jvI (l3 + 6))] [] μ65 Q)) ∧ (¬ (r64 = r68) → (Q (some (jvI 0)) μ65)))))))) ∧ ((iand32 (E.2.2.2.1 (l3).toNat).toInt 63) = 6 → ((-2147483648 ≤ (l3 + 1) ∧ (l3 + 1) < 2147483648) ∧ (0 ≤ (l3 + 1) ∧ (l3 + 1) < (E.2.2.1 : Int)) ∧ (-2147483648 ≤ (l3 + 2) ∧ (l3 + 2) < 2147483648) ∧ (0 ≤ (l3 + 2) ∧ (l3 + 2) < (E.2.2.1 : Int))) ∧ (Ci E mX_rule [jvR 0, jvI (E.2.2.2.1 ((l3 + 1)).toNat).toInt, jvI (E.2.2.2.1 ((l3 + 2)).toNat).toInt] μ (fun r75 μ72 => ((-2147483648 ≤ (l3 + 1) ∧ (l3 + 1) < 2147483648) ∧ (0 ≤ (l3 + 1) ∧ (l3 + 1) < (E.2.2.1 : Int)) ∧ (-2147483648 ≤ (l3 + 2) ∧ (l3 + 2) < 2147483648) ∧ (0 ≤ (l3 + 2) ∧ (l3 + 2) < (E.2.2.1 : Int))) ∧ (Ci E mM_rule [jvR 76, jvI (E.2.2.2.1 ((l3 + 1)).toNat).toInt, jvI (E.2.2.2.1 ((l3 + 2)).toNat).toInt] μ72 (fun r79 μ76 => ((r75 = r79 → ((-2147483648 ≤ (l3 + 6) ∧ (l3 + 6) < 2147483648)) ∧ (K 0 E mLaw 18 [some (jvR (-2)), some (jvR 0), some (jvR 76), some (jvI (l3 + 6))] [] μ76 Q)) ∧ (¬ (r75 = r79) → (Q (some (jvI 0)) μ76)))))))) ∧ ((iand32 (E.2.2.2.1 (l3).toNat).toInt 63) = 7 → ((-2147483648 ≤ (l3 + 1) ∧ (l3 + 1) < 2147483648) ∧ (0 ≤ (l3 + 1) ∧ (l3 + 1) < (E.2.2.1 : Int)) ∧ (-2147483648 ≤ (l3 + 2) ∧ (l3 + 2) < 2147483648) ∧ (0 ≤ (l3 + 2) ∧ (l3 + 2) < (E.2.2.1 : Int))) ∧ (Ci E mX_step [jvR 0, jvI (E.2.2.2.1 ((l3 + 1)).toNat).toInt, jvI (E.2.2.2.1 ((l3 + 2)).toNat).toInt] μ (fun r86 μ83 => ((-2147483648 ≤ (l3 + 1) ∧ (l3 + 1) < 2147483648) ∧ (0 ≤ (l3 + 1) ∧ (l3 + 1) < (E.2.2.1 : Int)) ∧ (-2147483648 ≤ (l3 + 2) ∧ (l3 + 2) < 2147483648) ∧ (0 ≤ (l3 + 2) ∧ (l3 + 2) < (E.2.2.1 : Int))) ∧ (Ci E mM_step [jvR 76, jvI (E.2.2.2.1 ((l3 + 1)).toNat).toInt, jvI (E.2.2.2.1 ((l3 + 2)).toNat).toInt] μ83 (fun r90 μ87 => ((r86 = r90 → ((-2147483648 ≤ (l3 + 6) ∧ (l3 + 6) < 2147483648)) ∧ (K 0 E mLaw 18 [some (jvR (-2)), some (jvR 0), some (jvR 76), some (jvI (l3 + 6))] [] μ87 Q)) ∧ (¬ (r86 = r90) → (Q (some (jvI 0)) μ87)))))))) ∧ ((iand32 (E.2.2.2.1 (l3).toNat).toInt 63) = 8 → ((-2147483648 ≤ (l3 + 1) ∧ (l3 + 1) < 2147483648) ∧ (0 ≤ (l3 + 1) ∧ (l3 + 1) < (E.2.2.1 : Int)) ∧ (-2147483648 ≤ (l3 + 2) ∧ (l3 + 2) < 2147483648) ∧ (0 ≤ (l3 + 2) ∧ (l3 + 2) < (E.2.2.1 : Int))) ∧ (Ci E mX_names [jvR 0, jvI (E.2.2.2.1 ((l3 + 1)).toNat).toInt, jvI (E.2.2.2.1 ((l3 + 2)).toNat).toInt] μ (fun r97 μ94 => ((-2147483648 ≤ (l3 + 1) ∧ (l3 + 1) < 2147483648) ∧ (0 ≤ (l3 + 1) ∧ (l3 + 1) < (E.2.2.1 : Int)) ∧ (-2147483648 ≤ (l3 + 2) ∧ (l3 + 2) < 2147483648) ∧ (0 ≤ (l3 + 2) ∧ (l3 + 2) < (E.2.2.1 : Int))) ∧ (Ci E mM_names [jvR 76, jvI (E.2.2.2.1 ((l3 + 1)).toNat).toInt, jvI (E.2.2.2.1 ((l3 + 2)).toNat).toInt] μ94 (fun r101 μ98 => ((r97 = r101 → ((-2147483648 ≤ (l3 + 6) ∧ (l3 + 6) < 2147483648)) ∧ (K 0 E mLaw 18 [some (jvR (-2)), some (jvR 0), some (jvR 76), some (jvI (l3 + 6))] [] μ98 Q)) ∧ (¬ (r97 = r101) → (Q (some (jvI 0)) μ98)))))))) ∧ ((iand32 (E.2.2.2.1 (l3).toNat).toInt 63) = 9 → ((-2147483648 ≤ (l3 + 1) ∧ (l3 + 1) < 2147483648) ∧ (0 ≤ (l3 + 1) ∧ (l3 + 1) < (E.2.2.1 : Int)) ∧ (-2147483648 ≤ (l3 + 2) ∧ (l3 + 2) < 2147483648) ∧ (0 ≤ (l3 + 2) ∧ (l3 + 2) < (E.2.2.1 : Int))) ∧ (Ci E mX_term [jvR 0, jvI (E.2.2.2.1 ((l3 + 1)).toNat).toInt, jvI (E.2.2.2.1 ((l3 + 2)).toNat).toInt] μ (fun r108 μ105 => ((-2147483648 ≤ (l3 + 1) ∧ (l3 + 1) < 2147483648) ∧ (0 ≤ (l3 + 1) ∧ (l3 + 1) < (E.2.2.1 : Int)) ∧ (-2147483648 ≤ (l3 + 2) ∧ (l3 + 2) < 2147483648) ∧ (0 ≤ (l3 + 2) ∧ (l3 + 2) < (E.2.2.1 : Int))) ∧ (Ci E mM_term [jvR 76, jvI (E.2.2.2.1 ((l3 + 1)).toNat).toInt, jvI (E.2.2.2.1 ((l3 + 2)).toNat).toInt] μ105 (fun r112 μ109 => ((r108 = r112 → ((-2147483648 ≤ (l3 + 6) ∧ (l3 + 6) < 2147483648)) ∧ (K 0 E mLaw 18 [some (jvR (-2)), some (jvR 0), some (jvR 76), some (jvI (l3 + 6))] [] μ109 Q)) ∧ (¬ (r108 = r112) → (Q (some (jvI 0)) μ109)))))))) ∧ ((iand32 (E.2.2.2.1 (l3).toNat).toInt 63) = 10 → (Ci E mX_wrong [jvR 0] μ (fun r119 μ116 => (Ci E mM_wrong [jvR 76] μ116 (fun r123 μ120 => ((r119 = r123 → ((-2147483648 ≤ (l3 + 6) ∧ (l3 + 6) < 2147483648)) ∧ (K 0 E mLaw 18 [some (jvR (-2)), some (jvR 0), some (jvR 76), some (jvI (l3 + 6))] [] μ120 Q)) ∧ (¬ (r119 = r123) → (Q (some (jvI 0)) μ120)))))))) ∧ ((iand32 (E.2.2.2.1 (l3).toNat).toInt 63) = 11 → ((-2147483648 ≤ (l3 + 1) ∧ (l3 + 1) < 2147483648) ∧ (0 ≤ (l3 + 1) ∧ (l3 + 1) < (E.2.2.1 : Int))) ∧ (Ci E mX_rest [jvR 0, jvI (E.2.2.2.1 ((l3 + 1)).toNat).toInt] μ (fun r130 μ127 => ((-2147483648 ≤ (l3 + 1) ∧ (l3 + 1) < 2147483648) ∧ (0 ≤ (l3 + 1) ∧ (l3 + 1) < (E.2.2.1 : Int))) ∧ (Ci E mM_rest [jvR 76, jvI (E.2.2.2.1 ((l3 + 1)).toNat).toInt] μ127 (fun r134 μ131 => ((r130 = r134 → ((-2147483648 ≤ (l3 + 6) ∧ (l3 + 6) < 2147483648)) ∧ (K 0 E mLaw 18 [some (jvR (-2)), some (jvR 0), some (jvR 76), some (jvI (l3 + 6))] [] μ131 Q)) ∧ (¬ (r130 = r134) → (Q (some (jvI 0)) μ131)))))))) ∧ ((iand32 (E.2.2.2.1 (l3).toNat).toInt 63) = 12 → ((-2147483648 ≤ (l3 + 1) ∧ (l3 + 1) < 2147483648) ∧ (0 ≤ (l3 + 1) ∧ (l3 + 1) < (E.2.2.1 : Int)) ∧ (-2147483648 ≤ (l3 + 2) ∧ (l3 + 2) < 2147483648) ∧ (0 ≤ (l3 + 2) ∧ (l3 + 2) < (E.2.2.1 : Int))) ∧ (Ci E mX_leans [jvR 0, jvI (E.2.2.2.1 ((l3 + 1)).toNat).toInt, jvI (E.2.2.2.1 ((l3 + 2)).toNat).toInt] μ (fun r141 μ138 => ((-2147483648 ≤ (l3 + 1) ∧ (l3 + 1) < 2147483648) ∧ (0 ≤ (l3 + 1) ∧ (l3 + 1) < (E.2.2.1 : Int)) ∧ (-2147483648 ≤ (l3 + 2) ∧ (l3 + 2) < 2147483648) ∧ (0 ≤ (l3 + 2) ∧ (l3 + 2) < (E.2.2.1 : Int))) ∧ (Ci E mM_leans [jvR 76, jvI (E.2.2.2.1 ((l3 + 1)).toNat).toInt, jvI (E.2.2.2.1 ((l3 + 2)).toNat).toInt] μ138 (fun r145 μ142 => ((r141 = r145 → ((-2147483648 ≤ (l3 + 6) ∧ (l3 + 6) < 2147483648)) ∧ (K 0 E mLaw 18 [some (jvR (-2)), some (jvR 0), some (jvR 76), some (jvI (l3 + 6))] [] μ142 Q)) ∧ (¬ (r141 = r145) → (Q (some (jvI 0)) μ142)))))))) ∧ ((iand32 (E.2.2.2.1 (l3).toNat).toInt 63) = 13 → ((-2147483648 ≤ (l3 + 1) ∧ (l3 + 1) < 2147483648) ∧ (0 ≤ (l3 + 1) ∧ (l3 + 1) < (E.2.2.1 : Int)) ∧ (-2147483648 ≤ (l3 + 2) ∧ (l3 + 2) < 2147483648) ∧ (0 ≤ (l3 + 2) ∧ (l3 + 2) < (E.2.2.1 : Int))) ∧ (Ci E mX_upon [jvR 0, jvI (E.2.2.2.1 ((l3 + 1)).toNat).toInt, jvI (E.2.2.2.1 ((l3 + 2)).toNat).toInt] μ (fun r152 μ149 => ((-2147483648 ≤ (l3 + 1) ∧ (l3 + 1) < 2147483648) ∧ (0 ≤ (l3 + 1) ∧ (l3 + 1) < (E.2.2.1 : Int)) ∧ (-2147483648 ≤ (l3 + 2) ∧ (l3 + 2) < 2147483648) ∧ (0 ≤ (l3 + 2) ∧ (l3 + 2) < (E.2.2.1 : Int))) ∧ (Ci E mM_upon [jvR 76, jvI (E.2.2.2.1 ((l3 + 1)).toNat).toInt, jvI (E.2.2.2.1 ((l3 + 2)).toNat).toInt] μ149 (fun r156 μ153 => ((r152 = r156 → ((-2147483648 ≤ (l3 + 6) ∧ (l3 + 6) < 2147483648)) ∧ (K 0 E mLaw 18 [some (jvR (-2)), some (jvR 0), some (jvR 76), some (jvI (l3 + 6))] [] μ153 Q)) ∧ (¬ (r152 = r156) → (Q (some (jvI 0)) μ153)))))))) ∧ ((iand32 (E.2.2.2.1 (l3).toNat).toInt 63) = 14 → ((-2147483648 ≤ (l3 + 1) ∧ (l3 + 1) < 2147483648) ∧ (0 ≤ (l3 + 1) ∧ (l3 + 1) < (E.2.2.1 : Int))) ∧ (Ci E mX_depth [jvR 0, jvI (E.2.2.2.1 ((l3 + 1)).toNat).toInt] μ (fun r163 μ160 => ((-2147483648 ≤ (l3 + 1) ∧ (l3 + 1) < 2147483648) ∧ (0 ≤ (l3 + 1) ∧ (l3 + 1) < (E.2.2.1 : Int))) ∧ (Ci E mM_depth [jvR 76, jvI (E.2.2.2.1 ((l3 + 1)).toNat).toInt] μ160 (fun r167 μ164 => ((r163 = r167 → ((-2147483648 ≤ (l3 + 6) ∧ (l3 + 6) < 2147483648)) ∧ (K 0 E mLaw 18 [some (jvR (-2)), some (jvR 0), some (jvR 76), some (jvI (l3 + 6))] [] μ164 Q)) ∧ (¬ (r163 = r167) → (Q (some (jvI 0)) μ164)))))))) ∧ ((iand32 (E.2.2.2.1 (l3).toNat).toInt 63) = 15 → ((-2147483648 ≤ (l3 + 1) ∧ (l3 + 1) < 2147483648) ∧ (0 ≤ (l3 + 1) ∧ (l3 + 1) < (E.2.2.1 : Int))) ∧ (Ci E mX_load [jvR 0, jvI (E.2.2.2.1 ((l3 + 1)).toNat).toInt] μ (fun r174 μ171 => ((-2147483648 ≤ (l3 + 1) ∧ (l3 + 1) < 2147483648) ∧ (0 ≤ (l3 + 1) ∧ (l3 + 1) < (E.2.2.1 : Int))) ∧ (Ci E mM_load [jvR 76, jvI (E.2.2.2.1 ((l3 + 1)).toNat).toInt] μ171 (fun r178 μ175 => ((r174 = r178 → ((-2147483648 ≤ (l3 + 6) ∧ (l3 + 6) < 2147483648)) ∧ (K 0 E mLaw 18 [some (jvR (-2)), some (jvR 0), some (jvR 76), some (jvI (l3 + 6))] [] μ175 Q)) ∧ (¬ (r174 = r178) → (Q (some (jvI 0)) μ175)))))))) ∧ ((iand32 (E.2.2.2.1 (l3).toNat).toInt 63) = 16 → ((-2147483648 ≤ (l3 + 1) ∧ (l3 + 1) < 2147483648) ∧ (0 ≤ (l3 + 1) ∧ (l3 + 1) < (E.2.2.1 : Int))) ∧ (Ci E mX_covers [jvR 0, jvI (E.2.2.2.1 ((l3 + 1)).toNat).toInt] μ (fun r185 μ182 => ((-2147483648 ≤ (l3 + 1) ∧ (l3 + 1) < 2147483648) ∧ (0 ≤ (l3 + 1) ∧ (l3 + 1) < (E.2.2.1 : Int))) ∧ (Ci E mM_covers [jvR 76, jvI (E.2.2.2.1 ((l3 + 1)).toNat).toInt] μ182 (fun r189 μ186 => ((r185 = r189 → ((-2147483648 ≤ (l3 + 6) ∧ (l3 + 6) < 2147483648)) ∧ (K 0 E mLaw 18 [some (jvR (-2)), some (jvR 0), some (jvR 76), some (jvI (l3 + 6))] [] μ186 Q)) ∧ (¬ (r185 = r189) → (Q (some (jvI 0)) μ186)))))))) ∧ ((iand32 (E.2.2.2.1 (l3).toNat).toInt 63) = 17 → ((-2147483648 ≤ (l3 + 1) ∧ (l3 + 1) < 2147483648) ∧ (0 ≤ (l3 + 1) ∧ (l3 + 1) < (E.2.2.1 : Int))) ∧ (Ci E mX_vital [jvR 0, jvI (E.2.2.2.1 ((l3 + 1)).toNat).toInt] μ (fun r196 μ193 => ((-2147483648 ≤ (l3 + 1) ∧ (l3 + 1) < 2147483648) ∧ (0 ≤ (l3 + 1) ∧ (l3 + 1) < (E.2.2.1 : Int))) ∧ (Ci E mM_vital [jvR 76, jvI (E.2.2.2.1 ((l3 + 1)).toNat).toInt] μ193 (fun r200 μ197 => ((r196 = r200 → ((-2147483648 ≤ (l3 + 6) ∧ (l3 + 6) < 2147483648)) ∧ (K 0 E mLaw 18 [some (jvR (-2)), some (jvR 0), some (jvR 76), some (jvI (l3 + 6))] [] μ197 Q)) ∧ (¬ (r196 = r200) → (Q (some (jvI 0)) μ197)))))))) ∧ ((iand32 (E.2.2.2.1 (l3).toNat).toInt 63) = 18 → ((-2147483648 ≤ (l3 + 1) ∧ (l3 + 1) < 2147483648) ∧ (0 ≤ (l3 + 1) ∧ (l3 + 1) < (E.2.2.1 : Int))) ∧ (Ci E mX_vitals [jvR 0, jvI (E.2.2.2.1 ((l3 + 1)).toNat).toInt] μ (fun r207 μ204 => ((-2147483648 ≤ (l3 + 1) ∧ (l3 + 1) < 2147483648) ∧ (0 ≤ (l3 + 1) ∧ (l3 + 1) < (E.2.2.1 : Int))) ∧ (Ci E mM_vitals [jvR 76, jvI (E.2.2.2.1 ((l3 + 1)).toNat).toInt] μ204 (fun r211 μ208 => ((r207 = r211 → ((-2147483648 ≤ (l3 + 6) ∧ (l3 + 6) < 2147483648)) ∧ (K 0 E mLaw 18 [some (jvR (-2)), some (jvR 0), some (jvR 76), some (jvI (l3 + 6))] [] μ208 Q)) ∧ (¬ (r207 = r211) → (Q (some (jvI 0)) μ208)))))))) ∧ ((iand32 (E.2.2.2.1 (l3).toNat).toInt 63) = 19 → ((-2147483648 ≤ (l3 + 1) ∧ (l3 + 1) < 2147483648) ∧ (0 ≤ (l3 + 1) ∧ (l3 + 1) < (E.2.2.1 : Int)) ∧ (-2147483648 ≤ (l3 + 2) ∧ (l3 + 2) < 2147483648) ∧ (0 ≤ (l3 + 2) ∧ (l3 + 2) < (E.2.2.1 : Int)) ∧ (-2147483648 ≤ (l3 + 3) ∧ (l3 + 3) < 2147483648) ∧ (0 ≤ (l3 + 3) ∧ (l3 + 3) < (E.2.2.1 : Int))) ∧ (Ci E mX_beside [jvR 0, jvI (E.2.2.2.1 ((l3 + 1)).toNat).toInt, jvI (E.2.2.2.1 ((l3 + 2)).toNat).toInt, jvI (E.2.2.2.1 ((l3 + 3)).toNat).toInt] μ (fun r218 μ215 => ((-2147483648 ≤ (l3 + 1) ∧ (l3 + 1) < 2147483648) ∧ (0 ≤ (l3 + 1) ∧ (l3 + 1) < (E.2.2.1 : Int)) ∧ (-2147483648 ≤ (l3 + 2) ∧ (l3 + 2) < 2147483648) ∧ (0 ≤ (l3 + 2) ∧ (l3 + 2) < (E.2.2.1 : Int)) ∧ (-2147483648 ≤ (l3 + 3) ∧ (l3 + 3) < 2147483648) ∧ (0 ≤ (l3 + 3) ∧ (l3 + 3) < (E.2.2.1 : Int))) ∧ (Ci E mM_beside [jvR 76, jvI (E.2.2.2.1 ((l3 + 1)).toNat).toInt, jvI (E.2.2.2.1 ((l3 + 2)).toNat).toInt, jvI (E.2.2.2.1 ((l3 + 3)).toNat).toInt] μ215 (fun r222 μ219 => ((r218 = r222 → ((-2147483648 ≤ (l3 + 6) ∧ (l3 + 6) < 2147483648)) ∧ (K 0 E mLaw 18 [some (jvR (-2)), some (jvR 0), some (jvR 76), some (jvI (l3 + 6))] [] μ219 Q)) ∧ (¬ (r218 = r222) → (Q (some (jvI 0)) μ219)))))))) ∧ ((iand32 (E.2.2.2.1 (l3).toNat).toInt 63) = 20 → ((-2147483648 ≤ (l3 + 1) ∧ (l3 + 1) < 2147483648) ∧ (0 ≤ (l3 + 1) ∧ (l3 + 1) < (E.2.2.1 : Int)) ∧ (-2147483648 ≤ (l3 + 2) ∧ (l3 + 2) < 2147483648) ∧ (0 ≤ (l3 + 2) ∧ (l3 + 2) < (E.2.2.1 : Int)) ∧ (-2147483648 ≤ (l3 + 3) ∧ (l3 + 3) < 2147483648) ∧ (0 ≤ (l3 + 3) ∧ (l3 + 3) < (E.2.2.1 : Int))) ∧ (Ci E mX_common [jvR 0, jvI (E.2.2.2.1 ((l3 + 1)).toNat).toInt, jvI (E.2.2.2.1 ((l3 + 2)).toNat).toInt, jvI (E.2.2.2.1 ((l3 + 3)).toNat).toInt] μ (fun r229 μ226 => ((-2147483648 ≤ (l3 + 1) ∧ (l3 + 1) < 2147483648) ∧ (0 ≤ (l3 + 1) ∧ (l3 + 1) < (E.2.2.1 : Int)) ∧ (-2147483648 ≤ (l3 + 2) ∧ (l3 + 2) < 2147483648) ∧ (0 ≤ (l3 + 2) ∧ (l3 + 2) < (E.2.2.1 : Int)) ∧ (-2147483648 ≤ (l3 + 3) ∧ (l3 + 3) < 2147483648) ∧ (0 ≤ (l3 + 3) ∧ (l3 + 3) < (E.2.2.1 : Int))) ∧ (Ci E mM_common [jvR 76, jvI (E.2.2.2.1 ((l3 + 1)).toNat).toInt, jvI (E.2.2.2.1 ((l3 + 2)).toNat).toInt, jvI (E.2.2.2.1 ((l3 + 3)).toNat).toInt] μ226 (fun r233 μ230 => ((r229 = r233 → ((-2147483648 ≤ (l3 + 6) ∧ (l3 + 6) < 2147483648)) ∧ (K 0 E mLaw 18 [some (jvR (-2)), some (jvR 0), some (jvR 76), some (jvI (l3 + 6))] [] μ230 Q)) ∧ (¬ (r229 = r233) → (Q (some (jvI 0)) μ230)))))))) ∧ ((iand32 (E.2.2.2.1 (l3).toNat).toInt 63) = 21 → ((-2147483648 ≤ (l3 + 1) ∧ (l3 + 1) < 2147483648) ∧ (0 ≤ (l3 + 1) ∧ (l3 + 1) < (E.2.2.1 : Int)) ∧ (-2147483648 ≤ (l3 + 2) ∧ (l3 + 2) < 2147483648) ∧ (0 ≤ (l3 + 2) ∧ (l3 + 2) < (E.2.2.1 : Int))) ∧ (Ci E mX_run [jvR 0, jvI (E.2.2.2.1 ((l3 + 1)).toNat).toInt, jvI (E.2.2.2.1 ((l3 + 2)).toNat).toInt] μ (fun r240 μ237 => ((-2147483648 ≤ (l3 + 1) ∧ (l3 + 1) < 2147483648) ∧ (0 ≤ (l3 + 1) ∧ (l3 + 1) < (E.2.2.1 : Int)) ∧ (-2147483648 ≤ (l3 + 2) ∧ (l3 + 2) < 2147483648) ∧ (0 ≤ (l3 + 2) ∧ (l3 + 2) < (E.2.2.1 : Int))) ∧ (Ci E mM_run [jvR 76, jvI (E.2.2.2.1 ((l3 + 1)).toNat).toInt, jvI (E.2.2.2.1 ((l3 + 2)).toNat).toInt] μ237 (fun r244 μ241 => ((r240 = r244 → ((-2147483648 ≤ (l3 + 6) ∧ (l3 + 6) < 2147483648)) ∧ (K 0 E mLaw 18 [some (jvR (-2)), some (jvR 0), some (jvR 76), some (jvI (l3 + 6))] [] μ241 Q)) ∧ (¬ (r240 = r244) → (Q (some (jvI 0)) μ241)))))))) ∧ ((iand32 (E.2.2.2.1 (l3).toNat).toInt 63) = 22 → ((-2147483648 ≤ (l3 + 1) ∧ (l3 + 1) < 2147483648) ∧ (0 ≤ (l3 + 1) ∧ (l3 + 1) < (E.2.2.1 : Int)) ∧ (-2147483648 ≤ (l3 + 2) ∧ (l3 + 2) < 2147483648) ∧ (0 ≤ (l3 + 2) ∧ (l3 + 2) < (E.2.2.1 : Int)) ∧ (-2147483648 ≤ (l3 + 3) ∧ (l3 + 3) < 2147483648) ∧ (0 ≤ (l3 + 3) ∧ (l3 + 3) < (E.2.2.1 : Int))) ∧ (Ci E mX_alike [jvR 0, jvI (E.2.2.2.1 ((l3 + 1)).toNat).toInt, jvI (E.2.2.2.1 ((l3 + 2)).toNat).toInt, jvI (E.2.2.2.1 ((l3 + 3)).toNat).toInt] μ (fun r251 μ248 => ((-2147483648 ≤ (l3 + 1) ∧ (l3 + 1) < 2147483648) ∧ (0 ≤ (l3 + 1) ∧ (l3 + 1) < (E.2.2.1 : Int)) ∧ (-2147483648 ≤ (l3 + 2) ∧ (l3 + 2) < 2147483648) ∧ (0 ≤ (l3 + 2) ∧ (l3 + 2) < (E.2.2.1 : Int)) ∧ (-2147483648 ≤ (l3 + 3) ∧ (l3 + 3) < 2147483648) ∧ (0 ≤ (l3 + 3) ∧ (l3 + 3) < (E.2.2.1 : Int))) ∧ (Ci E mM_alike [jvR 76, jvI (E.2.2.2.1 ((l3 + 1)).toNat).toInt, jvI (E.2.2.2.1 ((l3 + 2)).toNat).toInt, jvI (E.2.2.2.1 ((l3 + 3)).toNat).toInt] μ248 (fun r255 μ252 => ((r251 = r255 → ((-2147483648 ≤ (l3 + 6) ∧ (l3 + 6) < 2147483648)) ∧ (K 0 E mLaw 18 [some (jvR (-2)), some (jvR 0), some (jvR 76), some (jvI (l3 + 6))] [] μ252 Q)) ∧ (¬ (r251 = r255) → (Q (some (jvI 0)) μ252)))))))) ∧ ((iand32 (E.2.2.2.1 (l3).toNat).toInt 63) = 23 → ((-2147483648 ≤ (l3 + 1) ∧ (l3 + 1) < 2147483648) ∧ (0 ≤ (l3 + 1) ∧ (l3 + 1) < (E.2.2.1 : Int)) ∧ (-2147483648 ≤ (l3 + 2) ∧ (l3 + 2) < 2147483648) ∧ (0 ≤ (l3 + 2) ∧ (l3 + 2) < (E.2.2.1 : Int))) ∧ (Ci E mX_worth [jvR 0, jvI (E.2.2.2.1 ((l3 + 1)).toNat).toInt, jvI (E.2.2.2.1 ((l3 + 2)).toNat).toInt] μ (fun r262 μ259 => ((-2147483648 ≤ (l3 + 1) ∧ (l3 + 1) < 2147483648) ∧ (0 ≤ (l3 + 1) ∧ (l3 + 1) < (E.2.2.1 : Int)) ∧ (-2147483648 ≤ (l3 + 2) ∧ (l3 + 2) < 2147483648) ∧ (0 ≤ (l3 + 2) ∧ (l3 + 2) < (E.2.2.1 : Int))) ∧ (Ci E mM_worth [jvR 76, jvI (E.2.2.2.1 ((l3 + 1)).toNat).toInt, jvI (E.2.2.2.1 ((l3 + 2)).toNat).toInt] μ259 (fun r266 μ263 => ((r262 = r266 → ((-2147483648 ≤ (l3 + 6) ∧ (l3 + 6) < 2147483648)) ∧ (K 0 E mLaw 18 [some (jvR (-2)), some (jvR 0), some (jvR 76), some (jvI (l3 + 6))] [] μ263 Q)) ∧ (¬ (r262 = r266) → (Q (some (jvI 0)) μ263)))))))) ∧ ((iand32 (E.2.2.2.1 (l3).toNat).toInt 63) = 24 → ((-2147483648 ≤ (l3 + 1) ∧ (l3 + 1) < 2147483648) ∧ (0 ≤ (l3 + 1) ∧ (l3 + 1) < (E.2.2.1 : Int))) ∧ (Ci E mX_lemma [jvR 0, jvI (E.2.2.2.1 ((l3 + 1)).toNat).toInt] μ (fun r273 μ270 => ((-2147483648 ≤ (l3 + 1) ∧ (l3 + 1) < 2147483648) ∧ (0 ≤ (l3 + 1) ∧ (l3 + 1) < (E.2.2.1 : Int))) ∧ (Ci E mM_lemma [jvR 76, jvI (E.2.2.2.1 ((l3 + 1)).toNat).toInt] μ270 (fun r277 μ274 => ((r273 = r277 → ((-2147483648 ≤ (l3 + 6) ∧ (l3 + 6) < 2147483648)) ∧ (K 0 E mLaw 18 [some (jvR (-2)), some (jvR 0), some (jvR 76), some (jvI (l3 + 6))] [] μ274 Q)) ∧ (¬ (r273 = r277) → (Q (some (jvI 0)) μ274)))))))) ∧ ((iand32 (E.2.2.2.1 (l3).toNat).toInt 63) = 25 → ((-2147483648 ≤ (l3 + 1) ∧ (l3 + 1) < 2147483648) ∧ (0 ≤ (l3 + 1) ∧ (l3 + 1) < (E.2.2.1 : Int))) ∧ (Ci E mX_order [jvR 0, jvI (E.2.2.2.1 ((l3 + 1)).toNat).toInt] μ (fun r284 μ281 => ((-2147483648 ≤ (l3 + 1) ∧ (l3 + 1) < 2147483648) ∧ (0 ≤ (l3 + 1) ∧ (l3 + 1) < (E.2.2.1 : Int))) ∧ (Ci E mM_order [jvR 76, jvI (E.2.2.2.1 ((l3 + 1)).toNat).toInt] μ281 (fun r288 μ285 => ((r284 = r288 → ((-2147483648 ≤ (l3 + 6) ∧ (l3 + 6) < 2147483648)) ∧ (K 0 E mLaw 18 [some (jvR (-2)), some (jvR 0), some (jvR 76), some (jvI (l3 + 6))] [] μ285 Q)) ∧ (¬ (r284 = r288) → (Q (some (jvI 0)) μ285)))))))) ∧ ((iand32 (E.2.2.2.1 (l3).toNat).toInt 63) = 26 → (Ci E mX_held [jvR 0] μ (fun r295 μ292 => (Ci E mM_held [jvR 76] μ292 (fun r299 μ296 => ((r295 = r299 → ((-2147483648 ≤ (l3 + 6) ∧ (l3 + 6) < 2147483648)) ∧ (K 0 E mLaw 18 [some (jvR (-2)), some (jvR 0), some (jvR 76), some (jvI (l3 + 6))] [] μ296 Q)) ∧ (¬ (r295 = r299) → (Q (some (jvI 0)) μ296)))))))) ∧ ((iand32 (E.2.2.2.1 (l3).toNat).toInt 63) = 27 → ((-2147483648 ≤ (l3 + 1) ∧ (l3 + 1) < 2147483648) ∧ (0 ≤ (l3 + 1) ∧ (l3 + 1) < (E.2.2.1 : Int)) ∧ (-2147483648 ≤ (l3 + 2) ∧ (l3 + 2) < 2147483648) ∧ (0 ≤ (l3 + 2) ∧ (l3 + 2) < (E.2.2.1 : Int))) ∧ (Ci E mX_pages [jvR 0, jvI (E.2.2.2.1 ((l3 + 1)).toNat).toInt, jvI (E.2.2.2.1 ((l3 + 2)).toNat).toInt] μ (fun r306 μ303 => ((-2147483648 ≤ (l3 + 1) ∧ (l3 + 1) < 2147483648) ∧ (0 ≤ (l3 + 1) ∧ (l3 + 1) < (E.2.2.1 : Int)) ∧ (-2147483648 ≤ (l3 + 2) ∧ (l3 + 2) < 2147483648) ∧ (0 ≤ (l3 + 2) ∧ (l3 + 2) < (E.2.2.1 : Int))) ∧ (Ci E mM_pages [jvR 76, jvI (E.2.2.2.1 ((l3 + 1)).toNat).toInt, jvI (E.2.2.2.1 ((l3 + 2)).toNat).toInt] μ303 (fun r310 μ307 => ((r306 = r310 → ((-2147483648 ≤ (l3 + 6) ∧ (l3 + 6) < 2147483648)) ∧ (K 0 E mLaw 18 [some (jvR (-2)), some (jvR 0), some (jvR 76), some (jvI (l3 + 6))] [] μ307 Q)) ∧ (¬ (r306 = r310) → (Q (some (jvI 0)) μ307)))))))) ∧ ((iand32 (E.2.2.2.1 (l3).toNat).toInt 63) = 28 → ((-2147483648 ≤ (l3 + 1) ∧ (l3 + 1) < 2147483648) ∧ (0 ≤ (l3 + 1) ∧ (l3 + 1) < (E.2.2.1 : Int)) ∧ (-2147483648 ≤ (l3 + 2) ∧ (l3 + 2) < 2147483648) ∧ (0 ≤ (l3 + 2) ∧ (l3 + 2) < (E.2.2.1 : Int))) ∧ (((E.2.2.2.1 ((l3 + 2)).toNat).toInt = 0 → (Ci E mX_blame [jvR 0, jvI (E.2.2.2.1 ((l3 + 1)).toNat).toInt, jvI 0] μ (fun r319 μ316 => ((-2147483648 ≤ (l3 + 1) ∧ (l3 + 1) < 2147483648) ∧ (0 ≤ (l3 + 1) ∧ (l3 + 1) < (E.2.2.1 : Int)) ∧ (-2147483648 ≤ (l3 + 2) ∧ (l3 + 2) < 2147483648) ∧ (0 ≤ (l3 + 2) ∧ (l3 + 2) < (E.2.2.1 : Int))) ∧ (((E.2.2.2.1 ((l3 + 2)).toNat).toInt = 0 → (Ci E mM_blame [jvR 76, jvI (E.2.2.2.1 ((l3 + 1)).toNat).toInt, jvI 0] μ316 (fun r325 μ322 => ((r319 = r325 → ((-2147483648 ≤ (l3 + 6) ∧ (l3 + 6) < 2147483648)) ∧ (K 0 E mLaw 18 [some (jvR (-2)), some (jvR 0), some (jvR 76), some (jvI (l3 + 6))] [] μ322 Q)) ∧ (¬ (r319 = r325) → (Q (some (jvI 0)) μ322)))))) ∧ (¬ ((E.2.2.2.1 ((l3 + 2)).toNat).toInt = 0) → (Ci E mM_blame [jvR 76, jvI (E.2.2.2.1 ((l3 + 1)).toNat).toInt, jvI 1] μ316 (fun r332 μ329 => ((r319 = r332 → ((-2147483648 ≤ (l3 + 6) ∧ (l3 + 6) < 2147483648)) ∧ (K 0 E mLaw 18 [some (jvR (-2)), some (jvR 0), some (jvR 76), some (jvI (l3 + 6))] [] μ329 Q)) ∧ (¬ (r319 = r332) → (Q (some (jvI 0)) μ329)))))))))) ∧ (¬ ((E.2.2.2.1 ((l3 + 2)).toNat).toInt = 0) → (Ci E mX_blame [jvR 0, jvI (E.2.2.2.1 ((l3 + 1)).toNat).toInt, jvI 1] μ (fun r339 μ336 => ((-2147483648 ≤ (l3 + 1) ∧ (l3 + 1) < 2147483648) ∧ (0 ≤ (l3 + 1) ∧ (l3 + 1) < (E.2.2.1 : Int)) ∧ (-2147483648 ≤ (l3 + 2) ∧ (l3 + 2) < 2147483648) ∧ (0 ≤ (l3 + 2) ∧ (l3 + 2) < (E.2.2.1 : Int))) ∧ (((E.2.2.2.1 ((l3 + 2)).toNat).toInt = 0 → (Ci E mM_blame [jvR 76, jvI (E.2.2.2.1 ((l3 + 1)).toNat).toInt, jvI 0] μ336 (fun r345 μ342 => ((r339 = r345 → ((-2147483648 ≤ (l3 + 6) ∧ (l3 + 6) < 2147483648)) ∧ (K 0 E mLaw 18 [some (jvR (-2)), some (jvR 0), some (jvR 76), some (jvI (l3 + 6))] [] μ342 Q)) ∧ (¬ (r339 = r345) → (Q (some (jvI 0)) μ342)))))) ∧ (¬ ((E.2.2.2.1 ((l3 + 2)).toNat).toInt = 0) → (Ci E mM_blame [jvR 76, jvI (E.2.2.2.1 ((l3 + 1)).toNat).toInt, jvI 1] μ336 (fun r352 μ349 => ((r339 = r352 → ((-2147483648 ≤ (l3 + 6) ∧ (l3 + 6) < 2147483648)) ∧ (K 0 E mLaw 18 [some (jvR (-2)), some (jvR 0), some (jvR 76), some (jvI (l3 + 6))] [] μ349 Q)) ∧ (¬ (r339 = r352) → (Q (some (jvI 0)) μ349)))))))))))) ∧ ((iand32 (E.2.2.2.1 (l3).toNat).toInt 63) = 29 → (Ci E mX_stands [jvR 0] μ (fun r359 μ356 => (Ci E mM_stands [jvR 76] μ356 (fun r363 μ360 => ((r359 = r363 → ((-2147483648 ≤ (l3 + 6) ∧ (l3 + 6) < 2147483648)) ∧ (K 0 E mLaw 18 [some (jvR (-2)), some (jvR 0), some (jvR 76), some (jvI (l3 + 6))] [] μ360 Q)) ∧ (¬ (r359 = r363) → (Q (some (jvI 0)) μ360)))))))) ∧ ((iand32 (E.2.2.2.1 (l3).toNat).toInt 63) = 30 → ((-2147483648 ≤ (l3 + 1) ∧ (l3 + 1) < 2147483648) ∧ (0 ≤ (l3 + 1) ∧ (l3 + 1) < (E.2.2.1 : Int))) ∧ (Ci E mX_fewest [jvR 0, jvI (E.2.2.2.1 ((l3 + 1)).toNat).toInt] μ (fun r370 μ367 => ((-2147483648 ≤ (l3 + 1) ∧ (l3 + 1) < 2147483648) ∧ (0 ≤ (l3 + 1) ∧ (l3 + 1) < (E.2.2.1 : Int))) ∧ (Ci E mM_fewest [jvR 76, jvI (E.2.2.2.1 ((l3 + 1)).toNat).toInt] μ367 (fun r374 μ371 => ((r370 = r374 → ((-2147483648 ≤ (l3 + 6) ∧ (l3 + 6) < 2147483648)) ∧ (K 0 E mLaw 18 [some (jvR (-2)), some (jvR 0), some (jvR 76), some (jvI (l3 + 6))] [] μ371 Q)) ∧ (¬ (r370 = r374) → (Q (some (jvI 0)) μ371)))))))) ∧ ((iand32 (E.2.2.2.1 (l3).toNat).toInt 63) = 31 → ((-2147483648 ≤ (l3 + 1) ∧ (l3 + 1) < 2147483648) ∧ (0 ≤ (l3 + 1) ∧ (l3 + 1) < (E.2.2.1 : Int)) ∧ (-2147483648 ≤ (l3 + 2) ∧ (l3 + 2) < 2147483648) ∧ (0 ≤ (l3 + 2) ∧ (l3 + 2) < (E.2.2.1 : Int))) ∧ (((E.2.2.2.1 ((l3 + 2)).toNat).toInt = 0 → (Ci E mX_ask [jvR 0, jvI (E.2.2.2.1 ((l3 + 1)).toNat).toInt, jvI 0] μ (fun r383 μ380 => ((-2147483648 ≤ (l3 + 1) ∧ (l3 + 1) < 2147483648) ∧ (0 ≤ (l3 + 1) ∧ (l3 + 1) < (E.2.2.1 : Int)) ∧ (-2147483648 ≤ (l3 + 2) ∧ (l3 + 2) < 2147483648) ∧ (0 ≤ (l3 + 2) ∧ (l3 + 2) < (E.2.2.1 : Int))) ∧ (((E.2.2.2.1 ((l3 + 2)).toNat).toInt = 0 → (Ci E mM_ask [jvR 76, jvI (E.2.2.2.1 ((l3 + 1)).toNat).toInt, jvI 0] μ380 (fun r389 μ386 => ((r383 = r389 → ((-2147483648 ≤ (l3 + 6) ∧ (l3 + 6) < 2147483648)) ∧ (K 0 E mLaw 18 [some (jvR (-2)), some (jvR 0), some (jvR 76), some (jvI (l3 + 6))] [] μ386 Q)) ∧ (¬ (r383 = r389) → (Q (some (jvI 0)) μ386)))))) ∧ (¬ ((E.2.2.2.1 ((l3 + 2)).toNat).toInt = 0) → (Ci E mM_ask [jvR 76, jvI (E.2.2.2.1 ((l3 + 1)).toNat).toInt, jvI 1] μ380 (fun r396 μ393 => ((r383 = r396 → ((-2147483648 ≤ (l3 + 6) ∧ (l3 + 6) < 2147483648)) ∧ (K 0 E mLaw 18 [some (jvR (-2)), some (jvR 0), some (jvR 76), some (jvI (l3 + 6))] [] μ393 Q)) ∧ (¬ (r383 = r396) → (Q (some (jvI 0)) μ393)))))))))) ∧ (¬ ((E.2.2.2.1 ((l3 + 2)).toNat).toInt = 0) → (Ci E mX_ask [jvR 0, jvI (E.2.2.2.1 ((l3 + 1)).toNat).toInt, jvI 1] μ (fun r403 μ400 => ((-2147483648 ≤ (l3 + 1) ∧ (l3 + 1) < 2147483648) ∧ (0 ≤ (l3 + 1) ∧ (l3 + 1) < (E.2.2.1 : Int)) ∧ (-2147483648 ≤ (l3 + 2) ∧ (l3 + 2) < 2147483648) ∧ (0 ≤ (l3 + 2) ∧ (l3 + 2) < (E.2.2.1 : Int))) ∧ (((E.2.2.2.1 ((l3 + 2)).toNat).toInt = 0 → (Ci E mM_ask [jvR 76, jvI (E.2.2.2.1 ((l3 + 1)).toNat).toInt, jvI 0] μ400 (fun r409 μ406 => ((r403 = r409 → ((-2147483648 ≤ (l3 + 6) ∧ (l3 + 6) < 2147483648)) ∧ (K 0 E mLaw 18 [some (jvR (-2)), some (jvR 0), some (jvR 76), some (jvI (l3 + 6))] [] μ406 Q)) ∧ (¬ (r403 = r409) → (Q (some (jvI 0)) μ406)))))) ∧ (¬ ((E.2.2.2.1 ((l3 + 2)).toNat).toInt = 0) → (Ci E mM_ask [jvR 76, jvI (E.2.2.2.1 ((l3 + 1)).toNat).toInt, jvI 1] μ400 (fun r416 μ413 => ((r403 = r416 → ((-2147483648 ≤ (l3 + 6) ∧ (l3 + 6) < 2147483648)) ∧ (K 0 E mLaw 18 [some (jvR (-2)), some (jvR 0), some (jvR 76), some (jvI (l3 + 6))] [] μ413 Q)) ∧ (¬ (r403 = r416) → (Q (some (jvI 0)) μ413)))))))))))) ∧ ((iand32 (E.2.2.2.1 (l3).toNat).toInt 63) = 32 → ((-2147483648 ≤ (l3 + 1) ∧ (l3 + 1) < 2147483648) ∧ (0 ≤ (l3 + 1) ∧ (l3 + 1) < (E.2.2.1 : Int))) ∧ (Ci E mX_least [jvR 0, jvI (E.2.2.2.1 ((l3 + 1)).toNat).toInt] μ (fun r423 μ420 => ((-2147483648 ≤ (l3 + 1) ∧ (l3 + 1) < 2147483648) ∧ (0 ≤ (l3 + 1) ∧ (l3 + 1) < (E.2.2.1 : Int))) ∧ (Ci E mM_least [jvR 76, jvI (E.2.2.2.1 ((l3 + 1)).toNat).toInt] μ420 (fun r427 μ424 => ((r423 = r427 → ((-2147483648 ≤ (l3 + 6) ∧ (l3 + 6) < 2147483648)) ∧ (K 0 E mLaw 18 [some (jvR (-2)), some (jvR 0), some (jvR 76), some (jvI (l3 + 6))] [] μ424 Q)) ∧ (¬ (r423 = r427) → (Q (some (jvI 0)) μ424)))))))) ∧ ((iand32 (E.2.2.2.1 (l3).toNat).toInt 63) = 33 → (Ci E mX_whom [jvR 0] μ (fun r434 μ431 => (Ci E mM_whom [jvR 76] μ431 (fun r438 μ435 => ((r434 = r438 → ((-2147483648 ≤ (l3 + 6) ∧ (l3 + 6) < 2147483648)) ∧ (K 0 E mLaw 18 [some (jvR (-2)), some (jvR 0), some (jvR 76), some (jvI (l3 + 6))] [] μ435 Q)) ∧ (¬ (r434 = r438) → (Q (some (jvI 0)) μ435)))))))) ∧ ((iand32 (E.2.2.2.1 (l3).toNat).toInt 63) = 34 → ((-2147483648 ≤ (l3 + 1) ∧ (l3 + 1) < 2147483648) ∧ (0 ≤ (l3 + 1) ∧ (l3 + 1) < (E.2.2.1 : Int))) ∧ (Ci E mX_seed [jvR 0, jvI (E.2.2.2.1 ((l3 + 1)).toNat).toInt] μ (fun r445 μ442 => ((-2147483648 ≤ (l3 + 1) ∧ (l3 + 1) < 2147483648) ∧ (0 ≤ (l3 + 1) ∧ (l3 + 1) < (E.2.2.1 : Int))) ∧ (Ci E mM_seed [jvR 76, jvI (E.2.2.2.1 ((l3 + 1)).toNat).toInt] μ442 (fun r449 μ446 => ((r445 = r449 → ((-2147483648 ≤ (l3 + 6) ∧ (l3 + 6) < 2147483648)) ∧ (K 0 E mLaw 18 [some (jvR (-2)), some (jvR 0), some (jvR 76), some (jvI (l3 + 6))] [] μ446 Q)) ∧ (¬ (r445 = r449) → (Q (some (jvI 0)) μ446)))))))) ∧ ((iand32 (E.2.2.2.1 (l3).toNat).toInt 63) = 35 → ((-2147483648 ≤ (l3 + 1) ∧ (l3 + 1) < 2147483648) ∧ (0 ≤ (l3 + 1) ∧ (l3 + 1) < (E.2.2.1 : Int)) ∧ (-2147483648 ≤ (l3 + 2) ∧ (l3 + 2) < 2147483648) ∧ (0 ≤ (l3 + 2) ∧ (l3 + 2) < (E.2.2.1 : Int))) ∧ (Ci E mX_trials [jvR 0, jvI (E.2.2.2.1 ((l3 + 1)).toNat).toInt, jvI (E.2.2.2.1 ((l3 + 2)).toNat).toInt] μ (fun r456 μ453 => ((-2147483648 ≤ (l3 + 1) ∧ (l3 + 1) < 2147483648) ∧ (0 ≤ (l3 + 1) ∧ (l3 + 1) < (E.2.2.1 : Int)) ∧ (-2147483648 ≤ (l3 + 2) ∧ (l3 + 2) < 2147483648) ∧ (0 ≤ (l3 + 2) ∧ (l3 + 2) < (E.2.2.1 : Int))) ∧ (Ci E mM_trials [jvR 76, jvI (E.2.2.2.1 ((l3 + 1)).toNat).toInt, jvI (E.2.2.2.1 ((l3 + 2)).toNat).toInt] μ453 (fun r460 μ457 => ((r456 = r460 → ((-2147483648 ≤ (l3 + 6) ∧ (l3 + 6) < 2147483648)) ∧ (K 0 E mLaw 18 [some (jvR (-2)), some (jvR 0), some (jvR 76), some (jvI (l3 + 6))] [] μ457 Q)) ∧ (¬ (r456 = r460) → (Q (some (jvI 0)) μ457)))))))) ∧ ((iand32 (E.2.2.2.1 (l3).toNat).toInt 63) = 36 → (Ci E mX_image [jvR 0] μ (fun r467 μ464 => (Ci E mM_image [jvR 76] μ464 (fun r471 μ468 => ((r467 = r471 → ((-2147483648 ≤ (l3 + 6) ∧ (l3 + 6) < 2147483648)) ∧ (K 0 E mLaw 18 [some (jvR (-2)), some (jvR 0), some (jvR 76), some (jvI (l3 + 6))] [] μ468 Q)) ∧ (¬ (r467 = r471) → (Q (some (jvI 0)) μ468)))))))) ∧ ((iand32 (E.2.2.2.1 (l3).toNat).toInt 63) = 37 → ((-2147483648 ≤ (l3 + 1) ∧ (l3 + 1) < 2147483648) ∧ (0 ≤ (l3 + 1) ∧ (l3 + 1) < (E.2.2.1 : Int))) ∧ (Ci E mX_octet [jvR 0, jvI (E.2.2.2.1 ((l3 + 1)).toNat).toInt] μ (fun r478 μ475 => ((-2147483648 ≤ (l3 + 1) ∧ (l3 + 1) < 2147483648) ∧ (0 ≤ (l3 + 1) ∧ (l3 + 1) < (E.2.2.1 : Int))) ∧ (Ci E mM_octet [jvR 76, jvI (E.2.2.2.1 ((l3 + 1)).toNat).toInt] μ475 (fun r482 μ479 => ((r478 = r482 → ((-2147483648 ≤ (l3 + 6) ∧ (l3 + 6) < 2147483648)) ∧ (K 0 E mLaw 18 [some (jvR (-2)), some (jvR 0), some (jvR 76), some (jvI (l3 + 6))] [] μ479 Q)) ∧ (¬ (r478 = r482) → (Q (some (jvI 0)) μ479)))))))) ∧ ((iand32 (E.2.2.2.1 (l3).toNat).toInt 63) = 38 → (Ci E mX_on [jvR 0] μ (fun r489 μ486 => (Ci E mM_on [jvR 76] μ486 (fun r493 μ490 => ((r489 = r493 → ((-2147483648 ≤ (l3 + 6) ∧ (l3 + 6) < 2147483648)) ∧ (K 0 E mLaw 18 [some (jvR (-2)), some (jvR 0), some (jvR 76), some (jvI (l3 + 6))] [] μ490 Q)) ∧ (¬ (r489 = r493) → (Q (some (jvI 0)) μ490)))))))) ∧ (((iand32 (E.2.2.2.1 (l3).toNat).toInt 63) < 0 ∨ 38 < (iand32 (E.2.2.2.1 (l3).toNat).toInt 63)) → ((-2147483648 ≤ (l3 + 6) ∧ (l3 + 6) < 2147483648)) ∧ (K 0 E mLaw 18 [some (jvR (-2)), some (jvR 0), some (jvR 76), some (jvI (l3 + 6))] [] μ Q)))))) : K 0 E mLaw 18 [some (jvR (-2)), some (jvR 0), some (jvR 76), some (jvI l3)] [] μ Q := by
  refine K_iload_n 3 l3 dLaw_18 rfl rfl ?_
  refine K_aload_n 0 (-2) dLaw_19 rfl rfl ?_
  refine K_slen dLaw_20 hE ?_
  refine K_bipush 6 dLaw_21 rfl ?_
  refine K_isub dLaw_23 (w32_id hF.1) ?_
  refine K_icmp_gt 1309 dLaw_24 (by decide) (fun c1 => ?_) (fun c1 => ?_)
  · refine K_iconst 1 dLaw_1309 rfl ?_
    exact K_iret dLaw_1310 (Or.inr ⟨rfl, (by decide)⟩) (hF.2.1 c1)
  · refine K_aload_n 0 (-2) dLaw_27 rfl rfl ?_
    refine K_iload_n 3 l3 dLaw_28 rfl rfl ?_
    refine K_sald dLaw_29 (hF.2.2 c1).1 ?_
    refine K_bipush 63 dLaw_30 rfl ?_
    refine K_iand dLaw_32 rfl ?_
    refine K_table dLaw_33 (fun i hi9 ha9 => ?_) rfl 1303 (by decide) (fun c4 => ?_)
    · match i, hi9, ha9 with
      | 0, _, ha9 =>
        have c4 : (iand32 (E.2.2.2.1 (l3).toNat).toInt 63) = 0 := by omega
        refine ⟨_, 204, rfl, by decide, ?_⟩
        refine K_aload_n 1 0 dLaw_204 rfl rfl ?_
        refine K_aload_n 0 (-2) dLaw_205 rfl rfl ?_
        refine K_iload_n 3 l3 dLaw_206 rfl rfl ?_
        refine K_iconst 1 dLaw_207 rfl ?_
        refine K_iadd dLaw_208 (w32_id ((hF.2.2 c1).2.1 c4).1.1) ?_
        refine K_sald dLaw_209 ((hF.2.2 c1).2.1 c4).1.2.1 ?_
        refine K_aload_n 0 (-2) dLaw_210 rfl rfl ?_
        refine K_iload_n 3 l3 dLaw_211 rfl rfl ?_
        refine K_iconst 2 dLaw_212 rfl ?_
        refine K_iadd dLaw_213 (w32_id ((hF.2.2 c1).2.1 c4).1.2.2.1) ?_
        refine K_sald dLaw_214 ((hF.2.2 c1).2.1 c4).1.2.2.2.1 ?_
        refine K_aload_n 0 (-2) dLaw_215 rfl rfl ?_
        refine K_iload_n 3 l3 dLaw_216 rfl rfl ?_
        refine K_iconst 3 dLaw_217 rfl ?_
        refine K_iadd dLaw_218 (w32_id ((hF.2.2 c1).2.1 c4).1.2.2.2.2.1) ?_
        refine K_sald dLaw_219 ((hF.2.2 c1).2.1 c4).1.2.2.2.2.2.1 ?_
        refine K_aload_n 0 (-2) dLaw_220 rfl rfl ?_
        refine K_iload_n 3 l3 dLaw_221 rfl rfl ?_
        refine K_iconst 4 dLaw_222 rfl ?_
        refine K_iadd dLaw_223 (w32_id ((hF.2.2 c1).2.1 c4).1.2.2.2.2.2.2.1) ?_
        refine K_sald dLaw_224 ((hF.2.2 c1).2.1 c4).1.2.2.2.2.2.2.2.1 ?_
        refine K_aload_n 0 (-2) dLaw_225 rfl rfl ?_
        refine K_iload_n 3 l3 dLaw_226 rfl rfl ?_
        refine K_iconst 5 dLaw_227 rfl ?_
        refine K_iadd dLaw_228 (w32_id ((hF.2.2 c1).2.1 c4).1.2.2.2.2.2.2.2.2.1) ?_
        refine K_sald dLaw_229 ((hF.2.2 c1).2.1 c4).1.2.2.2.2.2.2.2.2.2 ?_
        refine K_callVi mX_feed 0 0 [jvI (E.2.2.2.1 ((l3 + 1)).toNat).toInt, jvI (E.2.2.2.1 ((l3 + 2)).toNat).toInt, jvI (E.2.2.2.1 ((l3 + 3)).toNat).toInt, jvI (E.2.2.2.1 ((l3 + 4)).toNat).toInt, jvI (E.2.2.2.1 ((l3 + 5)).toNat).toInt] dLaw_230 pm_L_13 ⟨_, rfl, rfl⟩ ⟨(Nat.le_of_ble_eq_true rfl), (Nat.le_of_ble_eq_true rfl)⟩ rfl rfl (by decide) (Nat.le_of_ble_eq_true rfl) rfl (Nat.le_of_ble_eq_true rfl) (by decide) (Ci_mono ((hF.2.2 c1).2.1 c4).2 (fun r9 μ6 h7 => ?_))
        refine K_aload_n 2 76 dLaw_233 rfl rfl ?_
        refine K_aload_n 0 (-2) dLaw_234 rfl rfl ?_
        refine K_iload_n 3 l3 dLaw_235 rfl rfl ?_
        refine K_iconst 1 dLaw_236 rfl ?_
        refine K_iadd dLaw_237 (w32_id h7.1.1) ?_
        refine K_sald dLaw_238 h7.1.2.1 ?_
        refine K_aload_n 0 (-2) dLaw_239 rfl rfl ?_
        refine K_iload_n 3 l3 dLaw_240 rfl rfl ?_
        refine K_iconst 2 dLaw_241 rfl ?_
        refine K_iadd dLaw_242 (w32_id h7.1.2.2.1) ?_
        refine K_sald dLaw_243 h7.1.2.2.2.1 ?_
        refine K_aload_n 0 (-2) dLaw_244 rfl rfl ?_
        refine K_iload_n 3 l3 dLaw_245 rfl rfl ?_
        refine K_iconst 3 dLaw_246 rfl ?_
        refine K_iadd dLaw_247 (w32_id h7.1.2.2.2.2.1) ?_
        refine K_sald dLaw_248 h7.1.2.2.2.2.2.1 ?_
        refine K_aload_n 0 (-2) dLaw_249 rfl rfl ?_
        refine K_iload_n 3 l3 dLaw_250 rfl rfl ?_
        refine K_iconst 4 dLaw_251 rfl ?_
        refine K_iadd dLaw_252 (w32_id h7.1.2.2.2.2.2.2.1) ?_
        refine K_sald dLaw_253 h7.1.2.2.2.2.2.2.2.1 ?_
        refine K_aload_n 0 (-2) dLaw_254 rfl rfl ?_
        refine K_iload_n 3 l3 dLaw_255 rfl rfl ?_
        refine K_iconst 5 dLaw_256 rfl ?_
        refine K_iadd dLaw_257 (w32_id h7.1.2.2.2.2.2.2.2.2.1) ?_
        refine K_sald dLaw_258 h7.1.2.2.2.2.2.2.2.2.2 ?_
        refine K_callVi mM_feed 12 76 [jvI (E.2.2.2.1 ((l3 + 1)).toNat).toInt, jvI (E.2.2.2.1 ((l3 + 2)).toNat).toInt, jvI (E.2.2.2.1 ((l3 + 3)).toNat).toInt, jvI (E.2.2.2.1 ((l3 + 4)).toNat).toInt, jvI (E.2.2.2.1 ((l3 + 5)).toNat).toInt] dLaw_259 pm_L_17 ⟨_, rfl, rfl⟩ ⟨(Nat.le_of_ble_eq_true rfl), (Nat.le_of_ble_eq_true rfl)⟩ rfl rfl (by decide) (Nat.le_of_ble_eq_true rfl) rfl (Nat.le_of_ble_eq_true rfl) (by decide) (Ci_mono h7.2 (fun r13 μ10 h11 => ?_))
        refine K_icmp_eq 1303 dLaw_262 (by decide) (fun c14 => ?_) (fun c14 => ?_)
        · refine K_iinc 3 dLaw_1303 (Nat.le_of_ble_eq_true rfl) rfl (w32_ok (h11.1 c14).1) rfl ?_
          refine K_goto 18 dLaw_1306 (by decide) ?_
          exact (h11.1 c14).2
        · refine K_iconst 0 dLaw_265 rfl ?_
          exact K_iret dLaw_266 (Or.inr ⟨rfl, (by decide)⟩) (h11.2 c14)
      | 1, _, ha9 =>
        have c4 : (iand32 (E.2.2.2.1 (l3).toNat).toInt 63) = 1 := by omega
        refine ⟨_, 267, rfl, by decide, ?_⟩
        refine K_aload_n 1 0 dLaw_267 rfl rfl ?_
        refine K_aload_n 0 (-2) dLaw_268 rfl rfl ?_
        refine K_iload_n 3 l3 dLaw_269 rfl rfl ?_
        refine K_iconst 1 dLaw_270 rfl ?_
        refine K_iadd dLaw_271 (w32_id ((hF.2.2 c1).2.2.1 c4).1.1) ?_
        refine K_sald dLaw_272 ((hF.2.2 c1).2.2.1 c4).1.2 ?_
        refine K_callVi mX_end 0 0 [jvI (E.2.2.2.1 ((l3 + 1)).toNat).toInt] dLaw_273 pm_L_18 ⟨_, rfl, rfl⟩ ⟨(Nat.le_of_ble_eq_true rfl), (Nat.le_of_ble_eq_true rfl)⟩ rfl rfl (by decide) (Nat.le_of_ble_eq_true rfl) rfl (Nat.le_of_ble_eq_true rfl) (by decide) (Ci_mono ((hF.2.2 c1).2.2.1 c4).2 (fun r20 μ17 h18 => ?_))
        refine K_aload_n 2 76 dLaw_276 rfl rfl ?_
        refine K_aload_n 0 (-2) dLaw_277 rfl rfl ?_
        refine K_iload_n 3 l3 dLaw_278 rfl rfl ?_
        refine K_iconst 1 dLaw_279 rfl ?_
        refine K_iadd dLaw_280 (w32_id h18.1.1) ?_
        refine K_sald dLaw_281 h18.1.2 ?_
        refine K_callVi mM_end 12 76 [jvI (E.2.2.2.1 ((l3 + 1)).toNat).toInt] dLaw_282 pm_L_22 ⟨_, rfl, rfl⟩ ⟨(Nat.le_of_ble_eq_true rfl), (Nat.le_of_ble_eq_true rfl)⟩ rfl rfl (by decide) (Nat.le_of_ble_eq_true rfl) rfl (Nat.le_of_ble_eq_true rfl) (by decide) (Ci_mono h18.2 (fun r24 μ21 h22 => ?_))
        refine K_icmp_eq 1303 dLaw_285 (by decide) (fun c25 => ?_) (fun c25 => ?_)
        · refine K_iinc 3 dLaw_1303 (Nat.le_of_ble_eq_true rfl) rfl (w32_ok (h22.1 c25).1) rfl ?_
          refine K_goto 18 dLaw_1306 (by decide) ?_
          exact (h22.1 c25).2
        · refine K_iconst 0 dLaw_288 rfl ?_
          exact K_iret dLaw_289 (Or.inr ⟨rfl, (by decide)⟩) (h22.2 c25)
      | 2, _, ha9 =>
        have c4 : (iand32 (E.2.2.2.1 (l3).toNat).toInt 63) = 2 := by omega
        refine ⟨_, 290, rfl, by decide, ?_⟩
        refine K_aload_n 1 0 dLaw_290 rfl rfl ?_
        refine K_callVi mX_proof 0 0 [] dLaw_291 pm_L_23 ⟨_, rfl, rfl⟩ ⟨(Nat.le_of_ble_eq_true rfl), (Nat.le_of_ble_eq_true rfl)⟩ rfl rfl (by decide) (Nat.le_of_ble_eq_true rfl) rfl (Nat.le_of_ble_eq_true rfl) (by decide) (Ci_mono ((hF.2.2 c1).2.2.2.1 c4) (fun r31 μ28 h29 => ?_))
        refine K_aload_n 2 76 dLaw_294 rfl rfl ?_
        refine K_callVi mM_proof 12 76 [] dLaw_295 pm_L_27 ⟨_, rfl, rfl⟩ ⟨(Nat.le_of_ble_eq_true rfl), (Nat.le_of_ble_eq_true rfl)⟩ rfl rfl (by decide) (Nat.le_of_ble_eq_true rfl) rfl (Nat.le_of_ble_eq_true rfl) (by decide) (Ci_mono h29 (fun r35 μ32 h33 => ?_))
        refine K_icmp_eq 1303 dLaw_298 (by decide) (fun c36 => ?_) (fun c36 => ?_)
        · refine K_iinc 3 dLaw_1303 (Nat.le_of_ble_eq_true rfl) rfl (w32_ok (h33.1 c36).1) rfl ?_
          refine K_goto 18 dLaw_1306 (by decide) ?_
          exact (h33.1 c36).2
        · refine K_iconst 0 dLaw_301 rfl ?_
          exact K_iret dLaw_302 (Or.inr ⟨rfl, (by decide)⟩) (h33.2 c36)
      | 3, _, ha9 =>
        have c4 : (iand32 (E.2.2.2.1 (l3).toNat).toInt 63) = 3 := by omega
        refine ⟨_, 303, rfl, by decide, ?_⟩
        refine K_aload_n 1 0 dLaw_303 rfl rfl ?_
        refine K_aload_n 0 (-2) dLaw_304 rfl rfl ?_
        refine K_iload_n 3 l3 dLaw_305 rfl rfl ?_
        refine K_iconst 1 dLaw_306 rfl ?_
        refine K_iadd dLaw_307 (w32_id ((hF.2.2 c1).2.2.2.2.1 c4).1.1) ?_
        refine K_sald dLaw_308 ((hF.2.2 c1).2.2.2.2.1 c4).1.2 ?_
        refine K_callVi mX_fault 0 0 [jvI (E.2.2.2.1 ((l3 + 1)).toNat).toInt] dLaw_309 pm_L_28 ⟨_, rfl, rfl⟩ ⟨(Nat.le_of_ble_eq_true rfl), (Nat.le_of_ble_eq_true rfl)⟩ rfl rfl (by decide) (Nat.le_of_ble_eq_true rfl) rfl (Nat.le_of_ble_eq_true rfl) (by decide) (Ci_mono ((hF.2.2 c1).2.2.2.2.1 c4).2 (fun r42 μ39 h40 => ?_))
        refine K_aload_n 2 76 dLaw_312 rfl rfl ?_
        refine K_aload_n 0 (-2) dLaw_313 rfl rfl ?_
        refine K_iload_n 3 l3 dLaw_314 rfl rfl ?_
        refine K_iconst 1 dLaw_315 rfl ?_
        refine K_iadd dLaw_316 (w32_id h40.1.1) ?_
        refine K_sald dLaw_317 h40.1.2 ?_
        refine K_callVi mM_fault 12 76 [jvI (E.2.2.2.1 ((l3 + 1)).toNat).toInt] dLaw_318 pm_L_32 ⟨_, rfl, rfl⟩ ⟨(Nat.le_of_ble_eq_true rfl), (Nat.le_of_ble_eq_true rfl)⟩ rfl rfl (by decide) (Nat.le_of_ble_eq_true rfl) rfl (Nat.le_of_ble_eq_true rfl) (by decide) (Ci_mono h40.2 (fun r46 μ43 h44 => ?_))
        refine K_icmp_eq 1303 dLaw_321 (by decide) (fun c47 => ?_) (fun c47 => ?_)
        · refine K_iinc 3 dLaw_1303 (Nat.le_of_ble_eq_true rfl) rfl (w32_ok (h44.1 c47).1) rfl ?_
          refine K_goto 18 dLaw_1306 (by decide) ?_
          exact (h44.1 c47).2
        · refine K_iconst 0 dLaw_324 rfl ?_
          exact K_iret dLaw_325 (Or.inr ⟨rfl, (by decide)⟩) (h44.2 c47)
      | 4, _, ha9 =>
        have c4 : (iand32 (E.2.2.2.1 (l3).toNat).toInt 63) = 4 := by omega
        refine ⟨_, 326, rfl, by decide, ?_⟩
        refine K_aload_n 1 0 dLaw_326 rfl rfl ?_
        refine K_aload_n 0 (-2) dLaw_327 rfl rfl ?_
        refine K_iload_n 3 l3 dLaw_328 rfl rfl ?_
        refine K_iconst 1 dLaw_329 rfl ?_
        refine K_iadd dLaw_330 (w32_id ((hF.2.2 c1).2.2.2.2.2.1 c4).1.1) ?_
        refine K_sald dLaw_331 ((hF.2.2 c1).2.2.2.2.2.1 c4).1.2 ?_
        refine K_callVi mX_has 0 0 [jvI (E.2.2.2.1 ((l3 + 1)).toNat).toInt] dLaw_332 pm_L_33 ⟨_, rfl, rfl⟩ ⟨(Nat.le_of_ble_eq_true rfl), (Nat.le_of_ble_eq_true rfl)⟩ rfl rfl (by decide) (Nat.le_of_ble_eq_true rfl) rfl (Nat.le_of_ble_eq_true rfl) (by decide) (Ci_mono ((hF.2.2 c1).2.2.2.2.2.1 c4).2 (fun r53 μ50 h51 => ?_))
        refine K_aload_n 2 76 dLaw_335 rfl rfl ?_
        refine K_aload_n 0 (-2) dLaw_336 rfl rfl ?_
        refine K_iload_n 3 l3 dLaw_337 rfl rfl ?_
        refine K_iconst 1 dLaw_338 rfl ?_
        refine K_iadd dLaw_339 (w32_id h51.1.1) ?_
        refine K_sald dLaw_340 h51.1.2 ?_
        refine K_callVi mM_has 12 76 [jvI (E.2.2.2.1 ((l3 + 1)).toNat).toInt] dLaw_341 pm_L_36 ⟨_, rfl, rfl⟩ ⟨(Nat.le_of_ble_eq_true rfl), (Nat.le_of_ble_eq_true rfl)⟩ rfl rfl (by decide) (Nat.le_of_ble_eq_true rfl) rfl (Nat.le_of_ble_eq_true rfl) (by decide) (Ci_mono h51.2 (fun r57 μ54 h55 => ?_))
        refine K_icmp_eq 1303 dLaw_344 (by decide) (fun c58 => ?_) (fun c58 => ?_)
        · refine K_iinc 3 dLaw_1303 (Nat.le_of_ble_eq_true rfl) rfl (w32_ok (h55.1 c58).1) rfl ?_
          refine K_goto 18 dLaw_1306 (by decide) ?_
          exact (h55.1 c58).2
        · refine K_iconst 0 dLaw_347 rfl ?_
          exact K_iret dLaw_348 (Or.inr ⟨rfl, (by decide)⟩) (h55.2 c58)
      | 5, _, ha9 =>
        have c4 : (iand32 (E.2.2.2.1 (l3).toNat).toInt 63) = 5 := by omega
        refine ⟨_, 349, rfl, by decide, ?_⟩
        refine K_aload_n 1 0 dLaw_349 rfl rfl ?_
        refine K_aload_n 0 (-2) dLaw_350 rfl rfl ?_
        refine K_iload_n 3 l3 dLaw_351 rfl rfl ?_
        refine K_iconst 1 dLaw_352 rfl ?_
        refine K_iadd dLaw_353 (w32_id ((hF.2.2 c1).2.2.2.2.2.2.1 c4).1.1) ?_
        refine K_sald dLaw_354 ((hF.2.2 c1).2.2.2.2.2.2.1 c4).1.2.1 ?_
        refine K_aload_n 0 (-2) dLaw_355 rfl rfl ?_
        refine K_iload_n 3 l3 dLaw_356 rfl rfl ?_
        refine K_iconst 2 dLaw_357 rfl ?_
        refine K_iadd dLaw_358 (w32_id ((hF.2.2 c1).2.2.2.2.2.2.1 c4).1.2.2.1) ?_
        refine K_sald dLaw_359 ((hF.2.2 c1).2.2.2.2.2.2.1 c4).1.2.2.2.1 ?_
        refine K_aload_n 0 (-2) dLaw_360 rfl rfl ?_
        refine K_iload_n 3 l3 dLaw_361 rfl rfl ?_
        refine K_iconst 3 dLaw_362 rfl ?_
        refine K_iadd dLaw_363 (w32_id ((hF.2.2 c1).2.2.2.2.2.2.1 c4).1.2.2.2.2.1) ?_
        refine K_sald dLaw_364 ((hF.2.2 c1).2.2.2.2.2.2.1 c4).1.2.2.2.2.2 ?_
        refine K_callVi mX_letter 0 0 [jvI (E.2.2.2.1 ((l3 + 1)).toNat).toInt, jvI (E.2.2.2.1 ((l3 + 2)).toNat).toInt, jvI (E.2.2.2.1 ((l3 + 3)).toNat).toInt] dLaw_365 pm_L_37 ⟨_, rfl, rfl⟩ ⟨(Nat.le_of_ble_eq_true rfl), (Nat.le_of_ble_eq_true rfl)⟩ rfl rfl (by decide) (Nat.le_of_ble_eq_true rfl) rfl (Nat.le_of_ble_eq_true rfl) (by decide) (Ci_mono ((hF.2.2 c1).2.2.2.2.2.2.1 c4).2 (fun r64 μ61 h62 => ?_))
        refine K_aload_n 2 76 dLaw_368 rfl rfl ?_
        refine K_aload_n 0 (-2) dLaw_369 rfl rfl ?_
        refine K_iload_n 3 l3 dLaw_370 rfl rfl ?_
        refine K_iconst 1 dLaw_371 rfl ?_
        refine K_iadd dLaw_372 (w32_id h62.1.1) ?_
        refine K_sald dLaw_373 h62.1.2.1 ?_
        refine K_aload_n 0 (-2) dLaw_374 rfl rfl ?_
        refine K_iload_n 3 l3 dLaw_375 rfl rfl ?_
        refine K_iconst 2 dLaw_376 rfl ?_
        refine K_iadd dLaw_377 (w32_id h62.1.2.2.1) ?_
        refine K_sald dLaw_378 h62.1.2.2.2.1 ?_
        refine K_aload_n 0 (-2) dLaw_379 rfl rfl ?_
        refine K_iload_n 3 l3 dLaw_380 rfl rfl ?_
        refine K_iconst 3 dLaw_381 rfl ?_
        refine K_iadd dLaw_382 (w32_id h62.1.2.2.2.2.1) ?_
        refine K_sald dLaw_383 h62.1.2.2.2.2.2 ?_
        refine K_callVi mM_letter 12 76 [jvI (E.2.2.2.1 ((l3 + 1)).toNat).toInt, jvI (E.2.2.2.1 ((l3 + 2)).toNat).toInt, jvI (E.2.2.2.1 ((l3 + 3)).toNat).toInt] dLaw_384 pm_L_41 ⟨_, rfl, rfl⟩ ⟨(Nat.le_of_ble_eq_true rfl), (Nat.le_of_ble_eq_true rfl)⟩ rfl rfl (by decide) (Nat.le_of_ble_eq_true rfl) rfl (Nat.le_of_ble_eq_true rfl) (by decide) (Ci_mono h62.2 (fun r68 μ65 h66 => ?_))
        refine K_icmp_eq 1303 dLaw_387 (by decide) (fun c69 => ?_) (fun c69 => ?_)
        · refine K_iinc 3 dLaw_1303 (Nat.le_of_ble_eq_true rfl) rfl (w32_ok (h66.1 c69).1) rfl ?_
          refine K_goto 18 dLaw_1306 (by decide) ?_
          exact (h66.1 c69).2
        · refine K_iconst 0 dLaw_390 rfl ?_
          exact K_iret dLaw_391 (Or.inr ⟨rfl, (by decide)⟩) (h66.2 c69)
      | 6, _, ha9 =>
        have c4 : (iand32 (E.2.2.2.1 (l3).toNat).toInt 63) = 6 := by omega
        refine ⟨_, 392, rfl, by decide, ?_⟩
        refine K_aload_n 1 0 dLaw_392 rfl rfl ?_
        refine K_aload_n 0 (-2) dLaw_393 rfl rfl ?_
        refine K_iload_n 3 l3 dLaw_394 rfl rfl ?_
        refine K_iconst 1 dLaw_395 rfl ?_
        refine K_iadd dLaw_396 (w32_id ((hF.2.2 c1).2.2.2.2.2.2.2.1 c4).1.1) ?_
        refine K_sald dLaw_397 ((hF.2.2 c1).2.2.2.2.2.2.2.1 c4).1.2.1 ?_
        refine K_aload_n 0 (-2) dLaw_398 rfl rfl ?_
        refine K_iload_n 3 l3 dLaw_399 rfl rfl ?_
        refine K_iconst 2 dLaw_400 rfl ?_
        refine K_iadd dLaw_401 (w32_id ((hF.2.2 c1).2.2.2.2.2.2.2.1 c4).1.2.2.1) ?_
        refine K_sald dLaw_402 ((hF.2.2 c1).2.2.2.2.2.2.2.1 c4).1.2.2.2 ?_
        refine K_callVi mX_rule 0 0 [jvI (E.2.2.2.1 ((l3 + 1)).toNat).toInt, jvI (E.2.2.2.1 ((l3 + 2)).toNat).toInt] dLaw_403 pm_L_42 ⟨_, rfl, rfl⟩ ⟨(Nat.le_of_ble_eq_true rfl), (Nat.le_of_ble_eq_true rfl)⟩ rfl rfl (by decide) (Nat.le_of_ble_eq_true rfl) rfl (Nat.le_of_ble_eq_true rfl) (by decide) (Ci_mono ((hF.2.2 c1).2.2.2.2.2.2.2.1 c4).2 (fun r75 μ72 h73 => ?_))
        refine K_aload_n 2 76 dLaw_406 rfl rfl ?_
        refine K_aload_n 0 (-2) dLaw_407 rfl rfl ?_
        refine K_iload_n 3 l3 dLaw_408 rfl rfl ?_
        refine K_iconst 1 dLaw_409 rfl ?_
        refine K_iadd dLaw_410 (w32_id h73.1.1) ?_
        refine K_sald dLaw_411 h73.1.2.1 ?_
        refine K_aload_n 0 (-2) dLaw_412 rfl rfl ?_
        refine K_iload_n 3 l3 dLaw_413 rfl rfl ?_
        refine K_iconst 2 dLaw_414 rfl ?_
        refine K_iadd dLaw_415 (w32_id h73.1.2.2.1) ?_
        refine K_sald dLaw_416 h73.1.2.2.2 ?_
        refine K_callVi mM_rule 12 76 [jvI (E.2.2.2.1 ((l3 + 1)).toNat).toInt, jvI (E.2.2.2.1 ((l3 + 2)).toNat).toInt] dLaw_417 pm_L_46 ⟨_, rfl, rfl⟩ ⟨(Nat.le_of_ble_eq_true rfl), (Nat.le_of_ble_eq_true rfl)⟩ rfl rfl (by decide) (Nat.le_of_ble_eq_true rfl) rfl (Nat.le_of_ble_eq_true rfl) (by decide) (Ci_mono h73.2 (fun r79 μ76 h77 => ?_))
        refine K_icmp_eq 1303 dLaw_420 (by decide) (fun c80 => ?_) (fun c80 => ?_)
        · refine K_iinc 3 dLaw_1303 (Nat.le_of_ble_eq_true rfl) rfl (w32_ok (h77.1 c80).1) rfl ?_
          refine K_goto 18 dLaw_1306 (by decide) ?_
          exact (h77.1 c80).2
        · refine K_iconst 0 dLaw_423 rfl ?_
          exact K_iret dLaw_424 (Or.inr ⟨rfl, (by decide)⟩) (h77.2 c80)
      | 7, _, ha9 =>
        have c4 : (iand32 (E.2.2.2.1 (l3).toNat).toInt 63) = 7 := by omega
        refine ⟨_, 425, rfl, by decide, ?_⟩
        refine K_aload_n 1 0 dLaw_425 rfl rfl ?_
        refine K_aload_n 0 (-2) dLaw_426 rfl rfl ?_
        refine K_iload_n 3 l3 dLaw_427 rfl rfl ?_
        refine K_iconst 1 dLaw_428 rfl ?_
        refine K_iadd dLaw_429 (w32_id ((hF.2.2 c1).2.2.2.2.2.2.2.2.1 c4).1.1) ?_
        refine K_sald dLaw_430 ((hF.2.2 c1).2.2.2.2.2.2.2.2.1 c4).1.2.1 ?_
        refine K_aload_n 0 (-2) dLaw_431 rfl rfl ?_
        refine K_iload_n 3 l3 dLaw_432 rfl rfl ?_
        refine K_iconst 2 dLaw_433 rfl ?_
        refine K_iadd dLaw_434 (w32_id ((hF.2.2 c1).2.2.2.2.2.2.2.2.1 c4).1.2.2.1) ?_
        refine K_sald dLaw_435 ((hF.2.2 c1).2.2.2.2.2.2.2.2.1 c4).1.2.2.2 ?_
        refine K_callVi mX_step 0 0 [jvI (E.2.2.2.1 ((l3 + 1)).toNat).toInt, jvI (E.2.2.2.1 ((l3 + 2)).toNat).toInt] dLaw_436 pm_L_47 ⟨_, rfl, rfl⟩ ⟨(Nat.le_of_ble_eq_true rfl), (Nat.le_of_ble_eq_true rfl)⟩ rfl rfl (by decide) (Nat.le_of_ble_eq_true rfl) rfl (Nat.le_of_ble_eq_true rfl) (by decide) (Ci_mono ((hF.2.2 c1).2.2.2.2.2.2.2.2.1 c4).2 (fun r86 μ83 h84 => ?_))
        refine K_aload_n 2 76 dLaw_439 rfl rfl ?_
        refine K_aload_n 0 (-2) dLaw_440 rfl rfl ?_
        refine K_iload_n 3 l3 dLaw_441 rfl rfl ?_
        refine K_iconst 1 dLaw_442 rfl ?_
        refine K_iadd dLaw_443 (w32_id h84.1.1) ?_
        refine K_sald dLaw_444 h84.1.2.1 ?_
        refine K_aload_n 0 (-2) dLaw_445 rfl rfl ?_
        refine K_iload_n 3 l3 dLaw_446 rfl rfl ?_
        refine K_iconst 2 dLaw_447 rfl ?_
        refine K_iadd dLaw_448 (w32_id h84.1.2.2.1) ?_
        refine K_sald dLaw_449 h84.1.2.2.2 ?_
        refine K_callVi mM_step 12 76 [jvI (E.2.2.2.1 ((l3 + 1)).toNat).toInt, jvI (E.2.2.2.1 ((l3 + 2)).toNat).toInt] dLaw_450 pm_L_50 ⟨_, rfl, rfl⟩ ⟨(Nat.le_of_ble_eq_true rfl), (Nat.le_of_ble_eq_true rfl)⟩ rfl rfl (by decide) (Nat.le_of_ble_eq_true rfl) rfl (Nat.le_of_ble_eq_true rfl) (by decide) (Ci_mono h84.2 (fun r90 μ87 h88 => ?_))
        refine K_icmp_eq 1303 dLaw_453 (by decide) (fun c91 => ?_) (fun c91 => ?_)
        · refine K_iinc 3 dLaw_1303 (Nat.le_of_ble_eq_true rfl) rfl (w32_ok (h88.1 c91).1) rfl ?_
          refine K_goto 18 dLaw_1306 (by decide) ?_
          exact (h88.1 c91).2
        · refine K_iconst 0 dLaw_456 rfl ?_
          exact K_iret dLaw_457 (Or.inr ⟨rfl, (by decide)⟩) (h88.2 c91)
      | 8, _, ha9 =>
        have c4 : (iand32 (E.2.2.2.1 (l3).toNat).toInt 63) = 8 := by omega
        refine ⟨_, 458, rfl, by decide, ?_⟩
        refine K_aload_n 1 0 dLaw_458 rfl rfl ?_
        refine K_aload_n 0 (-2) dLaw_459 rfl rfl ?_
        refine K_iload_n 3 l3 dLaw_460 rfl rfl ?_
        refine K_iconst 1 dLaw_461 rfl ?_
        refine K_iadd dLaw_462 (w32_id ((hF.2.2 c1).2.2.2.2.2.2.2.2.2.1 c4).1.1) ?_
        refine K_sald dLaw_463 ((hF.2.2 c1).2.2.2.2.2.2.2.2.2.1 c4).1.2.1 ?_
        refine K_aload_n 0 (-2) dLaw_464 rfl rfl ?_
        refine K_iload_n 3 l3 dLaw_465 rfl rfl ?_
        refine K_iconst 2 dLaw_466 rfl ?_
        refine K_iadd dLaw_467 (w32_id ((hF.2.2 c1).2.2.2.2.2.2.2.2.2.1 c4).1.2.2.1) ?_
        refine K_sald dLaw_468 ((hF.2.2 c1).2.2.2.2.2.2.2.2.2.1 c4).1.2.2.2 ?_
        refine K_callVi mX_names 0 0 [jvI (E.2.2.2.1 ((l3 + 1)).toNat).toInt, jvI (E.2.2.2.1 ((l3 + 2)).toNat).toInt] dLaw_469 pm_L_51 ⟨_, rfl, rfl⟩ ⟨(Nat.le_of_ble_eq_true rfl), (Nat.le_of_ble_eq_true rfl)⟩ rfl rfl (by decide) (Nat.le_of_ble_eq_true rfl) rfl (Nat.le_of_ble_eq_true rfl) (by decide) (Ci_mono ((hF.2.2 c1).2.2.2.2.2.2.2.2.2.1 c4).2 (fun r97 μ94 h95 => ?_))
        refine K_aload_n 2 76 dLaw_472 rfl rfl ?_
        refine K_aload_n 0 (-2) dLaw_473 rfl rfl ?_
        refine K_iload_n 3 l3 dLaw_474 rfl rfl ?_
        refine K_iconst 1 dLaw_475 rfl ?_
        refine K_iadd dLaw_476 (w32_id h95.1.1) ?_
        refine K_sald dLaw_477 h95.1.2.1 ?_
        refine K_aload_n 0 (-2) dLaw_478 rfl rfl ?_
        refine K_iload_n 3 l3 dLaw_479 rfl rfl ?_
        refine K_iconst 2 dLaw_480 rfl ?_
        refine K_iadd dLaw_481 (w32_id h95.1.2.2.1) ?_
        refine K_sald dLaw_482 h95.1.2.2.2 ?_
        refine K_callVi mM_names 12 76 [jvI (E.2.2.2.1 ((l3 + 1)).toNat).toInt, jvI (E.2.2.2.1 ((l3 + 2)).toNat).toInt] dLaw_483 pm_L_54 ⟨_, rfl, rfl⟩ ⟨(Nat.le_of_ble_eq_true rfl), (Nat.le_of_ble_eq_true rfl)⟩ rfl rfl (by decide) (Nat.le_of_ble_eq_true rfl) rfl (Nat.le_of_ble_eq_true rfl) (by decide) (Ci_mono h95.2 (fun r101 μ98 h99 => ?_))
        refine K_icmp_eq 1303 dLaw_486 (by decide) (fun c102 => ?_) (fun c102 => ?_)
        · refine K_iinc 3 dLaw_1303 (Nat.le_of_ble_eq_true rfl) rfl (w32_ok (h99.1 c102).1) rfl ?_
          refine K_goto 18 dLaw_1306 (by decide) ?_
          exact (h99.1 c102).2
        · refine K_iconst 0 dLaw_489 rfl ?_
          exact K_iret dLaw_490 (Or.inr ⟨rfl, (by decide)⟩) (h99.2 c102)
      | 9, _, ha9 =>
        have c4 : (iand32 (E.2.2.2.1 (l3).toNat).toInt 63) = 9 := by omega
        refine ⟨_, 491, rfl, by decide, ?_⟩
        refine K_aload_n 1 0 dLaw_491 rfl rfl ?_
        refine K_aload_n 0 (-2) dLaw_492 rfl rfl ?_
        refine K_iload_n 3 l3 dLaw_493 rfl rfl ?_
        refine K_iconst 1 dLaw_494 rfl ?_
        refine K_iadd dLaw_495 (w32_id ((hF.2.2 c1).2.2.2.2.2.2.2.2.2.2.1 c4).1.1) ?_
        refine K_sald dLaw_496 ((hF.2.2 c1).2.2.2.2.2.2.2.2.2.2.1 c4).1.2.1 ?_
        refine K_aload_n 0 (-2) dLaw_497 rfl rfl ?_
        refine K_iload_n 3 l3 dLaw_498 rfl rfl ?_
        refine K_iconst 2 dLaw_499 rfl ?_
        refine K_iadd dLaw_500 (w32_id ((hF.2.2 c1).2.2.2.2.2.2.2.2.2.2.1 c4).1.2.2.1) ?_
        refine K_sald dLaw_501 ((hF.2.2 c1).2.2.2.2.2.2.2.2.2.2.1 c4).1.2.2.2 ?_
        refine K_callVi mX_term 0 0 [jvI (E.2.2.2.1 ((l3 + 1)).toNat).toInt, jvI (E.2.2.2.1 ((l3 + 2)).toNat).toInt] dLaw_502 pm_L_55 ⟨_, rfl, rfl⟩ ⟨(Nat.le_of_ble_eq_true rfl), (Nat.le_of_ble_eq_true rfl)⟩ rfl rfl (by decide) (Nat.le_of_ble_eq_true rfl) rfl (Nat.le_of_ble_eq_true rfl) (by decide) (Ci_mono ((hF.2.2 c1).2.2.2.2.2.2.2.2.2.2.1 c4).2 (fun r108 μ105 h106 => ?_))
        refine K_aload_n 2 76 dLaw_505 rfl rfl ?_
        refine K_aload_n 0 (-2) dLaw_506 rfl rfl ?_
        refine K_iload_n 3 l3 dLaw_507 rfl rfl ?_
        refine K_iconst 1 dLaw_508 rfl ?_
        refine K_iadd dLaw_509 (w32_id h106.1.1) ?_
        refine K_sald dLaw_510 h106.1.2.1 ?_
        refine K_aload_n 0 (-2) dLaw_511 rfl rfl ?_
        refine K_iload_n 3 l3 dLaw_512 rfl rfl ?_
        refine K_iconst 2 dLaw_513 rfl ?_
        refine K_iadd dLaw_514 (w32_id h106.1.2.2.1) ?_
        refine K_sald dLaw_515 h106.1.2.2.2 ?_
        refine K_callVi mM_term 12 76 [jvI (E.2.2.2.1 ((l3 + 1)).toNat).toInt, jvI (E.2.2.2.1 ((l3 + 2)).toNat).toInt] dLaw_516 pm_L_58 ⟨_, rfl, rfl⟩ ⟨(Nat.le_of_ble_eq_true rfl), (Nat.le_of_ble_eq_true rfl)⟩ rfl rfl (by decide) (Nat.le_of_ble_eq_true rfl) rfl (Nat.le_of_ble_eq_true rfl) (by decide) (Ci_mono h106.2 (fun r112 μ109 h110 => ?_))
        refine K_icmp_eq 1303 dLaw_519 (by decide) (fun c113 => ?_) (fun c113 => ?_)
        · refine K_iinc 3 dLaw_1303 (Nat.le_of_ble_eq_true rfl) rfl (w32_ok (h110.1 c113).1) rfl ?_
          refine K_goto 18 dLaw_1306 (by decide) ?_
          exact (h110.1 c113).2
        · refine K_iconst 0 dLaw_522 rfl ?_
          exact K_iret dLaw_523 (Or.inr ⟨rfl, (by decide)⟩) (h110.2 c113)
      | 10, _, ha9 =>
        have c4 : (iand32 (E.2.2.2.1 (l3).toNat).toInt 63) = 10 := by omega
        refine ⟨_, 524, rfl, by decide, ?_⟩
        refine K_aload_n 1 0 dLaw_524 rfl rfl ?_
        refine K_callVi mX_wrong 0 0 [] dLaw_525 pm_L_59 ⟨_, rfl, rfl⟩ ⟨(Nat.le_of_ble_eq_true rfl), (Nat.le_of_ble_eq_true rfl)⟩ rfl rfl (by decide) (Nat.le_of_ble_eq_true rfl) rfl (Nat.le_of_ble_eq_true rfl) (by decide) (Ci_mono ((hF.2.2 c1).2.2.2.2.2.2.2.2.2.2.2.1 c4) (fun r119 μ116 h117 => ?_))
        refine K_aload_n 2 76 dLaw_528 rfl rfl ?_
        refine K_callVi mM_wrong 12 76 [] dLaw_529 pm_L_62 ⟨_, rfl, rfl⟩ ⟨(Nat.le_of_ble_eq_true rfl), (Nat.le_of_ble_eq_true rfl)⟩ rfl rfl (by decide) (Nat.le_of_ble_eq_true rfl) rfl (Nat.le_of_ble_eq_true rfl) (by decide) (Ci_mono h117 (fun r123 μ120 h121 => ?_))
        refine K_icmp_eq 1303 dLaw_532 (by decide) (fun c124 => ?_) (fun c124 => ?_)
        · refine K_iinc 3 dLaw_1303 (Nat.le_of_ble_eq_true rfl) rfl (w32_ok (h121.1 c124).1) rfl ?_
          refine K_goto 18 dLaw_1306 (by decide) ?_
          exact (h121.1 c124).2
        · refine K_iconst 0 dLaw_535 rfl ?_
          exact K_iret dLaw_536 (Or.inr ⟨rfl, (by decide)⟩) (h121.2 c124)
      | 11, _, ha9 =>
        have c4 : (iand32 (E.2.2.2.1 (l3).toNat).toInt 63) = 11 := by omega
        refine ⟨_, 537, rfl, by decide, ?_⟩
        refine K_aload_n 1 0 dLaw_537 rfl rfl ?_
        refine K_aload_n 0 (-2) dLaw_538 rfl rfl ?_
        refine K_iload_n 3 l3 dLaw_539 rfl rfl ?_
        refine K_iconst 1 dLaw_540 rfl ?_
        refine K_iadd dLaw_541 (w32_id ((hF.2.2 c1).2.2.2.2.2.2.2.2.2.2.2.2.1 c4).1.1) ?_
        refine K_sald dLaw_542 ((hF.2.2 c1).2.2.2.2.2.2.2.2.2.2.2.2.1 c4).1.2 ?_
        refine K_callVi mX_rest 0 0 [jvI (E.2.2.2.1 ((l3 + 1)).toNat).toInt] dLaw_543 pm_L_63 ⟨_, rfl, rfl⟩ ⟨(Nat.le_of_ble_eq_true rfl), (Nat.le_of_ble_eq_true rfl)⟩ rfl rfl (by decide) (Nat.le_of_ble_eq_true rfl) rfl (Nat.le_of_ble_eq_true rfl) (by decide) (Ci_mono ((hF.2.2 c1).2.2.2.2.2.2.2.2.2.2.2.2.1 c4).2 (fun r130 μ127 h128 => ?_))
        refine K_aload_n 2 76 dLaw_546 rfl rfl ?_
        refine K_aload_n 0 (-2) dLaw_547 rfl rfl ?_
        refine K_iload_n 3 l3 dLaw_548 rfl rfl ?_
        refine K_iconst 1 dLaw_549 rfl ?_
        refine K_iadd dLaw_550 (w32_id h128.1.1) ?_
        refine K_sald dLaw_551 h128.1.2 ?_
        refine K_callVi mM_rest 12 76 [jvI (E.2.2.2.1 ((l3 + 1)).toNat).toInt] dLaw_552 pm_L_66 ⟨_, rfl, rfl⟩ ⟨(Nat.le_of_ble_eq_true rfl), (Nat.le_of_ble_eq_true rfl)⟩ rfl rfl (by decide) (Nat.le_of_ble_eq_true rfl) rfl (Nat.le_of_ble_eq_true rfl) (by decide) (Ci_mono h128.2 (fun r134 μ131 h132 => ?_))
        refine K_icmp_eq 1303 dLaw_555 (by decide) (fun c135 => ?_) (fun c135 => ?_)
        · refine K_iinc 3 dLaw_1303 (Nat.le_of_ble_eq_true rfl) rfl (w32_ok (h132.1 c135).1) rfl ?_
          refine K_goto 18 dLaw_1306 (by decide) ?_
          exact (h132.1 c135).2
        · refine K_iconst 0 dLaw_558 rfl ?_
          exact K_iret dLaw_559 (Or.inr ⟨rfl, (by decide)⟩) (h132.2 c135)
      | 12, _, ha9 =>
        have c4 : (iand32 (E.2.2.2.1 (l3).toNat).toInt 63) = 12 := by omega
        refine ⟨_, 560, rfl, by decide, ?_⟩
        refine K_aload_n 1 0 dLaw_560 rfl rfl ?_
        refine K_aload_n 0 (-2) dLaw_561 rfl rfl ?_
        refine K_iload_n 3 l3 dLaw_562 rfl rfl ?_
        refine K_iconst 1 dLaw_563 rfl ?_
        refine K_iadd dLaw_564 (w32_id ((hF.2.2 c1).2.2.2.2.2.2.2.2.2.2.2.2.2.1 c4).1.1) ?_
        refine K_sald dLaw_565 ((hF.2.2 c1).2.2.2.2.2.2.2.2.2.2.2.2.2.1 c4).1.2.1 ?_
        refine K_aload_n 0 (-2) dLaw_566 rfl rfl ?_
        refine K_iload_n 3 l3 dLaw_567 rfl rfl ?_
        refine K_iconst 2 dLaw_568 rfl ?_
        refine K_iadd dLaw_569 (w32_id ((hF.2.2 c1).2.2.2.2.2.2.2.2.2.2.2.2.2.1 c4).1.2.2.1) ?_
        refine K_sald dLaw_570 ((hF.2.2 c1).2.2.2.2.2.2.2.2.2.2.2.2.2.1 c4).1.2.2.2 ?_
        refine K_callVi mX_leans 0 0 [jvI (E.2.2.2.1 ((l3 + 1)).toNat).toInt, jvI (E.2.2.2.1 ((l3 + 2)).toNat).toInt] dLaw_571 pm_L_67 ⟨_, rfl, rfl⟩ ⟨(Nat.le_of_ble_eq_true rfl), (Nat.le_of_ble_eq_true rfl)⟩ rfl rfl (by decide) (Nat.le_of_ble_eq_true rfl) rfl (Nat.le_of_ble_eq_true rfl) (by decide) (Ci_mono ((hF.2.2 c1).2.2.2.2.2.2.2.2.2.2.2.2.2.1 c4).2 (fun r141 μ138 h139 => ?_))
        refine K_aload_n 2 76 dLaw_574 rfl rfl ?_
        refine K_aload_n 0 (-2) dLaw_575 rfl rfl ?_
        refine K_iload_n 3 l3 dLaw_576 rfl rfl ?_
        refine K_iconst 1 dLaw_577 rfl ?_
        refine K_iadd dLaw_578 (w32_id h139.1.1) ?_
        refine K_sald dLaw_579 h139.1.2.1 ?_
        refine K_aload_n 0 (-2) dLaw_580 rfl rfl ?_
        refine K_iload_n 3 l3 dLaw_581 rfl rfl ?_
        refine K_iconst 2 dLaw_582 rfl ?_
        refine K_iadd dLaw_583 (w32_id h139.1.2.2.1) ?_
        refine K_sald dLaw_584 h139.1.2.2.2 ?_
        refine K_callVi mM_leans 12 76 [jvI (E.2.2.2.1 ((l3 + 1)).toNat).toInt, jvI (E.2.2.2.1 ((l3 + 2)).toNat).toInt] dLaw_585 pm_L_70 ⟨_, rfl, rfl⟩ ⟨(Nat.le_of_ble_eq_true rfl), (Nat.le_of_ble_eq_true rfl)⟩ rfl rfl (by decide) (Nat.le_of_ble_eq_true rfl) rfl (Nat.le_of_ble_eq_true rfl) (by decide) (Ci_mono h139.2 (fun r145 μ142 h143 => ?_))
        refine K_icmp_eq 1303 dLaw_588 (by decide) (fun c146 => ?_) (fun c146 => ?_)
        · refine K_iinc 3 dLaw_1303 (Nat.le_of_ble_eq_true rfl) rfl (w32_ok (h143.1 c146).1) rfl ?_
          refine K_goto 18 dLaw_1306 (by decide) ?_
          exact (h143.1 c146).2
        · refine K_iconst 0 dLaw_591 rfl ?_
          exact K_iret dLaw_592 (Or.inr ⟨rfl, (by decide)⟩) (h143.2 c146)
      | 13, _, ha9 =>
        have c4 : (iand32 (E.2.2.2.1 (l3).toNat).toInt 63) = 13 := by omega
        refine ⟨_, 593, rfl, by decide, ?_⟩
        refine K_aload_n 1 0 dLaw_593 rfl rfl ?_
        refine K_aload_n 0 (-2) dLaw_594 rfl rfl ?_
        refine K_iload_n 3 l3 dLaw_595 rfl rfl ?_
        refine K_iconst 1 dLaw_596 rfl ?_
        refine K_iadd dLaw_597 (w32_id ((hF.2.2 c1).2.2.2.2.2.2.2.2.2.2.2.2.2.2.1 c4).1.1) ?_
        refine K_sald dLaw_598 ((hF.2.2 c1).2.2.2.2.2.2.2.2.2.2.2.2.2.2.1 c4).1.2.1 ?_
        refine K_aload_n 0 (-2) dLaw_599 rfl rfl ?_
        refine K_iload_n 3 l3 dLaw_600 rfl rfl ?_
        refine K_iconst 2 dLaw_601 rfl ?_
        refine K_iadd dLaw_602 (w32_id ((hF.2.2 c1).2.2.2.2.2.2.2.2.2.2.2.2.2.2.1 c4).1.2.2.1) ?_
        refine K_sald dLaw_603 ((hF.2.2 c1).2.2.2.2.2.2.2.2.2.2.2.2.2.2.1 c4).1.2.2.2 ?_
        refine K_callVi mX_upon 0 0 [jvI (E.2.2.2.1 ((l3 + 1)).toNat).toInt, jvI (E.2.2.2.1 ((l3 + 2)).toNat).toInt] dLaw_604 pm_L_71 ⟨_, rfl, rfl⟩ ⟨(Nat.le_of_ble_eq_true rfl), (Nat.le_of_ble_eq_true rfl)⟩ rfl rfl (by decide) (Nat.le_of_ble_eq_true rfl) rfl (Nat.le_of_ble_eq_true rfl) (by decide) (Ci_mono ((hF.2.2 c1).2.2.2.2.2.2.2.2.2.2.2.2.2.2.1 c4).2 (fun r152 μ149 h150 => ?_))
        refine K_aload_n 2 76 dLaw_607 rfl rfl ?_
        refine K_aload_n 0 (-2) dLaw_608 rfl rfl ?_
        refine K_iload_n 3 l3 dLaw_609 rfl rfl ?_
        refine K_iconst 1 dLaw_610 rfl ?_
        refine K_iadd dLaw_611 (w32_id h150.1.1) ?_
        refine K_sald dLaw_612 h150.1.2.1 ?_
        refine K_aload_n 0 (-2) dLaw_613 rfl rfl ?_
        refine K_iload_n 3 l3 dLaw_614 rfl rfl ?_
        refine K_iconst 2 dLaw_615 rfl ?_
        refine K_iadd dLaw_616 (w32_id h150.1.2.2.1) ?_
        refine K_sald dLaw_617 h150.1.2.2.2 ?_
        refine K_callVi mM_upon 12 76 [jvI (E.2.2.2.1 ((l3 + 1)).toNat).toInt, jvI (E.2.2.2.1 ((l3 + 2)).toNat).toInt] dLaw_618 pm_L_74 ⟨_, rfl, rfl⟩ ⟨(Nat.le_of_ble_eq_true rfl), (Nat.le_of_ble_eq_true rfl)⟩ rfl rfl (by decide) (Nat.le_of_ble_eq_true rfl) rfl (Nat.le_of_ble_eq_true rfl) (by decide) (Ci_mono h150.2 (fun r156 μ153 h154 => ?_))
        refine K_icmp_eq 1303 dLaw_621 (by decide) (fun c157 => ?_) (fun c157 => ?_)
        · refine K_iinc 3 dLaw_1303 (Nat.le_of_ble_eq_true rfl) rfl (w32_ok (h154.1 c157).1) rfl ?_
          refine K_goto 18 dLaw_1306 (by decide) ?_
          exact (h154.1 c157).2
        · refine K_iconst 0 dLaw_624 rfl ?_
          exact K_iret dLaw_625 (Or.inr ⟨rfl, (by decide)⟩) (h154.2 c157)
      | 14, _, ha9 =>
        have c4 : (iand32 (E.2.2.2.1 (l3).toNat).toInt 63) = 14 := by omega
        refine ⟨_, 626, rfl, by decide, ?_⟩
        refine K_aload_n 1 0 dLaw_626 rfl rfl ?_
        refine K_aload_n 0 (-2) dLaw_627 rfl rfl ?_
        refine K_iload_n 3 l3 dLaw_628 rfl rfl ?_
        refine K_iconst 1 dLaw_629 rfl ?_
        refine K_iadd dLaw_630 (w32_id ((hF.2.2 c1).2.2.2.2.2.2.2.2.2.2.2.2.2.2.2.1 c4).1.1) ?_
        refine K_sald dLaw_631 ((hF.2.2 c1).2.2.2.2.2.2.2.2.2.2.2.2.2.2.2.1 c4).1.2 ?_
        refine K_callVi mX_depth 0 0 [jvI (E.2.2.2.1 ((l3 + 1)).toNat).toInt] dLaw_632 pm_L_75 ⟨_, rfl, rfl⟩ ⟨(Nat.le_of_ble_eq_true rfl), (Nat.le_of_ble_eq_true rfl)⟩ rfl rfl (by decide) (Nat.le_of_ble_eq_true rfl) rfl (Nat.le_of_ble_eq_true rfl) (by decide) (Ci_mono ((hF.2.2 c1).2.2.2.2.2.2.2.2.2.2.2.2.2.2.2.1 c4).2 (fun r163 μ160 h161 => ?_))
        refine K_aload_n 2 76 dLaw_635 rfl rfl ?_
        refine K_aload_n 0 (-2) dLaw_636 rfl rfl ?_
        refine K_iload_n 3 l3 dLaw_637 rfl rfl ?_
        refine K_iconst 1 dLaw_638 rfl ?_
        refine K_iadd dLaw_639 (w32_id h161.1.1) ?_
        refine K_sald dLaw_640 h161.1.2 ?_
        refine K_callVi mM_depth 12 76 [jvI (E.2.2.2.1 ((l3 + 1)).toNat).toInt] dLaw_641 pm_L_78 ⟨_, rfl, rfl⟩ ⟨(Nat.le_of_ble_eq_true rfl), (Nat.le_of_ble_eq_true rfl)⟩ rfl rfl (by decide) (Nat.le_of_ble_eq_true rfl) rfl (Nat.le_of_ble_eq_true rfl) (by decide) (Ci_mono h161.2 (fun r167 μ164 h165 => ?_))
        refine K_icmp_eq 1303 dLaw_644 (by decide) (fun c168 => ?_) (fun c168 => ?_)
        · refine K_iinc 3 dLaw_1303 (Nat.le_of_ble_eq_true rfl) rfl (w32_ok (h165.1 c168).1) rfl ?_
          refine K_goto 18 dLaw_1306 (by decide) ?_
          exact (h165.1 c168).2
        · refine K_iconst 0 dLaw_647 rfl ?_
          exact K_iret dLaw_648 (Or.inr ⟨rfl, (by decide)⟩) (h165.2 c168)
      | 15, _, ha9 =>
        have c4 : (iand32 (E.2.2.2.1 (l3).toNat).toInt 63) = 15 := by omega
        refine ⟨_, 649, rfl, by decide, ?_⟩
        refine K_aload_n 1 0 dLaw_649 rfl rfl ?_
        refine K_aload_n 0 (-2) dLaw_650 rfl rfl ?_
        refine K_iload_n 3 l3 dLaw_651 rfl rfl ?_
        refine K_iconst 1 dLaw_652 rfl ?_
        refine K_iadd dLaw_653 (w32_id ((hF.2.2 c1).2.2.2.2.2.2.2.2.2.2.2.2.2.2.2.2.1 c4).1.1) ?_
        refine K_sald dLaw_654 ((hF.2.2 c1).2.2.2.2.2.2.2.2.2.2.2.2.2.2.2.2.1 c4).1.2 ?_
        refine K_callVi mX_load 0 0 [jvI (E.2.2.2.1 ((l3 + 1)).toNat).toInt] dLaw_655 pm_L_79 ⟨_, rfl, rfl⟩ ⟨(Nat.le_of_ble_eq_true rfl), (Nat.le_of_ble_eq_true rfl)⟩ rfl rfl (by decide) (Nat.le_of_ble_eq_true rfl) rfl (Nat.le_of_ble_eq_true rfl) (by decide) (Ci_mono ((hF.2.2 c1).2.2.2.2.2.2.2.2.2.2.2.2.2.2.2.2.1 c4).2 (fun r174 μ171 h172 => ?_))
        refine K_aload_n 2 76 dLaw_658 rfl rfl ?_
        refine K_aload_n 0 (-2) dLaw_659 rfl rfl ?_
        refine K_iload_n 3 l3 dLaw_660 rfl rfl ?_
        refine K_iconst 1 dLaw_661 rfl ?_
        refine K_iadd dLaw_662 (w32_id h172.1.1) ?_
        refine K_sald dLaw_663 h172.1.2 ?_
        refine K_callVi mM_load 12 76 [jvI (E.2.2.2.1 ((l3 + 1)).toNat).toInt] dLaw_664 pm_L_82 ⟨_, rfl, rfl⟩ ⟨(Nat.le_of_ble_eq_true rfl), (Nat.le_of_ble_eq_true rfl)⟩ rfl rfl (by decide) (Nat.le_of_ble_eq_true rfl) rfl (Nat.le_of_ble_eq_true rfl) (by decide) (Ci_mono h172.2 (fun r178 μ175 h176 => ?_))
        refine K_icmp_eq 1303 dLaw_667 (by decide) (fun c179 => ?_) (fun c179 => ?_)
        · refine K_iinc 3 dLaw_1303 (Nat.le_of_ble_eq_true rfl) rfl (w32_ok (h176.1 c179).1) rfl ?_
          refine K_goto 18 dLaw_1306 (by decide) ?_
          exact (h176.1 c179).2
        · refine K_iconst 0 dLaw_670 rfl ?_
          exact K_iret dLaw_671 (Or.inr ⟨rfl, (by decide)⟩) (h176.2 c179)
      | 16, _, ha9 =>
        have c4 : (iand32 (E.2.2.2.1 (l3).toNat).toInt 63) = 16 := by omega
        refine ⟨_, 672, rfl, by decide, ?_⟩
        refine K_aload_n 1 0 dLaw_672 rfl rfl ?_
        refine K_aload_n 0 (-2) dLaw_673 rfl rfl ?_
        refine K_iload_n 3 l3 dLaw_674 rfl rfl ?_
        refine K_iconst 1 dLaw_675 rfl ?_
        refine K_iadd dLaw_676 (w32_id ((hF.2.2 c1).2.2.2.2.2.2.2.2.2.2.2.2.2.2.2.2.2.1 c4).1.1) ?_
        refine K_sald dLaw_677 ((hF.2.2 c1).2.2.2.2.2.2.2.2.2.2.2.2.2.2.2.2.2.1 c4).1.2 ?_
        refine K_callVi mX_covers 0 0 [jvI (E.2.2.2.1 ((l3 + 1)).toNat).toInt] dLaw_678 pm_L_83 ⟨_, rfl, rfl⟩ ⟨(Nat.le_of_ble_eq_true rfl), (Nat.le_of_ble_eq_true rfl)⟩ rfl rfl (by decide) (Nat.le_of_ble_eq_true rfl) rfl (Nat.le_of_ble_eq_true rfl) (by decide) (Ci_mono ((hF.2.2 c1).2.2.2.2.2.2.2.2.2.2.2.2.2.2.2.2.2.1 c4).2 (fun r185 μ182 h183 => ?_))
        refine K_aload_n 2 76 dLaw_681 rfl rfl ?_
        refine K_aload_n 0 (-2) dLaw_682 rfl rfl ?_
        refine K_iload_n 3 l3 dLaw_683 rfl rfl ?_
        refine K_iconst 1 dLaw_684 rfl ?_
        refine K_iadd dLaw_685 (w32_id h183.1.1) ?_
        refine K_sald dLaw_686 h183.1.2 ?_
        refine K_callVi mM_covers 12 76 [jvI (E.2.2.2.1 ((l3 + 1)).toNat).toInt] dLaw_687 pm_L_86 ⟨_, rfl, rfl⟩ ⟨(Nat.le_of_ble_eq_true rfl), (Nat.le_of_ble_eq_true rfl)⟩ rfl rfl (by decide) (Nat.le_of_ble_eq_true rfl) rfl (Nat.le_of_ble_eq_true rfl) (by decide) (Ci_mono h183.2 (fun r189 μ186 h187 => ?_))
        refine K_icmp_eq 1303 dLaw_690 (by decide) (fun c190 => ?_) (fun c190 => ?_)
        · refine K_iinc 3 dLaw_1303 (Nat.le_of_ble_eq_true rfl) rfl (w32_ok (h187.1 c190).1) rfl ?_
          refine K_goto 18 dLaw_1306 (by decide) ?_
          exact (h187.1 c190).2
        · refine K_iconst 0 dLaw_693 rfl ?_
          exact K_iret dLaw_694 (Or.inr ⟨rfl, (by decide)⟩) (h187.2 c190)
      | 17, _, ha9 =>
        have c4 : (iand32 (E.2.2.2.1 (l3).toNat).toInt 63) = 17 := by omega
        refine ⟨_, 695, rfl, by decide, ?_⟩
        refine K_aload_n 1 0 dLaw_695 rfl rfl ?_
        refine K_aload_n 0 (-2) dLaw_696 rfl rfl ?_
        refine K_iload_n 3 l3 dLaw_697 rfl rfl ?_
        refine K_iconst 1 dLaw_698 rfl ?_
        refine K_iadd dLaw_699 (w32_id ((hF.2.2 c1).2.2.2.2.2.2.2.2.2.2.2.2.2.2.2.2.2.2.1 c4).1.1) ?_
        refine K_sald dLaw_700 ((hF.2.2 c1).2.2.2.2.2.2.2.2.2.2.2.2.2.2.2.2.2.2.1 c4).1.2 ?_
        refine K_callVi mX_vital 0 0 [jvI (E.2.2.2.1 ((l3 + 1)).toNat).toInt] dLaw_701 pm_L_87 ⟨_, rfl, rfl⟩ ⟨(Nat.le_of_ble_eq_true rfl), (Nat.le_of_ble_eq_true rfl)⟩ rfl rfl (by decide) (Nat.le_of_ble_eq_true rfl) rfl (Nat.le_of_ble_eq_true rfl) (by decide) (Ci_mono ((hF.2.2 c1).2.2.2.2.2.2.2.2.2.2.2.2.2.2.2.2.2.2.1 c4).2 (fun r196 μ193 h194 => ?_))
        refine K_aload_n 2 76 dLaw_704 rfl rfl ?_
        refine K_aload_n 0 (-2) dLaw_705 rfl rfl ?_
        refine K_iload_n 3 l3 dLaw_706 rfl rfl ?_
        refine K_iconst 1 dLaw_707 rfl ?_
        refine K_iadd dLaw_708 (w32_id h194.1.1) ?_
        refine K_sald dLaw_709 h194.1.2 ?_
        refine K_callVi mM_vital 12 76 [jvI (E.2.2.2.1 ((l3 + 1)).toNat).toInt] dLaw_710 pm_L_90 ⟨_, rfl, rfl⟩ ⟨(Nat.le_of_ble_eq_true rfl), (Nat.le_of_ble_eq_true rfl)⟩ rfl rfl (by decide) (Nat.le_of_ble_eq_true rfl) rfl (Nat.le_of_ble_eq_true rfl) (by decide) (Ci_mono h194.2 (fun r200 μ197 h198 => ?_))
        refine K_icmp_eq 1303 dLaw_713 (by decide) (fun c201 => ?_) (fun c201 => ?_)
        · refine K_iinc 3 dLaw_1303 (Nat.le_of_ble_eq_true rfl) rfl (w32_ok (h198.1 c201).1) rfl ?_
          refine K_goto 18 dLaw_1306 (by decide) ?_
          exact (h198.1 c201).2
        · refine K_iconst 0 dLaw_716 rfl ?_
          exact K_iret dLaw_717 (Or.inr ⟨rfl, (by decide)⟩) (h198.2 c201)
      | 18, _, ha9 =>
        have c4 : (iand32 (E.2.2.2.1 (l3).toNat).toInt 63) = 18 := by omega
        refine ⟨_, 718, rfl, by decide, ?_⟩
        refine K_aload_n 1 0 dLaw_718 rfl rfl ?_
        refine K_aload_n 0 (-2) dLaw_719 rfl rfl ?_
        refine K_iload_n 3 l3 dLaw_720 rfl rfl ?_
        refine K_iconst 1 dLaw_721 rfl ?_
        refine K_iadd dLaw_722 (w32_id ((hF.2.2 c1).2.2.2.2.2.2.2.2.2.2.2.2.2.2.2.2.2.2.2.1 c4).1.1) ?_
        refine K_sald dLaw_723 ((hF.2.2 c1).2.2.2.2.2.2.2.2.2.2.2.2.2.2.2.2.2.2.2.1 c4).1.2 ?_
        refine K_callVi mX_vitals 0 0 [jvI (E.2.2.2.1 ((l3 + 1)).toNat).toInt] dLaw_724 pm_L_91 ⟨_, rfl, rfl⟩ ⟨(Nat.le_of_ble_eq_true rfl), (Nat.le_of_ble_eq_true rfl)⟩ rfl rfl (by decide) (Nat.le_of_ble_eq_true rfl) rfl (Nat.le_of_ble_eq_true rfl) (by decide) (Ci_mono ((hF.2.2 c1).2.2.2.2.2.2.2.2.2.2.2.2.2.2.2.2.2.2.2.1 c4).2 (fun r207 μ204 h205 => ?_))
        refine K_aload_n 2 76 dLaw_727 rfl rfl ?_
        refine K_aload_n 0 (-2) dLaw_728 rfl rfl ?_
        refine K_iload_n 3 l3 dLaw_729 rfl rfl ?_
        refine K_iconst 1 dLaw_730 rfl ?_
        refine K_iadd dLaw_731 (w32_id h205.1.1) ?_
        refine K_sald dLaw_732 h205.1.2 ?_
        refine K_callVi mM_vitals 12 76 [jvI (E.2.2.2.1 ((l3 + 1)).toNat).toInt] dLaw_733 pm_L_94 ⟨_, rfl, rfl⟩ ⟨(Nat.le_of_ble_eq_true rfl), (Nat.le_of_ble_eq_true rfl)⟩ rfl rfl (by decide) (Nat.le_of_ble_eq_true rfl) rfl (Nat.le_of_ble_eq_true rfl) (by decide) (Ci_mono h205.2 (fun r211 μ208 h209 => ?_))
        refine K_icmp_eq 1303 dLaw_736 (by decide) (fun c212 => ?_) (fun c212 => ?_)
        · refine K_iinc 3 dLaw_1303 (Nat.le_of_ble_eq_true rfl) rfl (w32_ok (h209.1 c212).1) rfl ?_
          refine K_goto 18 dLaw_1306 (by decide) ?_
          exact (h209.1 c212).2
        · refine K_iconst 0 dLaw_739 rfl ?_
          exact K_iret dLaw_740 (Or.inr ⟨rfl, (by decide)⟩) (h209.2 c212)
      | 19, _, ha9 =>
        have c4 : (iand32 (E.2.2.2.1 (l3).toNat).toInt 63) = 19 := by omega
        refine ⟨_, 741, rfl, by decide, ?_⟩
        refine K_aload_n 1 0 dLaw_741 rfl rfl ?_
        refine K_aload_n 0 (-2) dLaw_742 rfl rfl ?_
        refine K_iload_n 3 l3 dLaw_743 rfl rfl ?_
        refine K_iconst 1 dLaw_744 rfl ?_
        refine K_iadd dLaw_745 (w32_id ((hF.2.2 c1).2.2.2.2.2.2.2.2.2.2.2.2.2.2.2.2.2.2.2.2.1 c4).1.1) ?_
        refine K_sald dLaw_746 ((hF.2.2 c1).2.2.2.2.2.2.2.2.2.2.2.2.2.2.2.2.2.2.2.2.1 c4).1.2.1 ?_
        refine K_aload_n 0 (-2) dLaw_747 rfl rfl ?_
        refine K_iload_n 3 l3 dLaw_748 rfl rfl ?_
        refine K_iconst 2 dLaw_749 rfl ?_
        refine K_iadd dLaw_750 (w32_id ((hF.2.2 c1).2.2.2.2.2.2.2.2.2.2.2.2.2.2.2.2.2.2.2.2.1 c4).1.2.2.1) ?_
        refine K_sald dLaw_751 ((hF.2.2 c1).2.2.2.2.2.2.2.2.2.2.2.2.2.2.2.2.2.2.2.2.1 c4).1.2.2.2.1 ?_
        refine K_aload_n 0 (-2) dLaw_752 rfl rfl ?_
        refine K_iload_n 3 l3 dLaw_753 rfl rfl ?_
        refine K_iconst 3 dLaw_754 rfl ?_
        refine K_iadd dLaw_755 (w32_id ((hF.2.2 c1).2.2.2.2.2.2.2.2.2.2.2.2.2.2.2.2.2.2.2.2.1 c4).1.2.2.2.2.1) ?_
        refine K_sald dLaw_756 ((hF.2.2 c1).2.2.2.2.2.2.2.2.2.2.2.2.2.2.2.2.2.2.2.2.1 c4).1.2.2.2.2.2 ?_
        refine K_callVi mX_beside 0 0 [jvI (E.2.2.2.1 ((l3 + 1)).toNat).toInt, jvI (E.2.2.2.1 ((l3 + 2)).toNat).toInt, jvI (E.2.2.2.1 ((l3 + 3)).toNat).toInt] dLaw_757 pm_L_95 ⟨_, rfl, rfl⟩ ⟨(Nat.le_of_ble_eq_true rfl), (Nat.le_of_ble_eq_true rfl)⟩ rfl rfl (by decide) (Nat.le_of_ble_eq_true rfl) rfl (Nat.le_of_ble_eq_true rfl) (by decide) (Ci_mono ((hF.2.2 c1).2.2.2.2.2.2.2.2.2.2.2.2.2.2.2.2.2.2.2.2.1 c4).2 (fun r218 μ215 h216 => ?_))
        refine K_aload_n 2 76 dLaw_760 rfl rfl ?_
        refine K_aload_n 0 (-2) dLaw_761 rfl rfl ?_
        refine K_iload_n 3 l3 dLaw_762 rfl rfl ?_
        refine K_iconst 1 dLaw_763 rfl ?_
        refine K_iadd dLaw_764 (w32_id h216.1.1) ?_
        refine K_sald dLaw_765 h216.1.2.1 ?_
        refine K_aload_n 0 (-2) dLaw_766 rfl rfl ?_
        refine K_iload_n 3 l3 dLaw_767 rfl rfl ?_
        refine K_iconst 2 dLaw_768 rfl ?_
        refine K_iadd dLaw_769 (w32_id h216.1.2.2.1) ?_
        refine K_sald dLaw_770 h216.1.2.2.2.1 ?_
        refine K_aload_n 0 (-2) dLaw_771 rfl rfl ?_
        refine K_iload_n 3 l3 dLaw_772 rfl rfl ?_
        refine K_iconst 3 dLaw_773 rfl ?_
        refine K_iadd dLaw_774 (w32_id h216.1.2.2.2.2.1) ?_
        refine K_sald dLaw_775 h216.1.2.2.2.2.2 ?_
        refine K_callVi mM_beside 12 76 [jvI (E.2.2.2.1 ((l3 + 1)).toNat).toInt, jvI (E.2.2.2.1 ((l3 + 2)).toNat).toInt, jvI (E.2.2.2.1 ((l3 + 3)).toNat).toInt] dLaw_776 pm_L_98 ⟨_, rfl, rfl⟩ ⟨(Nat.le_of_ble_eq_true rfl), (Nat.le_of_ble_eq_true rfl)⟩ rfl rfl (by decide) (Nat.le_of_ble_eq_true rfl) rfl (Nat.le_of_ble_eq_true rfl) (by decide) (Ci_mono h216.2 (fun r222 μ219 h220 => ?_))
        refine K_icmp_eq 1303 dLaw_779 (by decide) (fun c223 => ?_) (fun c223 => ?_)
        · refine K_iinc 3 dLaw_1303 (Nat.le_of_ble_eq_true rfl) rfl (w32_ok (h220.1 c223).1) rfl ?_
          refine K_goto 18 dLaw_1306 (by decide) ?_
          exact (h220.1 c223).2
        · refine K_iconst 0 dLaw_782 rfl ?_
          exact K_iret dLaw_783 (Or.inr ⟨rfl, (by decide)⟩) (h220.2 c223)
      | 20, _, ha9 =>
        have c4 : (iand32 (E.2.2.2.1 (l3).toNat).toInt 63) = 20 := by omega
        refine ⟨_, 784, rfl, by decide, ?_⟩
        refine K_aload_n 1 0 dLaw_784 rfl rfl ?_
        refine K_aload_n 0 (-2) dLaw_785 rfl rfl ?_
        refine K_iload_n 3 l3 dLaw_786 rfl rfl ?_
        refine K_iconst 1 dLaw_787 rfl ?_
        refine K_iadd dLaw_788 (w32_id ((hF.2.2 c1).2.2.2.2.2.2.2.2.2.2.2.2.2.2.2.2.2.2.2.2.2.1 c4).1.1) ?_
        refine K_sald dLaw_789 ((hF.2.2 c1).2.2.2.2.2.2.2.2.2.2.2.2.2.2.2.2.2.2.2.2.2.1 c4).1.2.1 ?_
        refine K_aload_n 0 (-2) dLaw_790 rfl rfl ?_
        refine K_iload_n 3 l3 dLaw_791 rfl rfl ?_
        refine K_iconst 2 dLaw_792 rfl ?_
        refine K_iadd dLaw_793 (w32_id ((hF.2.2 c1).2.2.2.2.2.2.2.2.2.2.2.2.2.2.2.2.2.2.2.2.2.1 c4).1.2.2.1) ?_
        refine K_sald dLaw_794 ((hF.2.2 c1).2.2.2.2.2.2.2.2.2.2.2.2.2.2.2.2.2.2.2.2.2.1 c4).1.2.2.2.1 ?_
        refine K_aload_n 0 (-2) dLaw_795 rfl rfl ?_
        refine K_iload_n 3 l3 dLaw_796 rfl rfl ?_
        refine K_iconst 3 dLaw_797 rfl ?_
        refine K_iadd dLaw_798 (w32_id ((hF.2.2 c1).2.2.2.2.2.2.2.2.2.2.2.2.2.2.2.2.2.2.2.2.2.1 c4).1.2.2.2.2.1) ?_
        refine K_sald dLaw_799 ((hF.2.2 c1).2.2.2.2.2.2.2.2.2.2.2.2.2.2.2.2.2.2.2.2.2.1 c4).1.2.2.2.2.2 ?_
        refine K_callVi mX_common 0 0 [jvI (E.2.2.2.1 ((l3 + 1)).toNat).toInt, jvI (E.2.2.2.1 ((l3 + 2)).toNat).toInt, jvI (E.2.2.2.1 ((l3 + 3)).toNat).toInt] dLaw_800 pm_L_99 ⟨_, rfl, rfl⟩ ⟨(Nat.le_of_ble_eq_true rfl), (Nat.le_of_ble_eq_true rfl)⟩ rfl rfl (by decide) (Nat.le_of_ble_eq_true rfl) rfl (Nat.le_of_ble_eq_true rfl) (by decide) (Ci_mono ((hF.2.2 c1).2.2.2.2.2.2.2.2.2.2.2.2.2.2.2.2.2.2.2.2.2.1 c4).2 (fun r229 μ226 h227 => ?_))
        refine K_aload_n 2 76 dLaw_803 rfl rfl ?_
        refine K_aload_n 0 (-2) dLaw_804 rfl rfl ?_
        refine K_iload_n 3 l3 dLaw_805 rfl rfl ?_
        refine K_iconst 1 dLaw_806 rfl ?_
        refine K_iadd dLaw_807 (w32_id h227.1.1) ?_
        refine K_sald dLaw_808 h227.1.2.1 ?_
        refine K_aload_n 0 (-2) dLaw_809 rfl rfl ?_
        refine K_iload_n 3 l3 dLaw_810 rfl rfl ?_
        refine K_iconst 2 dLaw_811 rfl ?_
        refine K_iadd dLaw_812 (w32_id h227.1.2.2.1) ?_
        refine K_sald dLaw_813 h227.1.2.2.2.1 ?_
        refine K_aload_n 0 (-2) dLaw_814 rfl rfl ?_
        refine K_iload_n 3 l3 dLaw_815 rfl rfl ?_
        refine K_iconst 3 dLaw_816 rfl ?_
        refine K_iadd dLaw_817 (w32_id h227.1.2.2.2.2.1) ?_
        refine K_sald dLaw_818 h227.1.2.2.2.2.2 ?_
        refine K_callVi mM_common 12 76 [jvI (E.2.2.2.1 ((l3 + 1)).toNat).toInt, jvI (E.2.2.2.1 ((l3 + 2)).toNat).toInt, jvI (E.2.2.2.1 ((l3 + 3)).toNat).toInt] dLaw_819 pm_L_102 ⟨_, rfl, rfl⟩ ⟨(Nat.le_of_ble_eq_true rfl), (Nat.le_of_ble_eq_true rfl)⟩ rfl rfl (by decide) (Nat.le_of_ble_eq_true rfl) rfl (Nat.le_of_ble_eq_true rfl) (by decide) (Ci_mono h227.2 (fun r233 μ230 h231 => ?_))
        refine K_icmp_eq 1303 dLaw_822 (by decide) (fun c234 => ?_) (fun c234 => ?_)
        · refine K_iinc 3 dLaw_1303 (Nat.le_of_ble_eq_true rfl) rfl (w32_ok (h231.1 c234).1) rfl ?_
          refine K_goto 18 dLaw_1306 (by decide) ?_
          exact (h231.1 c234).2
        · refine K_iconst 0 dLaw_825 rfl ?_
          exact K_iret dLaw_826 (Or.inr ⟨rfl, (by decide)⟩) (h231.2 c234)
      | 21, _, ha9 =>
        have c4 : (iand32 (E.2.2.2.1 (l3).toNat).toInt 63) = 21 := by omega
        refine ⟨_, 827, rfl, by decide, ?_⟩
        refine K_aload_n 1 0 dLaw_827 rfl rfl ?_
        refine K_aload_n 0 (-2) dLaw_828 rfl rfl ?_
        refine K_iload_n 3 l3 dLaw_829 rfl rfl ?_
        refine K_iconst 1 dLaw_830 rfl ?_
        refine K_iadd dLaw_831 (w32_id ((hF.2.2 c1).2.2.2.2.2.2.2.2.2.2.2.2.2.2.2.2.2.2.2.2.2.2.1 c4).1.1) ?_
        refine K_sald dLaw_832 ((hF.2.2 c1).2.2.2.2.2.2.2.2.2.2.2.2.2.2.2.2.2.2.2.2.2.2.1 c4).1.2.1 ?_
        refine K_aload_n 0 (-2) dLaw_833 rfl rfl ?_
        refine K_iload_n 3 l3 dLaw_834 rfl rfl ?_
        refine K_iconst 2 dLaw_835 rfl ?_
        refine K_iadd dLaw_836 (w32_id ((hF.2.2 c1).2.2.2.2.2.2.2.2.2.2.2.2.2.2.2.2.2.2.2.2.2.2.1 c4).1.2.2.1) ?_
        refine K_sald dLaw_837 ((hF.2.2 c1).2.2.2.2.2.2.2.2.2.2.2.2.2.2.2.2.2.2.2.2.2.2.1 c4).1.2.2.2 ?_
        refine K_callVi mX_run 0 0 [jvI (E.2.2.2.1 ((l3 + 1)).toNat).toInt, jvI (E.2.2.2.1 ((l3 + 2)).toNat).toInt] dLaw_838 pm_L_103 ⟨_, rfl, rfl⟩ ⟨(Nat.le_of_ble_eq_true rfl), (Nat.le_of_ble_eq_true rfl)⟩ rfl rfl (by decide) (Nat.le_of_ble_eq_true rfl) rfl (Nat.le_of_ble_eq_true rfl) (by decide) (Ci_mono ((hF.2.2 c1).2.2.2.2.2.2.2.2.2.2.2.2.2.2.2.2.2.2.2.2.2.2.1 c4).2 (fun r240 μ237 h238 => ?_))
        refine K_aload_n 2 76 dLaw_841 rfl rfl ?_
        refine K_aload_n 0 (-2) dLaw_842 rfl rfl ?_
        refine K_iload_n 3 l3 dLaw_843 rfl rfl ?_
        refine K_iconst 1 dLaw_844 rfl ?_
        refine K_iadd dLaw_845 (w32_id h238.1.1) ?_
        refine K_sald dLaw_846 h238.1.2.1 ?_
        refine K_aload_n 0 (-2) dLaw_847 rfl rfl ?_
        refine K_iload_n 3 l3 dLaw_848 rfl rfl ?_
        refine K_iconst 2 dLaw_849 rfl ?_
        refine K_iadd dLaw_850 (w32_id h238.1.2.2.1) ?_
        refine K_sald dLaw_851 h238.1.2.2.2 ?_
        refine K_callVi mM_run 12 76 [jvI (E.2.2.2.1 ((l3 + 1)).toNat).toInt, jvI (E.2.2.2.1 ((l3 + 2)).toNat).toInt] dLaw_852 pm_L_106 ⟨_, rfl, rfl⟩ ⟨(Nat.le_of_ble_eq_true rfl), (Nat.le_of_ble_eq_true rfl)⟩ rfl rfl (by decide) (Nat.le_of_ble_eq_true rfl) rfl (Nat.le_of_ble_eq_true rfl) (by decide) (Ci_mono h238.2 (fun r244 μ241 h242 => ?_))
        refine K_icmp_eq 1303 dLaw_855 (by decide) (fun c245 => ?_) (fun c245 => ?_)
        · refine K_iinc 3 dLaw_1303 (Nat.le_of_ble_eq_true rfl) rfl (w32_ok (h242.1 c245).1) rfl ?_
          refine K_goto 18 dLaw_1306 (by decide) ?_
          exact (h242.1 c245).2
        · refine K_iconst 0 dLaw_858 rfl ?_
          exact K_iret dLaw_859 (Or.inr ⟨rfl, (by decide)⟩) (h242.2 c245)
      | 22, _, ha9 =>
        have c4 : (iand32 (E.2.2.2.1 (l3).toNat).toInt 63) = 22 := by omega
        refine ⟨_, 860, rfl, by decide, ?_⟩
        refine K_aload_n 1 0 dLaw_860 rfl rfl ?_
        refine K_aload_n 0 (-2) dLaw_861 rfl rfl ?_
        refine K_iload_n 3 l3 dLaw_862 rfl rfl ?_
        refine K_iconst 1 dLaw_863 rfl ?_
        refine K_iadd dLaw_864 (w32_id ((hF.2.2 c1).2.2.2.2.2.2.2.2.2.2.2.2.2.2.2.2.2.2.2.2.2.2.2.1 c4).1.1) ?_
        refine K_sald dLaw_865 ((hF.2.2 c1).2.2.2.2.2.2.2.2.2.2.2.2.2.2.2.2.2.2.2.2.2.2.2.1 c4).1.2.1 ?_
        refine K_aload_n 0 (-2) dLaw_866 rfl rfl ?_
        refine K_iload_n 3 l3 dLaw_867 rfl rfl ?_
        refine K_iconst 2 dLaw_868 rfl ?_
        refine K_iadd dLaw_869 (w32_id ((hF.2.2 c1).2.2.2.2.2.2.2.2.2.2.2.2.2.2.2.2.2.2.2.2.2.2.2.1 c4).1.2.2.1) ?_
        refine K_sald dLaw_870 ((hF.2.2 c1).2.2.2.2.2.2.2.2.2.2.2.2.2.2.2.2.2.2.2.2.2.2.2.1 c4).1.2.2.2.1 ?_
        refine K_aload_n 0 (-2) dLaw_871 rfl rfl ?_
        refine K_iload_n 3 l3 dLaw_872 rfl rfl ?_
        refine K_iconst 3 dLaw_873 rfl ?_
        refine K_iadd dLaw_874 (w32_id ((hF.2.2 c1).2.2.2.2.2.2.2.2.2.2.2.2.2.2.2.2.2.2.2.2.2.2.2.1 c4).1.2.2.2.2.1) ?_
        refine K_sald dLaw_875 ((hF.2.2 c1).2.2.2.2.2.2.2.2.2.2.2.2.2.2.2.2.2.2.2.2.2.2.2.1 c4).1.2.2.2.2.2 ?_
        refine K_callVi mX_alike 0 0 [jvI (E.2.2.2.1 ((l3 + 1)).toNat).toInt, jvI (E.2.2.2.1 ((l3 + 2)).toNat).toInt, jvI (E.2.2.2.1 ((l3 + 3)).toNat).toInt] dLaw_876 pm_L_107 ⟨_, rfl, rfl⟩ ⟨(Nat.le_of_ble_eq_true rfl), (Nat.le_of_ble_eq_true rfl)⟩ rfl rfl (by decide) (Nat.le_of_ble_eq_true rfl) rfl (Nat.le_of_ble_eq_true rfl) (by decide) (Ci_mono ((hF.2.2 c1).2.2.2.2.2.2.2.2.2.2.2.2.2.2.2.2.2.2.2.2.2.2.2.1 c4).2 (fun r251 μ248 h249 => ?_))
        refine K_aload_n 2 76 dLaw_879 rfl rfl ?_
        refine K_aload_n 0 (-2) dLaw_880 rfl rfl ?_
        refine K_iload_n 3 l3 dLaw_881 rfl rfl ?_
        refine K_iconst 1 dLaw_882 rfl ?_
        refine K_iadd dLaw_883 (w32_id h249.1.1) ?_
        refine K_sald dLaw_884 h249.1.2.1 ?_
        refine K_aload_n 0 (-2) dLaw_885 rfl rfl ?_
        refine K_iload_n 3 l3 dLaw_886 rfl rfl ?_
        refine K_iconst 2 dLaw_887 rfl ?_
        refine K_iadd dLaw_888 (w32_id h249.1.2.2.1) ?_
        refine K_sald dLaw_889 h249.1.2.2.2.1 ?_
        refine K_aload_n 0 (-2) dLaw_890 rfl rfl ?_
        refine K_iload_n 3 l3 dLaw_891 rfl rfl ?_
        refine K_iconst 3 dLaw_892 rfl ?_
        refine K_iadd dLaw_893 (w32_id h249.1.2.2.2.2.1) ?_
        refine K_sald dLaw_894 h249.1.2.2.2.2.2 ?_
        refine K_callVi mM_alike 12 76 [jvI (E.2.2.2.1 ((l3 + 1)).toNat).toInt, jvI (E.2.2.2.1 ((l3 + 2)).toNat).toInt, jvI (E.2.2.2.1 ((l3 + 3)).toNat).toInt] dLaw_895 pm_L_110 ⟨_, rfl, rfl⟩ ⟨(Nat.le_of_ble_eq_true rfl), (Nat.le_of_ble_eq_true rfl)⟩ rfl rfl (by decide) (Nat.le_of_ble_eq_true rfl) rfl (Nat.le_of_ble_eq_true rfl) (by decide) (Ci_mono h249.2 (fun r255 μ252 h253 => ?_))
        refine K_icmp_eq 1303 dLaw_898 (by decide) (fun c256 => ?_) (fun c256 => ?_)
        · refine K_iinc 3 dLaw_1303 (Nat.le_of_ble_eq_true rfl) rfl (w32_ok (h253.1 c256).1) rfl ?_
          refine K_goto 18 dLaw_1306 (by decide) ?_
          exact (h253.1 c256).2
        · refine K_iconst 0 dLaw_901 rfl ?_
          exact K_iret dLaw_902 (Or.inr ⟨rfl, (by decide)⟩) (h253.2 c256)
      | 23, _, ha9 =>
        have c4 : (iand32 (E.2.2.2.1 (l3).toNat).toInt 63) = 23 := by omega
        refine ⟨_, 903, rfl, by decide, ?_⟩
        refine K_aload_n 1 0 dLaw_903 rfl rfl ?_
        refine K_aload_n 0 (-2) dLaw_904 rfl rfl ?_
        refine K_iload_n 3 l3 dLaw_905 rfl rfl ?_
        refine K_iconst 1 dLaw_906 rfl ?_
        refine K_iadd dLaw_907 (w32_id ((hF.2.2 c1).2.2.2.2.2.2.2.2.2.2.2.2.2.2.2.2.2.2.2.2.2.2.2.2.1 c4).1.1) ?_
        refine K_sald dLaw_908 ((hF.2.2 c1).2.2.2.2.2.2.2.2.2.2.2.2.2.2.2.2.2.2.2.2.2.2.2.2.1 c4).1.2.1 ?_
        refine K_aload_n 0 (-2) dLaw_909 rfl rfl ?_
        refine K_iload_n 3 l3 dLaw_910 rfl rfl ?_
        refine K_iconst 2 dLaw_911 rfl ?_
        refine K_iadd dLaw_912 (w32_id ((hF.2.2 c1).2.2.2.2.2.2.2.2.2.2.2.2.2.2.2.2.2.2.2.2.2.2.2.2.1 c4).1.2.2.1) ?_
        refine K_sald dLaw_913 ((hF.2.2 c1).2.2.2.2.2.2.2.2.2.2.2.2.2.2.2.2.2.2.2.2.2.2.2.2.1 c4).1.2.2.2 ?_
        refine K_callVi mX_worth 0 0 [jvI (E.2.2.2.1 ((l3 + 1)).toNat).toInt, jvI (E.2.2.2.1 ((l3 + 2)).toNat).toInt] dLaw_914 pm_L_111 ⟨_, rfl, rfl⟩ ⟨(Nat.le_of_ble_eq_true rfl), (Nat.le_of_ble_eq_true rfl)⟩ rfl rfl (by decide) (Nat.le_of_ble_eq_true rfl) rfl (Nat.le_of_ble_eq_true rfl) (by decide) (Ci_mono ((hF.2.2 c1).2.2.2.2.2.2.2.2.2.2.2.2.2.2.2.2.2.2.2.2.2.2.2.2.1 c4).2 (fun r262 μ259 h260 => ?_))
        refine K_aload_n 2 76 dLaw_917 rfl rfl ?_
        refine K_aload_n 0 (-2) dLaw_918 rfl rfl ?_
        refine K_iload_n 3 l3 dLaw_919 rfl rfl ?_
        refine K_iconst 1 dLaw_920 rfl ?_
        refine K_iadd dLaw_921 (w32_id h260.1.1) ?_
        refine K_sald dLaw_922 h260.1.2.1 ?_
        refine K_aload_n 0 (-2) dLaw_923 rfl rfl ?_
        refine K_iload_n 3 l3 dLaw_924 rfl rfl ?_
        refine K_iconst 2 dLaw_925 rfl ?_
        refine K_iadd dLaw_926 (w32_id h260.1.2.2.1) ?_
        refine K_sald dLaw_927 h260.1.2.2.2 ?_
        refine K_callVi mM_worth 12 76 [jvI (E.2.2.2.1 ((l3 + 1)).toNat).toInt, jvI (E.2.2.2.1 ((l3 + 2)).toNat).toInt] dLaw_928 pm_L_114 ⟨_, rfl, rfl⟩ ⟨(Nat.le_of_ble_eq_true rfl), (Nat.le_of_ble_eq_true rfl)⟩ rfl rfl (by decide) (Nat.le_of_ble_eq_true rfl) rfl (Nat.le_of_ble_eq_true rfl) (by decide) (Ci_mono h260.2 (fun r266 μ263 h264 => ?_))
        refine K_icmp_eq 1303 dLaw_931 (by decide) (fun c267 => ?_) (fun c267 => ?_)
        · refine K_iinc 3 dLaw_1303 (Nat.le_of_ble_eq_true rfl) rfl (w32_ok (h264.1 c267).1) rfl ?_
          refine K_goto 18 dLaw_1306 (by decide) ?_
          exact (h264.1 c267).2
        · refine K_iconst 0 dLaw_934 rfl ?_
          exact K_iret dLaw_935 (Or.inr ⟨rfl, (by decide)⟩) (h264.2 c267)
      | 24, _, ha9 =>
        have c4 : (iand32 (E.2.2.2.1 (l3).toNat).toInt 63) = 24 := by omega
        refine ⟨_, 936, rfl, by decide, ?_⟩
        refine K_aload_n 1 0 dLaw_936 rfl rfl ?_
        refine K_aload_n 0 (-2) dLaw_937 rfl rfl ?_
        refine K_iload_n 3 l3 dLaw_938 rfl rfl ?_
        refine K_iconst 1 dLaw_939 rfl ?_
        refine K_iadd dLaw_940 (w32_id ((hF.2.2 c1).2.2.2.2.2.2.2.2.2.2.2.2.2.2.2.2.2.2.2.2.2.2.2.2.2.1 c4).1.1) ?_
        refine K_sald dLaw_941 ((hF.2.2 c1).2.2.2.2.2.2.2.2.2.2.2.2.2.2.2.2.2.2.2.2.2.2.2.2.2.1 c4).1.2 ?_
        refine K_callVi mX_lemma 0 0 [jvI (E.2.2.2.1 ((l3 + 1)).toNat).toInt] dLaw_942 pm_L_115 ⟨_, rfl, rfl⟩ ⟨(Nat.le_of_ble_eq_true rfl), (Nat.le_of_ble_eq_true rfl)⟩ rfl rfl (by decide) (Nat.le_of_ble_eq_true rfl) rfl (Nat.le_of_ble_eq_true rfl) (by decide) (Ci_mono ((hF.2.2 c1).2.2.2.2.2.2.2.2.2.2.2.2.2.2.2.2.2.2.2.2.2.2.2.2.2.1 c4).2 (fun r273 μ270 h271 => ?_))
        refine K_aload_n 2 76 dLaw_945 rfl rfl ?_
        refine K_aload_n 0 (-2) dLaw_946 rfl rfl ?_
        refine K_iload_n 3 l3 dLaw_947 rfl rfl ?_
        refine K_iconst 1 dLaw_948 rfl ?_
        refine K_iadd dLaw_949 (w32_id h271.1.1) ?_
        refine K_sald dLaw_950 h271.1.2 ?_
        refine K_callVi mM_lemma 12 76 [jvI (E.2.2.2.1 ((l3 + 1)).toNat).toInt] dLaw_951 pm_L_118 ⟨_, rfl, rfl⟩ ⟨(Nat.le_of_ble_eq_true rfl), (Nat.le_of_ble_eq_true rfl)⟩ rfl rfl (by decide) (Nat.le_of_ble_eq_true rfl) rfl (Nat.le_of_ble_eq_true rfl) (by decide) (Ci_mono h271.2 (fun r277 μ274 h275 => ?_))
        refine K_icmp_eq 1303 dLaw_954 (by decide) (fun c278 => ?_) (fun c278 => ?_)
        · refine K_iinc 3 dLaw_1303 (Nat.le_of_ble_eq_true rfl) rfl (w32_ok (h275.1 c278).1) rfl ?_
          refine K_goto 18 dLaw_1306 (by decide) ?_
          exact (h275.1 c278).2
        · refine K_iconst 0 dLaw_957 rfl ?_
          exact K_iret dLaw_958 (Or.inr ⟨rfl, (by decide)⟩) (h275.2 c278)
      | 25, _, ha9 =>
        have c4 : (iand32 (E.2.2.2.1 (l3).toNat).toInt 63) = 25 := by omega
        refine ⟨_, 959, rfl, by decide, ?_⟩
        refine K_aload_n 1 0 dLaw_959 rfl rfl ?_
        refine K_aload_n 0 (-2) dLaw_960 rfl rfl ?_
        refine K_iload_n 3 l3 dLaw_961 rfl rfl ?_
        refine K_iconst 1 dLaw_962 rfl ?_
        refine K_iadd dLaw_963 (w32_id ((hF.2.2 c1).2.2.2.2.2.2.2.2.2.2.2.2.2.2.2.2.2.2.2.2.2.2.2.2.2.2.1 c4).1.1) ?_
        refine K_sald dLaw_964 ((hF.2.2 c1).2.2.2.2.2.2.2.2.2.2.2.2.2.2.2.2.2.2.2.2.2.2.2.2.2.2.1 c4).1.2 ?_
        refine K_callVi mX_order 0 0 [jvI (E.2.2.2.1 ((l3 + 1)).toNat).toInt] dLaw_965 pm_L_119 ⟨_, rfl, rfl⟩ ⟨(Nat.le_of_ble_eq_true rfl), (Nat.le_of_ble_eq_true rfl)⟩ rfl rfl (by decide) (Nat.le_of_ble_eq_true rfl) rfl (Nat.le_of_ble_eq_true rfl) (by decide) (Ci_mono ((hF.2.2 c1).2.2.2.2.2.2.2.2.2.2.2.2.2.2.2.2.2.2.2.2.2.2.2.2.2.2.1 c4).2 (fun r284 μ281 h282 => ?_))
        refine K_aload_n 2 76 dLaw_968 rfl rfl ?_
        refine K_aload_n 0 (-2) dLaw_969 rfl rfl ?_
        refine K_iload_n 3 l3 dLaw_970 rfl rfl ?_
        refine K_iconst 1 dLaw_971 rfl ?_
        refine K_iadd dLaw_972 (w32_id h282.1.1) ?_
        refine K_sald dLaw_973 h282.1.2 ?_
        refine K_callVi mM_order 12 76 [jvI (E.2.2.2.1 ((l3 + 1)).toNat).toInt] dLaw_974 pm_L_122 ⟨_, rfl, rfl⟩ ⟨(Nat.le_of_ble_eq_true rfl), (Nat.le_of_ble_eq_true rfl)⟩ rfl rfl (by decide) (Nat.le_of_ble_eq_true rfl) rfl (Nat.le_of_ble_eq_true rfl) (by decide) (Ci_mono h282.2 (fun r288 μ285 h286 => ?_))
        refine K_icmp_eq 1303 dLaw_977 (by decide) (fun c289 => ?_) (fun c289 => ?_)
        · refine K_iinc 3 dLaw_1303 (Nat.le_of_ble_eq_true rfl) rfl (w32_ok (h286.1 c289).1) rfl ?_
          refine K_goto 18 dLaw_1306 (by decide) ?_
          exact (h286.1 c289).2
        · refine K_iconst 0 dLaw_980 rfl ?_
          exact K_iret dLaw_981 (Or.inr ⟨rfl, (by decide)⟩) (h286.2 c289)
      | 26, _, ha9 =>
        have c4 : (iand32 (E.2.2.2.1 (l3).toNat).toInt 63) = 26 := by omega
        refine ⟨_, 982, rfl, by decide, ?_⟩
        refine K_aload_n 1 0 dLaw_982 rfl rfl ?_
        refine K_callVi mX_held 0 0 [] dLaw_983 pm_L_123 ⟨_, rfl, rfl⟩ ⟨(Nat.le_of_ble_eq_true rfl), (Nat.le_of_ble_eq_true rfl)⟩ rfl rfl (by decide) (Nat.le_of_ble_eq_true rfl) rfl (Nat.le_of_ble_eq_true rfl) (by decide) (Ci_mono ((hF.2.2 c1).2.2.2.2.2.2.2.2.2.2.2.2.2.2.2.2.2.2.2.2.2.2.2.2.2.2.2.1 c4) (fun r295 μ292 h293 => ?_))
        refine K_aload_n 2 76 dLaw_986 rfl rfl ?_
        refine K_callVi mM_held 12 76 [] dLaw_987 pm_L_126 ⟨_, rfl, rfl⟩ ⟨(Nat.le_of_ble_eq_true rfl), (Nat.le_of_ble_eq_true rfl)⟩ rfl rfl (by decide) (Nat.le_of_ble_eq_true rfl) rfl (Nat.le_of_ble_eq_true rfl) (by decide) (Ci_mono h293 (fun r299 μ296 h297 => ?_))
        refine K_icmp_eq 1303 dLaw_990 (by decide) (fun c300 => ?_) (fun c300 => ?_)
        · refine K_iinc 3 dLaw_1303 (Nat.le_of_ble_eq_true rfl) rfl (w32_ok (h297.1 c300).1) rfl ?_
          refine K_goto 18 dLaw_1306 (by decide) ?_
          exact (h297.1 c300).2
        · refine K_iconst 0 dLaw_993 rfl ?_
          exact K_iret dLaw_994 (Or.inr ⟨rfl, (by decide)⟩) (h297.2 c300)
      | 27, _, ha9 =>
        have c4 : (iand32 (E.2.2.2.1 (l3).toNat).toInt 63) = 27 := by omega
        refine ⟨_, 995, rfl, by decide, ?_⟩
        refine K_aload_n 1 0 dLaw_995 rfl rfl ?_
        refine K_aload_n 0 (-2) dLaw_996 rfl rfl ?_
        refine K_iload_n 3 l3 dLaw_997 rfl rfl ?_
        refine K_iconst 1 dLaw_998 rfl ?_
        refine K_iadd dLaw_999 (w32_id ((hF.2.2 c1).2.2.2.2.2.2.2.2.2.2.2.2.2.2.2.2.2.2.2.2.2.2.2.2.2.2.2.2.1 c4).1.1) ?_
        refine K_sald dLaw_1000 ((hF.2.2 c1).2.2.2.2.2.2.2.2.2.2.2.2.2.2.2.2.2.2.2.2.2.2.2.2.2.2.2.2.1 c4).1.2.1 ?_
        refine K_aload_n 0 (-2) dLaw_1001 rfl rfl ?_
        refine K_iload_n 3 l3 dLaw_1002 rfl rfl ?_
        refine K_iconst 2 dLaw_1003 rfl ?_
        refine K_iadd dLaw_1004 (w32_id ((hF.2.2 c1).2.2.2.2.2.2.2.2.2.2.2.2.2.2.2.2.2.2.2.2.2.2.2.2.2.2.2.2.1 c4).1.2.2.1) ?_
        refine K_sald dLaw_1005 ((hF.2.2 c1).2.2.2.2.2.2.2.2.2.2.2.2.2.2.2.2.2.2.2.2.2.2.2.2.2.2.2.2.1 c4).1.2.2.2 ?_
        refine K_callVi mX_pages 0 0 [jvI (E.2.2.2.1 ((l3 + 1)).toNat).toInt, jvI (E.2.2.2.1 ((l3 + 2)).toNat).toInt] dLaw_1006 pm_L_127 ⟨_, rfl, rfl⟩ ⟨(Nat.le_of_ble_eq_true rfl), (Nat.le_of_ble_eq_true rfl)⟩ rfl rfl (by decide) (Nat.le_of_ble_eq_true rfl) rfl (Nat.le_of_ble_eq_true rfl) (by decide) (Ci_mono ((hF.2.2 c1).2.2.2.2.2.2.2.2.2.2.2.2.2.2.2.2.2.2.2.2.2.2.2.2.2.2.2.2.1 c4).2 (fun r306 μ303 h304 => ?_))
        refine K_aload_n 2 76 dLaw_1009 rfl rfl ?_
        refine K_aload_n 0 (-2) dLaw_1010 rfl rfl ?_
        refine K_iload_n 3 l3 dLaw_1011 rfl rfl ?_
        refine K_iconst 1 dLaw_1012 rfl ?_
        refine K_iadd dLaw_1013 (w32_id h304.1.1) ?_
        refine K_sald dLaw_1014 h304.1.2.1 ?_
        refine K_aload_n 0 (-2) dLaw_1015 rfl rfl ?_
        refine K_iload_n 3 l3 dLaw_1016 rfl rfl ?_
        refine K_iconst 2 dLaw_1017 rfl ?_
        refine K_iadd dLaw_1018 (w32_id h304.1.2.2.1) ?_
        refine K_sald dLaw_1019 h304.1.2.2.2 ?_
        refine K_callVi mM_pages 12 76 [jvI (E.2.2.2.1 ((l3 + 1)).toNat).toInt, jvI (E.2.2.2.1 ((l3 + 2)).toNat).toInt] dLaw_1020 pm_L_130 ⟨_, rfl, rfl⟩ ⟨(Nat.le_of_ble_eq_true rfl), (Nat.le_of_ble_eq_true rfl)⟩ rfl rfl (by decide) (Nat.le_of_ble_eq_true rfl) rfl (Nat.le_of_ble_eq_true rfl) (by decide) (Ci_mono h304.2 (fun r310 μ307 h308 => ?_))
        refine K_icmp_eq 1303 dLaw_1023 (by decide) (fun c311 => ?_) (fun c311 => ?_)
        · refine K_iinc 3 dLaw_1303 (Nat.le_of_ble_eq_true rfl) rfl (w32_ok (h308.1 c311).1) rfl ?_
          refine K_goto 18 dLaw_1306 (by decide) ?_
          exact (h308.1 c311).2
        · refine K_iconst 0 dLaw_1026 rfl ?_
          exact K_iret dLaw_1027 (Or.inr ⟨rfl, (by decide)⟩) (h308.2 c311)
      | 28, _, ha9 =>
        have c4 : (iand32 (E.2.2.2.1 (l3).toNat).toInt 63) = 28 := by omega
        refine ⟨_, 1028, rfl, by decide, ?_⟩
        refine K_aload_n 1 0 dLaw_1028 rfl rfl ?_
        refine K_aload_n 0 (-2) dLaw_1029 rfl rfl ?_
        refine K_iload_n 3 l3 dLaw_1030 rfl rfl ?_
        refine K_iconst 1 dLaw_1031 rfl ?_
        refine K_iadd dLaw_1032 (w32_id ((hF.2.2 c1).2.2.2.2.2.2.2.2.2.2.2.2.2.2.2.2.2.2.2.2.2.2.2.2.2.2.2.2.2.1 c4).1.1) ?_
        refine K_sald dLaw_1033 ((hF.2.2 c1).2.2.2.2.2.2.2.2.2.2.2.2.2.2.2.2.2.2.2.2.2.2.2.2.2.2.2.2.2.1 c4).1.2.1 ?_
        refine K_aload_n 0 (-2) dLaw_1034 rfl rfl ?_
        refine K_iload_n 3 l3 dLaw_1035 rfl rfl ?_
        refine K_iconst 2 dLaw_1036 rfl ?_
        refine K_iadd dLaw_1037 (w32_id ((hF.2.2 c1).2.2.2.2.2.2.2.2.2.2.2.2.2.2.2.2.2.2.2.2.2.2.2.2.2.2.2.2.2.1 c4).1.2.2.1) ?_
        refine K_sald dLaw_1038 ((hF.2.2 c1).2.2.2.2.2.2.2.2.2.2.2.2.2.2.2.2.2.2.2.2.2.2.2.2.2.2.2.2.2.1 c4).1.2.2.2 ?_
        refine K_if_eq 1046 dLaw_1039 (by decide) (fun c314 => ?_) (fun c314 => ?_)
        · refine K_iconst 0 dLaw_1046 rfl ?_
          refine K_callVi mX_blame 0 0 [jvI (E.2.2.2.1 ((l3 + 1)).toNat).toInt, jvI 0] dLaw_1047 pm_L_131 ⟨_, rfl, rfl⟩ ⟨(Nat.le_of_ble_eq_true rfl), (Nat.le_of_ble_eq_true rfl)⟩ rfl rfl (by decide) (Nat.le_of_ble_eq_true rfl) rfl (Nat.le_of_ble_eq_true rfl) (by decide) (Ci_mono (((hF.2.2 c1).2.2.2.2.2.2.2.2.2.2.2.2.2.2.2.2.2.2.2.2.2.2.2.2.2.2.2.2.2.1 c4).2.1 c314) (fun r319 μ316 h317 => ?_))
          refine K_aload_n 2 76 dLaw_1050 rfl rfl ?_
          refine K_aload_n 0 (-2) dLaw_1051 rfl rfl ?_
          refine K_iload_n 3 l3 dLaw_1052 rfl rfl ?_
          refine K_iconst 1 dLaw_1053 rfl ?_
          refine K_iadd dLaw_1054 (w32_id h317.1.1) ?_
          refine K_sald dLaw_1055 h317.1.2.1 ?_
          refine K_aload_n 0 (-2) dLaw_1056 rfl rfl ?_
          refine K_iload_n 3 l3 dLaw_1057 rfl rfl ?_
          refine K_iconst 2 dLaw_1058 rfl ?_
          refine K_iadd dLaw_1059 (w32_id h317.1.2.2.1) ?_
          refine K_sald dLaw_1060 h317.1.2.2.2 ?_
          refine K_if_eq 1068 dLaw_1061 (by decide) (fun c320 => ?_) (fun c320 => ?_)
          · refine K_iconst 0 dLaw_1068 rfl ?_
            refine K_callVi mM_blame 12 76 [jvI (E.2.2.2.1 ((l3 + 1)).toNat).toInt, jvI 0] dLaw_1069 pm_L_135 ⟨_, rfl, rfl⟩ ⟨(Nat.le_of_ble_eq_true rfl), (Nat.le_of_ble_eq_true rfl)⟩ rfl rfl (by decide) (Nat.le_of_ble_eq_true rfl) rfl (Nat.le_of_ble_eq_true rfl) (by decide) (Ci_mono (h317.2.1 c320) (fun r325 μ322 h323 => ?_))
            refine K_icmp_eq 1303 dLaw_1072 (by decide) (fun c326 => ?_) (fun c326 => ?_)
            · refine K_iinc 3 dLaw_1303 (Nat.le_of_ble_eq_true rfl) rfl (w32_ok (h323.1 c326).1) rfl ?_
              refine K_goto 18 dLaw_1306 (by decide) ?_
              exact (h323.1 c326).2
            · refine K_iconst 0 dLaw_1075 rfl ?_
              exact K_iret dLaw_1076 (Or.inr ⟨rfl, (by decide)⟩) (h323.2 c326)
          · refine K_iconst 1 dLaw_1064 rfl ?_
            refine K_goto 1069 dLaw_1065 (by decide) ?_
            refine K_callVi mM_blame 12 76 [jvI (E.2.2.2.1 ((l3 + 1)).toNat).toInt, jvI 1] dLaw_1069 pm_L_135 ⟨_, rfl, rfl⟩ ⟨(Nat.le_of_ble_eq_true rfl), (Nat.le_of_ble_eq_true rfl)⟩ rfl rfl (by decide) (Nat.le_of_ble_eq_true rfl) rfl (Nat.le_of_ble_eq_true rfl) (by decide) (Ci_mono (h317.2.2 c320) (fun r332 μ329 h330 => ?_))
            refine K_icmp_eq 1303 dLaw_1072 (by decide) (fun c333 => ?_) (fun c333 => ?_)
            · refine K_iinc 3 dLaw_1303 (Nat.le_of_ble_eq_true rfl) rfl (w32_ok (h330.1 c333).1) rfl ?_
              refine K_goto 18 dLaw_1306 (by decide) ?_
              exact (h330.1 c333).2
            · refine K_iconst 0 dLaw_1075 rfl ?_
              exact K_iret dLaw_1076 (Or.inr ⟨rfl, (by decide)⟩) (h330.2 c333)
        · refine K_iconst 1 dLaw_1042 rfl ?_
          refine K_goto 1047 dLaw_1043 (by decide) ?_
          refine K_callVi mX_blame 0 0 [jvI (E.2.2.2.1 ((l3 + 1)).toNat).toInt, jvI 1] dLaw_1047 pm_L_131 ⟨_, rfl, rfl⟩ ⟨(Nat.le_of_ble_eq_true rfl), (Nat.le_of_ble_eq_true rfl)⟩ rfl rfl (by decide) (Nat.le_of_ble_eq_true rfl) rfl (Nat.le_of_ble_eq_true rfl) (by decide) (Ci_mono (((hF.2.2 c1).2.2.2.2.2.2.2.2.2.2.2.2.2.2.2.2.2.2.2.2.2.2.2.2.2.2.2.2.2.1 c4).2.2 c314) (fun r339 μ336 h337 => ?_))
          refine K_aload_n 2 76 dLaw_1050 rfl rfl ?_
          refine K_aload_n 0 (-2) dLaw_1051 rfl rfl ?_
          refine K_iload_n 3 l3 dLaw_1052 rfl rfl ?_
          refine K_iconst 1 dLaw_1053 rfl ?_
          refine K_iadd dLaw_1054 (w32_id h337.1.1) ?_
          refine K_sald dLaw_1055 h337.1.2.1 ?_
          refine K_aload_n 0 (-2) dLaw_1056 rfl rfl ?_
          refine K_iload_n 3 l3 dLaw_1057 rfl rfl ?_
          refine K_iconst 2 dLaw_1058 rfl ?_
          refine K_iadd dLaw_1059 (w32_id h337.1.2.2.1) ?_
          refine K_sald dLaw_1060 h337.1.2.2.2 ?_
          refine K_if_eq 1068 dLaw_1061 (by decide) (fun c340 => ?_) (fun c340 => ?_)
          · refine K_iconst 0 dLaw_1068 rfl ?_
            refine K_callVi mM_blame 12 76 [jvI (E.2.2.2.1 ((l3 + 1)).toNat).toInt, jvI 0] dLaw_1069 pm_L_135 ⟨_, rfl, rfl⟩ ⟨(Nat.le_of_ble_eq_true rfl), (Nat.le_of_ble_eq_true rfl)⟩ rfl rfl (by decide) (Nat.le_of_ble_eq_true rfl) rfl (Nat.le_of_ble_eq_true rfl) (by decide) (Ci_mono (h337.2.1 c340) (fun r345 μ342 h343 => ?_))
            refine K_icmp_eq 1303 dLaw_1072 (by decide) (fun c346 => ?_) (fun c346 => ?_)
            · refine K_iinc 3 dLaw_1303 (Nat.le_of_ble_eq_true rfl) rfl (w32_ok (h343.1 c346).1) rfl ?_
              refine K_goto 18 dLaw_1306 (by decide) ?_
              exact (h343.1 c346).2
            · refine K_iconst 0 dLaw_1075 rfl ?_
              exact K_iret dLaw_1076 (Or.inr ⟨rfl, (by decide)⟩) (h343.2 c346)
          · refine K_iconst 1 dLaw_1064 rfl ?_
            refine K_goto 1069 dLaw_1065 (by decide) ?_
            refine K_callVi mM_blame 12 76 [jvI (E.2.2.2.1 ((l3 + 1)).toNat).toInt, jvI 1] dLaw_1069 pm_L_135 ⟨_, rfl, rfl⟩ ⟨(Nat.le_of_ble_eq_true rfl), (Nat.le_of_ble_eq_true rfl)⟩ rfl rfl (by decide) (Nat.le_of_ble_eq_true rfl) rfl (Nat.le_of_ble_eq_true rfl) (by decide) (Ci_mono (h337.2.2 c340) (fun r352 μ349 h350 => ?_))
            refine K_icmp_eq 1303 dLaw_1072 (by decide) (fun c353 => ?_) (fun c353 => ?_)
            · refine K_iinc 3 dLaw_1303 (Nat.le_of_ble_eq_true rfl) rfl (w32_ok (h350.1 c353).1) rfl ?_
              refine K_goto 18 dLaw_1306 (by decide) ?_
              exact (h350.1 c353).2
            · refine K_iconst 0 dLaw_1075 rfl ?_
              exact K_iret dLaw_1076 (Or.inr ⟨rfl, (by decide)⟩) (h350.2 c353)
      | 29, _, ha9 =>
        have c4 : (iand32 (E.2.2.2.1 (l3).toNat).toInt 63) = 29 := by omega
        refine ⟨_, 1077, rfl, by decide, ?_⟩
        refine K_aload_n 1 0 dLaw_1077 rfl rfl ?_
        refine K_callVi mX_stands 0 0 [] dLaw_1078 pm_L_136 ⟨_, rfl, rfl⟩ ⟨(Nat.le_of_ble_eq_true rfl), (Nat.le_of_ble_eq_true rfl)⟩ rfl rfl (by decide) (Nat.le_of_ble_eq_true rfl) rfl (Nat.le_of_ble_eq_true rfl) (by decide) (Ci_mono ((hF.2.2 c1).2.2.2.2.2.2.2.2.2.2.2.2.2.2.2.2.2.2.2.2.2.2.2.2.2.2.2.2.2.2.1 c4) (fun r359 μ356 h357 => ?_))
        refine K_aload_n 2 76 dLaw_1081 rfl rfl ?_
        refine K_callVi mM_stands 12 76 [] dLaw_1082 pm_L_139 ⟨_, rfl, rfl⟩ ⟨(Nat.le_of_ble_eq_true rfl), (Nat.le_of_ble_eq_true rfl)⟩ rfl rfl (by decide) (Nat.le_of_ble_eq_true rfl) rfl (Nat.le_of_ble_eq_true rfl) (by decide) (Ci_mono h357 (fun r363 μ360 h361 => ?_))
        refine K_icmp_eq 1303 dLaw_1085 (by decide) (fun c364 => ?_) (fun c364 => ?_)
        · refine K_iinc 3 dLaw_1303 (Nat.le_of_ble_eq_true rfl) rfl (w32_ok (h361.1 c364).1) rfl ?_
          refine K_goto 18 dLaw_1306 (by decide) ?_
          exact (h361.1 c364).2
        · refine K_iconst 0 dLaw_1088 rfl ?_
          exact K_iret dLaw_1089 (Or.inr ⟨rfl, (by decide)⟩) (h361.2 c364)
      | 30, _, ha9 =>
        have c4 : (iand32 (E.2.2.2.1 (l3).toNat).toInt 63) = 30 := by omega
        refine ⟨_, 1090, rfl, by decide, ?_⟩
        refine K_aload_n 1 0 dLaw_1090 rfl rfl ?_
        refine K_aload_n 0 (-2) dLaw_1091 rfl rfl ?_
        refine K_iload_n 3 l3 dLaw_1092 rfl rfl ?_
        refine K_iconst 1 dLaw_1093 rfl ?_
        refine K_iadd dLaw_1094 (w32_id ((hF.2.2 c1).2.2.2.2.2.2.2.2.2.2.2.2.2.2.2.2.2.2.2.2.2.2.2.2.2.2.2.2.2.2.2.1 c4).1.1) ?_
        refine K_sald dLaw_1095 ((hF.2.2 c1).2.2.2.2.2.2.2.2.2.2.2.2.2.2.2.2.2.2.2.2.2.2.2.2.2.2.2.2.2.2.2.1 c4).1.2 ?_
        refine K_callVi mX_fewest 0 0 [jvI (E.2.2.2.1 ((l3 + 1)).toNat).toInt] dLaw_1096 pm_L_140 ⟨_, rfl, rfl⟩ ⟨(Nat.le_of_ble_eq_true rfl), (Nat.le_of_ble_eq_true rfl)⟩ rfl rfl (by decide) (Nat.le_of_ble_eq_true rfl) rfl (Nat.le_of_ble_eq_true rfl) (by decide) (Ci_mono ((hF.2.2 c1).2.2.2.2.2.2.2.2.2.2.2.2.2.2.2.2.2.2.2.2.2.2.2.2.2.2.2.2.2.2.2.1 c4).2 (fun r370 μ367 h368 => ?_))
        refine K_aload_n 2 76 dLaw_1099 rfl rfl ?_
        refine K_aload_n 0 (-2) dLaw_1100 rfl rfl ?_
        refine K_iload_n 3 l3 dLaw_1101 rfl rfl ?_
        refine K_iconst 1 dLaw_1102 rfl ?_
        refine K_iadd dLaw_1103 (w32_id h368.1.1) ?_
        refine K_sald dLaw_1104 h368.1.2 ?_
        refine K_callVi mM_fewest 12 76 [jvI (E.2.2.2.1 ((l3 + 1)).toNat).toInt] dLaw_1105 pm_L_143 ⟨_, rfl, rfl⟩ ⟨(Nat.le_of_ble_eq_true rfl), (Nat.le_of_ble_eq_true rfl)⟩ rfl rfl (by decide) (Nat.le_of_ble_eq_true rfl) rfl (Nat.le_of_ble_eq_true rfl) (by decide) (Ci_mono h368.2 (fun r374 μ371 h372 => ?_))
        refine K_icmp_eq 1303 dLaw_1108 (by decide) (fun c375 => ?_) (fun c375 => ?_)
        · refine K_iinc 3 dLaw_1303 (Nat.le_of_ble_eq_true rfl) rfl (w32_ok (h372.1 c375).1) rfl ?_
          refine K_goto 18 dLaw_1306 (by decide) ?_
          exact (h372.1 c375).2
        · refine K_iconst 0 dLaw_1111 rfl ?_
          exact K_iret dLaw_1112 (Or.inr ⟨rfl, (by decide)⟩) (h372.2 c375)
      | 31, _, ha9 =>
        have c4 : (iand32 (E.2.2.2.1 (l3).toNat).toInt 63) = 31 := by omega
        refine ⟨_, 1113, rfl, by decide, ?_⟩
        refine K_aload_n 1 0 dLaw_1113 rfl rfl ?_
        refine K_aload_n 0 (-2) dLaw_1114 rfl rfl ?_
        refine K_iload_n 3 l3 dLaw_1115 rfl rfl ?_
        refine K_iconst 1 dLaw_1116 rfl ?_
        refine K_iadd dLaw_1117 (w32_id ((hF.2.2 c1).2.2.2.2.2.2.2.2.2.2.2.2.2.2.2.2.2.2.2.2.2.2.2.2.2.2.2.2.2.2.2.2.1 c4).1.1) ?_
        refine K_sald dLaw_1118 ((hF.2.2 c1).2.2.2.2.2.2.2.2.2.2.2.2.2.2.2.2.2.2.2.2.2.2.2.2.2.2.2.2.2.2.2.2.1 c4).1.2.1 ?_
        refine K_aload_n 0 (-2) dLaw_1119 rfl rfl ?_
        refine K_iload_n 3 l3 dLaw_1120 rfl rfl ?_
        refine K_iconst 2 dLaw_1121 rfl ?_
        refine K_iadd dLaw_1122 (w32_id ((hF.2.2 c1).2.2.2.2.2.2.2.2.2.2.2.2.2.2.2.2.2.2.2.2.2.2.2.2.2.2.2.2.2.2.2.2.1 c4).1.2.2.1) ?_
        refine K_sald dLaw_1123 ((hF.2.2 c1).2.2.2.2.2.2.2.2.2.2.2.2.2.2.2.2.2.2.2.2.2.2.2.2.2.2.2.2.2.2.2.2.1 c4).1.2.2.2 ?_
        refine K_if_eq 1131 dLaw_1124 (by decide) (fun c378 => ?_) (fun c378 => ?_)
        · refine K_iconst 0 dLaw_1131 rfl ?_
          refine K_callVi mX_ask 0 0 [jvI (E.2.2.2.1 ((l3 + 1)).toNat).toInt, jvI 0] dLaw_1132 pm_L_144 ⟨_, rfl, rfl⟩ ⟨(Nat.le_of_ble_eq_true rfl), (Nat.le_of_ble_eq_true rfl)⟩ rfl rfl (by decide) (Nat.le_of_ble_eq_true rfl) rfl (Nat.le_of_ble_eq_true rfl) (by decide) (Ci_mono (((hF.2.2 c1).2.2.2.2.2.2.2.2.2.2.2.2.2.2.2.2.2.2.2.2.2.2.2.2.2.2.2.2.2.2.2.2.1 c4).2.1 c378) (fun r383 μ380 h381 => ?_))
          refine K_aload_n 2 76 dLaw_1135 rfl rfl ?_
          refine K_aload_n 0 (-2) dLaw_1136 rfl rfl ?_
          refine K_iload_n 3 l3 dLaw_1137 rfl rfl ?_
          refine K_iconst 1 dLaw_1138 rfl ?_
          refine K_iadd dLaw_1139 (w32_id h381.1.1) ?_
          refine K_sald dLaw_1140 h381.1.2.1 ?_
          refine K_aload_n 0 (-2) dLaw_1141 rfl rfl ?_
          refine K_iload_n 3 l3 dLaw_1142 rfl rfl ?_
          refine K_iconst 2 dLaw_1143 rfl ?_
          refine K_iadd dLaw_1144 (w32_id h381.1.2.2.1) ?_
          refine K_sald dLaw_1145 h381.1.2.2.2 ?_
          refine K_if_eq 1153 dLaw_1146 (by decide) (fun c384 => ?_) (fun c384 => ?_)
          · refine K_iconst 0 dLaw_1153 rfl ?_
            refine K_callVi mM_ask 12 76 [jvI (E.2.2.2.1 ((l3 + 1)).toNat).toInt, jvI 0] dLaw_1154 pm_L_147 ⟨_, rfl, rfl⟩ ⟨(Nat.le_of_ble_eq_true rfl), (Nat.le_of_ble_eq_true rfl)⟩ rfl rfl (by decide) (Nat.le_of_ble_eq_true rfl) rfl (Nat.le_of_ble_eq_true rfl) (by decide) (Ci_mono (h381.2.1 c384) (fun r389 μ386 h387 => ?_))
            refine K_icmp_eq 1303 dLaw_1157 (by decide) (fun c390 => ?_) (fun c390 => ?_)
            · refine K_iinc 3 dLaw_1303 (Nat.le_of_ble_eq_true rfl) rfl (w32_ok (h387.1 c390).1) rfl ?_
              refine K_goto 18 dLaw_1306 (by decide) ?_
              exact (h387.1 c390).2
            · refine K_iconst 0 dLaw_1160 rfl ?_
              exact K_iret dLaw_1161 (Or.inr ⟨rfl, (by decide)⟩) (h387.2 c390)
          · refine K_iconst 1 dLaw_1149 rfl ?_
            refine K_goto 1154 dLaw_1150 (by decide) ?_
            refine K_callVi mM_ask 12 76 [jvI (E.2.2.2.1 ((l3 + 1)).toNat).toInt, jvI 1] dLaw_1154 pm_L_147 ⟨_, rfl, rfl⟩ ⟨(Nat.le_of_ble_eq_true rfl), (Nat.le_of_ble_eq_true rfl)⟩ rfl rfl (by decide) (Nat.le_of_ble_eq_true rfl) rfl (Nat.le_of_ble_eq_true rfl) (by decide) (Ci_mono (h381.2.2 c384) (fun r396 μ393 h394 => ?_))
            refine K_icmp_eq 1303 dLaw_1157 (by decide) (fun c397 => ?_) (fun c397 => ?_)
            · refine K_iinc 3 dLaw_1303 (Nat.le_of_ble_eq_true rfl) rfl (w32_ok (h394.1 c397).1) rfl ?_
              refine K_goto 18 dLaw_1306 (by decide) ?_
              exact (h394.1 c397).2
            · refine K_iconst 0 dLaw_1160 rfl ?_
              exact K_iret dLaw_1161 (Or.inr ⟨rfl, (by decide)⟩) (h394.2 c397)
        · refine K_iconst 1 dLaw_1127 rfl ?_
          refine K_goto 1132 dLaw_1128 (by decide) ?_
          refine K_callVi mX_ask 0 0 [jvI (E.2.2.2.1 ((l3 + 1)).toNat).toInt, jvI 1] dLaw_1132 pm_L_144 ⟨_, rfl, rfl⟩ ⟨(Nat.le_of_ble_eq_true rfl), (Nat.le_of_ble_eq_true rfl)⟩ rfl rfl (by decide) (Nat.le_of_ble_eq_true rfl) rfl (Nat.le_of_ble_eq_true rfl) (by decide) (Ci_mono (((hF.2.2 c1).2.2.2.2.2.2.2.2.2.2.2.2.2.2.2.2.2.2.2.2.2.2.2.2.2.2.2.2.2.2.2.2.1 c4).2.2 c378) (fun r403 μ400 h401 => ?_))
          refine K_aload_n 2 76 dLaw_1135 rfl rfl ?_
          refine K_aload_n 0 (-2) dLaw_1136 rfl rfl ?_
          refine K_iload_n 3 l3 dLaw_1137 rfl rfl ?_
          refine K_iconst 1 dLaw_1138 rfl ?_
          refine K_iadd dLaw_1139 (w32_id h401.1.1) ?_
          refine K_sald dLaw_1140 h401.1.2.1 ?_
          refine K_aload_n 0 (-2) dLaw_1141 rfl rfl ?_
          refine K_iload_n 3 l3 dLaw_1142 rfl rfl ?_
          refine K_iconst 2 dLaw_1143 rfl ?_
          refine K_iadd dLaw_1144 (w32_id h401.1.2.2.1) ?_
          refine K_sald dLaw_1145 h401.1.2.2.2 ?_
          refine K_if_eq 1153 dLaw_1146 (by decide) (fun c404 => ?_) (fun c404 => ?_)
          · refine K_iconst 0 dLaw_1153 rfl ?_
            refine K_callVi mM_ask 12 76 [jvI (E.2.2.2.1 ((l3 + 1)).toNat).toInt, jvI 0] dLaw_1154 pm_L_147 ⟨_, rfl, rfl⟩ ⟨(Nat.le_of_ble_eq_true rfl), (Nat.le_of_ble_eq_true rfl)⟩ rfl rfl (by decide) (Nat.le_of_ble_eq_true rfl) rfl (Nat.le_of_ble_eq_true rfl) (by decide) (Ci_mono (h401.2.1 c404) (fun r409 μ406 h407 => ?_))
            refine K_icmp_eq 1303 dLaw_1157 (by decide) (fun c410 => ?_) (fun c410 => ?_)
            · refine K_iinc 3 dLaw_1303 (Nat.le_of_ble_eq_true rfl) rfl (w32_ok (h407.1 c410).1) rfl ?_
              refine K_goto 18 dLaw_1306 (by decide) ?_
              exact (h407.1 c410).2
            · refine K_iconst 0 dLaw_1160 rfl ?_
              exact K_iret dLaw_1161 (Or.inr ⟨rfl, (by decide)⟩) (h407.2 c410)
          · refine K_iconst 1 dLaw_1149 rfl ?_
            refine K_goto 1154 dLaw_1150 (by decide) ?_
            refine K_callVi mM_ask 12 76 [jvI (E.2.2.2.1 ((l3 + 1)).toNat).toInt, jvI 1] dLaw_1154 pm_L_147 ⟨_, rfl, rfl⟩ ⟨(Nat.le_of_ble_eq_true rfl), (Nat.le_of_ble_eq_true rfl)⟩ rfl rfl (by decide) (Nat.le_of_ble_eq_true rfl) rfl (Nat.le_of_ble_eq_true rfl) (by decide) (Ci_mono (h401.2.2 c404) (fun r416 μ413 h414 => ?_))
            refine K_icmp_eq 1303 dLaw_1157 (by decide) (fun c417 => ?_) (fun c417 => ?_)
            · refine K_iinc 3 dLaw_1303 (Nat.le_of_ble_eq_true rfl) rfl (w32_ok (h414.1 c417).1) rfl ?_
              refine K_goto 18 dLaw_1306 (by decide) ?_
              exact (h414.1 c417).2
            · refine K_iconst 0 dLaw_1160 rfl ?_
              exact K_iret dLaw_1161 (Or.inr ⟨rfl, (by decide)⟩) (h414.2 c417)
      | 32, _, ha9 =>
        have c4 : (iand32 (E.2.2.2.1 (l3).toNat).toInt 63) = 32 := by omega
        refine ⟨_, 1162, rfl, by decide, ?_⟩
        refine K_aload_n 1 0 dLaw_1162 rfl rfl ?_
        refine K_aload_n 0 (-2) dLaw_1163 rfl rfl ?_
        refine K_iload_n 3 l3 dLaw_1164 rfl rfl ?_
        refine K_iconst 1 dLaw_1165 rfl ?_
        refine K_iadd dLaw_1166 (w32_id ((hF.2.2 c1).2.2.2.2.2.2.2.2.2.2.2.2.2.2.2.2.2.2.2.2.2.2.2.2.2.2.2.2.2.2.2.2.2.1 c4).1.1) ?_
        refine K_sald dLaw_1167 ((hF.2.2 c1).2.2.2.2.2.2.2.2.2.2.2.2.2.2.2.2.2.2.2.2.2.2.2.2.2.2.2.2.2.2.2.2.2.1 c4).1.2 ?_
        refine K_callVi mX_least 0 0 [jvI (E.2.2.2.1 ((l3 + 1)).toNat).toInt] dLaw_1168 pm_L_148 ⟨_, rfl, rfl⟩ ⟨(Nat.le_of_ble_eq_true rfl), (Nat.le_of_ble_eq_true rfl)⟩ rfl rfl (by decide) (Nat.le_of_ble_eq_true rfl) rfl (Nat.le_of_ble_eq_true rfl) (by decide) (Ci_mono ((hF.2.2 c1).2.2.2.2.2.2.2.2.2.2.2.2.2.2.2.2.2.2.2.2.2.2.2.2.2.2.2.2.2.2.2.2.2.1 c4).2 (fun r423 μ420 h421 => ?_))
        refine K_aload_n 2 76 dLaw_1171 rfl rfl ?_
        refine K_aload_n 0 (-2) dLaw_1172 rfl rfl ?_
        refine K_iload_n 3 l3 dLaw_1173 rfl rfl ?_
        refine K_iconst 1 dLaw_1174 rfl ?_
        refine K_iadd dLaw_1175 (w32_id h421.1.1) ?_
        refine K_sald dLaw_1176 h421.1.2 ?_
        refine K_callVi mM_least 12 76 [jvI (E.2.2.2.1 ((l3 + 1)).toNat).toInt] dLaw_1177 pm_L_151 ⟨_, rfl, rfl⟩ ⟨(Nat.le_of_ble_eq_true rfl), (Nat.le_of_ble_eq_true rfl)⟩ rfl rfl (by decide) (Nat.le_of_ble_eq_true rfl) rfl (Nat.le_of_ble_eq_true rfl) (by decide) (Ci_mono h421.2 (fun r427 μ424 h425 => ?_))
        refine K_icmp_eq 1303 dLaw_1180 (by decide) (fun c428 => ?_) (fun c428 => ?_)
        · refine K_iinc 3 dLaw_1303 (Nat.le_of_ble_eq_true rfl) rfl (w32_ok (h425.1 c428).1) rfl ?_
          refine K_goto 18 dLaw_1306 (by decide) ?_
          exact (h425.1 c428).2
        · refine K_iconst 0 dLaw_1183 rfl ?_
          exact K_iret dLaw_1184 (Or.inr ⟨rfl, (by decide)⟩) (h425.2 c428)
      | 33, _, ha9 =>
        have c4 : (iand32 (E.2.2.2.1 (l3).toNat).toInt 63) = 33 := by omega
        refine ⟨_, 1185, rfl, by decide, ?_⟩
        refine K_aload_n 1 0 dLaw_1185 rfl rfl ?_
        refine K_callVi mX_whom 0 0 [] dLaw_1186 pm_L_152 ⟨_, rfl, rfl⟩ ⟨(Nat.le_of_ble_eq_true rfl), (Nat.le_of_ble_eq_true rfl)⟩ rfl rfl (by decide) (Nat.le_of_ble_eq_true rfl) rfl (Nat.le_of_ble_eq_true rfl) (by decide) (Ci_mono ((hF.2.2 c1).2.2.2.2.2.2.2.2.2.2.2.2.2.2.2.2.2.2.2.2.2.2.2.2.2.2.2.2.2.2.2.2.2.2.1 c4) (fun r434 μ431 h432 => ?_))
        refine K_aload_n 2 76 dLaw_1189 rfl rfl ?_
        refine K_callVi mM_whom 12 76 [] dLaw_1190 pm_L_155 ⟨_, rfl, rfl⟩ ⟨(Nat.le_of_ble_eq_true rfl), (Nat.le_of_ble_eq_true rfl)⟩ rfl rfl (by decide) (Nat.le_of_ble_eq_true rfl) rfl (Nat.le_of_ble_eq_true rfl) (by decide) (Ci_mono h432 (fun r438 μ435 h436 => ?_))
        refine K_icmp_eq 1303 dLaw_1193 (by decide) (fun c439 => ?_) (fun c439 => ?_)
        · refine K_iinc 3 dLaw_1303 (Nat.le_of_ble_eq_true rfl) rfl (w32_ok (h436.1 c439).1) rfl ?_
          refine K_goto 18 dLaw_1306 (by decide) ?_
          exact (h436.1 c439).2
        · refine K_iconst 0 dLaw_1196 rfl ?_
          exact K_iret dLaw_1197 (Or.inr ⟨rfl, (by decide)⟩) (h436.2 c439)
      | 34, _, ha9 =>
        have c4 : (iand32 (E.2.2.2.1 (l3).toNat).toInt 63) = 34 := by omega
        refine ⟨_, 1198, rfl, by decide, ?_⟩
        refine K_aload_n 1 0 dLaw_1198 rfl rfl ?_
        refine K_aload_n 0 (-2) dLaw_1199 rfl rfl ?_
        refine K_iload_n 3 l3 dLaw_1200 rfl rfl ?_
        refine K_iconst 1 dLaw_1201 rfl ?_
        refine K_iadd dLaw_1202 (w32_id ((hF.2.2 c1).2.2.2.2.2.2.2.2.2.2.2.2.2.2.2.2.2.2.2.2.2.2.2.2.2.2.2.2.2.2.2.2.2.2.2.1 c4).1.1) ?_
        refine K_sald dLaw_1203 ((hF.2.2 c1).2.2.2.2.2.2.2.2.2.2.2.2.2.2.2.2.2.2.2.2.2.2.2.2.2.2.2.2.2.2.2.2.2.2.2.1 c4).1.2 ?_
        refine K_callVi mX_seed 0 0 [jvI (E.2.2.2.1 ((l3 + 1)).toNat).toInt] dLaw_1204 pm_L_156 ⟨_, rfl, rfl⟩ ⟨(Nat.le_of_ble_eq_true rfl), (Nat.le_of_ble_eq_true rfl)⟩ rfl rfl (by decide) (Nat.le_of_ble_eq_true rfl) rfl (Nat.le_of_ble_eq_true rfl) (by decide) (Ci_mono ((hF.2.2 c1).2.2.2.2.2.2.2.2.2.2.2.2.2.2.2.2.2.2.2.2.2.2.2.2.2.2.2.2.2.2.2.2.2.2.2.1 c4).2 (fun r445 μ442 h443 => ?_))
        refine K_aload_n 2 76 dLaw_1207 rfl rfl ?_
        refine K_aload_n 0 (-2) dLaw_1208 rfl rfl ?_
        refine K_iload_n 3 l3 dLaw_1209 rfl rfl ?_
        refine K_iconst 1 dLaw_1210 rfl ?_
        refine K_iadd dLaw_1211 (w32_id h443.1.1) ?_
        refine K_sald dLaw_1212 h443.1.2 ?_
        refine K_callVi mM_seed 12 76 [jvI (E.2.2.2.1 ((l3 + 1)).toNat).toInt] dLaw_1213 pm_L_159 ⟨_, rfl, rfl⟩ ⟨(Nat.le_of_ble_eq_true rfl), (Nat.le_of_ble_eq_true rfl)⟩ rfl rfl (by decide) (Nat.le_of_ble_eq_true rfl) rfl (Nat.le_of_ble_eq_true rfl) (by decide) (Ci_mono h443.2 (fun r449 μ446 h447 => ?_))
        refine K_icmp_eq 1303 dLaw_1216 (by decide) (fun c450 => ?_) (fun c450 => ?_)
        · refine K_iinc 3 dLaw_1303 (Nat.le_of_ble_eq_true rfl) rfl (w32_ok (h447.1 c450).1) rfl ?_
          refine K_goto 18 dLaw_1306 (by decide) ?_
          exact (h447.1 c450).2
        · refine K_iconst 0 dLaw_1219 rfl ?_
          exact K_iret dLaw_1220 (Or.inr ⟨rfl, (by decide)⟩) (h447.2 c450)
      | 35, _, ha9 =>
        have c4 : (iand32 (E.2.2.2.1 (l3).toNat).toInt 63) = 35 := by omega
        refine ⟨_, 1221, rfl, by decide, ?_⟩
        refine K_aload_n 1 0 dLaw_1221 rfl rfl ?_
        refine K_aload_n 0 (-2) dLaw_1222 rfl rfl ?_
        refine K_iload_n 3 l3 dLaw_1223 rfl rfl ?_
        refine K_iconst 1 dLaw_1224 rfl ?_
        refine K_iadd dLaw_1225 (w32_id ((hF.2.2 c1).2.2.2.2.2.2.2.2.2.2.2.2.2.2.2.2.2.2.2.2.2.2.2.2.2.2.2.2.2.2.2.2.2.2.2.2.1 c4).1.1) ?_
        refine K_sald dLaw_1226 ((hF.2.2 c1).2.2.2.2.2.2.2.2.2.2.2.2.2.2.2.2.2.2.2.2.2.2.2.2.2.2.2.2.2.2.2.2.2.2.2.2.1 c4).1.2.1 ?_
        refine K_aload_n 0 (-2) dLaw_1227 rfl rfl ?_
        refine K_iload_n 3 l3 dLaw_1228 rfl rfl ?_
        refine K_iconst 2 dLaw_1229 rfl ?_
        refine K_iadd dLaw_1230 (w32_id ((hF.2.2 c1).2.2.2.2.2.2.2.2.2.2.2.2.2.2.2.2.2.2.2.2.2.2.2.2.2.2.2.2.2.2.2.2.2.2.2.2.1 c4).1.2.2.1) ?_
        refine K_sald dLaw_1231 ((hF.2.2 c1).2.2.2.2.2.2.2.2.2.2.2.2.2.2.2.2.2.2.2.2.2.2.2.2.2.2.2.2.2.2.2.2.2.2.2.2.1 c4).1.2.2.2 ?_
        refine K_callVi mX_trials 0 0 [jvI (E.2.2.2.1 ((l3 + 1)).toNat).toInt, jvI (E.2.2.2.1 ((l3 + 2)).toNat).toInt] dLaw_1232 pm_L_160 ⟨_, rfl, rfl⟩ ⟨(Nat.le_of_ble_eq_true rfl), (Nat.le_of_ble_eq_true rfl)⟩ rfl rfl (by decide) (Nat.le_of_ble_eq_true rfl) rfl (Nat.le_of_ble_eq_true rfl) (by decide) (Ci_mono ((hF.2.2 c1).2.2.2.2.2.2.2.2.2.2.2.2.2.2.2.2.2.2.2.2.2.2.2.2.2.2.2.2.2.2.2.2.2.2.2.2.1 c4).2 (fun r456 μ453 h454 => ?_))
        refine K_aload_n 2 76 dLaw_1235 rfl rfl ?_
        refine K_aload_n 0 (-2) dLaw_1236 rfl rfl ?_
        refine K_iload_n 3 l3 dLaw_1237 rfl rfl ?_
        refine K_iconst 1 dLaw_1238 rfl ?_
        refine K_iadd dLaw_1239 (w32_id h454.1.1) ?_
        refine K_sald dLaw_1240 h454.1.2.1 ?_
        refine K_aload_n 0 (-2) dLaw_1241 rfl rfl ?_
        refine K_iload_n 3 l3 dLaw_1242 rfl rfl ?_
        refine K_iconst 2 dLaw_1243 rfl ?_
        refine K_iadd dLaw_1244 (w32_id h454.1.2.2.1) ?_
        refine K_sald dLaw_1245 h454.1.2.2.2 ?_
        refine K_callVi mM_trials 12 76 [jvI (E.2.2.2.1 ((l3 + 1)).toNat).toInt, jvI (E.2.2.2.1 ((l3 + 2)).toNat).toInt] dLaw_1246 pm_L_163 ⟨_, rfl, rfl⟩ ⟨(Nat.le_of_ble_eq_true rfl), (Nat.le_of_ble_eq_true rfl)⟩ rfl rfl (by decide) (Nat.le_of_ble_eq_true rfl) rfl (Nat.le_of_ble_eq_true rfl) (by decide) (Ci_mono h454.2 (fun r460 μ457 h458 => ?_))
        refine K_icmp_eq 1303 dLaw_1249 (by decide) (fun c461 => ?_) (fun c461 => ?_)
        · refine K_iinc 3 dLaw_1303 (Nat.le_of_ble_eq_true rfl) rfl (w32_ok (h458.1 c461).1) rfl ?_
          refine K_goto 18 dLaw_1306 (by decide) ?_
          exact (h458.1 c461).2
        · refine K_iconst 0 dLaw_1252 rfl ?_
          exact K_iret dLaw_1253 (Or.inr ⟨rfl, (by decide)⟩) (h458.2 c461)
      | 36, _, ha9 =>
        have c4 : (iand32 (E.2.2.2.1 (l3).toNat).toInt 63) = 36 := by omega
        refine ⟨_, 1254, rfl, by decide, ?_⟩
        refine K_aload_n 1 0 dLaw_1254 rfl rfl ?_
        refine K_callVi mX_image 0 0 [] dLaw_1255 pm_L_164 ⟨_, rfl, rfl⟩ ⟨(Nat.le_of_ble_eq_true rfl), (Nat.le_of_ble_eq_true rfl)⟩ rfl rfl (by decide) (Nat.le_of_ble_eq_true rfl) rfl (Nat.le_of_ble_eq_true rfl) (by decide) (Ci_mono ((hF.2.2 c1).2.2.2.2.2.2.2.2.2.2.2.2.2.2.2.2.2.2.2.2.2.2.2.2.2.2.2.2.2.2.2.2.2.2.2.2.2.1 c4) (fun r467 μ464 h465 => ?_))
        refine K_aload_n 2 76 dLaw_1258 rfl rfl ?_
        refine K_callVi mM_image 12 76 [] dLaw_1259 pm_L_167 ⟨_, rfl, rfl⟩ ⟨(Nat.le_of_ble_eq_true rfl), (Nat.le_of_ble_eq_true rfl)⟩ rfl rfl (by decide) (Nat.le_of_ble_eq_true rfl) rfl (Nat.le_of_ble_eq_true rfl) (by decide) (Ci_mono h465 (fun r471 μ468 h469 => ?_))
        refine K_icmp_eq 1303 dLaw_1262 (by decide) (fun c472 => ?_) (fun c472 => ?_)
        · refine K_iinc 3 dLaw_1303 (Nat.le_of_ble_eq_true rfl) rfl (w32_ok (h469.1 c472).1) rfl ?_
          refine K_goto 18 dLaw_1306 (by decide) ?_
          exact (h469.1 c472).2
        · refine K_iconst 0 dLaw_1265 rfl ?_
          exact K_iret dLaw_1266 (Or.inr ⟨rfl, (by decide)⟩) (h469.2 c472)
      | 37, _, ha9 =>
        have c4 : (iand32 (E.2.2.2.1 (l3).toNat).toInt 63) = 37 := by omega
        refine ⟨_, 1267, rfl, by decide, ?_⟩
        refine K_aload_n 1 0 dLaw_1267 rfl rfl ?_
        refine K_aload_n 0 (-2) dLaw_1268 rfl rfl ?_
        refine K_iload_n 3 l3 dLaw_1269 rfl rfl ?_
        refine K_iconst 1 dLaw_1270 rfl ?_
        refine K_iadd dLaw_1271 (w32_id ((hF.2.2 c1).2.2.2.2.2.2.2.2.2.2.2.2.2.2.2.2.2.2.2.2.2.2.2.2.2.2.2.2.2.2.2.2.2.2.2.2.2.2.1 c4).1.1) ?_
        refine K_sald dLaw_1272 ((hF.2.2 c1).2.2.2.2.2.2.2.2.2.2.2.2.2.2.2.2.2.2.2.2.2.2.2.2.2.2.2.2.2.2.2.2.2.2.2.2.2.2.1 c4).1.2 ?_
        refine K_callVi mX_octet 0 0 [jvI (E.2.2.2.1 ((l3 + 1)).toNat).toInt] dLaw_1273 pm_L_168 ⟨_, rfl, rfl⟩ ⟨(Nat.le_of_ble_eq_true rfl), (Nat.le_of_ble_eq_true rfl)⟩ rfl rfl (by decide) (Nat.le_of_ble_eq_true rfl) rfl (Nat.le_of_ble_eq_true rfl) (by decide) (Ci_mono ((hF.2.2 c1).2.2.2.2.2.2.2.2.2.2.2.2.2.2.2.2.2.2.2.2.2.2.2.2.2.2.2.2.2.2.2.2.2.2.2.2.2.2.1 c4).2 (fun r478 μ475 h476 => ?_))
        refine K_aload_n 2 76 dLaw_1276 rfl rfl ?_
        refine K_aload_n 0 (-2) dLaw_1277 rfl rfl ?_
        refine K_iload_n 3 l3 dLaw_1278 rfl rfl ?_
        refine K_iconst 1 dLaw_1279 rfl ?_
        refine K_iadd dLaw_1280 (w32_id h476.1.1) ?_
        refine K_sald dLaw_1281 h476.1.2 ?_
        refine K_callVi mM_octet 12 76 [jvI (E.2.2.2.1 ((l3 + 1)).toNat).toInt] dLaw_1282 pm_L_171 ⟨_, rfl, rfl⟩ ⟨(Nat.le_of_ble_eq_true rfl), (Nat.le_of_ble_eq_true rfl)⟩ rfl rfl (by decide) (Nat.le_of_ble_eq_true rfl) rfl (Nat.le_of_ble_eq_true rfl) (by decide) (Ci_mono h476.2 (fun r482 μ479 h480 => ?_))
        refine K_icmp_eq 1303 dLaw_1285 (by decide) (fun c483 => ?_) (fun c483 => ?_)
        · refine K_iinc 3 dLaw_1303 (Nat.le_of_ble_eq_true rfl) rfl (w32_ok (h480.1 c483).1) rfl ?_
          refine K_goto 18 dLaw_1306 (by decide) ?_
          exact (h480.1 c483).2
        · refine K_iconst 0 dLaw_1288 rfl ?_
          exact K_iret dLaw_1289 (Or.inr ⟨rfl, (by decide)⟩) (h480.2 c483)
      | 38, _, ha9 =>
        have c4 : (iand32 (E.2.2.2.1 (l3).toNat).toInt 63) = 38 := by omega
        refine ⟨_, 1290, rfl, by decide, ?_⟩
        refine K_aload_n 1 0 dLaw_1290 rfl rfl ?_
        refine K_callVi mX_on 0 0 [] dLaw_1291 pm_L_172 ⟨_, rfl, rfl⟩ ⟨(Nat.le_of_ble_eq_true rfl), (Nat.le_of_ble_eq_true rfl)⟩ rfl rfl (by decide) (Nat.le_of_ble_eq_true rfl) rfl (Nat.le_of_ble_eq_true rfl) (by decide) (Ci_mono ((hF.2.2 c1).2.2.2.2.2.2.2.2.2.2.2.2.2.2.2.2.2.2.2.2.2.2.2.2.2.2.2.2.2.2.2.2.2.2.2.2.2.2.2.1 c4) (fun r489 μ486 h487 => ?_))
        refine K_aload_n 2 76 dLaw_1294 rfl rfl ?_
        refine K_callVi mM_on 12 76 [] dLaw_1295 pm_L_176 ⟨_, rfl, rfl⟩ ⟨(Nat.le_of_ble_eq_true rfl), (Nat.le_of_ble_eq_true rfl)⟩ rfl rfl (by decide) (Nat.le_of_ble_eq_true rfl) rfl (Nat.le_of_ble_eq_true rfl) (by decide) (Ci_mono h487 (fun r493 μ490 h491 => ?_))
        refine K_icmp_eq 1303 dLaw_1298 (by decide) (fun c494 => ?_) (fun c494 => ?_)
        · refine K_iinc 3 dLaw_1303 (Nat.le_of_ble_eq_true rfl) rfl (w32_ok (h491.1 c494).1) rfl ?_
          refine K_goto 18 dLaw_1306 (by decide) ?_
          exact (h491.1 c494).2
        · refine K_iconst 0 dLaw_1301 rfl ?_
          exact K_iret dLaw_1302 (Or.inr ⟨rfl, (by decide)⟩) (h491.2 c494)
      | i + 39, hi9, _ => exact absurd hi9 (by simp <;> omega)
    · skip
      refine K_iinc 3 dLaw_1303 (Nat.le_of_ble_eq_true rfl) rfl (w32_ok ((hF.2.2 c1).2.2.2.2.2.2.2.2.2.2.2.2.2.2.2.2.2.2.2.2.2.2.2.2.2.2.2.2.2.2.2.2.2.2.2.2.2.2.2.2 c4).1) rfl ?_
      refine K_goto 18 dLaw_1306 (by decide) ?_
      exact ((hF.2.2 c1).2.2.2.2.2.2.2.2.2.2.2.2.2.2.2.2.2.2.2.2.2.2.2.2.2.2.2.2.2.2.2.2.2.2.2.2.2.2.2.2 c4).2
