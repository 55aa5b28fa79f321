/-! the constructors -/
theorem pa_int : Cond.arrayClass .int ∈ lw_tbg := j_mt1 100 rfl rfl
theorem pa_long : Cond.arrayClass .long ∈ lw_tbg := j_mt2 37 rfl rfl
theorem pa_byte : Cond.arrayClass .byte ∈ lw_tbg := j_mt1 60 rfl rfl
theorem pa_char : Cond.arrayClass .char ∈ lw_tbg := j_mt6 126 rfl rfl
theorem pa_boolean : Cond.arrayClass .boolean ∈ lw_tbg := j_mt6 127 rfl rfl
section
variable {E : jE} {μ : jMu} {Q : Option AV → jMu → Prop}
def cTa_init_1 (μ : jMu) : jMu := (j_up μ 1 0 2)
theorem iTa_init_1 (k : Fs 3 (cTa_init_1 μ) → Q none (cTa_init_1 μ)) : JF E mTa_init 2 3 2 0 (j_ent 1 [jvR 1]) [] μ Q := by
  show JF E mTa_init 2 3 2 0 [some (jvR 1)] [] μ Q
  refine JF_aload_n 0 1 dTa_init_0 rfl rfl ?_
  refine JF_obj 1 dTa_init_1 po_Ta_3 rfl (Nat.le_of_ble_eq_true rfl) (Nat.le_of_ble_eq_true rfl) ?_
  refine JF_aload_n 0 1 dTa_init_4 rfl rfl ?_
  refine JF_sipush 1600 dTa_init_5 rfl ?_
  refine JF_newa .byte 1600 2 rfl dTa_init_8 rfl rfl (by decide) ⟨rfl, by decide⟩ pa_byte rfl (by decide) (by decide) ?_
  refine JF_putF 8 0 1 (x := 2) dTa_init_10 pf_Ta_11 rfl rfl (by decide) rfl (fun q hq => by cases hq; rfl) rfl rfl rfl trivial ?_
  exact JF_vret dTa_init_13 rfl rfl k
def cPa_init_3 (μ : jMu) : jMu := (j_up (j_up (j_up (j_up μ 3 0 4) 3 1 5) 3 2 6) 3 9 (-1))
theorem iPa_init_3 (k : Fs 7 (cPa_init_3 μ) → Q none (cPa_init_3 μ)) : JF E mPa_init 4 7 4 0 (j_ent 1 [jvR 3]) [] μ Q := by
  show JF E mPa_init 4 7 4 0 [some (jvR 3)] [] μ Q
  refine JF_aload_n 0 3 dPa_init_0 rfl rfl ?_
  refine JF_obj 3 dPa_init_1 po_Pa_3 rfl (Nat.le_of_ble_eq_true rfl) (Nat.le_of_ble_eq_true rfl) ?_
  refine JF_aload_n 0 3 dPa_init_4 rfl rfl ?_
  refine JF_bipush 6 dPa_init_5 rfl ?_
  refine JF_newa .int 6 4 rfl dPa_init_7 rfl rfl (by decide) ⟨rfl, by decide⟩ pa_int rfl (by decide) (by decide) ?_
  refine JF_putF 5 0 3 (x := 4) dPa_init_9 pf_Pa_11 rfl rfl (by decide) rfl (fun q hq => by cases hq; rfl) rfl rfl rfl trivial ?_
  refine JF_aload_n 0 3 dPa_init_12 rfl rfl ?_
  refine JF_bipush 6 dPa_init_13 rfl ?_
  refine JF_newa .int 6 5 rfl dPa_init_15 rfl rfl (by decide) ⟨rfl, by decide⟩ pa_int rfl (by decide) (by decide) ?_
  refine JF_putF 5 1 3 (x := 5) dPa_init_17 pf_Pa_15 rfl rfl (by decide) rfl (fun q hq => by cases hq; rfl) rfl rfl rfl trivial ?_
  refine JF_aload_n 0 3 dPa_init_20 rfl rfl ?_
  refine JF_bipush 6 dPa_init_21 rfl ?_
  refine JF_newa .int 6 6 rfl dPa_init_23 rfl rfl (by decide) ⟨rfl, by decide⟩ pa_int rfl (by decide) (by decide) ?_
  refine JF_putF 5 2 3 (x := 6) dPa_init_25 pf_Pa_18 rfl rfl (by decide) rfl (fun q hq => by cases hq; rfl) rfl rfl rfl trivial ?_
  refine JF_aload_n 0 3 dPa_init_28 rfl rfl ?_
  refine JF_iconst (-1) dPa_init_29 rfl ?_
  refine JF_putf 5 9 3 (x := (-1)) dPa_init_30 pf_Pa_21 rfl rfl (by decide) rfl rfl rfl trivial ?_
  exact JF_vret dPa_init_33 rfl rfl k
def cTe_init_8 (μ : jMu) : jMu := (j_up (j_up (j_up (j_up (j_up (j_up μ 8 0 9) 8 1 10) 8 2 11) 8 3 12) 8 4 13) 8 5 14)
theorem iTe_init_8 (k : Fs 15 (cTe_init_8 μ) → Q none (cTe_init_8 μ)) : JF E mTe_init 9 15 9 0 (j_ent 1 [jvR 8]) [] μ Q := by
  show JF E mTe_init 9 15 9 0 [some (jvR 8)] [] μ Q
  refine JF_aload_n 0 8 dTe_init_0 rfl rfl ?_
  refine JF_obj 8 dTe_init_1 po_Te_3 rfl (Nat.le_of_ble_eq_true rfl) (Nat.le_of_ble_eq_true rfl) ?_
  refine JF_aload_n 0 8 dTe_init_4 rfl rfl ?_
  refine JF_bipush 24 dTe_init_5 rfl ?_
  refine JF_newa .int 24 9 rfl dTe_init_7 rfl rfl (by decide) ⟨rfl, by decide⟩ pa_int rfl (by decide) (by decide) ?_
  refine JF_putF 9 0 8 (x := 9) dTe_init_9 pf_Te_11 rfl rfl (by decide) rfl (fun q hq => by cases hq; rfl) rfl rfl rfl trivial ?_
  refine JF_aload_n 0 8 dTe_init_12 rfl rfl ?_
  refine JF_bipush 24 dTe_init_13 rfl ?_
  refine JF_newa .int 24 10 rfl dTe_init_15 rfl rfl (by decide) ⟨rfl, by decide⟩ pa_int rfl (by decide) (by decide) ?_
  refine JF_putF 9 1 8 (x := 10) dTe_init_17 pf_Te_15 rfl rfl (by decide) rfl (fun q hq => by cases hq; rfl) rfl rfl rfl trivial ?_
  refine JF_aload_n 0 8 dTe_init_20 rfl rfl ?_
  refine JF_bipush 12 dTe_init_21 rfl ?_
  refine JF_newa .int 12 11 rfl dTe_init_23 rfl rfl (by decide) ⟨rfl, by decide⟩ pa_int rfl (by decide) (by decide) ?_
  refine JF_putF 9 2 8 (x := 11) dTe_init_25 pf_Te_18 rfl rfl (by decide) rfl (fun q hq => by cases hq; rfl) rfl rfl rfl trivial ?_
  refine JF_aload_n 0 8 dTe_init_28 rfl rfl ?_
  refine JF_sipush 400 dTe_init_29 rfl ?_
  refine JF_newa .int 400 12 rfl dTe_init_32 rfl rfl (by decide) ⟨rfl, by decide⟩ pa_int rfl (by decide) (by decide) ?_
  refine JF_putF 9 3 8 (x := 12) dTe_init_34 pf_Te_21 rfl rfl (by decide) rfl (fun q hq => by cases hq; rfl) rfl rfl rfl trivial ?_
  refine JF_aload_n 0 8 dTe_init_37 rfl rfl ?_
  refine JF_sipush 400 dTe_init_38 rfl ?_
  refine JF_newa .int 400 13 rfl dTe_init_41 rfl rfl (by decide) ⟨rfl, by decide⟩ pa_int rfl (by decide) (by decide) ?_
  refine JF_putF 9 4 8 (x := 13) dTe_init_43 pf_Te_24 rfl rfl (by decide) rfl (fun q hq => by cases hq; rfl) rfl rfl rfl trivial ?_
  refine JF_aload_n 0 8 dTe_init_46 rfl rfl ?_
  refine JF_bipush 12 dTe_init_47 rfl ?_
  refine JF_newa .int 12 14 rfl dTe_init_49 rfl rfl (by decide) ⟨rfl, by decide⟩ pa_int rfl (by decide) (by decide) ?_
  refine JF_putF 9 5 8 (x := 14) dTe_init_51 pf_Te_27 rfl rfl (by decide) rfl (fun q hq => by cases hq; rfl) rfl rfl rfl trivial ?_
  exact JF_vret dTe_init_54 rfl rfl k
def cBk_init_7 (μ : jMu) : jMu := (j_up (j_up (j_up (j_up (j_up (j_up (j_up (j_up (j_up (j_up (j_up (j_up (j_up (cTe_init_8 μ) 7 0 8) 7 1 15) 7 2 16) 7 3 17) 7 4 18) 7 5 19) 7 6 20) 7 7 21) 7 8 22) 7 9 23) 7 10 24) 7 11 25) 7 15 (-1))
theorem iBk_init_7 (k : Fs 26 (cBk_init_7 μ) → Q none (cBk_init_7 μ)) : JF E mBk_init 8 26 8 0 (j_ent 1 [jvR 7]) [] μ Q := by
  show JF E mBk_init 8 26 8 0 [some (jvR 7)] [] μ Q
  refine JF_aload_n 0 7 dBk_init_0 rfl rfl ?_
  refine JF_obj 7 dBk_init_1 po_Bk_3 rfl (Nat.le_of_ble_eq_true rfl) (Nat.le_of_ble_eq_true rfl) ?_
  refine JF_aload_n 0 7 dBk_init_4 rfl rfl ?_
  refine JF_new 9 8 rfl dBk_init_5 pn_Bk_9 rfl (by decide) (by decide) ?_
  refine JF_dup dBk_init_8 (fun _ h => by cases h) ?_
  refine JF_callIN mTe_init 15 8 [] dBk_init_9 cal_Te_init pm_Bk_11 pi_Bk_11 rfl rfl ⟨(Nat.le_of_ble_eq_true rfl), (Nat.le_of_ble_eq_true rfl)⟩ rfl (Nat.le_of_ble_eq_true rfl) rfl (Nat.le_of_ble_eq_true rfl) (by decide) (by decide) (by decide) (iTe_init_8 ?_)
  show JF E mBk_init 8 26 15 12 [some (jvR 7)] [jvR 8, jvR 7] _ Q
  refine JF_putF 2 0 7 (x := 8) dBk_init_12 pf_Bk_12 rfl rfl (by decide) rfl (fun q hq => by cases hq; rfl) rfl rfl rfl trivial ?_
  refine JF_aload_n 0 7 dBk_init_15 rfl rfl ?_
  refine JF_bipush 12 dBk_init_16 rfl ?_
  refine JF_newa .int 12 15 rfl dBk_init_18 rfl rfl (by decide) ⟨rfl, by decide⟩ pa_int rfl (by decide) (by decide) ?_
  refine JF_putF 2 1 7 (x := 15) dBk_init_20 pf_Bk_18 rfl rfl (by decide) rfl (fun q hq => by cases hq; rfl) rfl rfl rfl trivial ?_
  refine JF_aload_n 0 7 dBk_init_23 rfl rfl ?_
  refine JF_bipush 12 dBk_init_24 rfl ?_
  refine JF_newa .int 12 16 rfl dBk_init_26 rfl rfl (by decide) ⟨rfl, by decide⟩ pa_int rfl (by decide) (by decide) ?_
  refine JF_putF 2 2 7 (x := 16) dBk_init_28 pf_Bk_22 rfl rfl (by decide) rfl (fun q hq => by cases hq; rfl) rfl rfl rfl trivial ?_
  refine JF_aload_n 0 7 dBk_init_31 rfl rfl ?_
  refine JF_bipush 36 dBk_init_32 rfl ?_
  refine JF_newa .int 36 17 rfl dBk_init_34 rfl rfl (by decide) ⟨rfl, by decide⟩ pa_int rfl (by decide) (by decide) ?_
  refine JF_putF 2 3 7 (x := 17) dBk_init_36 pf_Bk_25 rfl rfl (by decide) rfl (fun q hq => by cases hq; rfl) rfl rfl rfl trivial ?_
  refine JF_aload_n 0 7 dBk_init_39 rfl rfl ?_
  refine JF_bipush 12 dBk_init_40 rfl ?_
  refine JF_newa .int 12 18 rfl dBk_init_42 rfl rfl (by decide) ⟨rfl, by decide⟩ pa_int rfl (by decide) (by decide) ?_
  refine JF_putF 2 4 7 (x := 18) dBk_init_44 pf_Bk_28 rfl rfl (by decide) rfl (fun q hq => by cases hq; rfl) rfl rfl rfl trivial ?_
  refine JF_aload_n 0 7 dBk_init_47 rfl rfl ?_
  refine JF_bipush 40 dBk_init_48 rfl ?_
  refine JF_newa .int 40 19 rfl dBk_init_50 rfl rfl (by decide) ⟨rfl, by decide⟩ pa_int rfl (by decide) (by decide) ?_
  refine JF_putF 2 5 7 (x := 19) dBk_init_52 pf_Bk_31 rfl rfl (by decide) rfl (fun q hq => by cases hq; rfl) rfl rfl rfl trivial ?_
  refine JF_aload_n 0 7 dBk_init_55 rfl rfl ?_
  refine JF_bipush 40 dBk_init_56 rfl ?_
  refine JF_newa .int 40 20 rfl dBk_init_58 rfl rfl (by decide) ⟨rfl, by decide⟩ pa_int rfl (by decide) (by decide) ?_
  refine JF_putF 2 6 7 (x := 20) dBk_init_60 pf_Bk_34 rfl rfl (by decide) rfl (fun q hq => by cases hq; rfl) rfl rfl rfl trivial ?_
  refine JF_aload_n 0 7 dBk_init_63 rfl rfl ?_
  refine JF_bipush 120 dBk_init_64 rfl ?_
  refine JF_newa .int 120 21 rfl dBk_init_66 rfl rfl (by decide) ⟨rfl, by decide⟩ pa_int rfl (by decide) (by decide) ?_
  refine JF_putF 2 7 7 (x := 21) dBk_init_68 pf_Bk_37 rfl rfl (by decide) rfl (fun q hq => by cases hq; rfl) rfl rfl rfl trivial ?_
  refine JF_aload_n 0 7 dBk_init_71 rfl rfl ?_
  refine JF_bipush 6 dBk_init_72 rfl ?_
  refine JF_newa .int 6 22 rfl dBk_init_74 rfl rfl (by decide) ⟨rfl, by decide⟩ pa_int rfl (by decide) (by decide) ?_
  refine JF_putF 2 8 7 (x := 22) dBk_init_76 pf_Bk_40 rfl rfl (by decide) rfl (fun q hq => by cases hq; rfl) rfl rfl rfl trivial ?_
  refine JF_aload_n 0 7 dBk_init_79 rfl rfl ?_
  refine JF_bipush 6 dBk_init_80 rfl ?_
  refine JF_newa .int 6 23 rfl dBk_init_82 rfl rfl (by decide) ⟨rfl, by decide⟩ pa_int rfl (by decide) (by decide) ?_
  refine JF_putF 2 9 7 (x := 23) dBk_init_84 pf_Bk_43 rfl rfl (by decide) rfl (fun q hq => by cases hq; rfl) rfl rfl rfl trivial ?_
  refine JF_aload_n 0 7 dBk_init_87 rfl rfl ?_
  refine JF_bipush 6 dBk_init_88 rfl ?_
  refine JF_newa .int 6 24 rfl dBk_init_90 rfl rfl (by decide) ⟨rfl, by decide⟩ pa_int rfl (by decide) (by decide) ?_
  refine JF_putF 2 10 7 (x := 24) dBk_init_92 pf_Bk_46 rfl rfl (by decide) rfl (fun q hq => by cases hq; rfl) rfl rfl rfl trivial ?_
  refine JF_aload_n 0 7 dBk_init_95 rfl rfl ?_
  refine JF_bipush 6 dBk_init_96 rfl ?_
  refine JF_newa .int 6 25 rfl dBk_init_98 rfl rfl (by decide) ⟨rfl, by decide⟩ pa_int rfl (by decide) (by decide) ?_
  refine JF_putF 2 11 7 (x := 25) dBk_init_100 pf_Bk_49 rfl rfl (by decide) rfl (fun q hq => by cases hq; rfl) rfl rfl rfl trivial ?_
  refine JF_aload_n 0 7 dBk_init_103 rfl rfl ?_
  refine JF_iconst (-1) dBk_init_104 rfl ?_
  refine JF_putf 2 15 7 (x := (-1)) dBk_init_105 pf_Bk_52 rfl rfl (by decide) rfl rfl rfl trivial ?_
  exact JF_vret dBk_init_108 rfl rfl k
def cTe_init_27 (μ : jMu) : jMu := (j_up (j_up (j_up (j_up (j_up (j_up μ 27 0 28) 27 1 29) 27 2 30) 27 3 31) 27 4 32) 27 5 33)
theorem iTe_init_27 (k : Fs 34 (cTe_init_27 μ) → Q none (cTe_init_27 μ)) : JF E mTe_init 28 34 28 0 (j_ent 1 [jvR 27]) [] μ Q := by
  show JF E mTe_init 28 34 28 0 [some (jvR 27)] [] μ Q
  refine JF_aload_n 0 27 dTe_init_0 rfl rfl ?_
  refine JF_obj 27 dTe_init_1 po_Te_3 rfl (Nat.le_of_ble_eq_true rfl) (Nat.le_of_ble_eq_true rfl) ?_
  refine JF_aload_n 0 27 dTe_init_4 rfl rfl ?_
  refine JF_bipush 24 dTe_init_5 rfl ?_
  refine JF_newa .int 24 28 rfl dTe_init_7 rfl rfl (by decide) ⟨rfl, by decide⟩ pa_int rfl (by decide) (by decide) ?_
  refine JF_putF 9 0 27 (x := 28) dTe_init_9 pf_Te_11 rfl rfl (by decide) rfl (fun q hq => by cases hq; rfl) rfl rfl rfl trivial ?_
  refine JF_aload_n 0 27 dTe_init_12 rfl rfl ?_
  refine JF_bipush 24 dTe_init_13 rfl ?_
  refine JF_newa .int 24 29 rfl dTe_init_15 rfl rfl (by decide) ⟨rfl, by decide⟩ pa_int rfl (by decide) (by decide) ?_
  refine JF_putF 9 1 27 (x := 29) dTe_init_17 pf_Te_15 rfl rfl (by decide) rfl (fun q hq => by cases hq; rfl) rfl rfl rfl trivial ?_
  refine JF_aload_n 0 27 dTe_init_20 rfl rfl ?_
  refine JF_bipush 12 dTe_init_21 rfl ?_
  refine JF_newa .int 12 30 rfl dTe_init_23 rfl rfl (by decide) ⟨rfl, by decide⟩ pa_int rfl (by decide) (by decide) ?_
  refine JF_putF 9 2 27 (x := 30) dTe_init_25 pf_Te_18 rfl rfl (by decide) rfl (fun q hq => by cases hq; rfl) rfl rfl rfl trivial ?_
  refine JF_aload_n 0 27 dTe_init_28 rfl rfl ?_
  refine JF_sipush 400 dTe_init_29 rfl ?_
  refine JF_newa .int 400 31 rfl dTe_init_32 rfl rfl (by decide) ⟨rfl, by decide⟩ pa_int rfl (by decide) (by decide) ?_
  refine JF_putF 9 3 27 (x := 31) dTe_init_34 pf_Te_21 rfl rfl (by decide) rfl (fun q hq => by cases hq; rfl) rfl rfl rfl trivial ?_
  refine JF_aload_n 0 27 dTe_init_37 rfl rfl ?_
  refine JF_sipush 400 dTe_init_38 rfl ?_
  refine JF_newa .int 400 32 rfl dTe_init_41 rfl rfl (by decide) ⟨rfl, by decide⟩ pa_int rfl (by decide) (by decide) ?_
  refine JF_putF 9 4 27 (x := 32) dTe_init_43 pf_Te_24 rfl rfl (by decide) rfl (fun q hq => by cases hq; rfl) rfl rfl rfl trivial ?_
  refine JF_aload_n 0 27 dTe_init_46 rfl rfl ?_
  refine JF_bipush 12 dTe_init_47 rfl ?_
  refine JF_newa .int 12 33 rfl dTe_init_49 rfl rfl (by decide) ⟨rfl, by decide⟩ pa_int rfl (by decide) (by decide) ?_
  refine JF_putF 9 5 27 (x := 33) dTe_init_51 pf_Te_27 rfl rfl (by decide) rfl (fun q hq => by cases hq; rfl) rfl rfl rfl trivial ?_
  exact JF_vret dTe_init_54 rfl rfl k
def cBk_init_26 (μ : jMu) : jMu := (j_up (j_up (j_up (j_up (j_up (j_up (j_up (j_up (j_up (j_up (j_up (j_up (j_up (cTe_init_27 μ) 26 0 27) 26 1 34) 26 2 35) 26 3 36) 26 4 37) 26 5 38) 26 6 39) 26 7 40) 26 8 41) 26 9 42) 26 10 43) 26 11 44) 26 15 (-1))
theorem iBk_init_26 (k : Fs 45 (cBk_init_26 μ) → Q none (cBk_init_26 μ)) : JF E mBk_init 27 45 27 0 (j_ent 1 [jvR 26]) [] μ Q := by
  show JF E mBk_init 27 45 27 0 [some (jvR 26)] [] μ Q
  refine JF_aload_n 0 26 dBk_init_0 rfl rfl ?_
  refine JF_obj 26 dBk_init_1 po_Bk_3 rfl (Nat.le_of_ble_eq_true rfl) (Nat.le_of_ble_eq_true rfl) ?_
  refine JF_aload_n 0 26 dBk_init_4 rfl rfl ?_
  refine JF_new 9 27 rfl dBk_init_5 pn_Bk_9 rfl (by decide) (by decide) ?_
  refine JF_dup dBk_init_8 (fun _ h => by cases h) ?_
  refine JF_callIN mTe_init 34 27 [] dBk_init_9 cal_Te_init pm_Bk_11 pi_Bk_11 rfl rfl ⟨(Nat.le_of_ble_eq_true rfl), (Nat.le_of_ble_eq_true rfl)⟩ rfl (Nat.le_of_ble_eq_true rfl) rfl (Nat.le_of_ble_eq_true rfl) (by decide) (by decide) (by decide) (iTe_init_27 ?_)
  show JF E mBk_init 27 45 34 12 [some (jvR 26)] [jvR 27, jvR 26] _ Q
  refine JF_putF 2 0 26 (x := 27) dBk_init_12 pf_Bk_12 rfl rfl (by decide) rfl (fun q hq => by cases hq; rfl) rfl rfl rfl trivial ?_
  refine JF_aload_n 0 26 dBk_init_15 rfl rfl ?_
  refine JF_bipush 12 dBk_init_16 rfl ?_
  refine JF_newa .int 12 34 rfl dBk_init_18 rfl rfl (by decide) ⟨rfl, by decide⟩ pa_int rfl (by decide) (by decide) ?_
  refine JF_putF 2 1 26 (x := 34) dBk_init_20 pf_Bk_18 rfl rfl (by decide) rfl (fun q hq => by cases hq; rfl) rfl rfl rfl trivial ?_
  refine JF_aload_n 0 26 dBk_init_23 rfl rfl ?_
  refine JF_bipush 12 dBk_init_24 rfl ?_
  refine JF_newa .int 12 35 rfl dBk_init_26 rfl rfl (by decide) ⟨rfl, by decide⟩ pa_int rfl (by decide) (by decide) ?_
  refine JF_putF 2 2 26 (x := 35) dBk_init_28 pf_Bk_22 rfl rfl (by decide) rfl (fun q hq => by cases hq; rfl) rfl rfl rfl trivial ?_
  refine JF_aload_n 0 26 dBk_init_31 rfl rfl ?_
  refine JF_bipush 36 dBk_init_32 rfl ?_
  refine JF_newa .int 36 36 rfl dBk_init_34 rfl rfl (by decide) ⟨rfl, by decide⟩ pa_int rfl (by decide) (by decide) ?_
  refine JF_putF 2 3 26 (x := 36) dBk_init_36 pf_Bk_25 rfl rfl (by decide) rfl (fun q hq => by cases hq; rfl) rfl rfl rfl trivial ?_
  refine JF_aload_n 0 26 dBk_init_39 rfl rfl ?_
  refine JF_bipush 12 dBk_init_40 rfl ?_
  refine JF_newa .int 12 37 rfl dBk_init_42 rfl rfl (by decide) ⟨rfl, by decide⟩ pa_int rfl (by decide) (by decide) ?_
  refine JF_putF 2 4 26 (x := 37) dBk_init_44 pf_Bk_28 rfl rfl (by decide) rfl (fun q hq => by cases hq; rfl) rfl rfl rfl trivial ?_
  refine JF_aload_n 0 26 dBk_init_47 rfl rfl ?_
  refine JF_bipush 40 dBk_init_48 rfl ?_
  refine JF_newa .int 40 38 rfl dBk_init_50 rfl rfl (by decide) ⟨rfl, by decide⟩ pa_int rfl (by decide) (by decide) ?_
  refine JF_putF 2 5 26 (x := 38) dBk_init_52 pf_Bk_31 rfl rfl (by decide) rfl (fun q hq => by cases hq; rfl) rfl rfl rfl trivial ?_
  refine JF_aload_n 0 26 dBk_init_55 rfl rfl ?_
  refine JF_bipush 40 dBk_init_56 rfl ?_
  refine JF_newa .int 40 39 rfl dBk_init_58 rfl rfl (by decide) ⟨rfl, by decide⟩ pa_int rfl (by decide) (by decide) ?_
  refine JF_putF 2 6 26 (x := 39) dBk_init_60 pf_Bk_34 rfl rfl (by decide) rfl (fun q hq => by cases hq; rfl) rfl rfl rfl trivial ?_
  refine JF_aload_n 0 26 dBk_init_63 rfl rfl ?_
  refine JF_bipush 120 dBk_init_64 rfl ?_
  refine JF_newa .int 120 40 rfl dBk_init_66 rfl rfl (by decide) ⟨rfl, by decide⟩ pa_int rfl (by decide) (by decide) ?_
  refine JF_putF 2 7 26 (x := 40) dBk_init_68 pf_Bk_37 rfl rfl (by decide) rfl (fun q hq => by cases hq; rfl) rfl rfl rfl trivial ?_
  refine JF_aload_n 0 26 dBk_init_71 rfl rfl ?_
  refine JF_bipush 6 dBk_init_72 rfl ?_
  refine JF_newa .int 6 41 rfl dBk_init_74 rfl rfl (by decide) ⟨rfl, by decide⟩ pa_int rfl (by decide) (by decide) ?_
  refine JF_putF 2 8 26 (x := 41) dBk_init_76 pf_Bk_40 rfl rfl (by decide) rfl (fun q hq => by cases hq; rfl) rfl rfl rfl trivial ?_
  refine JF_aload_n 0 26 dBk_init_79 rfl rfl ?_
  refine JF_bipush 6 dBk_init_80 rfl ?_
  refine JF_newa .int 6 42 rfl dBk_init_82 rfl rfl (by decide) ⟨rfl, by decide⟩ pa_int rfl (by decide) (by decide) ?_
  refine JF_putF 2 9 26 (x := 42) dBk_init_84 pf_Bk_43 rfl rfl (by decide) rfl (fun q hq => by cases hq; rfl) rfl rfl rfl trivial ?_
  refine JF_aload_n 0 26 dBk_init_87 rfl rfl ?_
  refine JF_bipush 6 dBk_init_88 rfl ?_
  refine JF_newa .int 6 43 rfl dBk_init_90 rfl rfl (by decide) ⟨rfl, by decide⟩ pa_int rfl (by decide) (by decide) ?_
  refine JF_putF 2 10 26 (x := 43) dBk_init_92 pf_Bk_46 rfl rfl (by decide) rfl (fun q hq => by cases hq; rfl) rfl rfl rfl trivial ?_
  refine JF_aload_n 0 26 dBk_init_95 rfl rfl ?_
  refine JF_bipush 6 dBk_init_96 rfl ?_
  refine JF_newa .int 6 44 rfl dBk_init_98 rfl rfl (by decide) ⟨rfl, by decide⟩ pa_int rfl (by decide) (by decide) ?_
  refine JF_putF 2 11 26 (x := 44) dBk_init_100 pf_Bk_49 rfl rfl (by decide) rfl (fun q hq => by cases hq; rfl) rfl rfl rfl trivial ?_
  refine JF_aload_n 0 26 dBk_init_103 rfl rfl ?_
  refine JF_iconst (-1) dBk_init_104 rfl ?_
  refine JF_putf 2 15 26 (x := (-1)) dBk_init_105 pf_Bk_52 rfl rfl (by decide) rfl rfl rfl trivial ?_
  exact JF_vret dBk_init_108 rfl rfl k
def cRe_init_52 (μ : jMu) : jMu := (j_up (j_up (j_up (j_up (j_up (j_up μ 52 0 53) 52 1 54) 52 2 55) 52 3 56) 52 4 57) 52 5 58)
theorem iRe_init_52 (k : Fs 59 (cRe_init_52 μ) → Q none (cRe_init_52 μ)) : JF E mRe_init 53 59 53 0 (j_ent 1 [jvR 52]) [] μ Q := by
  show JF E mRe_init 53 59 53 0 [some (jvR 52)] [] μ Q
  refine JF_aload_n 0 52 dRe_init_0 rfl rfl ?_
  refine JF_obj 52 dRe_init_1 po_Re_3 rfl (Nat.le_of_ble_eq_true rfl) (Nat.le_of_ble_eq_true rfl) ?_
  refine JF_aload_n 0 52 dRe_init_4 rfl rfl ?_
  refine JF_bipush 40 dRe_init_5 rfl ?_
  refine JF_newa .int 40 53 rfl dRe_init_7 rfl rfl (by decide) ⟨rfl, by decide⟩ pa_int rfl (by decide) (by decide) ?_
  refine JF_putF 6 0 52 (x := 53) dRe_init_9 pf_Re_11 rfl rfl (by decide) rfl (fun q hq => by cases hq; rfl) rfl rfl rfl trivial ?_
  refine JF_aload_n 0 52 dRe_init_12 rfl rfl ?_
  refine JF_bipush 40 dRe_init_13 rfl ?_
  refine JF_newa .int 40 54 rfl dRe_init_15 rfl rfl (by decide) ⟨rfl, by decide⟩ pa_int rfl (by decide) (by decide) ?_
  refine JF_putF 6 1 52 (x := 54) dRe_init_17 pf_Re_17 rfl rfl (by decide) rfl (fun q hq => by cases hq; rfl) rfl rfl rfl trivial ?_
  refine JF_aload_n 0 52 dRe_init_20 rfl rfl ?_
  refine JF_bipush 40 dRe_init_21 rfl ?_
  refine JF_newa .int 40 55 rfl dRe_init_23 rfl rfl (by decide) ⟨rfl, by decide⟩ pa_int rfl (by decide) (by decide) ?_
  refine JF_putF 6 2 52 (x := 55) dRe_init_25 pf_Re_20 rfl rfl (by decide) rfl (fun q hq => by cases hq; rfl) rfl rfl rfl trivial ?_
  refine JF_aload_n 0 52 dRe_init_28 rfl rfl ?_
  refine JF_bipush 120 dRe_init_29 rfl ?_
  refine JF_newa .int 120 56 rfl dRe_init_31 rfl rfl (by decide) ⟨rfl, by decide⟩ pa_int rfl (by decide) (by decide) ?_
  refine JF_putF 6 3 52 (x := 56) dRe_init_33 pf_Re_23 rfl rfl (by decide) rfl (fun q hq => by cases hq; rfl) rfl rfl rfl trivial ?_
  refine JF_aload_n 0 52 dRe_init_36 rfl rfl ?_
  refine JF_bipush 40 dRe_init_37 rfl ?_
  refine JF_newa .long 40 57 rfl dRe_init_39 rfl rfl (by decide) ⟨rfl, by decide⟩ pa_long rfl (by decide) (by decide) ?_
  refine JF_putF 6 4 52 (x := 57) dRe_init_41 pf_Re_26 rfl rfl (by decide) rfl (fun q hq => by cases hq; rfl) rfl rfl rfl trivial ?_
  refine JF_aload_n 0 52 dRe_init_44 rfl rfl ?_
  refine JF_bipush 40 dRe_init_45 rfl ?_
  refine JF_newa .long 40 58 rfl dRe_init_47 rfl rfl (by decide) ⟨rfl, by decide⟩ pa_long rfl (by decide) (by decide) ?_
  refine JF_putF 6 5 52 (x := 58) dRe_init_49 pf_Re_30 rfl rfl (by decide) rfl (fun q hq => by cases hq; rfl) rfl rfl rfl trivial ?_
  exact JF_vret dRe_init_52 rfl rfl k
def cFa_init_45 (μ : jMu) : jMu := (j_up (j_up (cRe_init_52 (j_up (j_up (j_up (j_up (j_up (j_up μ 45 0 46) 45 1 47) 45 2 48) 45 3 49) 45 4 50) 45 5 51)) 45 6 52) 45 7 7)
theorem iFa_init_45 (k : Fs 59 (cFa_init_45 μ) → Q none (cFa_init_45 μ)) : JF E mFa_init 46 59 46 0 (j_ent 2 [jvR 45, jvR 7]) [] μ Q := by
  show JF E mFa_init 46 59 46 0 [some (jvR 45), some (jvR 7)] [] μ Q
  refine JF_aload_n 0 45 dFa_init_0 rfl rfl ?_
  refine JF_obj 45 dFa_init_1 po_Fa_3 rfl (Nat.le_of_ble_eq_true rfl) (Nat.le_of_ble_eq_true rfl) ?_
  refine JF_aload_n 0 45 dFa_init_4 rfl rfl ?_
  refine JF_bipush 40 dFa_init_5 rfl ?_
  refine JF_newa .int 40 46 rfl dFa_init_7 rfl rfl (by decide) ⟨rfl, by decide⟩ pa_int rfl (by decide) (by decide) ?_
  refine JF_putF 3 0 45 (x := 46) dFa_init_9 pf_Fa_11 rfl rfl (by decide) rfl (fun q hq => by cases hq; rfl) rfl rfl rfl trivial ?_
  refine JF_aload_n 0 45 dFa_init_12 rfl rfl ?_
  refine JF_bipush 40 dFa_init_13 rfl ?_
  refine JF_newa .int 40 47 rfl dFa_init_15 rfl rfl (by decide) ⟨rfl, by decide⟩ pa_int rfl (by decide) (by decide) ?_
  refine JF_putF 3 1 45 (x := 47) dFa_init_17 pf_Fa_17 rfl rfl (by decide) rfl (fun q hq => by cases hq; rfl) rfl rfl rfl trivial ?_
  refine JF_aload_n 0 45 dFa_init_20 rfl rfl ?_
  refine JF_bipush 40 dFa_init_21 rfl ?_
  refine JF_newa .int 40 48 rfl dFa_init_23 rfl rfl (by decide) ⟨rfl, by decide⟩ pa_int rfl (by decide) (by decide) ?_
  refine JF_putF 3 2 45 (x := 48) dFa_init_25 pf_Fa_20 rfl rfl (by decide) rfl (fun q hq => by cases hq; rfl) rfl rfl rfl trivial ?_
  refine JF_aload_n 0 45 dFa_init_28 rfl rfl ?_
  refine JF_bipush 40 dFa_init_29 rfl ?_
  refine JF_newa .int 40 49 rfl dFa_init_31 rfl rfl (by decide) ⟨rfl, by decide⟩ pa_int rfl (by decide) (by decide) ?_
  refine JF_putF 3 3 45 (x := 49) dFa_init_33 pf_Fa_23 rfl rfl (by decide) rfl (fun q hq => by cases hq; rfl) rfl rfl rfl trivial ?_
  refine JF_aload_n 0 45 dFa_init_36 rfl rfl ?_
  refine JF_bipush 40 dFa_init_37 rfl ?_
  refine JF_newa .long 40 50 rfl dFa_init_39 rfl rfl (by decide) ⟨rfl, by decide⟩ pa_long rfl (by decide) (by decide) ?_
  refine JF_putF 3 4 45 (x := 50) dFa_init_41 pf_Fa_26 rfl rfl (by decide) rfl (fun q hq => by cases hq; rfl) rfl rfl rfl trivial ?_
  refine JF_aload_n 0 45 dFa_init_44 rfl rfl ?_
  refine JF_bipush 40 dFa_init_45 rfl ?_
  refine JF_newa .long 40 51 rfl dFa_init_47 rfl rfl (by decide) ⟨rfl, by decide⟩ pa_long rfl (by decide) (by decide) ?_
  refine JF_putF 3 5 45 (x := 51) dFa_init_49 pf_Fa_30 rfl rfl (by decide) rfl (fun q hq => by cases hq; rfl) rfl rfl rfl trivial ?_
  refine JF_aload_n 0 45 dFa_init_52 rfl rfl ?_
  refine JF_new 6 52 rfl dFa_init_53 pn_Fa_33 rfl (by decide) (by decide) ?_
  refine JF_dup dFa_init_56 (fun _ h => by cases h) ?_
  refine JF_callIN mRe_init 59 52 [] dFa_init_57 cal_Re_init pm_Fa_35 pi_Fa_35 rfl rfl ⟨(Nat.le_of_ble_eq_true rfl), (Nat.le_of_ble_eq_true rfl)⟩ rfl (Nat.le_of_ble_eq_true rfl) rfl (Nat.le_of_ble_eq_true rfl) (by decide) (by decide) (by decide) (iRe_init_52 ?_)
  show JF E mFa_init 46 59 59 60 [some (jvR 45), some (jvR 7)] [jvR 52, jvR 45] _ Q
  refine JF_putF 3 6 45 (x := 52) dFa_init_60 pf_Fa_36 rfl rfl (by decide) rfl (fun q hq => by cases hq; rfl) rfl rfl rfl trivial ?_
  refine JF_aload_n 0 45 dFa_init_63 rfl rfl ?_
  refine JF_aload_n 1 7 dFa_init_64 rfl rfl ?_
  refine JF_putf 3 7 45 (x := 7) dFa_init_65 pf_Fa_40 rfl rfl (by decide) rfl rfl rfl trivial ?_
  exact JF_vret dFa_init_68 rfl rfl k
def cBe_init_59 (μ : jMu) : jMu := (j_up (j_up (j_up μ 59 0 60) 59 1 61) 59 2 62)
theorem iBe_init_59 (k : Fs 63 (cBe_init_59 μ) → Q none (cBe_init_59 μ)) : JF E mBe_init 60 63 60 0 (j_ent 1 [jvR 59]) [] μ Q := by
  show JF E mBe_init 60 63 60 0 [some (jvR 59)] [] μ Q
  refine JF_aload_n 0 59 dBe_init_0 rfl rfl ?_
  refine JF_obj 59 dBe_init_1 po_Be_1 rfl (Nat.le_of_ble_eq_true rfl) (Nat.le_of_ble_eq_true rfl) ?_
  refine JF_aload_n 0 59 dBe_init_4 rfl rfl ?_
  refine JF_bipush 24 dBe_init_5 rfl ?_
  refine JF_newa .int 24 60 rfl dBe_init_7 rfl rfl (by decide) ⟨rfl, by decide⟩ pa_int rfl (by decide) (by decide) ?_
  refine JF_putF 1 0 59 (x := 60) dBe_init_9 pf_Be_9 rfl rfl (by decide) rfl (fun q hq => by cases hq; rfl) rfl rfl rfl trivial ?_
  refine JF_aload_n 0 59 dBe_init_12 rfl rfl ?_
  refine JF_bipush 24 dBe_init_13 rfl ?_
  refine JF_newa .int 24 61 rfl dBe_init_15 rfl rfl (by decide) ⟨rfl, by decide⟩ pa_int rfl (by decide) (by decide) ?_
  refine JF_putF 1 1 59 (x := 61) dBe_init_17 pf_Be_15 rfl rfl (by decide) rfl (fun q hq => by cases hq; rfl) rfl rfl rfl trivial ?_
  refine JF_aload_n 0 59 dBe_init_20 rfl rfl ?_
  refine JF_bipush 24 dBe_init_21 rfl ?_
  refine JF_newa .int 24 62 rfl dBe_init_23 rfl rfl (by decide) ⟨rfl, by decide⟩ pa_int rfl (by decide) (by decide) ?_
  refine JF_putF 1 2 59 (x := 62) dBe_init_25 pf_Be_18 rfl rfl (by decide) rfl (fun q hq => by cases hq; rfl) rfl rfl rfl trivial ?_
  exact JF_vret dBe_init_28 rfl rfl k
def cRu_init_63 (μ : jMu) : jMu := μ
theorem iRu_init_63 (k : Fs 64 (cRu_init_63 μ) → Q none (cRu_init_63 μ)) : JF E mRu_init 64 64 64 0 (j_ent 1 [jvR 63]) [] μ Q := by
  show JF E mRu_init 64 64 64 0 [some (jvR 63)] [] μ Q
  refine JF_aload_n 0 63 dRu_init_0 rfl rfl ?_
  refine JF_obj 63 dRu_init_1 po_Ru_1 rfl (Nat.le_of_ble_eq_true rfl) (Nat.le_of_ble_eq_true rfl) ?_
  exact JF_vret dRu_init_4 rfl rfl k
def cOr_init_64 (μ : jMu) : jMu := (j_up (j_up (j_up (j_up (j_up μ 64 0 65) 64 1 66) 64 2 67) 64 3 68) 64 7 1)
theorem iOr_init_64 (k : Fs 69 (cOr_init_64 μ) → Q none (cOr_init_64 μ)) : JF E mOr_init 65 69 65 0 (j_ent 1 [jvR 64]) [] μ Q := by
  show JF E mOr_init 65 69 65 0 [some (jvR 64)] [] μ Q
  refine JF_aload_n 0 64 dOr_init_0 rfl rfl ?_
  refine JF_obj 64 dOr_init_1 po_Or_5 rfl (Nat.le_of_ble_eq_true rfl) (Nat.le_of_ble_eq_true rfl) ?_
  refine JF_aload_n 0 64 dOr_init_4 rfl rfl ?_
  refine JF_bipush 14 dOr_init_5 rfl ?_
  refine JF_newa .int 14 65 rfl dOr_init_7 rfl rfl (by decide) ⟨rfl, by decide⟩ pa_int rfl (by decide) (by decide) ?_
  refine JF_putF 4 0 64 (x := 65) dOr_init_9 pf_Or_11 rfl rfl (by decide) rfl (fun q hq => by cases hq; rfl) rfl rfl rfl trivial ?_
  refine JF_aload_n 0 64 dOr_init_12 rfl rfl ?_
  refine JF_sipush 256 dOr_init_13 rfl ?_
  refine JF_newa .long 256 66 rfl dOr_init_16 rfl rfl (by decide) ⟨rfl, by decide⟩ pa_long rfl (by decide) (by decide) ?_
  refine JF_putF 4 1 64 (x := 66) dOr_init_18 pf_Or_15 rfl rfl (by decide) rfl (fun q hq => by cases hq; rfl) rfl rfl rfl trivial ?_
  refine JF_aload_n 0 64 dOr_init_21 rfl rfl ?_
  refine JF_bipush 41 dOr_init_22 rfl ?_
  refine JF_newa .int 41 67 rfl dOr_init_24 rfl rfl (by decide) ⟨rfl, by decide⟩ pa_int rfl (by decide) (by decide) ?_
  refine JF_putF 4 2 64 (x := 67) dOr_init_26 pf_Or_21 rfl rfl (by decide) rfl (fun q hq => by cases hq; rfl) rfl rfl rfl trivial ?_
  refine JF_aload_n 0 64 dOr_init_29 rfl rfl ?_
  refine JF_bipush 41 dOr_init_30 rfl ?_
  refine JF_newa .int 41 68 rfl dOr_init_32 rfl rfl (by decide) ⟨rfl, by decide⟩ pa_int rfl (by decide) (by decide) ?_
  refine JF_putF 4 3 64 (x := 68) dOr_init_34 pf_Or_24 rfl rfl (by decide) rfl (fun q hq => by cases hq; rfl) rfl rfl rfl trivial ?_
  refine JF_aload_n 0 64 dOr_init_37 rfl rfl ?_
  refine JF_iconst 1 dOr_init_38 rfl ?_
  refine JF_putf 4 7 64 (x := 1) dOr_init_39 pf_Or_27 rfl rfl (by decide) rfl rfl rfl trivial ?_
  exact JF_vret dOr_init_42 rfl rfl k
def cWy_init_69 (μ : jMu) : jMu := (j_up (j_up (j_up (j_up μ 69 0 70) 69 1 71) 69 2 72) 69 3 73)
theorem iWy_init_69 (k : Fs 74 (cWy_init_69 μ) → Q none (cWy_init_69 μ)) : JF E mWy_init 70 74 70 0 (j_ent 1 [jvR 69]) [] μ Q := by
  show JF E mWy_init 70 74 70 0 [some (jvR 69)] [] μ Q
  refine JF_aload_n 0 69 dWy_init_0 rfl rfl ?_
  refine JF_obj 69 dWy_init_1 po_Wy_3 rfl (Nat.le_of_ble_eq_true rfl) (Nat.le_of_ble_eq_true rfl) ?_
  refine JF_aload_n 0 69 dWy_init_4 rfl rfl ?_
  refine JF_bipush 40 dWy_init_5 rfl ?_
  refine JF_newa .int 40 70 rfl dWy_init_7 rfl rfl (by decide) ⟨rfl, by decide⟩ pa_int rfl (by decide) (by decide) ?_
  refine JF_putF 11 0 69 (x := 70) dWy_init_9 pf_Wy_11 rfl rfl (by decide) rfl (fun q hq => by cases hq; rfl) rfl rfl rfl trivial ?_
  refine JF_aload_n 0 69 dWy_init_12 rfl rfl ?_
  refine JF_bipush 40 dWy_init_13 rfl ?_
  refine JF_newa .int 40 71 rfl dWy_init_15 rfl rfl (by decide) ⟨rfl, by decide⟩ pa_int rfl (by decide) (by decide) ?_
  refine JF_putF 11 1 69 (x := 71) dWy_init_17 pf_Wy_17 rfl rfl (by decide) rfl (fun q hq => by cases hq; rfl) rfl rfl rfl trivial ?_
  refine JF_aload_n 0 69 dWy_init_20 rfl rfl ?_
  refine JF_bipush 40 dWy_init_21 rfl ?_
  refine JF_newa .int 40 72 rfl dWy_init_23 rfl rfl (by decide) ⟨rfl, by decide⟩ pa_int rfl (by decide) (by decide) ?_
  refine JF_putF 11 2 69 (x := 72) dWy_init_25 pf_Wy_20 rfl rfl (by decide) rfl (fun q hq => by cases hq; rfl) rfl rfl rfl trivial ?_
  refine JF_aload_n 0 69 dWy_init_28 rfl rfl ?_
  refine JF_bipush 40 dWy_init_29 rfl ?_
  refine JF_newa .int 40 73 rfl dWy_init_31 rfl rfl (by decide) ⟨rfl, by decide⟩ pa_int rfl (by decide) (by decide) ?_
  refine JF_putF 11 3 69 (x := 73) dWy_init_33 pf_Wy_23 rfl rfl (by decide) rfl (fun q hq => by cases hq; rfl) rfl rfl rfl trivial ?_
  exact JF_vret dWy_init_36 rfl rfl k
def cWa_init_74 (μ : jMu) : jMu := (j_up μ 74 1 1)
theorem iWa_init_74 (k : Fs 75 (cWa_init_74 μ) → Q none (cWa_init_74 μ)) : JF E mWa_init 75 75 75 0 (j_ent 1 [jvR 74]) [] μ Q := by
  show JF E mWa_init 75 75 75 0 [some (jvR 74)] [] μ Q
  refine JF_aload_n 0 74 dWa_init_0 rfl rfl ?_
  refine JF_obj 74 dWa_init_1 po_Wa_3 rfl (Nat.le_of_ble_eq_true rfl) (Nat.le_of_ble_eq_true rfl) ?_
  refine JF_aload_n 0 74 dWa_init_4 rfl rfl ?_
  refine JF_iconst 1 dWa_init_5 rfl ?_
  refine JF_putf 10 1 74 (x := 1) dWa_init_6 pf_Wa_9 rfl rfl (by decide) rfl rfl rfl trivial ?_
  exact JF_vret dWa_init_9 rfl rfl k
def cX_init_0 (μ : jMu) : jMu := (j_up (j_up (j_up (j_up (j_up (j_up (j_up (cWa_init_74 (j_up (cWy_init_69 (j_up (cOr_init_64 (j_up (cRu_init_63 (j_up (cBe_init_59 (j_up (cFa_init_45 (j_up (cBk_init_26 (j_up (cBk_init_7 (j_up (cPa_init_3 (j_up (cTa_init_1 μ) 0 0 1)) 0 1 3)) 0 9 7)) 0 10 26)) 0 2 45)) 0 3 59)) 0 4 63)) 0 5 64)) 0 6 69)) 0 7 74) 0 8 75) 0 15 0) 0 11 0) 0 12 (-1)) 0 13 0) 0 14 0)
theorem iX_init_0 (k : Fs 76 (cX_init_0 μ) → Q none (cX_init_0 μ)) : JF E mX_init 1 76 1 0 (j_ent 1 [jvR 0]) [] μ Q := by
  show JF E mX_init 1 76 1 0 [some (jvR 0)] [] μ Q
  refine JF_aload_n 0 0 dX_init_0 rfl rfl ?_
  refine JF_obj 0 dX_init_1 po_X_1 rfl (Nat.le_of_ble_eq_true rfl) (Nat.le_of_ble_eq_true rfl) ?_
  refine JF_aload_n 0 0 dX_init_4 rfl rfl ?_
  refine JF_new 8 1 rfl dX_init_5 pn_X_7 rfl (by decide) (by decide) ?_
  refine JF_dup dX_init_8 (fun _ h => by cases h) ?_
  refine JF_callIN mTa_init 3 1 [] dX_init_9 cal_Ta_init pm_X_9 pi_X_9 rfl rfl ⟨(Nat.le_of_ble_eq_true rfl), (Nat.le_of_ble_eq_true rfl)⟩ rfl (Nat.le_of_ble_eq_true rfl) rfl (Nat.le_of_ble_eq_true rfl) (by decide) (by decide) (by decide) (iTa_init_1 ?_)
  show JF E mX_init 1 76 3 12 [some (jvR 0)] [jvR 1, jvR 0] _ Q
  refine JF_putF 0 0 0 (x := 1) dX_init_12 pf_X_10 rfl rfl (by decide) rfl (fun q hq => by cases hq; rfl) rfl rfl rfl trivial ?_
  refine JF_aload_n 0 0 dX_init_15 rfl rfl ?_
  refine JF_new 5 3 rfl dX_init_16 pn_X_16 rfl (by decide) (by decide) ?_
  refine JF_dup dX_init_19 (fun _ h => by cases h) ?_
  refine JF_callIN mPa_init 7 3 [] dX_init_20 cal_Pa_init pm_X_18 pi_X_18 rfl rfl ⟨(Nat.le_of_ble_eq_true rfl), (Nat.le_of_ble_eq_true rfl)⟩ rfl (Nat.le_of_ble_eq_true rfl) rfl (Nat.le_of_ble_eq_true rfl) (by decide) (by decide) (by decide) (iPa_init_3 ?_)
  show JF E mX_init 1 76 7 23 [some (jvR 0)] [jvR 3, jvR 0] _ Q
  refine JF_putF 0 1 0 (x := 3) dX_init_23 pf_X_19 rfl rfl (by decide) rfl (fun q hq => by cases hq; rfl) rfl rfl rfl trivial ?_
  refine JF_aload_n 0 0 dX_init_26 rfl rfl ?_
  refine JF_new 2 7 rfl dX_init_27 pn_X_23 rfl (by decide) (by decide) ?_
  refine JF_dup dX_init_30 (fun _ h => by cases h) ?_
  refine JF_callIN mBk_init 26 7 [] dX_init_31 cal_Bk_init pm_X_25 pi_X_25 rfl rfl ⟨(Nat.le_of_ble_eq_true rfl), (Nat.le_of_ble_eq_true rfl)⟩ rfl (Nat.le_of_ble_eq_true rfl) rfl (Nat.le_of_ble_eq_true rfl) (by decide) (by decide) (by decide) (iBk_init_7 ?_)
  show JF E mX_init 1 76 26 34 [some (jvR 0)] [jvR 7, jvR 0] _ Q
  refine JF_putf 0 9 0 (x := 7) dX_init_34 pf_X_26 rfl rfl (by decide) rfl rfl rfl trivial ?_
  refine JF_aload_n 0 0 dX_init_37 rfl rfl ?_
  refine JF_new 2 26 rfl dX_init_38 pn_X_23 rfl (by decide) (by decide) ?_
  refine JF_dup dX_init_41 (fun _ h => by cases h) ?_
  refine JF_callIN mBk_init 45 26 [] dX_init_42 cal_Bk_init pm_X_25 pi_X_25 rfl rfl ⟨(Nat.le_of_ble_eq_true rfl), (Nat.le_of_ble_eq_true rfl)⟩ rfl (Nat.le_of_ble_eq_true rfl) rfl (Nat.le_of_ble_eq_true rfl) (by decide) (by decide) (by decide) (iBk_init_26 ?_)
  show JF E mX_init 1 76 45 45 [some (jvR 0)] [jvR 26, jvR 0] _ Q
  refine JF_putf 0 10 0 (x := 26) dX_init_45 pf_X_30 rfl rfl (by decide) rfl rfl rfl trivial ?_
  refine JF_aload_n 0 0 dX_init_48 rfl rfl ?_
  refine JF_new 3 45 rfl dX_init_49 pn_X_33 rfl (by decide) (by decide) ?_
  refine JF_dup dX_init_52 (fun _ h => by cases h) ?_
  refine JF_aload_n 0 0 dX_init_53 rfl rfl ?_
  refine JF_getf 0 9 0 (jvR 7) dX_init_54 pf_X_26 rfl rfl (by decide) rfl rfl ?_
  refine JF_callI mFa_init 59 45 [jvR 7] dX_init_57 cal_Fa_init pm_X_35 pi_X_35 rfl rfl ⟨(Nat.le_of_ble_eq_true rfl), (Nat.le_of_ble_eq_true rfl)⟩ rfl (Nat.le_of_ble_eq_true rfl) rfl (Nat.le_of_ble_eq_true rfl) (by decide) (by decide) (by decide) (iFa_init_45 ?_)
  show JF E mX_init 1 76 59 60 [some (jvR 0)] [jvR 45, jvR 0] _ Q
  refine JF_putF 0 2 0 (x := 45) dX_init_60 pf_X_38 rfl rfl (by decide) rfl (fun q hq => by cases hq; rfl) rfl rfl rfl trivial ?_
  refine JF_aload_n 0 0 dX_init_63 rfl rfl ?_
  refine JF_new 1 59 rfl dX_init_64 pn_X_42 rfl (by decide) (by decide) ?_
  refine JF_dup dX_init_67 (fun _ h => by cases h) ?_
  refine JF_callIN mBe_init 63 59 [] dX_init_68 cal_Be_init pm_X_44 pi_X_44 rfl rfl ⟨(Nat.le_of_ble_eq_true rfl), (Nat.le_of_ble_eq_true rfl)⟩ rfl (Nat.le_of_ble_eq_true rfl) rfl (Nat.le_of_ble_eq_true rfl) (by decide) (by decide) (by decide) (iBe_init_59 ?_)
  show JF E mX_init 1 76 63 71 [some (jvR 0)] [jvR 59, jvR 0] _ Q
  refine JF_putF 0 3 0 (x := 59) dX_init_71 pf_X_45 rfl rfl (by decide) rfl (fun q hq => by cases hq; rfl) rfl rfl rfl trivial ?_
  refine JF_aload_n 0 0 dX_init_74 rfl rfl ?_
  refine JF_new 7 63 rfl dX_init_75 pn_X_49 rfl (by decide) (by decide) ?_
  refine JF_dup dX_init_78 (fun _ h => by cases h) ?_
  refine JF_callIN mRu_init 64 63 [] dX_init_79 cal_Ru_init pm_X_51 pi_X_51 rfl rfl ⟨(Nat.le_of_ble_eq_true rfl), (Nat.le_of_ble_eq_true rfl)⟩ rfl (Nat.le_of_ble_eq_true rfl) rfl (Nat.le_of_ble_eq_true rfl) (by decide) (by decide) (by decide) (iRu_init_63 ?_)
  show JF E mX_init 1 76 64 82 [some (jvR 0)] [jvR 63, jvR 0] _ Q
  refine JF_putF 0 4 0 (x := 63) dX_init_82 pf_X_52 rfl rfl (by decide) rfl (fun q hq => by cases hq; rfl) rfl rfl rfl trivial ?_
  refine JF_aload_n 0 0 dX_init_85 rfl rfl ?_
  refine JF_new 4 64 rfl dX_init_86 pn_X_56 rfl (by decide) (by decide) ?_
  refine JF_dup dX_init_89 (fun _ h => by cases h) ?_
  refine JF_callIN mOr_init 69 64 [] dX_init_90 cal_Or_init pm_X_58 pi_X_58 rfl rfl ⟨(Nat.le_of_ble_eq_true rfl), (Nat.le_of_ble_eq_true rfl)⟩ rfl (Nat.le_of_ble_eq_true rfl) rfl (Nat.le_of_ble_eq_true rfl) (by decide) (by decide) (by decide) (iOr_init_64 ?_)
  show JF E mX_init 1 76 69 93 [some (jvR 0)] [jvR 64, jvR 0] _ Q
  refine JF_putF 0 5 0 (x := 64) dX_init_93 pf_X_59 rfl rfl (by decide) rfl (fun q hq => by cases hq; rfl) rfl rfl rfl trivial ?_
  refine JF_aload_n 0 0 dX_init_96 rfl rfl ?_
  refine JF_new 11 69 rfl dX_init_97 pn_X_63 rfl (by decide) (by decide) ?_
  refine JF_dup dX_init_100 (fun _ h => by cases h) ?_
  refine JF_callIN mWy_init 74 69 [] dX_init_101 cal_Wy_init pm_X_65 pi_X_65 rfl rfl ⟨(Nat.le_of_ble_eq_true rfl), (Nat.le_of_ble_eq_true rfl)⟩ rfl (Nat.le_of_ble_eq_true rfl) rfl (Nat.le_of_ble_eq_true rfl) (by decide) (by decide) (by decide) (iWy_init_69 ?_)
  show JF E mX_init 1 76 74 104 [some (jvR 0)] [jvR 69, jvR 0] _ Q
  refine JF_putF 0 6 0 (x := 69) dX_init_104 pf_X_66 rfl rfl (by decide) rfl (fun q hq => by cases hq; rfl) rfl rfl rfl trivial ?_
  refine JF_aload_n 0 0 dX_init_107 rfl rfl ?_
  refine JF_new 10 74 rfl dX_init_108 pn_X_70 rfl (by decide) (by decide) ?_
  refine JF_dup dX_init_111 (fun _ h => by cases h) ?_
  refine JF_callIN mWa_init 75 74 [] dX_init_112 cal_Wa_init pm_X_72 pi_X_72 rfl rfl ⟨(Nat.le_of_ble_eq_true rfl), (Nat.le_of_ble_eq_true rfl)⟩ rfl (Nat.le_of_ble_eq_true rfl) rfl (Nat.le_of_ble_eq_true rfl) (by decide) (by decide) (by decide) (iWa_init_74 ?_)
  show JF E mX_init 1 76 75 115 [some (jvR 0)] [jvR 74, jvR 0] _ Q
  refine JF_putF 0 7 0 (x := 74) dX_init_115 pf_X_73 rfl rfl (by decide) rfl (fun q hq => by cases hq; rfl) rfl rfl rfl trivial ?_
  refine JF_aload_n 0 0 dX_init_118 rfl rfl ?_
  refine JF_iconst 4 dX_init_119 rfl ?_
  refine JF_newa .int 4 75 rfl dX_init_120 rfl rfl (by decide) ⟨rfl, by decide⟩ pa_int rfl (by decide) (by decide) ?_
  refine JF_putF 0 8 0 (x := 75) dX_init_122 pf_X_77 rfl rfl (by decide) rfl (fun q hq => by cases hq; rfl) rfl rfl rfl trivial ?_
  refine JF_aload_n 0 0 dX_init_125 rfl rfl ?_
  refine JF_iconst 0 dX_init_126 rfl ?_
  refine JF_putf 0 15 0 (x := 0) dX_init_127 pf_X_81 rfl rfl (by decide) rfl rfl rfl (Or.inl rfl) ?_
  refine JF_aload_n 0 0 dX_init_130 rfl rfl ?_
  refine JF_iconst 0 dX_init_131 rfl ?_
  refine JF_putf 0 11 0 (x := 0) dX_init_132 pf_X_85 rfl rfl (by decide) rfl rfl rfl trivial ?_
  refine JF_aload_n 0 0 dX_init_135 rfl rfl ?_
  refine JF_iconst (-1) dX_init_136 rfl ?_
  refine JF_putf 0 12 0 (x := (-1)) dX_init_137 pf_X_89 rfl rfl (by decide) rfl rfl rfl trivial ?_
  refine JF_aload_n 0 0 dX_init_140 rfl rfl ?_
  refine JF_iconst 0 dX_init_141 rfl ?_
  refine JF_putf 0 13 0 (x := 0) dX_init_142 pf_X_92 rfl rfl (by decide) rfl rfl rfl trivial ?_
  refine JF_aload_n 0 0 dX_init_145 rfl rfl ?_
  refine JF_lconst 0 dX_init_146 rfl ?_
  refine JF_putf 0 14 0 (x := 0) dX_init_147 pf_X_95 rfl rfl (by decide) rfl rfl rfl trivial ?_
  exact JF_vret dX_init_150 rfl rfl k
def cM_init_76 (μ : jMu) : jMu := (j_up (j_up (j_up (j_up (j_up (j_up (j_up (j_up (j_up (j_up (j_up (j_up (j_up (j_up (j_up (j_up (j_up (j_up (j_up (j_up (j_up (j_up (j_up (j_up (j_up (j_up (j_up (j_up (j_up (j_up (j_up (j_up (j_up (j_up (j_up (j_up (j_up (j_up (j_up (j_up (j_up (j_up (j_up (j_up (j_up (j_up (j_up (j_up (j_up (j_up (j_up (j_up (j_up (j_up (j_up (j_up (j_up (j_up (j_up (j_up (j_up (j_up (j_up (j_up (j_up (j_up (j_up (j_up (j_up (j_up (j_up (j_up (j_up (j_up (j_up (j_up (j_up (j_up (j_up (j_up (j_up μ 76 0 77) 76 8 (-1)) 78 0 114) 78 1 117) 78 2 108) 78 3 101) 76 9 78) 79 0 103) 79 1 105) 79 2 118) 79 3 101) 79 4 115) 76 10 79) 80 0 115) 80 1 116) 80 2 101) 80 3 112) 76 11 80) 81 0 98) 81 1 121) 76 12 81) 82 0 103) 82 1 111) 82 2 97) 82 3 108) 76 13 82) 83 0 114) 83 1 101) 83 2 97) 83 3 100) 83 4 101) 83 5 114) 76 14 83) 84 0 111) 84 1 100) 84 2 100) 84 3 115) 76 15 84) 85 0 102) 85 1 114) 85 2 111) 85 3 109) 76 16 85) 86 0 116) 86 1 111) 76 17 86) 76 19 87) 76 20 88) 76 21 89) 76 22 90) 76 24 91) 76 25 92) 76 26 93) 76 27 94) 76 28 95) 76 29 96) 76 30 97) 76 31 98) 76 35 99) 76 36 100) 76 37 101) 76 39 102) 76 40 103) 76 41 104) 76 42 105) 76 43 106) 76 45 107) 76 46 108) 76 47 109) 76 48 110) 76 49 111) 76 50 112) 76 52 113) 76 53 114) 76 56 115) 76 57 116) 76 58 117) 76 59 118) 76 60 119) 76 61 1) 76 62 120)
theorem iM_init_76 (k : Fs 121 (cM_init_76 μ) → Q none (cM_init_76 μ)) : JF E mM_init 77 121 77 0 (j_ent 1 [jvR 76]) [] μ Q := by
  show JF E mM_init 77 121 77 0 [some (jvR 76)] [] μ Q
  refine JF_aload_n 0 76 dM_init_0 rfl rfl ?_
  refine JF_obj 76 dM_init_1 po_M_1 rfl (Nat.le_of_ble_eq_true rfl) (Nat.le_of_ble_eq_true rfl) ?_
  refine JF_aload_n 0 76 dM_init_4 rfl rfl ?_
  refine JF_sipush 1600 dM_init_5 rfl ?_
  refine JF_newa .int 1600 77 rfl dM_init_8 rfl rfl (by decide) ⟨rfl, by decide⟩ pa_int rfl (by decide) (by decide) ?_
  refine JF_putF 12 0 76 (x := 77) dM_init_10 pf_M_7 rfl rfl (by decide) rfl (fun q hq => by cases hq; rfl) rfl rfl rfl trivial ?_
  refine JF_aload_n 0 76 dM_init_13 rfl rfl ?_
  refine JF_iconst (-1) dM_init_14 rfl ?_
  refine JF_putf 12 8 76 (x := (-1)) dM_init_15 pf_M_13 rfl rfl (by decide) rfl rfl rfl trivial ?_
  refine JF_aload_n 0 76 dM_init_18 rfl rfl ?_
  refine JF_iconst 4 dM_init_19 rfl ?_
  refine JF_newa .char 4 78 rfl dM_init_20 rfl rfl (by decide) ⟨rfl, by decide⟩ pa_char rfl (by decide) (by decide) ?_
  refine JF_dup dM_init_22 (fun _ h => by cases h) ?_
  refine JF_iconst 0 dM_init_23 rfl ?_
  refine JF_bipush 114 dM_init_24 rfl ?_
  refine JF_cast 78 4 dM_init_26 rfl rfl (by decide) (by decide) (by decide) ?_
  refine JF_dup dM_init_27 (fun _ h => by cases h) ?_
  refine JF_iconst 1 dM_init_28 rfl ?_
  refine JF_bipush 117 dM_init_29 rfl ?_
  refine JF_cast 78 4 dM_init_31 rfl rfl (by decide) (by decide) (by decide) ?_
  refine JF_dup dM_init_32 (fun _ h => by cases h) ?_
  refine JF_iconst 2 dM_init_33 rfl ?_
  refine JF_bipush 108 dM_init_34 rfl ?_
  refine JF_cast 78 4 dM_init_36 rfl rfl (by decide) (by decide) (by decide) ?_
  refine JF_dup dM_init_37 (fun _ h => by cases h) ?_
  refine JF_iconst 3 dM_init_38 rfl ?_
  refine JF_bipush 101 dM_init_39 rfl ?_
  refine JF_cast 78 4 dM_init_41 rfl rfl (by decide) (by decide) (by decide) ?_
  refine JF_putF 12 9 76 (x := 78) dM_init_42 pf_M_17 rfl rfl (by decide) rfl (fun q hq => by cases hq; rfl) rfl rfl rfl trivial ?_
  refine JF_aload_n 0 76 dM_init_45 rfl rfl ?_
  refine JF_iconst 5 dM_init_46 rfl ?_
  refine JF_newa .char 5 79 rfl dM_init_47 rfl rfl (by decide) ⟨rfl, by decide⟩ pa_char rfl (by decide) (by decide) ?_
  refine JF_dup dM_init_49 (fun _ h => by cases h) ?_
  refine JF_iconst 0 dM_init_50 rfl ?_
  refine JF_bipush 103 dM_init_51 rfl ?_
  refine JF_cast 79 5 dM_init_53 rfl rfl (by decide) (by decide) (by decide) ?_
  refine JF_dup dM_init_54 (fun _ h => by cases h) ?_
  refine JF_iconst 1 dM_init_55 rfl ?_
  refine JF_bipush 105 dM_init_56 rfl ?_
  refine JF_cast 79 5 dM_init_58 rfl rfl (by decide) (by decide) (by decide) ?_
  refine JF_dup dM_init_59 (fun _ h => by cases h) ?_
  refine JF_iconst 2 dM_init_60 rfl ?_
  refine JF_bipush 118 dM_init_61 rfl ?_
  refine JF_cast 79 5 dM_init_63 rfl rfl (by decide) (by decide) (by decide) ?_
  refine JF_dup dM_init_64 (fun _ h => by cases h) ?_
  refine JF_iconst 3 dM_init_65 rfl ?_
  refine JF_bipush 101 dM_init_66 rfl ?_
  refine JF_cast 79 5 dM_init_68 rfl rfl (by decide) (by decide) (by decide) ?_
  refine JF_dup dM_init_69 (fun _ h => by cases h) ?_
  refine JF_iconst 4 dM_init_70 rfl ?_
  refine JF_bipush 115 dM_init_71 rfl ?_
  refine JF_cast 79 5 dM_init_73 rfl rfl (by decide) (by decide) (by decide) ?_
  refine JF_putF 12 10 76 (x := 79) dM_init_74 pf_M_21 rfl rfl (by decide) rfl (fun q hq => by cases hq; rfl) rfl rfl rfl trivial ?_
  refine JF_aload_n 0 76 dM_init_77 rfl rfl ?_
  refine JF_iconst 4 dM_init_78 rfl ?_
  refine JF_newa .char 4 80 rfl dM_init_79 rfl rfl (by decide) ⟨rfl, by decide⟩ pa_char rfl (by decide) (by decide) ?_
  refine JF_dup dM_init_81 (fun _ h => by cases h) ?_
  refine JF_iconst 0 dM_init_82 rfl ?_
  refine JF_bipush 115 dM_init_83 rfl ?_
  refine JF_cast 80 4 dM_init_85 rfl rfl (by decide) (by decide) (by decide) ?_
  refine JF_dup dM_init_86 (fun _ h => by cases h) ?_
  refine JF_iconst 1 dM_init_87 rfl ?_
  refine JF_bipush 116 dM_init_88 rfl ?_
  refine JF_cast 80 4 dM_init_90 rfl rfl (by decide) (by decide) (by decide) ?_
  refine JF_dup dM_init_91 (fun _ h => by cases h) ?_
  refine JF_iconst 2 dM_init_92 rfl ?_
  refine JF_bipush 101 dM_init_93 rfl ?_
  refine JF_cast 80 4 dM_init_95 rfl rfl (by decide) (by decide) (by decide) ?_
  refine JF_dup dM_init_96 (fun _ h => by cases h) ?_
  refine JF_iconst 3 dM_init_97 rfl ?_
  refine JF_bipush 112 dM_init_98 rfl ?_
  refine JF_cast 80 4 dM_init_100 rfl rfl (by decide) (by decide) (by decide) ?_
  refine JF_putF 12 11 76 (x := 80) dM_init_101 pf_M_24 rfl rfl (by decide) rfl (fun q hq => by cases hq; rfl) rfl rfl rfl trivial ?_
  refine JF_aload_n 0 76 dM_init_104 rfl rfl ?_
  refine JF_iconst 2 dM_init_105 rfl ?_
  refine JF_newa .char 2 81 rfl dM_init_106 rfl rfl (by decide) ⟨rfl, by decide⟩ pa_char rfl (by decide) (by decide) ?_
  refine JF_dup dM_init_108 (fun _ h => by cases h) ?_
  refine JF_iconst 0 dM_init_109 rfl ?_
  refine JF_bipush 98 dM_init_110 rfl ?_
  refine JF_cast 81 2 dM_init_112 rfl rfl (by decide) (by decide) (by decide) ?_
  refine JF_dup dM_init_113 (fun _ h => by cases h) ?_
  refine JF_iconst 1 dM_init_114 rfl ?_
  refine JF_bipush 121 dM_init_115 rfl ?_
  refine JF_cast 81 2 dM_init_117 rfl rfl (by decide) (by decide) (by decide) ?_
  refine JF_putF 12 12 76 (x := 81) dM_init_118 pf_M_27 rfl rfl (by decide) rfl (fun q hq => by cases hq; rfl) rfl rfl rfl trivial ?_
  refine JF_aload_n 0 76 dM_init_121 rfl rfl ?_
  refine JF_iconst 4 dM_init_122 rfl ?_
  refine JF_newa .char 4 82 rfl dM_init_123 rfl rfl (by decide) ⟨rfl, by decide⟩ pa_char rfl (by decide) (by decide) ?_
  refine JF_dup dM_init_125 (fun _ h => by cases h) ?_
  refine JF_iconst 0 dM_init_126 rfl ?_
  refine JF_bipush 103 dM_init_127 rfl ?_
  refine JF_cast 82 4 dM_init_129 rfl rfl (by decide) (by decide) (by decide) ?_
  refine JF_dup dM_init_130 (fun _ h => by cases h) ?_
  refine JF_iconst 1 dM_init_131 rfl ?_
  refine JF_bipush 111 dM_init_132 rfl ?_
  refine JF_cast 82 4 dM_init_134 rfl rfl (by decide) (by decide) (by decide) ?_
  refine JF_dup dM_init_135 (fun _ h => by cases h) ?_
  refine JF_iconst 2 dM_init_136 rfl ?_
  refine JF_bipush 97 dM_init_137 rfl ?_
  refine JF_cast 82 4 dM_init_139 rfl rfl (by decide) (by decide) (by decide) ?_
  refine JF_dup dM_init_140 (fun _ h => by cases h) ?_
  refine JF_iconst 3 dM_init_141 rfl ?_
  refine JF_bipush 108 dM_init_142 rfl ?_
  refine JF_cast 82 4 dM_init_144 rfl rfl (by decide) (by decide) (by decide) ?_
  refine JF_putF 12 13 76 (x := 82) dM_init_145 pf_M_30 rfl rfl (by decide) rfl (fun q hq => by cases hq; rfl) rfl rfl rfl trivial ?_
  refine JF_aload_n 0 76 dM_init_148 rfl rfl ?_
  refine JF_bipush 6 dM_init_149 rfl ?_
  refine JF_newa .char 6 83 rfl dM_init_151 rfl rfl (by decide) ⟨rfl, by decide⟩ pa_char rfl (by decide) (by decide) ?_
  refine JF_dup dM_init_153 (fun _ h => by cases h) ?_
  refine JF_iconst 0 dM_init_154 rfl ?_
  refine JF_bipush 114 dM_init_155 rfl ?_
  refine JF_cast 83 6 dM_init_157 rfl rfl (by decide) (by decide) (by decide) ?_
  refine JF_dup dM_init_158 (fun _ h => by cases h) ?_
  refine JF_iconst 1 dM_init_159 rfl ?_
  refine JF_bipush 101 dM_init_160 rfl ?_
  refine JF_cast 83 6 dM_init_162 rfl rfl (by decide) (by decide) (by decide) ?_
  refine JF_dup dM_init_163 (fun _ h => by cases h) ?_
  refine JF_iconst 2 dM_init_164 rfl ?_
  refine JF_bipush 97 dM_init_165 rfl ?_
  refine JF_cast 83 6 dM_init_167 rfl rfl (by decide) (by decide) (by decide) ?_
  refine JF_dup dM_init_168 (fun _ h => by cases h) ?_
  refine JF_iconst 3 dM_init_169 rfl ?_
  refine JF_bipush 100 dM_init_170 rfl ?_
  refine JF_cast 83 6 dM_init_172 rfl rfl (by decide) (by decide) (by decide) ?_
  refine JF_dup dM_init_173 (fun _ h => by cases h) ?_
  refine JF_iconst 4 dM_init_174 rfl ?_
  refine JF_bipush 101 dM_init_175 rfl ?_
  refine JF_cast 83 6 dM_init_177 rfl rfl (by decide) (by decide) (by decide) ?_
  refine JF_dup dM_init_178 (fun _ h => by cases h) ?_
  refine JF_iconst 5 dM_init_179 rfl ?_
  refine JF_bipush 114 dM_init_180 rfl ?_
  refine JF_cast 83 6 dM_init_182 rfl rfl (by decide) (by decide) (by decide) ?_
  refine JF_putF 12 14 76 (x := 83) dM_init_183 pf_M_33 rfl rfl (by decide) rfl (fun q hq => by cases hq; rfl) rfl rfl rfl trivial ?_
  refine JF_aload_n 0 76 dM_init_186 rfl rfl ?_
  refine JF_iconst 4 dM_init_187 rfl ?_
  refine JF_newa .char 4 84 rfl dM_init_188 rfl rfl (by decide) ⟨rfl, by decide⟩ pa_char rfl (by decide) (by decide) ?_
  refine JF_dup dM_init_190 (fun _ h => by cases h) ?_
  refine JF_iconst 0 dM_init_191 rfl ?_
  refine JF_bipush 111 dM_init_192 rfl ?_
  refine JF_cast 84 4 dM_init_194 rfl rfl (by decide) (by decide) (by decide) ?_
  refine JF_dup dM_init_195 (fun _ h => by cases h) ?_
  refine JF_iconst 1 dM_init_196 rfl ?_
  refine JF_bipush 100 dM_init_197 rfl ?_
  refine JF_cast 84 4 dM_init_199 rfl rfl (by decide) (by decide) (by decide) ?_
  refine JF_dup dM_init_200 (fun _ h => by cases h) ?_
  refine JF_iconst 2 dM_init_201 rfl ?_
  refine JF_bipush 100 dM_init_202 rfl ?_
  refine JF_cast 84 4 dM_init_204 rfl rfl (by decide) (by decide) (by decide) ?_
  refine JF_dup dM_init_205 (fun _ h => by cases h) ?_
  refine JF_iconst 3 dM_init_206 rfl ?_
  refine JF_bipush 115 dM_init_207 rfl ?_
  refine JF_cast 84 4 dM_init_209 rfl rfl (by decide) (by decide) (by decide) ?_
  refine JF_putF 12 15 76 (x := 84) dM_init_210 pf_M_36 rfl rfl (by decide) rfl (fun q hq => by cases hq; rfl) rfl rfl rfl trivial ?_
  refine JF_aload_n 0 76 dM_init_213 rfl rfl ?_
  refine JF_iconst 4 dM_init_214 rfl ?_
  refine JF_newa .char 4 85 rfl dM_init_215 rfl rfl (by decide) ⟨rfl, by decide⟩ pa_char rfl (by decide) (by decide) ?_
  refine JF_dup dM_init_217 (fun _ h => by cases h) ?_
  refine JF_iconst 0 dM_init_218 rfl ?_
  refine JF_bipush 102 dM_init_219 rfl ?_
  refine JF_cast 85 4 dM_init_221 rfl rfl (by decide) (by decide) (by decide) ?_
  refine JF_dup dM_init_222 (fun _ h => by cases h) ?_
  refine JF_iconst 1 dM_init_223 rfl ?_
  refine JF_bipush 114 dM_init_224 rfl ?_
  refine JF_cast 85 4 dM_init_226 rfl rfl (by decide) (by decide) (by decide) ?_
  refine JF_dup dM_init_227 (fun _ h => by cases h) ?_
  refine JF_iconst 2 dM_init_228 rfl ?_
  refine JF_bipush 111 dM_init_229 rfl ?_
  refine JF_cast 85 4 dM_init_231 rfl rfl (by decide) (by decide) (by decide) ?_
  refine JF_dup dM_init_232 (fun _ h => by cases h) ?_
  refine JF_iconst 3 dM_init_233 rfl ?_
  refine JF_bipush 109 dM_init_234 rfl ?_
  refine JF_cast 85 4 dM_init_236 rfl rfl (by decide) (by decide) (by decide) ?_
  refine JF_putF 12 16 76 (x := 85) dM_init_237 pf_M_39 rfl rfl (by decide) rfl (fun q hq => by cases hq; rfl) rfl rfl rfl trivial ?_
  refine JF_aload_n 0 76 dM_init_240 rfl rfl ?_
  refine JF_iconst 2 dM_init_241 rfl ?_
  refine JF_newa .char 2 86 rfl dM_init_242 rfl rfl (by decide) ⟨rfl, by decide⟩ pa_char rfl (by decide) (by decide) ?_
  refine JF_dup dM_init_244 (fun _ h => by cases h) ?_
  refine JF_iconst 0 dM_init_245 rfl ?_
  refine JF_bipush 116 dM_init_246 rfl ?_
  refine JF_cast 86 2 dM_init_248 rfl rfl (by decide) (by decide) (by decide) ?_
  refine JF_dup dM_init_249 (fun _ h => by cases h) ?_
  refine JF_iconst 1 dM_init_250 rfl ?_
  refine JF_bipush 111 dM_init_251 rfl ?_
  refine JF_cast 86 2 dM_init_253 rfl rfl (by decide) (by decide) (by decide) ?_
  refine JF_putF 12 17 76 (x := 86) dM_init_254 pf_M_42 rfl rfl (by decide) rfl (fun q hq => by cases hq; rfl) rfl rfl rfl trivial ?_
  refine JF_aload_n 0 76 dM_init_257 rfl rfl ?_
  refine JF_bipush 10 dM_init_258 rfl ?_
  refine JF_newa .int 10 87 rfl dM_init_260 rfl rfl (by decide) ⟨rfl, by decide⟩ pa_int rfl (by decide) (by decide) ?_
  refine JF_putF 12 19 76 (x := 87) dM_init_262 pf_M_45 rfl rfl (by decide) rfl (fun q hq => by cases hq; rfl) rfl rfl rfl trivial ?_
  refine JF_aload_n 0 76 dM_init_265 rfl rfl ?_
  refine JF_sipush 192 dM_init_266 rfl ?_
  refine JF_newa .long 192 88 rfl dM_init_269 rfl rfl (by decide) ⟨rfl, by decide⟩ pa_long rfl (by decide) (by decide) ?_
  refine JF_putF 12 20 76 (x := 88) dM_init_271 pf_M_48 rfl rfl (by decide) rfl (fun q hq => by cases hq; rfl) rfl rfl rfl trivial ?_
  refine JF_aload_n 0 76 dM_init_274 rfl rfl ?_
  refine JF_bipush 48 dM_init_275 rfl ?_
  refine JF_newa .int 48 89 rfl dM_init_277 rfl rfl (by decide) ⟨rfl, by decide⟩ pa_int rfl (by decide) (by decide) ?_
  refine JF_putF 12 21 76 (x := 89) dM_init_279 pf_M_52 rfl rfl (by decide) rfl (fun q hq => by cases hq; rfl) rfl rfl rfl trivial ?_
  refine JF_aload_n 0 76 dM_init_282 rfl rfl ?_
  refine JF_sipush 800 dM_init_283 rfl ?_
  refine JF_newa .int 800 90 rfl dM_init_286 rfl rfl (by decide) ⟨rfl, by decide⟩ pa_int rfl (by decide) (by decide) ?_
  refine JF_putF 12 22 76 (x := 90) dM_init_288 pf_M_55 rfl rfl (by decide) rfl (fun q hq => by cases hq; rfl) rfl rfl rfl trivial ?_
  refine JF_aload_n 0 76 dM_init_291 rfl rfl ?_
  refine JF_sipush 176 dM_init_292 rfl ?_
  refine JF_newa .int 176 91 rfl dM_init_295 rfl rfl (by decide) ⟨rfl, by decide⟩ pa_int rfl (by decide) (by decide) ?_
  refine JF_putF 12 24 76 (x := 91) dM_init_297 pf_M_58 rfl rfl (by decide) rfl (fun q hq => by cases hq; rfl) rfl rfl rfl trivial ?_
  refine JF_aload_n 0 76 dM_init_300 rfl rfl ?_
  refine JF_sipush 176 dM_init_301 rfl ?_
  refine JF_newa .int 176 92 rfl dM_init_304 rfl rfl (by decide) ⟨rfl, by decide⟩ pa_int rfl (by decide) (by decide) ?_
  refine JF_putF 12 25 76 (x := 92) dM_init_306 pf_M_61 rfl rfl (by decide) rfl (fun q hq => by cases hq; rfl) rfl rfl rfl trivial ?_
  refine JF_aload_n 0 76 dM_init_309 rfl rfl ?_
  refine JF_bipush 24 dM_init_310 rfl ?_
  refine JF_newa .int 24 93 rfl dM_init_312 rfl rfl (by decide) ⟨rfl, by decide⟩ pa_int rfl (by decide) (by decide) ?_
  refine JF_putF 12 26 76 (x := 93) dM_init_314 pf_M_64 rfl rfl (by decide) rfl (fun q hq => by cases hq; rfl) rfl rfl rfl trivial ?_
  refine JF_aload_n 0 76 dM_init_317 rfl rfl ?_
  refine JF_bipush 80 dM_init_318 rfl ?_
  refine JF_newa .int 80 94 rfl dM_init_320 rfl rfl (by decide) ⟨rfl, by decide⟩ pa_int rfl (by decide) (by decide) ?_
  refine JF_putF 12 27 76 (x := 94) dM_init_322 pf_M_67 rfl rfl (by decide) rfl (fun q hq => by cases hq; rfl) rfl rfl rfl trivial ?_
  refine JF_aload_n 0 76 dM_init_325 rfl rfl ?_
  refine JF_sipush 240 dM_init_326 rfl ?_
  refine JF_newa .int 240 95 rfl dM_init_329 rfl rfl (by decide) ⟨rfl, by decide⟩ pa_int rfl (by decide) (by decide) ?_
  refine JF_putF 12 28 76 (x := 95) dM_init_331 pf_M_70 rfl rfl (by decide) rfl (fun q hq => by cases hq; rfl) rfl rfl rfl trivial ?_
  refine JF_aload_n 0 76 dM_init_334 rfl rfl ?_
  refine JF_bipush 12 dM_init_335 rfl ?_
  refine JF_newa .int 12 96 rfl dM_init_337 rfl rfl (by decide) ⟨rfl, by decide⟩ pa_int rfl (by decide) (by decide) ?_
  refine JF_putF 12 29 76 (x := 96) dM_init_339 pf_M_73 rfl rfl (by decide) rfl (fun q hq => by cases hq; rfl) rfl rfl rfl trivial ?_
  refine JF_aload_n 0 76 dM_init_342 rfl rfl ?_
  refine JF_bipush 12 dM_init_343 rfl ?_
  refine JF_newa .int 12 97 rfl dM_init_345 rfl rfl (by decide) ⟨rfl, by decide⟩ pa_int rfl (by decide) (by decide) ?_
  refine JF_putF 12 30 76 (x := 97) dM_init_347 pf_M_76 rfl rfl (by decide) rfl (fun q hq => by cases hq; rfl) rfl rfl rfl trivial ?_
  refine JF_aload_n 0 76 dM_init_350 rfl rfl ?_
  refine JF_bipush 12 dM_init_351 rfl ?_
  refine JF_newa .int 12 98 rfl dM_init_353 rfl rfl (by decide) ⟨rfl, by decide⟩ pa_int rfl (by decide) (by decide) ?_
  refine JF_putF 12 31 76 (x := 98) dM_init_355 pf_M_79 rfl rfl (by decide) rfl (fun q hq => by cases hq; rfl) rfl rfl rfl trivial ?_
  refine JF_aload_n 0 76 dM_init_358 rfl rfl ?_
  refine JF_bipush 7 dM_init_359 rfl ?_
  refine JF_newa .int 7 99 rfl dM_init_361 rfl rfl (by decide) ⟨rfl, by decide⟩ pa_int rfl (by decide) (by decide) ?_
  refine JF_putF 12 35 76 (x := 99) dM_init_363 pf_M_82 rfl rfl (by decide) rfl (fun q hq => by cases hq; rfl) rfl rfl rfl trivial ?_
  refine JF_aload_n 0 76 dM_init_366 rfl rfl ?_
  refine JF_bipush 7 dM_init_367 rfl ?_
  refine JF_newa .int 7 100 rfl dM_init_369 rfl rfl (by decide) ⟨rfl, by decide⟩ pa_int rfl (by decide) (by decide) ?_
  refine JF_putF 12 36 76 (x := 100) dM_init_371 pf_M_85 rfl rfl (by decide) rfl (fun q hq => by cases hq; rfl) rfl rfl rfl trivial ?_
  refine JF_aload_n 0 76 dM_init_374 rfl rfl ?_
  refine JF_bipush 7 dM_init_375 rfl ?_
  refine JF_newa .int 7 101 rfl dM_init_377 rfl rfl (by decide) ⟨rfl, by decide⟩ pa_int rfl (by decide) (by decide) ?_
  refine JF_putF 12 37 76 (x := 101) dM_init_379 pf_M_88 rfl rfl (by decide) rfl (fun q hq => by cases hq; rfl) rfl rfl rfl trivial ?_
  refine JF_aload_n 0 76 dM_init_382 rfl rfl ?_
  refine JF_bipush 12 dM_init_383 rfl ?_
  refine JF_newa .int 12 102 rfl dM_init_385 rfl rfl (by decide) ⟨rfl, by decide⟩ pa_int rfl (by decide) (by decide) ?_
  refine JF_putF 12 39 76 (x := 102) dM_init_387 pf_M_91 rfl rfl (by decide) rfl (fun q hq => by cases hq; rfl) rfl rfl rfl trivial ?_
  refine JF_aload_n 0 76 dM_init_390 rfl rfl ?_
  refine JF_bipush 40 dM_init_391 rfl ?_
  refine JF_newa .int 40 103 rfl dM_init_393 rfl rfl (by decide) ⟨rfl, by decide⟩ pa_int rfl (by decide) (by decide) ?_
  refine JF_putF 12 40 76 (x := 103) dM_init_395 pf_M_94 rfl rfl (by decide) rfl (fun q hq => by cases hq; rfl) rfl rfl rfl trivial ?_
  refine JF_aload_n 0 76 dM_init_398 rfl rfl ?_
  refine JF_bipush 40 dM_init_399 rfl ?_
  refine JF_newa .long 40 104 rfl dM_init_401 rfl rfl (by decide) ⟨rfl, by decide⟩ pa_long rfl (by decide) (by decide) ?_
  refine JF_putF 12 41 76 (x := 104) dM_init_403 pf_M_97 rfl rfl (by decide) rfl (fun q hq => by cases hq; rfl) rfl rfl rfl trivial ?_
  refine JF_aload_n 0 76 dM_init_406 rfl rfl ?_
  refine JF_bipush 40 dM_init_407 rfl ?_
  refine JF_newa .int 40 105 rfl dM_init_409 rfl rfl (by decide) ⟨rfl, by decide⟩ pa_int rfl (by decide) (by decide) ?_
  refine JF_putF 12 42 76 (x := 105) dM_init_411 pf_M_100 rfl rfl (by decide) rfl (fun q hq => by cases hq; rfl) rfl rfl rfl trivial ?_
  refine JF_aload_n 0 76 dM_init_414 rfl rfl ?_
  refine JF_bipush 40 dM_init_415 rfl ?_
  refine JF_newa .int 40 106 rfl dM_init_417 rfl rfl (by decide) ⟨rfl, by decide⟩ pa_int rfl (by decide) (by decide) ?_
  refine JF_putF 12 43 76 (x := 106) dM_init_419 pf_M_103 rfl rfl (by decide) rfl (fun q hq => by cases hq; rfl) rfl rfl rfl trivial ?_
  refine JF_aload_n 0 76 dM_init_422 rfl rfl ?_
  refine JF_bipush 12 dM_init_423 rfl ?_
  refine JF_newa .boolean 12 107 rfl dM_init_425 rfl rfl (by decide) ⟨rfl, by decide⟩ pa_boolean rfl (by decide) (by decide) ?_
  refine JF_putF 12 45 76 (x := 107) dM_init_427 pf_M_106 rfl rfl (by decide) rfl (fun q hq => by cases hq; rfl) rfl rfl rfl trivial ?_
  refine JF_aload_n 0 76 dM_init_430 rfl rfl ?_
  refine JF_bipush 40 dM_init_431 rfl ?_
  refine JF_newa .boolean 40 108 rfl dM_init_433 rfl rfl (by decide) ⟨rfl, by decide⟩ pa_boolean rfl (by decide) (by decide) ?_
  refine JF_putF 12 46 76 (x := 108) dM_init_435 pf_M_110 rfl rfl (by decide) rfl (fun q hq => by cases hq; rfl) rfl rfl rfl trivial ?_
  refine JF_aload_n 0 76 dM_init_438 rfl rfl ?_
  refine JF_bipush 6 dM_init_439 rfl ?_
  refine JF_newa .boolean 6 109 rfl dM_init_441 rfl rfl (by decide) ⟨rfl, by decide⟩ pa_boolean rfl (by decide) (by decide) ?_
  refine JF_putF 12 47 76 (x := 109) dM_init_443 pf_M_113 rfl rfl (by decide) rfl (fun q hq => by cases hq; rfl) rfl rfl rfl trivial ?_
  refine JF_aload_n 0 76 dM_init_446 rfl rfl ?_
  refine JF_bipush 40 dM_init_447 rfl ?_
  refine JF_newa .int 40 110 rfl dM_init_449 rfl rfl (by decide) ⟨rfl, by decide⟩ pa_int rfl (by decide) (by decide) ?_
  refine JF_putF 12 48 76 (x := 110) dM_init_451 pf_M_116 rfl rfl (by decide) rfl (fun q hq => by cases hq; rfl) rfl rfl rfl trivial ?_
  refine JF_aload_n 0 76 dM_init_454 rfl rfl ?_
  refine JF_bipush 40 dM_init_455 rfl ?_
  refine JF_newa .boolean 40 111 rfl dM_init_457 rfl rfl (by decide) ⟨rfl, by decide⟩ pa_boolean rfl (by decide) (by decide) ?_
  refine JF_putF 12 49 76 (x := 111) dM_init_459 pf_M_119 rfl rfl (by decide) rfl (fun q hq => by cases hq; rfl) rfl rfl rfl trivial ?_
  refine JF_aload_n 0 76 dM_init_462 rfl rfl ?_
  refine JF_bipush 24 dM_init_463 rfl ?_
  refine JF_newa .int 24 112 rfl dM_init_465 rfl rfl (by decide) ⟨rfl, by decide⟩ pa_int rfl (by decide) (by decide) ?_
  refine JF_putF 12 50 76 (x := 112) dM_init_467 pf_M_122 rfl rfl (by decide) rfl (fun q hq => by cases hq; rfl) rfl rfl rfl trivial ?_
  refine JF_aload_n 0 76 dM_init_470 rfl rfl ?_
  refine JF_bipush 24 dM_init_471 rfl ?_
  refine JF_newa .int 24 113 rfl dM_init_473 rfl rfl (by decide) ⟨rfl, by decide⟩ pa_int rfl (by decide) (by decide) ?_
  refine JF_putF 12 52 76 (x := 113) dM_init_475 pf_M_125 rfl rfl (by decide) rfl (fun q hq => by cases hq; rfl) rfl rfl rfl trivial ?_
  refine JF_aload_n 0 76 dM_init_478 rfl rfl ?_
  refine JF_bipush 24 dM_init_479 rfl ?_
  refine JF_newa .int 24 114 rfl dM_init_481 rfl rfl (by decide) ⟨rfl, by decide⟩ pa_int rfl (by decide) (by decide) ?_
  refine JF_putF 12 53 76 (x := 114) dM_init_483 pf_M_128 rfl rfl (by decide) rfl (fun q hq => by cases hq; rfl) rfl rfl rfl trivial ?_
  refine JF_aload_n 0 76 dM_init_486 rfl rfl ?_
  refine JF_sipush 16384 dM_init_487 rfl ?_
  refine JF_newa .int 16384 115 rfl dM_init_490 rfl rfl (by decide) ⟨rfl, by decide⟩ pa_int rfl (by decide) (by decide) ?_
  refine JF_putF 12 56 76 (x := 115) dM_init_492 pf_M_131 rfl rfl (by decide) rfl (fun q hq => by cases hq; rfl) rfl rfl rfl trivial ?_
  refine JF_aload_n 0 76 dM_init_495 rfl rfl ?_
  refine JF_bipush 40 dM_init_496 rfl ?_
  refine JF_newa .int 40 116 rfl dM_init_498 rfl rfl (by decide) ⟨rfl, by decide⟩ pa_int rfl (by decide) (by decide) ?_
  refine JF_putF 12 57 76 (x := 116) dM_init_500 pf_M_134 rfl rfl (by decide) rfl (fun q hq => by cases hq; rfl) rfl rfl rfl trivial ?_
  refine JF_aload_n 0 76 dM_init_503 rfl rfl ?_
  refine JF_bipush 40 dM_init_504 rfl ?_
  refine JF_newa .int 40 117 rfl dM_init_506 rfl rfl (by decide) ⟨rfl, by decide⟩ pa_int rfl (by decide) (by decide) ?_
  refine JF_putF 12 58 76 (x := 117) dM_init_508 pf_M_137 rfl rfl (by decide) rfl (fun q hq => by cases hq; rfl) rfl rfl rfl trivial ?_
  refine JF_aload_n 0 76 dM_init_511 rfl rfl ?_
  refine JF_sipush 1722 dM_init_512 rfl ?_
  refine JF_newa .int 1722 118 rfl dM_init_515 rfl rfl (by decide) ⟨rfl, by decide⟩ pa_int rfl (by decide) (by decide) ?_
  refine JF_putF 12 59 76 (x := 118) dM_init_517 pf_M_140 rfl rfl (by decide) rfl (fun q hq => by cases hq; rfl) rfl rfl rfl trivial ?_
  refine JF_aload_n 0 76 dM_init_520 rfl rfl ?_
  refine JF_bipush 40 dM_init_521 rfl ?_
  refine JF_newa .int 40 119 rfl dM_init_523 rfl rfl (by decide) ⟨rfl, by decide⟩ pa_int rfl (by decide) (by decide) ?_
  refine JF_putF 12 60 76 (x := 119) dM_init_525 pf_M_143 rfl rfl (by decide) rfl (fun q hq => by cases hq; rfl) rfl rfl rfl trivial ?_
  refine JF_aload_n 0 76 dM_init_528 rfl rfl ?_
  refine JF_lconst 1 dM_init_529 rfl ?_
  refine JF_putf 12 61 76 (x := 1) dM_init_530 pf_M_146 rfl rfl (by decide) rfl rfl rfl trivial ?_
  refine JF_aload_n 0 76 dM_init_533 rfl rfl ?_
  refine JF_iconst 4 dM_init_534 rfl ?_
  refine JF_newa .int 4 120 rfl dM_init_535 rfl rfl (by decide) ⟨rfl, by decide⟩ pa_int rfl (by decide) (by decide) ?_
  refine JF_putF 12 62 76 (x := 120) dM_init_537 pf_M_150 rfl rfl (by decide) rfl (fun q hq => by cases hq; rfl) rfl rfl rfl trivial ?_
  exact JF_vret dM_init_540 rfl rfl k
def mu1 : jMu := (cM_init_76 (cX_init_0 jmu0))
theorem law_init (k : J E mLaw 0 121 121 18 [some (jvR (-2)), some (jvR 0), some (jvR 76), some (jvI 0)] [] mu1 Q) : JF E mLaw 0 121 0 0 (j_ent 4 [jvR (-2)]) [] jmu0 Q := by
  show JF E mLaw 0 121 0 0 [some (jvR (-2)), none, none, none] [] jmu0 Q
  refine JF_new 0 0 rfl dLaw_0 pn_L_7 rfl (by decide) (by decide) ?_
  refine JF_dup dLaw_3 (fun _ h => by cases h) ?_
  refine JF_callI mX_init 76 0 [] dLaw_4 cal_X_init pm_L_9 pi_L_9 rfl rfl ⟨(Nat.le_of_ble_eq_true rfl), (Nat.le_of_ble_eq_true rfl)⟩ rfl (Nat.le_of_ble_eq_true rfl) rfl (Nat.le_of_ble_eq_true rfl) (by decide) (by decide) (by decide) (iX_init_0 ?_)
  show JF E mLaw 0 121 76 7 [some (jvR (-2)), none, none, none] [jvR 0] _ Q
  refine JF_astore_n 1 dLaw_7 rfl (Nat.le_of_ble_eq_true rfl) rfl ?_
  refine JF_new 12 76 rfl dLaw_8 pn_L_10 rfl (by decide) (by decide) ?_
  refine JF_dup dLaw_11 (fun _ h => by cases h) ?_
  refine JF_callI mM_init 121 76 [] dLaw_12 cal_M_init pm_L_12 pi_L_12 rfl rfl ⟨(Nat.le_of_ble_eq_true rfl), (Nat.le_of_ble_eq_true rfl)⟩ rfl (Nat.le_of_ble_eq_true rfl) rfl (Nat.le_of_ble_eq_true rfl) (by decide) (by decide) (by decide) (iM_init_76 ?_)
  show JF E mLaw 0 121 121 15 [some (jvR (-2)), some (jvR 0), none, none] [jvR 76] _ Q
  refine JF_astore_n 2 dLaw_15 rfl (Nat.le_of_ble_eq_true rfl) rfl ?_
  refine JF_iconst 0 dLaw_16 rfl ?_
  refine JF_istore_n 3 dLaw_17 rfl (Nat.le_of_ble_eq_true rfl) rfl ?_
  exact fun _ => k
end
