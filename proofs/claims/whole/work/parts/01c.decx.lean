theorem dX_init_0 : decode prog_1_method_1_code 0 = .ok (.aload_n 0, 1) := by decide +kernel
theorem dX_init_1 : decode prog_1_method_1_code 1 = .ok (.invokespecial 1, 3) := by decide +kernel
theorem dX_init_4 : decode prog_1_method_1_code 4 = .ok (.aload_n 0, 1) := by decide +kernel
theorem dX_init_5 : decode prog_1_method_1_code 5 = .ok (.new 7, 3) := by decide +kernel
theorem dX_init_8 : decode prog_1_method_1_code 8 = .ok (.dup, 1) := by decide +kernel
theorem dX_init_9 : decode prog_1_method_1_code 9 = .ok (.invokespecial 9, 3) := by decide +kernel
theorem dX_init_12 : decode prog_1_method_1_code 12 = .ok (.putfield 10, 3) := by decide +kernel
theorem dX_init_15 : decode prog_1_method_1_code 15 = .ok (.aload_n 0, 1) := by decide +kernel
theorem dX_init_16 : decode prog_1_method_1_code 16 = .ok (.new 16, 3) := by decide +kernel
theorem dX_init_19 : decode prog_1_method_1_code 19 = .ok (.dup, 1) := by decide +kernel
theorem dX_init_20 : decode prog_1_method_1_code 20 = .ok (.invokespecial 18, 3) := by decide +kernel
theorem dX_init_23 : decode prog_1_method_1_code 23 = .ok (.putfield 19, 3) := by decide +kernel
theorem dX_init_26 : decode prog_1_method_1_code 26 = .ok (.aload_n 0, 1) := by decide +kernel
theorem dX_init_27 : decode prog_1_method_1_code 27 = .ok (.new 23, 3) := by decide +kernel
theorem dX_init_30 : decode prog_1_method_1_code 30 = .ok (.dup, 1) := by decide +kernel
theorem dX_init_31 : decode prog_1_method_1_code 31 = .ok (.invokespecial 25, 3) := by decide +kernel
theorem dX_init_34 : decode prog_1_method_1_code 34 = .ok (.putfield 26, 3) := by decide +kernel
theorem dX_init_37 : decode prog_1_method_1_code 37 = .ok (.aload_n 0, 1) := by decide +kernel
theorem dX_init_38 : decode prog_1_method_1_code 38 = .ok (.new 23, 3) := by decide +kernel
theorem dX_init_41 : decode prog_1_method_1_code 41 = .ok (.dup, 1) := by decide +kernel
theorem dX_init_42 : decode prog_1_method_1_code 42 = .ok (.invokespecial 25, 3) := by decide +kernel
theorem dX_init_45 : decode prog_1_method_1_code 45 = .ok (.putfield 30, 3) := by decide +kernel
theorem dX_init_48 : decode prog_1_method_1_code 48 = .ok (.aload_n 0, 1) := by decide +kernel
theorem dX_init_49 : decode prog_1_method_1_code 49 = .ok (.new 33, 3) := by decide +kernel
theorem dX_init_52 : decode prog_1_method_1_code 52 = .ok (.dup, 1) := by decide +kernel
theorem dX_init_53 : decode prog_1_method_1_code 53 = .ok (.aload_n 0, 1) := by decide +kernel
theorem dX_init_54 : decode prog_1_method_1_code 54 = .ok (.getfield 26, 3) := by decide +kernel
theorem dX_init_57 : decode prog_1_method_1_code 57 = .ok (.invokespecial 35, 3) := by decide +kernel
theorem dX_init_60 : decode prog_1_method_1_code 60 = .ok (.putfield 38, 3) := by decide +kernel
theorem dX_init_63 : decode prog_1_method_1_code 63 = .ok (.aload_n 0, 1) := by decide +kernel
theorem dX_init_64 : decode prog_1_method_1_code 64 = .ok (.new 42, 3) := by decide +kernel
theorem dX_init_67 : decode prog_1_method_1_code 67 = .ok (.dup, 1) := by decide +kernel
theorem dX_init_68 : decode prog_1_method_1_code 68 = .ok (.invokespecial 44, 3) := by decide +kernel
theorem dX_init_71 : decode prog_1_method_1_code 71 = .ok (.putfield 45, 3) := by decide +kernel
theorem dX_init_74 : decode prog_1_method_1_code 74 = .ok (.aload_n 0, 1) := by decide +kernel
theorem dX_init_75 : decode prog_1_method_1_code 75 = .ok (.new 49, 3) := by decide +kernel
theorem dX_init_78 : decode prog_1_method_1_code 78 = .ok (.dup, 1) := by decide +kernel
theorem dX_init_79 : decode prog_1_method_1_code 79 = .ok (.invokespecial 51, 3) := by decide +kernel
theorem dX_init_82 : decode prog_1_method_1_code 82 = .ok (.putfield 52, 3) := by decide +kernel
theorem dX_init_85 : decode prog_1_method_1_code 85 = .ok (.aload_n 0, 1) := by decide +kernel
theorem dX_init_86 : decode prog_1_method_1_code 86 = .ok (.new 56, 3) := by decide +kernel
theorem dX_init_89 : decode prog_1_method_1_code 89 = .ok (.dup, 1) := by decide +kernel
theorem dX_init_90 : decode prog_1_method_1_code 90 = .ok (.invokespecial 58, 3) := by decide +kernel
theorem dX_init_93 : decode prog_1_method_1_code 93 = .ok (.putfield 59, 3) := by decide +kernel
theorem dX_init_96 : decode prog_1_method_1_code 96 = .ok (.aload_n 0, 1) := by decide +kernel
theorem dX_init_97 : decode prog_1_method_1_code 97 = .ok (.new 63, 3) := by decide +kernel
theorem dX_init_100 : decode prog_1_method_1_code 100 = .ok (.dup, 1) := by decide +kernel
theorem dX_init_101 : decode prog_1_method_1_code 101 = .ok (.invokespecial 65, 3) := by decide +kernel
theorem dX_init_104 : decode prog_1_method_1_code 104 = .ok (.putfield 66, 3) := by decide +kernel
theorem dX_init_107 : decode prog_1_method_1_code 107 = .ok (.aload_n 0, 1) := by decide +kernel
theorem dX_init_108 : decode prog_1_method_1_code 108 = .ok (.new 70, 3) := by decide +kernel
theorem dX_init_111 : decode prog_1_method_1_code 111 = .ok (.dup, 1) := by decide +kernel
theorem dX_init_112 : decode prog_1_method_1_code 112 = .ok (.invokespecial 72, 3) := by decide +kernel
theorem dX_init_115 : decode prog_1_method_1_code 115 = .ok (.putfield 73, 3) := by decide +kernel
theorem dX_init_118 : decode prog_1_method_1_code 118 = .ok (.aload_n 0, 1) := by decide +kernel
theorem dX_init_119 : decode prog_1_method_1_code 119 = .ok (.iconst (4), 1) := by decide +kernel
theorem dX_init_120 : decode prog_1_method_1_code 120 = .ok (.newarray .int, 2) := by decide +kernel
theorem dX_init_122 : decode prog_1_method_1_code 122 = .ok (.putfield 77, 3) := by decide +kernel
theorem dX_init_125 : decode prog_1_method_1_code 125 = .ok (.aload_n 0, 1) := by decide +kernel
theorem dX_init_126 : decode prog_1_method_1_code 126 = .ok (.iconst (0), 1) := by decide +kernel
theorem dX_init_127 : decode prog_1_method_1_code 127 = .ok (.putfield 81, 3) := by decide +kernel
theorem dX_init_130 : decode prog_1_method_1_code 130 = .ok (.aload_n 0, 1) := by decide +kernel
theorem dX_init_131 : decode prog_1_method_1_code 131 = .ok (.iconst (0), 1) := by decide +kernel
theorem dX_init_132 : decode prog_1_method_1_code 132 = .ok (.putfield 85, 3) := by decide +kernel
theorem dX_init_135 : decode prog_1_method_1_code 135 = .ok (.aload_n 0, 1) := by decide +kernel
theorem dX_init_136 : decode prog_1_method_1_code 136 = .ok (.iconst (-1), 1) := by decide +kernel
theorem dX_init_137 : decode prog_1_method_1_code 137 = .ok (.putfield 89, 3) := by decide +kernel
theorem dX_init_140 : decode prog_1_method_1_code 140 = .ok (.aload_n 0, 1) := by decide +kernel
theorem dX_init_141 : decode prog_1_method_1_code 141 = .ok (.iconst (0), 1) := by decide +kernel
theorem dX_init_142 : decode prog_1_method_1_code 142 = .ok (.putfield 92, 3) := by decide +kernel
theorem dX_init_145 : decode prog_1_method_1_code 145 = .ok (.aload_n 0, 1) := by decide +kernel
theorem dX_init_146 : decode prog_1_method_1_code 146 = .ok (.lconst 0, 1) := by decide +kernel
theorem dX_init_147 : decode prog_1_method_1_code 147 = .ok (.putfield 95, 3) := by decide +kernel
theorem dX_init_150 : decode prog_1_method_1_code 150 = .ok (.return_, 1) := by decide +kernel
theorem dTa_init_0 : decode prog_9_method_1_code 0 = .ok (.aload_n 0, 1) := by decide +kernel
theorem dTa_init_1 : decode prog_9_method_1_code 1 = .ok (.invokespecial 3, 3) := by decide +kernel
theorem dTa_init_4 : decode prog_9_method_1_code 4 = .ok (.aload_n 0, 1) := by decide +kernel
theorem dTa_init_5 : decode prog_9_method_1_code 5 = .ok (.sipush (1600), 3) := by decide +kernel
theorem dTa_init_8 : decode prog_9_method_1_code 8 = .ok (.newarray .byte, 2) := by decide +kernel
theorem dTa_init_10 : decode prog_9_method_1_code 10 = .ok (.putfield 11, 3) := by decide +kernel
theorem dTa_init_13 : decode prog_9_method_1_code 13 = .ok (.return_, 1) := by decide +kernel
theorem dPa_init_0 : decode prog_6_method_1_code 0 = .ok (.aload_n 0, 1) := by decide +kernel
theorem dPa_init_1 : decode prog_6_method_1_code 1 = .ok (.invokespecial 3, 3) := by decide +kernel
theorem dPa_init_4 : decode prog_6_method_1_code 4 = .ok (.aload_n 0, 1) := by decide +kernel
theorem dPa_init_5 : decode prog_6_method_1_code 5 = .ok (.bipush (6), 2) := by decide +kernel
theorem dPa_init_7 : decode prog_6_method_1_code 7 = .ok (.newarray .int, 2) := by decide +kernel
theorem dPa_init_9 : decode prog_6_method_1_code 9 = .ok (.putfield 11, 3) := by decide +kernel
theorem dPa_init_12 : decode prog_6_method_1_code 12 = .ok (.aload_n 0, 1) := by decide +kernel
theorem dPa_init_13 : decode prog_6_method_1_code 13 = .ok (.bipush (6), 2) := by decide +kernel
theorem dPa_init_15 : decode prog_6_method_1_code 15 = .ok (.newarray .int, 2) := by decide +kernel
theorem dPa_init_17 : decode prog_6_method_1_code 17 = .ok (.putfield 15, 3) := by decide +kernel
theorem dPa_init_20 : decode prog_6_method_1_code 20 = .ok (.aload_n 0, 1) := by decide +kernel
theorem dPa_init_21 : decode prog_6_method_1_code 21 = .ok (.bipush (6), 2) := by decide +kernel
theorem dPa_init_23 : decode prog_6_method_1_code 23 = .ok (.newarray .int, 2) := by decide +kernel
theorem dPa_init_25 : decode prog_6_method_1_code 25 = .ok (.putfield 18, 3) := by decide +kernel
theorem dPa_init_28 : decode prog_6_method_1_code 28 = .ok (.aload_n 0, 1) := by decide +kernel
theorem dPa_init_29 : decode prog_6_method_1_code 29 = .ok (.iconst (-1), 1) := by decide +kernel
theorem dPa_init_30 : decode prog_6_method_1_code 30 = .ok (.putfield 21, 3) := by decide +kernel
theorem dPa_init_33 : decode prog_6_method_1_code 33 = .ok (.return_, 1) := by decide +kernel
theorem dBk_init_0 : decode prog_3_method_1_code 0 = .ok (.aload_n 0, 1) := by decide +kernel
theorem dBk_init_1 : decode prog_3_method_1_code 1 = .ok (.invokespecial 3, 3) := by decide +kernel
theorem dBk_init_4 : decode prog_3_method_1_code 4 = .ok (.aload_n 0, 1) := by decide +kernel
theorem dBk_init_5 : decode prog_3_method_1_code 5 = .ok (.new 9, 3) := by decide +kernel
theorem dBk_init_8 : decode prog_3_method_1_code 8 = .ok (.dup, 1) := by decide +kernel
theorem dBk_init_9 : decode prog_3_method_1_code 9 = .ok (.invokespecial 11, 3) := by decide +kernel
theorem dBk_init_12 : decode prog_3_method_1_code 12 = .ok (.putfield 12, 3) := by decide +kernel
theorem dBk_init_15 : decode prog_3_method_1_code 15 = .ok (.aload_n 0, 1) := by decide +kernel
theorem dBk_init_16 : decode prog_3_method_1_code 16 = .ok (.bipush (12), 2) := by decide +kernel
theorem dBk_init_18 : decode prog_3_method_1_code 18 = .ok (.newarray .int, 2) := by decide +kernel
theorem dBk_init_20 : decode prog_3_method_1_code 20 = .ok (.putfield 18, 3) := by decide +kernel
theorem dBk_init_23 : decode prog_3_method_1_code 23 = .ok (.aload_n 0, 1) := by decide +kernel
theorem dBk_init_24 : decode prog_3_method_1_code 24 = .ok (.bipush (12), 2) := by decide +kernel
theorem dBk_init_26 : decode prog_3_method_1_code 26 = .ok (.newarray .int, 2) := by decide +kernel
theorem dBk_init_28 : decode prog_3_method_1_code 28 = .ok (.putfield 22, 3) := by decide +kernel
theorem dBk_init_31 : decode prog_3_method_1_code 31 = .ok (.aload_n 0, 1) := by decide +kernel
theorem dBk_init_32 : decode prog_3_method_1_code 32 = .ok (.bipush (36), 2) := by decide +kernel
theorem dBk_init_34 : decode prog_3_method_1_code 34 = .ok (.newarray .int, 2) := by decide +kernel
theorem dBk_init_36 : decode prog_3_method_1_code 36 = .ok (.putfield 25, 3) := by decide +kernel
theorem dBk_init_39 : decode prog_3_method_1_code 39 = .ok (.aload_n 0, 1) := by decide +kernel
theorem dBk_init_40 : decode prog_3_method_1_code 40 = .ok (.bipush (12), 2) := by decide +kernel
theorem dBk_init_42 : decode prog_3_method_1_code 42 = .ok (.newarray .int, 2) := by decide +kernel
theorem dBk_init_44 : decode prog_3_method_1_code 44 = .ok (.putfield 28, 3) := by decide +kernel
theorem dBk_init_47 : decode prog_3_method_1_code 47 = .ok (.aload_n 0, 1) := by decide +kernel
theorem dBk_init_48 : decode prog_3_method_1_code 48 = .ok (.bipush (40), 2) := by decide +kernel
theorem dBk_init_50 : decode prog_3_method_1_code 50 = .ok (.newarray .int, 2) := by decide +kernel
theorem dBk_init_52 : decode prog_3_method_1_code 52 = .ok (.putfield 31, 3) := by decide +kernel
theorem dBk_init_55 : decode prog_3_method_1_code 55 = .ok (.aload_n 0, 1) := by decide +kernel
theorem dBk_init_56 : decode prog_3_method_1_code 56 = .ok (.bipush (40), 2) := by decide +kernel
theorem dBk_init_58 : decode prog_3_method_1_code 58 = .ok (.newarray .int, 2) := by decide +kernel
theorem dBk_init_60 : decode prog_3_method_1_code 60 = .ok (.putfield 34, 3) := by decide +kernel
theorem dBk_init_63 : decode prog_3_method_1_code 63 = .ok (.aload_n 0, 1) := by decide +kernel
theorem dBk_init_64 : decode prog_3_method_1_code 64 = .ok (.bipush (120), 2) := by decide +kernel
theorem dBk_init_66 : decode prog_3_method_1_code 66 = .ok (.newarray .int, 2) := by decide +kernel
theorem dBk_init_68 : decode prog_3_method_1_code 68 = .ok (.putfield 37, 3) := by decide +kernel
theorem dBk_init_71 : decode prog_3_method_1_code 71 = .ok (.aload_n 0, 1) := by decide +kernel
theorem dBk_init_72 : decode prog_3_method_1_code 72 = .ok (.bipush (6), 2) := by decide +kernel
theorem dBk_init_74 : decode prog_3_method_1_code 74 = .ok (.newarray .int, 2) := by decide +kernel
theorem dBk_init_76 : decode prog_3_method_1_code 76 = .ok (.putfield 40, 3) := by decide +kernel
theorem dBk_init_79 : decode prog_3_method_1_code 79 = .ok (.aload_n 0, 1) := by decide +kernel
theorem dBk_init_80 : decode prog_3_method_1_code 80 = .ok (.bipush (6), 2) := by decide +kernel
theorem dBk_init_82 : decode prog_3_method_1_code 82 = .ok (.newarray .int, 2) := by decide +kernel
theorem dBk_init_84 : decode prog_3_method_1_code 84 = .ok (.putfield 43, 3) := by decide +kernel
theorem dBk_init_87 : decode prog_3_method_1_code 87 = .ok (.aload_n 0, 1) := by decide +kernel
theorem dBk_init_88 : decode prog_3_method_1_code 88 = .ok (.bipush (6), 2) := by decide +kernel
theorem dBk_init_90 : decode prog_3_method_1_code 90 = .ok (.newarray .int, 2) := by decide +kernel
theorem dBk_init_92 : decode prog_3_method_1_code 92 = .ok (.putfield 46, 3) := by decide +kernel
theorem dBk_init_95 : decode prog_3_method_1_code 95 = .ok (.aload_n 0, 1) := by decide +kernel
theorem dBk_init_96 : decode prog_3_method_1_code 96 = .ok (.bipush (6), 2) := by decide +kernel
theorem dBk_init_98 : decode prog_3_method_1_code 98 = .ok (.newarray .int, 2) := by decide +kernel
theorem dBk_init_100 : decode prog_3_method_1_code 100 = .ok (.putfield 49, 3) := by decide +kernel
theorem dBk_init_103 : decode prog_3_method_1_code 103 = .ok (.aload_n 0, 1) := by decide +kernel
theorem dBk_init_104 : decode prog_3_method_1_code 104 = .ok (.iconst (-1), 1) := by decide +kernel
theorem dBk_init_105 : decode prog_3_method_1_code 105 = .ok (.putfield 52, 3) := by decide +kernel
theorem dBk_init_108 : decode prog_3_method_1_code 108 = .ok (.return_, 1) := by decide +kernel
theorem dTe_init_0 : decode prog_10_method_1_code 0 = .ok (.aload_n 0, 1) := by decide +kernel
theorem dTe_init_1 : decode prog_10_method_1_code 1 = .ok (.invokespecial 3, 3) := by decide +kernel
theorem dTe_init_4 : decode prog_10_method_1_code 4 = .ok (.aload_n 0, 1) := by decide +kernel
theorem dTe_init_5 : decode prog_10_method_1_code 5 = .ok (.bipush (24), 2) := by decide +kernel
theorem dTe_init_7 : decode prog_10_method_1_code 7 = .ok (.newarray .int, 2) := by decide +kernel
theorem dTe_init_9 : decode prog_10_method_1_code 9 = .ok (.putfield 11, 3) := by decide +kernel
theorem dTe_init_12 : decode prog_10_method_1_code 12 = .ok (.aload_n 0, 1) := by decide +kernel
theorem dTe_init_13 : decode prog_10_method_1_code 13 = .ok (.bipush (24), 2) := by decide +kernel
theorem dTe_init_15 : decode prog_10_method_1_code 15 = .ok (.newarray .int, 2) := by decide +kernel
theorem dTe_init_17 : decode prog_10_method_1_code 17 = .ok (.putfield 15, 3) := by decide +kernel
theorem dTe_init_20 : decode prog_10_method_1_code 20 = .ok (.aload_n 0, 1) := by decide +kernel
theorem dTe_init_21 : decode prog_10_method_1_code 21 = .ok (.bipush (12), 2) := by decide +kernel
theorem dTe_init_23 : decode prog_10_method_1_code 23 = .ok (.newarray .int, 2) := by decide +kernel
theorem dTe_init_25 : decode prog_10_method_1_code 25 = .ok (.putfield 18, 3) := by decide +kernel
theorem dTe_init_28 : decode prog_10_method_1_code 28 = .ok (.aload_n 0, 1) := by decide +kernel
theorem dTe_init_29 : decode prog_10_method_1_code 29 = .ok (.sipush (400), 3) := by decide +kernel
theorem dTe_init_32 : decode prog_10_method_1_code 32 = .ok (.newarray .int, 2) := by decide +kernel
theorem dTe_init_34 : decode prog_10_method_1_code 34 = .ok (.putfield 21, 3) := by decide +kernel
theorem dTe_init_37 : decode prog_10_method_1_code 37 = .ok (.aload_n 0, 1) := by decide +kernel
theorem dTe_init_38 : decode prog_10_method_1_code 38 = .ok (.sipush (400), 3) := by decide +kernel
theorem dTe_init_41 : decode prog_10_method_1_code 41 = .ok (.newarray .int, 2) := by decide +kernel
theorem dTe_init_43 : decode prog_10_method_1_code 43 = .ok (.putfield 24, 3) := by decide +kernel
theorem dTe_init_46 : decode prog_10_method_1_code 46 = .ok (.aload_n 0, 1) := by decide +kernel
theorem dTe_init_47 : decode prog_10_method_1_code 47 = .ok (.bipush (12), 2) := by decide +kernel
theorem dTe_init_49 : decode prog_10_method_1_code 49 = .ok (.newarray .int, 2) := by decide +kernel
theorem dTe_init_51 : decode prog_10_method_1_code 51 = .ok (.putfield 27, 3) := by decide +kernel
theorem dTe_init_54 : decode prog_10_method_1_code 54 = .ok (.return_, 1) := by decide +kernel
theorem dFa_init_0 : decode prog_4_method_1_code 0 = .ok (.aload_n 0, 1) := by decide +kernel
theorem dFa_init_1 : decode prog_4_method_1_code 1 = .ok (.invokespecial 3, 3) := by decide +kernel
theorem dFa_init_4 : decode prog_4_method_1_code 4 = .ok (.aload_n 0, 1) := by decide +kernel
theorem dFa_init_5 : decode prog_4_method_1_code 5 = .ok (.bipush (40), 2) := by decide +kernel
theorem dFa_init_7 : decode prog_4_method_1_code 7 = .ok (.newarray .int, 2) := by decide +kernel
theorem dFa_init_9 : decode prog_4_method_1_code 9 = .ok (.putfield 11, 3) := by decide +kernel
theorem dFa_init_12 : decode prog_4_method_1_code 12 = .ok (.aload_n 0, 1) := by decide +kernel
theorem dFa_init_13 : decode prog_4_method_1_code 13 = .ok (.bipush (40), 2) := by decide +kernel
theorem dFa_init_15 : decode prog_4_method_1_code 15 = .ok (.newarray .int, 2) := by decide +kernel
theorem dFa_init_17 : decode prog_4_method_1_code 17 = .ok (.putfield 17, 3) := by decide +kernel
theorem dFa_init_20 : decode prog_4_method_1_code 20 = .ok (.aload_n 0, 1) := by decide +kernel
theorem dFa_init_21 : decode prog_4_method_1_code 21 = .ok (.bipush (40), 2) := by decide +kernel
theorem dFa_init_23 : decode prog_4_method_1_code 23 = .ok (.newarray .int, 2) := by decide +kernel
theorem dFa_init_25 : decode prog_4_method_1_code 25 = .ok (.putfield 20, 3) := by decide +kernel
theorem dFa_init_28 : decode prog_4_method_1_code 28 = .ok (.aload_n 0, 1) := by decide +kernel
theorem dFa_init_29 : decode prog_4_method_1_code 29 = .ok (.bipush (40), 2) := by decide +kernel
theorem dFa_init_31 : decode prog_4_method_1_code 31 = .ok (.newarray .int, 2) := by decide +kernel
theorem dFa_init_33 : decode prog_4_method_1_code 33 = .ok (.putfield 23, 3) := by decide +kernel
theorem dFa_init_36 : decode prog_4_method_1_code 36 = .ok (.aload_n 0, 1) := by decide +kernel
theorem dFa_init_37 : decode prog_4_method_1_code 37 = .ok (.bipush (40), 2) := by decide +kernel
theorem dFa_init_39 : decode prog_4_method_1_code 39 = .ok (.newarray .long, 2) := by decide +kernel
theorem dFa_init_41 : decode prog_4_method_1_code 41 = .ok (.putfield 26, 3) := by decide +kernel
theorem dFa_init_44 : decode prog_4_method_1_code 44 = .ok (.aload_n 0, 1) := by decide +kernel
theorem dFa_init_45 : decode prog_4_method_1_code 45 = .ok (.bipush (40), 2) := by decide +kernel
theorem dFa_init_47 : decode prog_4_method_1_code 47 = .ok (.newarray .long, 2) := by decide +kernel
theorem dFa_init_49 : decode prog_4_method_1_code 49 = .ok (.putfield 30, 3) := by decide +kernel
theorem dFa_init_52 : decode prog_4_method_1_code 52 = .ok (.aload_n 0, 1) := by decide +kernel
theorem dFa_init_53 : decode prog_4_method_1_code 53 = .ok (.new 33, 3) := by decide +kernel
theorem dFa_init_56 : decode prog_4_method_1_code 56 = .ok (.dup, 1) := by decide +kernel
theorem dFa_init_57 : decode prog_4_method_1_code 57 = .ok (.invokespecial 35, 3) := by decide +kernel
theorem dFa_init_60 : decode prog_4_method_1_code 60 = .ok (.putfield 36, 3) := by decide +kernel
theorem dFa_init_63 : decode prog_4_method_1_code 63 = .ok (.aload_n 0, 1) := by decide +kernel
theorem dFa_init_64 : decode prog_4_method_1_code 64 = .ok (.aload_n 1, 1) := by decide +kernel
theorem dFa_init_65 : decode prog_4_method_1_code 65 = .ok (.putfield 40, 3) := by decide +kernel
theorem dFa_init_68 : decode prog_4_method_1_code 68 = .ok (.return_, 1) := by decide +kernel
theorem dRe_init_0 : decode prog_7_method_1_code 0 = .ok (.aload_n 0, 1) := by decide +kernel
theorem dRe_init_1 : decode prog_7_method_1_code 1 = .ok (.invokespecial 3, 3) := by decide +kernel
theorem dRe_init_4 : decode prog_7_method_1_code 4 = .ok (.aload_n 0, 1) := by decide +kernel
theorem dRe_init_5 : decode prog_7_method_1_code 5 = .ok (.bipush (40), 2) := by decide +kernel
theorem dRe_init_7 : decode prog_7_method_1_code 7 = .ok (.newarray .int, 2) := by decide +kernel
theorem dRe_init_9 : decode prog_7_method_1_code 9 = .ok (.putfield 11, 3) := by decide +kernel
theorem dRe_init_12 : decode prog_7_method_1_code 12 = .ok (.aload_n 0, 1) := by decide +kernel
theorem dRe_init_13 : decode prog_7_method_1_code 13 = .ok (.bipush (40), 2) := by decide +kernel
theorem dRe_init_15 : decode prog_7_method_1_code 15 = .ok (.newarray .int, 2) := by decide +kernel
theorem dRe_init_17 : decode prog_7_method_1_code 17 = .ok (.putfield 17, 3) := by decide +kernel
theorem dRe_init_20 : decode prog_7_method_1_code 20 = .ok (.aload_n 0, 1) := by decide +kernel
theorem dRe_init_21 : decode prog_7_method_1_code 21 = .ok (.bipush (40), 2) := by decide +kernel
theorem dRe_init_23 : decode prog_7_method_1_code 23 = .ok (.newarray .int, 2) := by decide +kernel
theorem dRe_init_25 : decode prog_7_method_1_code 25 = .ok (.putfield 20, 3) := by decide +kernel
theorem dRe_init_28 : decode prog_7_method_1_code 28 = .ok (.aload_n 0, 1) := by decide +kernel
theorem dRe_init_29 : decode prog_7_method_1_code 29 = .ok (.bipush (120), 2) := by decide +kernel
theorem dRe_init_31 : decode prog_7_method_1_code 31 = .ok (.newarray .int, 2) := by decide +kernel
theorem dRe_init_33 : decode prog_7_method_1_code 33 = .ok (.putfield 23, 3) := by decide +kernel
theorem dRe_init_36 : decode prog_7_method_1_code 36 = .ok (.aload_n 0, 1) := by decide +kernel
theorem dRe_init_37 : decode prog_7_method_1_code 37 = .ok (.bipush (40), 2) := by decide +kernel
theorem dRe_init_39 : decode prog_7_method_1_code 39 = .ok (.newarray .long, 2) := by decide +kernel
theorem dRe_init_41 : decode prog_7_method_1_code 41 = .ok (.putfield 26, 3) := by decide +kernel
theorem dRe_init_44 : decode prog_7_method_1_code 44 = .ok (.aload_n 0, 1) := by decide +kernel
theorem dRe_init_45 : decode prog_7_method_1_code 45 = .ok (.bipush (40), 2) := by decide +kernel
theorem dRe_init_47 : decode prog_7_method_1_code 47 = .ok (.newarray .long, 2) := by decide +kernel
theorem dRe_init_49 : decode prog_7_method_1_code 49 = .ok (.putfield 30, 3) := by decide +kernel
theorem dRe_init_52 : decode prog_7_method_1_code 52 = .ok (.return_, 1) := by decide +kernel
theorem dBe_init_0 : decode prog_2_method_1_code 0 = .ok (.aload_n 0, 1) := by decide +kernel
theorem dBe_init_1 : decode prog_2_method_1_code 1 = .ok (.invokespecial 1, 3) := by decide +kernel
theorem dBe_init_4 : decode prog_2_method_1_code 4 = .ok (.aload_n 0, 1) := by decide +kernel
theorem dBe_init_5 : decode prog_2_method_1_code 5 = .ok (.bipush (24), 2) := by decide +kernel
theorem dBe_init_7 : decode prog_2_method_1_code 7 = .ok (.newarray .int, 2) := by decide +kernel
theorem dBe_init_9 : decode prog_2_method_1_code 9 = .ok (.putfield 9, 3) := by decide +kernel
theorem dBe_init_12 : decode prog_2_method_1_code 12 = .ok (.aload_n 0, 1) := by decide +kernel
theorem dBe_init_13 : decode prog_2_method_1_code 13 = .ok (.bipush (24), 2) := by decide +kernel
theorem dBe_init_15 : decode prog_2_method_1_code 15 = .ok (.newarray .int, 2) := by decide +kernel
theorem dBe_init_17 : decode prog_2_method_1_code 17 = .ok (.putfield 15, 3) := by decide +kernel
theorem dBe_init_20 : decode prog_2_method_1_code 20 = .ok (.aload_n 0, 1) := by decide +kernel
theorem dBe_init_21 : decode prog_2_method_1_code 21 = .ok (.bipush (24), 2) := by decide +kernel
theorem dBe_init_23 : decode prog_2_method_1_code 23 = .ok (.newarray .int, 2) := by decide +kernel
theorem dBe_init_25 : decode prog_2_method_1_code 25 = .ok (.putfield 18, 3) := by decide +kernel
theorem dBe_init_28 : decode prog_2_method_1_code 28 = .ok (.return_, 1) := by decide +kernel
theorem dRu_init_0 : decode prog_8_method_1_code 0 = .ok (.aload_n 0, 1) := by decide +kernel
theorem dRu_init_1 : decode prog_8_method_1_code 1 = .ok (.invokespecial 1, 3) := by decide +kernel
theorem dRu_init_4 : decode prog_8_method_1_code 4 = .ok (.return_, 1) := by decide +kernel
theorem dOr_init_0 : decode prog_5_method_1_code 0 = .ok (.aload_n 0, 1) := by decide +kernel
theorem dOr_init_1 : decode prog_5_method_1_code 1 = .ok (.invokespecial 5, 3) := by decide +kernel
theorem dOr_init_4 : decode prog_5_method_1_code 4 = .ok (.aload_n 0, 1) := by decide +kernel
theorem dOr_init_5 : decode prog_5_method_1_code 5 = .ok (.bipush (14), 2) := by decide +kernel
theorem dOr_init_7 : decode prog_5_method_1_code 7 = .ok (.newarray .int, 2) := by decide +kernel
theorem dOr_init_9 : decode prog_5_method_1_code 9 = .ok (.putfield 11, 3) := by decide +kernel
theorem dOr_init_12 : decode prog_5_method_1_code 12 = .ok (.aload_n 0, 1) := by decide +kernel
theorem dOr_init_13 : decode prog_5_method_1_code 13 = .ok (.sipush (256), 3) := by decide +kernel
theorem dOr_init_16 : decode prog_5_method_1_code 16 = .ok (.newarray .long, 2) := by decide +kernel
theorem dOr_init_18 : decode prog_5_method_1_code 18 = .ok (.putfield 15, 3) := by decide +kernel
theorem dOr_init_21 : decode prog_5_method_1_code 21 = .ok (.aload_n 0, 1) := by decide +kernel
theorem dOr_init_22 : decode prog_5_method_1_code 22 = .ok (.bipush (41), 2) := by decide +kernel
theorem dOr_init_24 : decode prog_5_method_1_code 24 = .ok (.newarray .int, 2) := by decide +kernel
theorem dOr_init_26 : decode prog_5_method_1_code 26 = .ok (.putfield 21, 3) := by decide +kernel
theorem dOr_init_29 : decode prog_5_method_1_code 29 = .ok (.aload_n 0, 1) := by decide +kernel
theorem dOr_init_30 : decode prog_5_method_1_code 30 = .ok (.bipush (41), 2) := by decide +kernel
theorem dOr_init_32 : decode prog_5_method_1_code 32 = .ok (.newarray .int, 2) := by decide +kernel
theorem dOr_init_34 : decode prog_5_method_1_code 34 = .ok (.putfield 24, 3) := by decide +kernel
theorem dOr_init_37 : decode prog_5_method_1_code 37 = .ok (.aload_n 0, 1) := by decide +kernel
theorem dOr_init_38 : decode prog_5_method_1_code 38 = .ok (.iconst (1), 1) := by decide +kernel
theorem dOr_init_39 : decode prog_5_method_1_code 39 = .ok (.putfield 27, 3) := by decide +kernel
theorem dOr_init_42 : decode prog_5_method_1_code 42 = .ok (.return_, 1) := by decide +kernel
theorem dWy_init_0 : decode prog_12_method_1_code 0 = .ok (.aload_n 0, 1) := by decide +kernel
theorem dWy_init_1 : decode prog_12_method_1_code 1 = .ok (.invokespecial 3, 3) := by decide +kernel
theorem dWy_init_4 : decode prog_12_method_1_code 4 = .ok (.aload_n 0, 1) := by decide +kernel
theorem dWy_init_5 : decode prog_12_method_1_code 5 = .ok (.bipush (40), 2) := by decide +kernel
theorem dWy_init_7 : decode prog_12_method_1_code 7 = .ok (.newarray .int, 2) := by decide +kernel
theorem dWy_init_9 : decode prog_12_method_1_code 9 = .ok (.putfield 11, 3) := by decide +kernel
theorem dWy_init_12 : decode prog_12_method_1_code 12 = .ok (.aload_n 0, 1) := by decide +kernel
theorem dWy_init_13 : decode prog_12_method_1_code 13 = .ok (.bipush (40), 2) := by decide +kernel
theorem dWy_init_15 : decode prog_12_method_1_code 15 = .ok (.newarray .int, 2) := by decide +kernel
theorem dWy_init_17 : decode prog_12_method_1_code 17 = .ok (.putfield 17, 3) := by decide +kernel
theorem dWy_init_20 : decode prog_12_method_1_code 20 = .ok (.aload_n 0, 1) := by decide +kernel
theorem dWy_init_21 : decode prog_12_method_1_code 21 = .ok (.bipush (40), 2) := by decide +kernel
theorem dWy_init_23 : decode prog_12_method_1_code 23 = .ok (.newarray .int, 2) := by decide +kernel
theorem dWy_init_25 : decode prog_12_method_1_code 25 = .ok (.putfield 20, 3) := by decide +kernel
theorem dWy_init_28 : decode prog_12_method_1_code 28 = .ok (.aload_n 0, 1) := by decide +kernel
theorem dWy_init_29 : decode prog_12_method_1_code 29 = .ok (.bipush (40), 2) := by decide +kernel
theorem dWy_init_31 : decode prog_12_method_1_code 31 = .ok (.newarray .int, 2) := by decide +kernel
theorem dWy_init_33 : decode prog_12_method_1_code 33 = .ok (.putfield 23, 3) := by decide +kernel
theorem dWy_init_36 : decode prog_12_method_1_code 36 = .ok (.return_, 1) := by decide +kernel
theorem dWa_init_0 : decode prog_11_method_1_code 0 = .ok (.aload_n 0, 1) := by decide +kernel
theorem dWa_init_1 : decode prog_11_method_1_code 1 = .ok (.invokespecial 3, 3) := by decide +kernel
theorem dWa_init_4 : decode prog_11_method_1_code 4 = .ok (.aload_n 0, 1) := by decide +kernel
theorem dWa_init_5 : decode prog_11_method_1_code 5 = .ok (.iconst (1), 1) := by decide +kernel
theorem dWa_init_6 : decode prog_11_method_1_code 6 = .ok (.putfield 9, 3) := by decide +kernel
theorem dWa_init_9 : decode prog_11_method_1_code 9 = .ok (.return_, 1) := by decide +kernel
theorem dX_feed_0 : decode prog_1_method_2_code 0 = .ok (.aload_n 0, 1) := by decide +kernel
theorem dX_feed_1 : decode prog_1_method_2_code 1 = .ok (.getfield 10, 3) := by decide +kernel
theorem dX_feed_4 : decode prog_1_method_2_code 4 = .ok (.invokevirtual 99, 3) := by decide +kernel
theorem dX_feed_7 : decode prog_1_method_2_code 7 = .ok (.ifCond .ne (5), 3) := by decide +kernel
theorem dX_feed_10 : decode prog_1_method_2_code 10 = .ok (.iconst (-1), 1) := by decide +kernel
theorem dX_feed_11 : decode prog_1_method_2_code 11 = .ok (.ireturn, 1) := by decide +kernel
theorem dX_feed_12 : decode prog_1_method_2_code 12 = .ok (.aload_n 0, 1) := by decide +kernel
theorem dX_feed_13 : decode prog_1_method_2_code 13 = .ok (.getfield 10, 3) := by decide +kernel
theorem dX_feed_16 : decode prog_1_method_2_code 16 = .ok (.iload_n 1, 1) := by decide +kernel
theorem dX_feed_17 : decode prog_1_method_2_code 17 = .ok (.invokevirtual 103, 3) := by decide +kernel
theorem dX_feed_20 : decode prog_1_method_2_code 20 = .ok (.aload_n 0, 1) := by decide +kernel
theorem dX_feed_21 : decode prog_1_method_2_code 21 = .ok (.getfield 10, 3) := by decide +kernel
theorem dX_feed_24 : decode prog_1_method_2_code 24 = .ok (.iload_n 2, 1) := by decide +kernel
theorem dX_feed_25 : decode prog_1_method_2_code 25 = .ok (.invokevirtual 103, 3) := by decide +kernel
theorem dX_feed_28 : decode prog_1_method_2_code 28 = .ok (.aload_n 0, 1) := by decide +kernel
theorem dX_feed_29 : decode prog_1_method_2_code 29 = .ok (.getfield 10, 3) := by decide +kernel
theorem dX_feed_32 : decode prog_1_method_2_code 32 = .ok (.iload_n 3, 1) := by decide +kernel
theorem dX_feed_33 : decode prog_1_method_2_code 33 = .ok (.invokevirtual 103, 3) := by decide +kernel
theorem dX_feed_36 : decode prog_1_method_2_code 36 = .ok (.aload_n 0, 1) := by decide +kernel
theorem dX_feed_37 : decode prog_1_method_2_code 37 = .ok (.getfield 10, 3) := by decide +kernel
theorem dX_feed_40 : decode prog_1_method_2_code 40 = .ok (.iload 4, 2) := by decide +kernel
theorem dX_feed_42 : decode prog_1_method_2_code 42 = .ok (.invokevirtual 103, 3) := by decide +kernel
theorem dX_feed_45 : decode prog_1_method_2_code 45 = .ok (.aload_n 0, 1) := by decide +kernel
theorem dX_feed_46 : decode prog_1_method_2_code 46 = .ok (.getfield 10, 3) := by decide +kernel
theorem dX_feed_49 : decode prog_1_method_2_code 49 = .ok (.iload 5, 2) := by decide +kernel
theorem dX_feed_51 : decode prog_1_method_2_code 51 = .ok (.invokevirtual 103, 3) := by decide +kernel
theorem dX_feed_54 : decode prog_1_method_2_code 54 = .ok (.aload_n 0, 1) := by decide +kernel
theorem dX_feed_55 : decode prog_1_method_2_code 55 = .ok (.getfield 10, 3) := by decide +kernel
theorem dX_feed_58 : decode prog_1_method_2_code 58 = .ok (.getfield 107, 3) := by decide +kernel
theorem dX_feed_61 : decode prog_1_method_2_code 61 = .ok (.ireturn, 1) := by decide +kernel
theorem dTa_hasRoom_0 : decode prog_9_method_2_code 0 = .ok (.aload_n 0, 1) := by decide +kernel
theorem dTa_hasRoom_1 : decode prog_9_method_2_code 1 = .ok (.getfield 15, 3) := by decide +kernel
theorem dTa_hasRoom_4 : decode prog_9_method_2_code 4 = .ok (.bipush (20), 2) := by decide +kernel
theorem dTa_hasRoom_6 : decode prog_9_method_2_code 6 = .ok (.iadd, 1) := by decide +kernel
theorem dTa_hasRoom_7 : decode prog_9_method_2_code 7 = .ok (.sipush (1600), 3) := by decide +kernel
theorem dTa_hasRoom_10 : decode prog_9_method_2_code 10 = .ok (.if_icmp .gt (7), 3) := by decide +kernel
theorem dTa_hasRoom_13 : decode prog_9_method_2_code 13 = .ok (.iconst (1), 1) := by decide +kernel
theorem dTa_hasRoom_14 : decode prog_9_method_2_code 14 = .ok (.goto (4), 3) := by decide +kernel
theorem dTa_hasRoom_17 : decode prog_9_method_2_code 17 = .ok (.iconst (0), 1) := by decide +kernel
theorem dTa_hasRoom_18 : decode prog_9_method_2_code 18 = .ok (.ireturn, 1) := by decide +kernel
theorem dTa_add_0 : decode prog_9_method_3_code 0 = .ok (.bipush (24), 2) := by decide +kernel
theorem dTa_add_2 : decode prog_9_method_3_code 2 = .ok (.istore_n 2, 1) := by decide +kernel
theorem dTa_add_3 : decode prog_9_method_3_code 3 = .ok (.iload_n 2, 1) := by decide +kernel
theorem dTa_add_4 : decode prog_9_method_3_code 4 = .ok (.ifCond .lt (42), 3) := by decide +kernel
theorem dTa_add_7 : decode prog_9_method_3_code 7 = .ok (.aload_n 0, 1) := by decide +kernel
theorem dTa_add_8 : decode prog_9_method_3_code 8 = .ok (.getfield 15, 3) := by decide +kernel
theorem dTa_add_11 : decode prog_9_method_3_code 11 = .ok (.sipush (1600), 3) := by decide +kernel
theorem dTa_add_14 : decode prog_9_method_3_code 14 = .ok (.if_icmp .ge (32), 3) := by decide +kernel
theorem dTa_add_17 : decode prog_9_method_3_code 17 = .ok (.aload_n 0, 1) := by decide +kernel
theorem dTa_add_18 : decode prog_9_method_3_code 18 = .ok (.getfield 11, 3) := by decide +kernel
theorem dTa_add_21 : decode prog_9_method_3_code 21 = .ok (.aload_n 0, 1) := by decide +kernel
theorem dTa_add_22 : decode prog_9_method_3_code 22 = .ok (.getfield 15, 3) := by decide +kernel
theorem dTa_add_25 : decode prog_9_method_3_code 25 = .ok (.iload_n 1, 1) := by decide +kernel
theorem dTa_add_26 : decode prog_9_method_3_code 26 = .ok (.iload_n 2, 1) := by decide +kernel
theorem dTa_add_27 : decode prog_9_method_3_code 27 = .ok (.ishr, 1) := by decide +kernel
theorem dTa_add_28 : decode prog_9_method_3_code 28 = .ok (.i2b, 1) := by decide +kernel
theorem dTa_add_29 : decode prog_9_method_3_code 29 = .ok (.bastore, 1) := by decide +kernel
theorem dTa_add_30 : decode prog_9_method_3_code 30 = .ok (.aload_n 0, 1) := by decide +kernel
theorem dTa_add_31 : decode prog_9_method_3_code 31 = .ok (.dup, 1) := by decide +kernel
theorem dTa_add_32 : decode prog_9_method_3_code 32 = .ok (.getfield 15, 3) := by decide +kernel
theorem dTa_add_35 : decode prog_9_method_3_code 35 = .ok (.iconst (1), 1) := by decide +kernel
theorem dTa_add_36 : decode prog_9_method_3_code 36 = .ok (.iadd, 1) := by decide +kernel
theorem dTa_add_37 : decode prog_9_method_3_code 37 = .ok (.putfield 15, 3) := by decide +kernel
theorem dTa_add_40 : decode prog_9_method_3_code 40 = .ok (.iinc 2 (-8), 3) := by decide +kernel
theorem dTa_add_43 : decode prog_9_method_3_code 43 = .ok (.goto (-40), 3) := by decide +kernel
theorem dTa_add_46 : decode prog_9_method_3_code 46 = .ok (.return_, 1) := by decide +kernel
theorem dX_end_0 : decode prog_1_method_3_code 0 = .ok (.iload_n 1, 1) := by decide +kernel
theorem dX_end_1 : decode prog_1_method_3_code 1 = .ok (.ifCond .lt (14), 3) := by decide +kernel
theorem dX_end_4 : decode prog_1_method_3_code 4 = .ok (.iload_n 1, 1) := by decide +kernel
theorem dX_end_5 : decode prog_1_method_3_code 5 = .ok (.aload_n 0, 1) := by decide +kernel
theorem dX_end_6 : decode prog_1_method_3_code 6 = .ok (.getfield 10, 3) := by decide +kernel
theorem dX_end_9 : decode prog_1_method_3_code 9 = .ok (.getfield 107, 3) := by decide +kernel
theorem dX_end_12 : decode prog_1_method_3_code 12 = .ok (.if_icmp .le (5), 3) := by decide +kernel
theorem dX_end_15 : decode prog_1_method_3_code 15 = .ok (.iconst (0), 1) := by decide +kernel
theorem dX_end_16 : decode prog_1_method_3_code 16 = .ok (.ireturn, 1) := by decide +kernel
theorem dX_end_17 : decode prog_1_method_3_code 17 = .ok (.aload_n 0, 1) := by decide +kernel
theorem dX_end_18 : decode prog_1_method_3_code 18 = .ok (.getfield 10, 3) := by decide +kernel
theorem dX_end_21 : decode prog_1_method_3_code 21 = .ok (.iload_n 1, 1) := by decide +kernel
theorem dX_end_22 : decode prog_1_method_3_code 22 = .ok (.putfield 107, 3) := by decide +kernel
theorem dX_end_25 : decode prog_1_method_3_code 25 = .ok (.iconst (1), 1) := by decide +kernel
theorem dX_end_26 : decode prog_1_method_3_code 26 = .ok (.ireturn, 1) := by decide +kernel
theorem dX_proof_0 : decode prog_1_method_4_code 0 = .ok (.aload_n 0, 1) := by decide +kernel
theorem dX_proof_1 : decode prog_1_method_4_code 1 = .ok (.getfield 19, 3) := by decide +kernel
theorem dX_proof_4 : decode prog_1_method_4_code 4 = .ok (.aload_n 0, 1) := by decide +kernel
theorem dX_proof_5 : decode prog_1_method_4_code 5 = .ok (.getfield 10, 3) := by decide +kernel
theorem dX_proof_8 : decode prog_1_method_4_code 8 = .ok (.aload_n 0, 1) := by decide +kernel
theorem dX_proof_9 : decode prog_1_method_4_code 9 = .ok (.getfield 30, 3) := by decide +kernel
theorem dX_proof_12 : decode prog_1_method_4_code 12 = .ok (.invokevirtual 110, 3) := by decide +kernel
theorem dX_proof_15 : decode prog_1_method_4_code 15 = .ok (.istore_n 1, 1) := by decide +kernel
theorem dX_proof_16 : decode prog_1_method_4_code 16 = .ok (.aload_n 0, 1) := by decide +kernel
theorem dX_proof_17 : decode prog_1_method_4_code 17 = .ok (.getfield 10, 3) := by decide +kernel
theorem dX_proof_20 : decode prog_1_method_4_code 20 = .ok (.iconst (0), 1) := by decide +kernel
theorem dX_proof_21 : decode prog_1_method_4_code 21 = .ok (.putfield 107, 3) := by decide +kernel
theorem dX_proof_24 : decode prog_1_method_4_code 24 = .ok (.aload_n 0, 1) := by decide +kernel
theorem dX_proof_25 : decode prog_1_method_4_code 25 = .ok (.aload_n 0, 1) := by decide +kernel
theorem dX_proof_26 : decode prog_1_method_4_code 26 = .ok (.getfield 19, 3) := by decide +kernel
theorem dX_proof_29 : decode prog_1_method_4_code 29 = .ok (.getfield 114, 3) := by decide +kernel
theorem dX_proof_32 : decode prog_1_method_4_code 32 = .ok (.putfield 85, 3) := by decide +kernel
theorem dX_proof_35 : decode prog_1_method_4_code 35 = .ok (.aload_n 0, 1) := by decide +kernel
theorem dX_proof_36 : decode prog_1_method_4_code 36 = .ok (.aload_n 0, 1) := by decide +kernel
theorem dX_proof_37 : decode prog_1_method_4_code 37 = .ok (.getfield 19, 3) := by decide +kernel
theorem dX_proof_40 : decode prog_1_method_4_code 40 = .ok (.getfield 117, 3) := by decide +kernel
theorem dX_proof_43 : decode prog_1_method_4_code 43 = .ok (.putfield 89, 3) := by decide +kernel
theorem dX_proof_46 : decode prog_1_method_4_code 46 = .ok (.iload_n 1, 1) := by decide +kernel
theorem dX_proof_47 : decode prog_1_method_4_code 47 = .ok (.iconst (-1), 1) := by decide +kernel
theorem dX_proof_48 : decode prog_1_method_4_code 48 = .ok (.if_icmp .ne (5), 3) := by decide +kernel
theorem dX_proof_51 : decode prog_1_method_4_code 51 = .ok (.iconst (-1), 1) := by decide +kernel
theorem dX_proof_52 : decode prog_1_method_4_code 52 = .ok (.ireturn, 1) := by decide +kernel
theorem dX_proof_53 : decode prog_1_method_4_code 53 = .ok (.aload_n 0, 1) := by decide +kernel
theorem dX_proof_54 : decode prog_1_method_4_code 54 = .ok (.getfield 30, 3) := by decide +kernel
theorem dX_proof_57 : decode prog_1_method_4_code 57 = .ok (.astore_n 2, 1) := by decide +kernel
theorem dX_proof_58 : decode prog_1_method_4_code 58 = .ok (.aload_n 0, 1) := by decide +kernel
theorem dX_proof_59 : decode prog_1_method_4_code 59 = .ok (.aload_n 0, 1) := by decide +kernel
theorem dX_proof_60 : decode prog_1_method_4_code 60 = .ok (.getfield 26, 3) := by decide +kernel
theorem dX_proof_63 : decode prog_1_method_4_code 63 = .ok (.putfield 30, 3) := by decide +kernel
theorem dX_proof_66 : decode prog_1_method_4_code 66 = .ok (.aload_n 0, 1) := by decide +kernel
theorem dX_proof_67 : decode prog_1_method_4_code 67 = .ok (.aload_n 2, 1) := by decide +kernel
theorem dX_proof_68 : decode prog_1_method_4_code 68 = .ok (.putfield 26, 3) := by decide +kernel
theorem dX_proof_71 : decode prog_1_method_4_code 71 = .ok (.aload_n 0, 1) := by decide +kernel
theorem dX_proof_72 : decode prog_1_method_4_code 72 = .ok (.getfield 38, 3) := by decide +kernel
theorem dX_proof_75 : decode prog_1_method_4_code 75 = .ok (.aload_n 2, 1) := by decide +kernel
theorem dX_proof_76 : decode prog_1_method_4_code 76 = .ok (.invokevirtual 120, 3) := by decide +kernel
theorem dX_proof_79 : decode prog_1_method_4_code 79 = .ok (.aload_n 0, 1) := by decide +kernel
theorem dX_proof_80 : decode prog_1_method_4_code 80 = .ok (.getfield 52, 3) := by decide +kernel
theorem dX_proof_83 : decode prog_1_method_4_code 83 = .ok (.iconst (0), 1) := by decide +kernel
theorem dX_proof_84 : decode prog_1_method_4_code 84 = .ok (.putfield 123, 3) := by decide +kernel
theorem dX_proof_87 : decode prog_1_method_4_code 87 = .ok (.aload_n 0, 1) := by decide +kernel
theorem dX_proof_88 : decode prog_1_method_4_code 88 = .ok (.getfield 59, 3) := by decide +kernel
theorem dX_proof_91 : decode prog_1_method_4_code 91 = .ok (.iconst (0), 1) := by decide +kernel
theorem dX_proof_92 : decode prog_1_method_4_code 92 = .ok (.putfield 126, 3) := by decide +kernel
theorem dX_proof_95 : decode prog_1_method_4_code 95 = .ok (.aload_n 0, 1) := by decide +kernel
theorem dX_proof_96 : decode prog_1_method_4_code 96 = .ok (.getfield 73, 3) := by decide +kernel
theorem dX_proof_99 : decode prog_1_method_4_code 99 = .ok (.iconst (0), 1) := by decide +kernel
theorem dX_proof_100 : decode prog_1_method_4_code 100 = .ok (.putfield 127, 3) := by decide +kernel
theorem dX_proof_103 : decode prog_1_method_4_code 103 = .ok (.aload_n 0, 1) := by decide +kernel
theorem dX_proof_104 : decode prog_1_method_4_code 104 = .ok (.iconst (0), 1) := by decide +kernel
theorem dX_proof_105 : decode prog_1_method_4_code 105 = .ok (.invokevirtual 130, 3) := by decide +kernel
theorem dX_proof_108 : decode prog_1_method_4_code 108 = .ok (.iload_n 1, 1) := by decide +kernel
theorem dX_proof_109 : decode prog_1_method_4_code 109 = .ok (.ireturn, 1) := by decide +kernel
theorem dPa_parse_0 : decode prog_6_method_2_code 0 = .ok (.aload_n 0, 1) := by decide +kernel
theorem dPa_parse_1 : decode prog_6_method_2_code 1 = .ok (.aload_n 1, 1) := by decide +kernel
theorem dPa_parse_2 : decode prog_6_method_2_code 2 = .ok (.putfield 25, 3) := by decide +kernel
theorem dPa_parse_5 : decode prog_6_method_2_code 5 = .ok (.aload_n 0, 1) := by decide +kernel
theorem dPa_parse_6 : decode prog_6_method_2_code 6 = .ok (.aload_n 2, 1) := by decide +kernel
theorem dPa_parse_7 : decode prog_6_method_2_code 7 = .ok (.putfield 29, 3) := by decide +kernel
theorem dPa_parse_10 : decode prog_6_method_2_code 10 = .ok (.aload_n 0, 1) := by decide +kernel
theorem dPa_parse_11 : decode prog_6_method_2_code 11 = .ok (.getfield 29, 3) := by decide +kernel
theorem dPa_parse_14 : decode prog_6_method_2_code 14 = .ok (.invokevirtual 33, 3) := by decide +kernel
theorem dPa_parse_17 : decode prog_6_method_2_code 17 = .ok (.aload_n 0, 1) := by decide +kernel
theorem dPa_parse_18 : decode prog_6_method_2_code 18 = .ok (.iconst (-1), 1) := by decide +kernel
theorem dPa_parse_19 : decode prog_6_method_2_code 19 = .ok (.putfield 38, 3) := by decide +kernel
theorem dPa_parse_22 : decode prog_6_method_2_code 22 = .ok (.aload_n 0, 1) := by decide +kernel
theorem dPa_parse_23 : decode prog_6_method_2_code 23 = .ok (.iconst (0), 1) := by decide +kernel
theorem dPa_parse_24 : decode prog_6_method_2_code 24 = .ok (.putfield 41, 3) := by decide +kernel
theorem dPa_parse_27 : decode prog_6_method_2_code 27 = .ok (.aload_n 0, 1) := by decide +kernel
theorem dPa_parse_28 : decode prog_6_method_2_code 28 = .ok (.iconst (-1), 1) := by decide +kernel
theorem dPa_parse_29 : decode prog_6_method_2_code 29 = .ok (.putfield 21, 3) := by decide +kernel
theorem dPa_parse_32 : decode prog_6_method_2_code 32 = .ok (.aload_n 0, 1) := by decide +kernel
theorem dPa_parse_33 : decode prog_6_method_2_code 33 = .ok (.getfield 25, 3) := by decide +kernel
theorem dPa_parse_36 : decode prog_6_method_2_code 36 = .ok (.invokevirtual 44, 3) := by decide +kernel
theorem dPa_parse_39 : decode prog_6_method_2_code 39 = .ok (.iconst (0), 1) := by decide +kernel
theorem dPa_parse_40 : decode prog_6_method_2_code 40 = .ok (.istore_n 3, 1) := by decide +kernel
theorem dPa_parse_41 : decode prog_6_method_2_code 41 = .ok (.iload_n 3, 1) := by decide +kernel
theorem dPa_parse_42 : decode prog_6_method_2_code 42 = .ok (.bipush (80), 2) := by decide +kernel
theorem dPa_parse_44 : decode prog_6_method_2_code 44 = .ok (.if_icmp .ge (28), 3) := by decide +kernel
theorem dPa_parse_47 : decode prog_6_method_2_code 47 = .ok (.aload_n 0, 1) := by decide +kernel
theorem dPa_parse_48 : decode prog_6_method_2_code 48 = .ok (.getfield 25, 3) := by decide +kernel
theorem dPa_parse_51 : decode prog_6_method_2_code 51 = .ok (.getfield 49, 3) := by decide +kernel
theorem dPa_parse_54 : decode prog_6_method_2_code 54 = .ok (.ifCond .eq (18), 3) := by decide +kernel
theorem dPa_parse_57 : decode prog_6_method_2_code 57 = .ok (.aload_n 0, 1) := by decide +kernel
theorem dPa_parse_58 : decode prog_6_method_2_code 58 = .ok (.invokevirtual 52, 3) := by decide +kernel
theorem dPa_parse_61 : decode prog_6_method_2_code 61 = .ok (.ifCond .ne (5), 3) := by decide +kernel
theorem dPa_parse_64 : decode prog_6_method_2_code 64 = .ok (.iconst (-1), 1) := by decide +kernel
theorem dPa_parse_65 : decode prog_6_method_2_code 65 = .ok (.ireturn, 1) := by decide +kernel
theorem dPa_parse_66 : decode prog_6_method_2_code 66 = .ok (.iinc 3 (1), 3) := by decide +kernel
theorem dPa_parse_69 : decode prog_6_method_2_code 69 = .ok (.goto (-28), 3) := by decide +kernel
theorem dPa_parse_72 : decode prog_6_method_2_code 72 = .ok (.aload_n 0, 1) := by decide +kernel
theorem dPa_parse_73 : decode prog_6_method_2_code 73 = .ok (.getfield 25, 3) := by decide +kernel
theorem dPa_parse_76 : decode prog_6_method_2_code 76 = .ok (.getfield 49, 3) := by decide +kernel
theorem dPa_parse_79 : decode prog_6_method_2_code 79 = .ok (.ifCond .eq (18), 3) := by decide +kernel
theorem dPa_parse_82 : decode prog_6_method_2_code 82 = .ok (.aload_n 0, 1) := by decide +kernel
theorem dPa_parse_83 : decode prog_6_method_2_code 83 = .ok (.iconst (5), 1) := by decide +kernel
theorem dPa_parse_84 : decode prog_6_method_2_code 84 = .ok (.aload_n 0, 1) := by decide +kernel
theorem dPa_parse_85 : decode prog_6_method_2_code 85 = .ok (.getfield 25, 3) := by decide +kernel
theorem dPa_parse_88 : decode prog_6_method_2_code 88 = .ok (.getfield 56, 3) := by decide +kernel
theorem dPa_parse_91 : decode prog_6_method_2_code 91 = .ok (.invokevirtual 57, 3) := by decide +kernel
theorem dPa_parse_94 : decode prog_6_method_2_code 94 = .ok (.pop, 1) := by decide +kernel
theorem dPa_parse_95 : decode prog_6_method_2_code 95 = .ok (.iconst (-1), 1) := by decide +kernel
theorem dPa_parse_96 : decode prog_6_method_2_code 96 = .ok (.ireturn, 1) := by decide +kernel
theorem dPa_parse_97 : decode prog_6_method_2_code 97 = .ok (.aload_n 0, 1) := by decide +kernel
theorem dPa_parse_98 : decode prog_6_method_2_code 98 = .ok (.getfield 29, 3) := by decide +kernel
theorem dPa_parse_101 : decode prog_6_method_2_code 101 = .ok (.aload_n 0, 1) := by decide +kernel
theorem dPa_parse_102 : decode prog_6_method_2_code 102 = .ok (.getfield 38, 3) := by decide +kernel
theorem dPa_parse_105 : decode prog_6_method_2_code 105 = .ok (.iconst (-1), 1) := by decide +kernel
theorem dPa_parse_106 : decode prog_6_method_2_code 106 = .ok (.if_icmp .ne (15), 3) := by decide +kernel
theorem dPa_parse_109 : decode prog_6_method_2_code 109 = .ok (.aload_n 0, 1) := by decide +kernel
theorem dPa_parse_110 : decode prog_6_method_2_code 110 = .ok (.getfield 29, 3) := by decide +kernel
theorem dPa_parse_113 : decode prog_6_method_2_code 113 = .ok (.getfield 61, 3) := by decide +kernel
theorem dPa_parse_116 : decode prog_6_method_2_code 116 = .ok (.iconst (1), 1) := by decide +kernel
theorem dPa_parse_117 : decode prog_6_method_2_code 117 = .ok (.isub, 1) := by decide +kernel
theorem dPa_parse_118 : decode prog_6_method_2_code 118 = .ok (.goto (7), 3) := by decide +kernel
theorem dPa_parse_121 : decode prog_6_method_2_code 121 = .ok (.aload_n 0, 1) := by decide +kernel
theorem dPa_parse_122 : decode prog_6_method_2_code 122 = .ok (.getfield 38, 3) := by decide +kernel
theorem dPa_parse_125 : decode prog_6_method_2_code 125 = .ok (.putfield 64, 3) := by decide +kernel
theorem dPa_parse_128 : decode prog_6_method_2_code 128 = .ok (.iload_n 3, 1) := by decide +kernel
theorem dPa_parse_129 : decode prog_6_method_2_code 129 = .ok (.ireturn, 1) := by decide +kernel
theorem dBk_clear_0 : decode prog_3_method_2_code 0 = .ok (.aload_n 0, 1) := by decide +kernel
theorem dBk_clear_1 : decode prog_3_method_2_code 1 = .ok (.getfield 12, 3) := by decide +kernel
theorem dBk_clear_4 : decode prog_3_method_2_code 4 = .ok (.invokevirtual 56, 3) := by decide +kernel
theorem dBk_clear_7 : decode prog_3_method_2_code 7 = .ok (.aload_n 0, 1) := by decide +kernel
theorem dBk_clear_8 : decode prog_3_method_2_code 8 = .ok (.iconst (0), 1) := by decide +kernel
theorem dBk_clear_9 : decode prog_3_method_2_code 9 = .ok (.putfield 59, 3) := by decide +kernel
theorem dBk_clear_12 : decode prog_3_method_2_code 12 = .ok (.aload_n 0, 1) := by decide +kernel
theorem dBk_clear_13 : decode prog_3_method_2_code 13 = .ok (.iconst (0), 1) := by decide +kernel
theorem dBk_clear_14 : decode prog_3_method_2_code 14 = .ok (.putfield 62, 3) := by decide +kernel
theorem dBk_clear_17 : decode prog_3_method_2_code 17 = .ok (.aload_n 0, 1) := by decide +kernel
theorem dBk_clear_18 : decode prog_3_method_2_code 18 = .ok (.iconst (0), 1) := by decide +kernel
theorem dBk_clear_19 : decode prog_3_method_2_code 19 = .ok (.putfield 65, 3) := by decide +kernel
theorem dBk_clear_22 : decode prog_3_method_2_code 22 = .ok (.aload_n 0, 1) := by decide +kernel
theorem dBk_clear_23 : decode prog_3_method_2_code 23 = .ok (.iconst (-1), 1) := by decide +kernel
theorem dBk_clear_24 : decode prog_3_method_2_code 24 = .ok (.putfield 52, 3) := by decide +kernel
theorem dBk_clear_27 : decode prog_3_method_2_code 27 = .ok (.return_, 1) := by decide +kernel
theorem dTe_clear_0 : decode prog_10_method_2_code 0 = .ok (.aload_n 0, 1) := by decide +kernel
theorem dTe_clear_1 : decode prog_10_method_2_code 1 = .ok (.iconst (0), 1) := by decide +kernel
theorem dTe_clear_2 : decode prog_10_method_2_code 2 = .ok (.putfield 30, 3) := by decide +kernel
theorem dTe_clear_5 : decode prog_10_method_2_code 5 = .ok (.aload_n 0, 1) := by decide +kernel
theorem dTe_clear_6 : decode prog_10_method_2_code 6 = .ok (.iconst (0), 1) := by decide +kernel
theorem dTe_clear_7 : decode prog_10_method_2_code 7 = .ok (.putfield 34, 3) := by decide +kernel
theorem dTe_clear_10 : decode prog_10_method_2_code 10 = .ok (.aload_n 0, 1) := by decide +kernel
theorem dTe_clear_11 : decode prog_10_method_2_code 11 = .ok (.iconst (0), 1) := by decide +kernel
theorem dTe_clear_12 : decode prog_10_method_2_code 12 = .ok (.putfield 37, 3) := by decide +kernel
theorem dTe_clear_15 : decode prog_10_method_2_code 15 = .ok (.return_, 1) := by decide +kernel
theorem dTa_rewind_0 : decode prog_9_method_5_code 0 = .ok (.aload_n 0, 1) := by decide +kernel
theorem dTa_rewind_1 : decode prog_9_method_5_code 1 = .ok (.iconst (0), 1) := by decide +kernel
theorem dTa_rewind_2 : decode prog_9_method_5_code 2 = .ok (.putfield 19, 3) := by decide +kernel
theorem dTa_rewind_5 : decode prog_9_method_5_code 5 = .ok (.aload_n 0, 1) := by decide +kernel
theorem dTa_rewind_6 : decode prog_9_method_5_code 6 = .ok (.iconst (0), 1) := by decide +kernel
theorem dTa_rewind_7 : decode prog_9_method_5_code 7 = .ok (.putfield 22, 3) := by decide +kernel
theorem dTa_rewind_10 : decode prog_9_method_5_code 10 = .ok (.aload_n 0, 1) := by decide +kernel
theorem dTa_rewind_11 : decode prog_9_method_5_code 11 = .ok (.iconst (0), 1) := by decide +kernel
theorem dTa_rewind_12 : decode prog_9_method_5_code 12 = .ok (.putfield 25, 3) := by decide +kernel
theorem dTa_rewind_15 : decode prog_9_method_5_code 15 = .ok (.aload_n 0, 1) := by decide +kernel
theorem dTa_rewind_16 : decode prog_9_method_5_code 16 = .ok (.invokevirtual 28, 3) := by decide +kernel
theorem dTa_rewind_19 : decode prog_9_method_5_code 19 = .ok (.return_, 1) := by decide +kernel
theorem dTa_advance_0 : decode prog_9_method_6_code 0 = .ok (.aload_n 0, 1) := by decide +kernel
theorem dTa_advance_1 : decode prog_9_method_6_code 1 = .ok (.getfield 22, 3) := by decide +kernel
theorem dTa_advance_4 : decode prog_9_method_6_code 4 = .ok (.aload_n 0, 1) := by decide +kernel
theorem dTa_advance_5 : decode prog_9_method_6_code 5 = .ok (.getfield 25, 3) := by decide +kernel
theorem dTa_advance_8 : decode prog_9_method_6_code 8 = .ok (.iadd, 1) := by decide +kernel
theorem dTa_advance_9 : decode prog_9_method_6_code 9 = .ok (.istore_n 1, 1) := by decide +kernel
theorem dTa_advance_10 : decode prog_9_method_6_code 10 = .ok (.iload_n 1, 1) := by decide +kernel
theorem dTa_advance_11 : decode prog_9_method_6_code 11 = .ok (.aload_n 0, 1) := by decide +kernel
theorem dTa_advance_12 : decode prog_9_method_6_code 12 = .ok (.getfield 15, 3) := by decide +kernel
theorem dTa_advance_15 : decode prog_9_method_6_code 15 = .ok (.if_icmp .ge (31), 3) := by decide +kernel
theorem dTa_advance_18 : decode prog_9_method_6_code 18 = .ok (.aload_n 0, 1) := by decide +kernel
theorem dTa_advance_19 : decode prog_9_method_6_code 19 = .ok (.getfield 11, 3) := by decide +kernel
theorem dTa_advance_22 : decode prog_9_method_6_code 22 = .ok (.iload_n 1, 1) := by decide +kernel
theorem dTa_advance_23 : decode prog_9_method_6_code 23 = .ok (.baload, 1) := by decide +kernel
theorem dTa_advance_24 : decode prog_9_method_6_code 24 = .ok (.bipush (32), 2) := by decide +kernel
theorem dTa_advance_26 : decode prog_9_method_6_code 26 = .ok (.if_icmp .eq (14), 3) := by decide +kernel
theorem dTa_advance_29 : decode prog_9_method_6_code 29 = .ok (.aload_n 0, 1) := by decide +kernel
theorem dTa_advance_30 : decode prog_9_method_6_code 30 = .ok (.getfield 11, 3) := by decide +kernel
theorem dTa_advance_33 : decode prog_9_method_6_code 33 = .ok (.iload_n 1, 1) := by decide +kernel
theorem dTa_advance_34 : decode prog_9_method_6_code 34 = .ok (.baload, 1) := by decide +kernel
theorem dTa_advance_35 : decode prog_9_method_6_code 35 = .ok (.bipush (10), 2) := by decide +kernel
theorem dTa_advance_37 : decode prog_9_method_6_code 37 = .ok (.if_icmp .ne (9), 3) := by decide +kernel
theorem dTa_advance_40 : decode prog_9_method_6_code 40 = .ok (.iinc 1 (1), 3) := by decide +kernel
theorem dTa_advance_43 : decode prog_9_method_6_code 43 = .ok (.goto (-33), 3) := by decide +kernel
theorem dTa_advance_46 : decode prog_9_method_6_code 46 = .ok (.aload_n 0, 1) := by decide +kernel
theorem dTa_advance_47 : decode prog_9_method_6_code 47 = .ok (.aload_n 0, 1) := by decide +kernel
theorem dTa_advance_48 : decode prog_9_method_6_code 48 = .ok (.getfield 19, 3) := by decide +kernel
theorem dTa_advance_51 : decode prog_9_method_6_code 51 = .ok (.iconst (2), 1) := by decide +kernel
theorem dTa_advance_52 : decode prog_9_method_6_code 52 = .ok (.if_icmp .lt (20), 3) := by decide +kernel
theorem dTa_advance_55 : decode prog_9_method_6_code 55 = .ok (.iload_n 1, 1) := by decide +kernel
theorem dTa_advance_56 : decode prog_9_method_6_code 56 = .ok (.aload_n 0, 1) := by decide +kernel
theorem dTa_advance_57 : decode prog_9_method_6_code 57 = .ok (.getfield 22, 3) := by decide +kernel
theorem dTa_advance_60 : decode prog_9_method_6_code 60 = .ok (.aload_n 0, 1) := by decide +kernel
theorem dTa_advance_61 : decode prog_9_method_6_code 61 = .ok (.getfield 25, 3) := by decide +kernel
theorem dTa_advance_64 : decode prog_9_method_6_code 64 = .ok (.iadd, 1) := by decide +kernel
theorem dTa_advance_65 : decode prog_9_method_6_code 65 = .ok (.if_icmp .ne (7), 3) := by decide +kernel
theorem dTa_advance_68 : decode prog_9_method_6_code 68 = .ok (.iconst (1), 1) := by decide +kernel
theorem dTa_advance_69 : decode prog_9_method_6_code 69 = .ok (.goto (4), 3) := by decide +kernel
theorem dTa_advance_72 : decode prog_9_method_6_code 72 = .ok (.iconst (0), 1) := by decide +kernel
theorem dTa_advance_73 : decode prog_9_method_6_code 73 = .ok (.putfield 31, 3) := by decide +kernel
theorem dTa_advance_76 : decode prog_9_method_6_code 76 = .ok (.aload_n 0, 1) := by decide +kernel
theorem dTa_advance_77 : decode prog_9_method_6_code 77 = .ok (.iload_n 1, 1) := by decide +kernel
theorem dTa_advance_78 : decode prog_9_method_6_code 78 = .ok (.putfield 22, 3) := by decide +kernel
theorem dTa_advance_81 : decode prog_9_method_6_code 81 = .ok (.aload_n 0, 1) := by decide +kernel
theorem dTa_advance_82 : decode prog_9_method_6_code 82 = .ok (.iconst (0), 1) := by decide +kernel
theorem dTa_advance_83 : decode prog_9_method_6_code 83 = .ok (.putfield 25, 3) := by decide +kernel
theorem dTa_advance_86 : decode prog_9_method_6_code 86 = .ok (.aload_n 0, 1) := by decide +kernel
theorem dTa_advance_87 : decode prog_9_method_6_code 87 = .ok (.iconst (0), 1) := by decide +kernel
theorem dTa_advance_88 : decode prog_9_method_6_code 88 = .ok (.putfield 35, 3) := by decide +kernel
theorem dTa_advance_91 : decode prog_9_method_6_code 91 = .ok (.iload_n 1, 1) := by decide +kernel
theorem dTa_advance_92 : decode prog_9_method_6_code 92 = .ok (.aload_n 0, 1) := by decide +kernel
theorem dTa_advance_93 : decode prog_9_method_6_code 93 = .ok (.getfield 15, 3) := by decide +kernel
theorem dTa_advance_96 : decode prog_9_method_6_code 96 = .ok (.if_icmp .lt (9), 3) := by decide +kernel
theorem dTa_advance_99 : decode prog_9_method_6_code 99 = .ok (.aload_n 0, 1) := by decide +kernel
theorem dTa_advance_100 : decode prog_9_method_6_code 100 = .ok (.iconst (0), 1) := by decide +kernel
theorem dTa_advance_101 : decode prog_9_method_6_code 101 = .ok (.putfield 19, 3) := by decide +kernel
theorem dTa_advance_104 : decode prog_9_method_6_code 104 = .ok (.return_, 1) := by decide +kernel
theorem dTa_advance_105 : decode prog_9_method_6_code 105 = .ok (.aload_n 0, 1) := by decide +kernel
theorem dTa_advance_106 : decode prog_9_method_6_code 106 = .ok (.getfield 11, 3) := by decide +kernel
theorem dTa_advance_109 : decode prog_9_method_6_code 109 = .ok (.iload_n 1, 1) := by decide +kernel
theorem dTa_advance_110 : decode prog_9_method_6_code 110 = .ok (.baload, 1) := by decide +kernel
theorem dTa_advance_111 : decode prog_9_method_6_code 111 = .ok (.bipush (97), 2) := by decide +kernel
theorem dTa_advance_113 : decode prog_9_method_6_code 113 = .ok (.if_icmp .lt (18), 3) := by decide +kernel
theorem dTa_advance_116 : decode prog_9_method_6_code 116 = .ok (.aload_n 0, 1) := by decide +kernel
theorem dTa_advance_117 : decode prog_9_method_6_code 117 = .ok (.getfield 11, 3) := by decide +kernel
theorem dTa_advance_120 : decode prog_9_method_6_code 120 = .ok (.iload_n 1, 1) := by decide +kernel
theorem dTa_advance_121 : decode prog_9_method_6_code 121 = .ok (.baload, 1) := by decide +kernel
theorem dTa_advance_122 : decode prog_9_method_6_code 122 = .ok (.bipush (122), 2) := by decide +kernel
theorem dTa_advance_124 : decode prog_9_method_6_code 124 = .ok (.if_icmp .gt (7), 3) := by decide +kernel
theorem dTa_advance_127 : decode prog_9_method_6_code 127 = .ok (.iconst (1), 1) := by decide +kernel
theorem dTa_advance_128 : decode prog_9_method_6_code 128 = .ok (.goto (4), 3) := by decide +kernel
theorem dTa_advance_131 : decode prog_9_method_6_code 131 = .ok (.iconst (0), 1) := by decide +kernel
theorem dTa_advance_132 : decode prog_9_method_6_code 132 = .ok (.istore_n 2, 1) := by decide +kernel
theorem dTa_advance_133 : decode prog_9_method_6_code 133 = .ok (.aload_n 0, 1) := by decide +kernel
theorem dTa_advance_134 : decode prog_9_method_6_code 134 = .ok (.getfield 11, 3) := by decide +kernel
theorem dTa_advance_137 : decode prog_9_method_6_code 137 = .ok (.iload_n 1, 1) := by decide +kernel
theorem dTa_advance_138 : decode prog_9_method_6_code 138 = .ok (.baload, 1) := by decide +kernel
theorem dTa_advance_139 : decode prog_9_method_6_code 139 = .ok (.bipush (48), 2) := by decide +kernel
theorem dTa_advance_141 : decode prog_9_method_6_code 141 = .ok (.if_icmp .lt (18), 3) := by decide +kernel
theorem dTa_advance_144 : decode prog_9_method_6_code 144 = .ok (.aload_n 0, 1) := by decide +kernel
theorem dTa_advance_145 : decode prog_9_method_6_code 145 = .ok (.getfield 11, 3) := by decide +kernel
theorem dTa_advance_148 : decode prog_9_method_6_code 148 = .ok (.iload_n 1, 1) := by decide +kernel
theorem dTa_advance_149 : decode prog_9_method_6_code 149 = .ok (.baload, 1) := by decide +kernel
theorem dTa_advance_150 : decode prog_9_method_6_code 150 = .ok (.bipush (57), 2) := by decide +kernel
theorem dTa_advance_152 : decode prog_9_method_6_code 152 = .ok (.if_icmp .gt (7), 3) := by decide +kernel
theorem dTa_advance_155 : decode prog_9_method_6_code 155 = .ok (.iconst (1), 1) := by decide +kernel
theorem dTa_advance_156 : decode prog_9_method_6_code 156 = .ok (.goto (4), 3) := by decide +kernel
theorem dTa_advance_159 : decode prog_9_method_6_code 159 = .ok (.iconst (0), 1) := by decide +kernel
theorem dTa_advance_160 : decode prog_9_method_6_code 160 = .ok (.istore_n 3, 1) := by decide +kernel
theorem dTa_advance_161 : decode prog_9_method_6_code 161 = .ok (.aload_n 0, 1) := by decide +kernel
theorem dTa_advance_162 : decode prog_9_method_6_code 162 = .ok (.iload_n 2, 1) := by decide +kernel
theorem dTa_advance_163 : decode prog_9_method_6_code 163 = .ok (.ifCond .eq (7), 3) := by decide +kernel
theorem dTa_advance_166 : decode prog_9_method_6_code 166 = .ok (.iconst (2), 1) := by decide +kernel
theorem dTa_advance_167 : decode prog_9_method_6_code 167 = .ok (.goto (12), 3) := by decide +kernel
theorem dTa_advance_170 : decode prog_9_method_6_code 170 = .ok (.iload_n 3, 1) := by decide +kernel
theorem dTa_advance_171 : decode prog_9_method_6_code 171 = .ok (.ifCond .eq (7), 3) := by decide +kernel
theorem dTa_advance_174 : decode prog_9_method_6_code 174 = .ok (.iconst (3), 1) := by decide +kernel
theorem dTa_advance_175 : decode prog_9_method_6_code 175 = .ok (.goto (4), 3) := by decide +kernel
theorem dTa_advance_178 : decode prog_9_method_6_code 178 = .ok (.iconst (1), 1) := by decide +kernel
theorem dTa_advance_179 : decode prog_9_method_6_code 179 = .ok (.putfield 19, 3) := by decide +kernel
theorem dTa_advance_182 : decode prog_9_method_6_code 182 = .ok (.aload_n 0, 1) := by decide +kernel
theorem dTa_advance_183 : decode prog_9_method_6_code 183 = .ok (.getfield 19, 3) := by decide +kernel
theorem dTa_advance_186 : decode prog_9_method_6_code 186 = .ok (.iconst (1), 1) := by decide +kernel
theorem dTa_advance_187 : decode prog_9_method_6_code 187 = .ok (.if_icmp .ne (23), 3) := by decide +kernel
theorem dTa_advance_190 : decode prog_9_method_6_code 190 = .ok (.aload_n 0, 1) := by decide +kernel
theorem dTa_advance_191 : decode prog_9_method_6_code 191 = .ok (.aload_n 0, 1) := by decide +kernel
theorem dTa_advance_192 : decode prog_9_method_6_code 192 = .ok (.getfield 11, 3) := by decide +kernel
theorem dTa_advance_195 : decode prog_9_method_6_code 195 = .ok (.iload_n 1, 1) := by decide +kernel
theorem dTa_advance_196 : decode prog_9_method_6_code 196 = .ok (.baload, 1) := by decide +kernel
theorem dTa_advance_197 : decode prog_9_method_6_code 197 = .ok (.sipush (255), 3) := by decide +kernel
theorem dTa_advance_200 : decode prog_9_method_6_code 200 = .ok (.iand, 1) := by decide +kernel
theorem dTa_advance_201 : decode prog_9_method_6_code 201 = .ok (.putfield 35, 3) := by decide +kernel
theorem dTa_advance_204 : decode prog_9_method_6_code 204 = .ok (.aload_n 0, 1) := by decide +kernel
theorem dTa_advance_205 : decode prog_9_method_6_code 205 = .ok (.iconst (1), 1) := by decide +kernel
theorem dTa_advance_206 : decode prog_9_method_6_code 206 = .ok (.putfield 25, 3) := by decide +kernel
theorem dTa_advance_209 : decode prog_9_method_6_code 209 = .ok (.return_, 1) := by decide +kernel
theorem dTa_advance_210 : decode prog_9_method_6_code 210 = .ok (.iload_n 2, 1) := by decide +kernel
theorem dTa_advance_211 : decode prog_9_method_6_code 211 = .ok (.ifCond .eq (8), 3) := by decide +kernel
theorem dTa_advance_214 : decode prog_9_method_6_code 214 = .ok (.bipush (97), 2) := by decide +kernel
theorem dTa_advance_216 : decode prog_9_method_6_code 216 = .ok (.goto (5), 3) := by decide +kernel
theorem dTa_advance_219 : decode prog_9_method_6_code 219 = .ok (.bipush (48), 2) := by decide +kernel
theorem dTa_advance_221 : decode prog_9_method_6_code 221 = .ok (.istore 4, 2) := by decide +kernel
theorem dTa_advance_223 : decode prog_9_method_6_code 223 = .ok (.iload_n 2, 1) := by decide +kernel
theorem dTa_advance_224 : decode prog_9_method_6_code 224 = .ok (.ifCond .eq (8), 3) := by decide +kernel
theorem dTa_advance_227 : decode prog_9_method_6_code 227 = .ok (.bipush (122), 2) := by decide +kernel
theorem dTa_advance_229 : decode prog_9_method_6_code 229 = .ok (.goto (5), 3) := by decide +kernel
theorem dTa_advance_232 : decode prog_9_method_6_code 232 = .ok (.bipush (57), 2) := by decide +kernel
theorem dTa_advance_234 : decode prog_9_method_6_code 234 = .ok (.istore 5, 2) := by decide +kernel
theorem dTa_advance_236 : decode prog_9_method_6_code 236 = .ok (.iload_n 1, 1) := by decide +kernel
theorem dTa_advance_237 : decode prog_9_method_6_code 237 = .ok (.aload_n 0, 1) := by decide +kernel
theorem dTa_advance_238 : decode prog_9_method_6_code 238 = .ok (.getfield 15, 3) := by decide +kernel
theorem dTa_advance_241 : decode prog_9_method_6_code 241 = .ok (.if_icmp .ge (119), 3) := by decide +kernel
theorem dTa_advance_244 : decode prog_9_method_6_code 244 = .ok (.aload_n 0, 1) := by decide +kernel
theorem dTa_advance_245 : decode prog_9_method_6_code 245 = .ok (.getfield 11, 3) := by decide +kernel
theorem dTa_advance_248 : decode prog_9_method_6_code 248 = .ok (.iload_n 1, 1) := by decide +kernel
theorem dTa_advance_249 : decode prog_9_method_6_code 249 = .ok (.baload, 1) := by decide +kernel
theorem dTa_advance_250 : decode prog_9_method_6_code 250 = .ok (.iload 4, 2) := by decide +kernel
theorem dTa_advance_252 : decode prog_9_method_6_code 252 = .ok (.if_icmp .lt (108), 3) := by decide +kernel
theorem dTa_advance_255 : decode prog_9_method_6_code 255 = .ok (.aload_n 0, 1) := by decide +kernel
theorem dTa_advance_256 : decode prog_9_method_6_code 256 = .ok (.getfield 11, 3) := by decide +kernel
theorem dTa_advance_259 : decode prog_9_method_6_code 259 = .ok (.iload_n 1, 1) := by decide +kernel
theorem dTa_advance_260 : decode prog_9_method_6_code 260 = .ok (.baload, 1) := by decide +kernel
theorem dTa_advance_261 : decode prog_9_method_6_code 261 = .ok (.iload 5, 2) := by decide +kernel
theorem dTa_advance_263 : decode prog_9_method_6_code 263 = .ok (.if_icmp .gt (97), 3) := by decide +kernel
theorem dTa_advance_266 : decode prog_9_method_6_code 266 = .ok (.iload_n 2, 1) := by decide +kernel
theorem dTa_advance_267 : decode prog_9_method_6_code 267 = .ok (.ifCond .eq (44), 3) := by decide +kernel
theorem dTa_advance_270 : decode prog_9_method_6_code 270 = .ok (.aload_n 0, 1) := by decide +kernel
theorem dTa_advance_271 : decode prog_9_method_6_code 271 = .ok (.getfield 25, 3) := by decide +kernel
theorem dTa_advance_274 : decode prog_9_method_6_code 274 = .ok (.bipush (6), 2) := by decide +kernel
theorem dTa_advance_276 : decode prog_9_method_6_code 276 = .ok (.if_icmp .ge (35), 3) := by decide +kernel
theorem dTa_advance_279 : decode prog_9_method_6_code 279 = .ok (.aload_n 0, 1) := by decide +kernel
theorem dTa_advance_280 : decode prog_9_method_6_code 280 = .ok (.dup, 1) := by decide +kernel
theorem dTa_advance_281 : decode prog_9_method_6_code 281 = .ok (.getfield 35, 3) := by decide +kernel
theorem dTa_advance_284 : decode prog_9_method_6_code 284 = .ok (.aload_n 0, 1) := by decide +kernel
theorem dTa_advance_285 : decode prog_9_method_6_code 285 = .ok (.getfield 11, 3) := by decide +kernel
theorem dTa_advance_288 : decode prog_9_method_6_code 288 = .ok (.iload_n 1, 1) := by decide +kernel
theorem dTa_advance_289 : decode prog_9_method_6_code 289 = .ok (.baload, 1) := by decide +kernel
theorem dTa_advance_290 : decode prog_9_method_6_code 290 = .ok (.bipush (97), 2) := by decide +kernel
theorem dTa_advance_292 : decode prog_9_method_6_code 292 = .ok (.isub, 1) := by decide +kernel
theorem dTa_advance_293 : decode prog_9_method_6_code 293 = .ok (.iconst (1), 1) := by decide +kernel
theorem dTa_advance_294 : decode prog_9_method_6_code 294 = .ok (.iadd, 1) := by decide +kernel
theorem dTa_advance_295 : decode prog_9_method_6_code 295 = .ok (.iconst (5), 1) := by decide +kernel
theorem dTa_advance_296 : decode prog_9_method_6_code 296 = .ok (.iconst (5), 1) := by decide +kernel
theorem dTa_advance_297 : decode prog_9_method_6_code 297 = .ok (.aload_n 0, 1) := by decide +kernel
theorem dTa_advance_298 : decode prog_9_method_6_code 298 = .ok (.getfield 25, 3) := by decide +kernel
theorem dTa_advance_301 : decode prog_9_method_6_code 301 = .ok (.isub, 1) := by decide +kernel
theorem dTa_advance_302 : decode prog_9_method_6_code 302 = .ok (.imul, 1) := by decide +kernel
theorem dTa_advance_303 : decode prog_9_method_6_code 303 = .ok (.ishl, 1) := by decide +kernel
theorem dTa_advance_304 : decode prog_9_method_6_code 304 = .ok (.ior, 1) := by decide +kernel
theorem dTa_advance_305 : decode prog_9_method_6_code 305 = .ok (.putfield 35, 3) := by decide +kernel
theorem dTa_advance_308 : decode prog_9_method_6_code 308 = .ok (.goto (36), 3) := by decide +kernel
theorem dTa_advance_311 : decode prog_9_method_6_code 311 = .ok (.iload_n 3, 1) := by decide +kernel
theorem dTa_advance_312 : decode prog_9_method_6_code 312 = .ok (.ifCond .eq (32), 3) := by decide +kernel
theorem dTa_advance_315 : decode prog_9_method_6_code 315 = .ok (.aload_n 0, 1) := by decide +kernel
theorem dTa_advance_316 : decode prog_9_method_6_code 316 = .ok (.getfield 25, 3) := by decide +kernel
theorem dTa_advance_319 : decode prog_9_method_6_code 319 = .ok (.iconst (4), 1) := by decide +kernel
theorem dTa_advance_320 : decode prog_9_method_6_code 320 = .ok (.if_icmp .ge (24), 3) := by decide +kernel
theorem dTa_advance_323 : decode prog_9_method_6_code 323 = .ok (.aload_n 0, 1) := by decide +kernel
theorem dTa_advance_324 : decode prog_9_method_6_code 324 = .ok (.bipush (10), 2) := by decide +kernel
theorem dTa_advance_326 : decode prog_9_method_6_code 326 = .ok (.aload_n 0, 1) := by decide +kernel
theorem dTa_advance_327 : decode prog_9_method_6_code 327 = .ok (.getfield 35, 3) := by decide +kernel
theorem dTa_advance_330 : decode prog_9_method_6_code 330 = .ok (.imul, 1) := by decide +kernel
theorem dTa_advance_331 : decode prog_9_method_6_code 331 = .ok (.aload_n 0, 1) := by decide +kernel
theorem dTa_advance_332 : decode prog_9_method_6_code 332 = .ok (.getfield 11, 3) := by decide +kernel
theorem dTa_advance_335 : decode prog_9_method_6_code 335 = .ok (.iload_n 1, 1) := by decide +kernel
theorem dTa_advance_336 : decode prog_9_method_6_code 336 = .ok (.baload, 1) := by decide +kernel
theorem dTa_advance_337 : decode prog_9_method_6_code 337 = .ok (.iadd, 1) := by decide +kernel
theorem dTa_advance_338 : decode prog_9_method_6_code 338 = .ok (.bipush (48), 2) := by decide +kernel
theorem dTa_advance_340 : decode prog_9_method_6_code 340 = .ok (.isub, 1) := by decide +kernel
theorem dTa_advance_341 : decode prog_9_method_6_code 341 = .ok (.putfield 35, 3) := by decide +kernel
theorem dTa_advance_344 : decode prog_9_method_6_code 344 = .ok (.aload_n 0, 1) := by decide +kernel
theorem dTa_advance_345 : decode prog_9_method_6_code 345 = .ok (.dup, 1) := by decide +kernel
theorem dTa_advance_346 : decode prog_9_method_6_code 346 = .ok (.getfield 25, 3) := by decide +kernel
theorem dTa_advance_349 : decode prog_9_method_6_code 349 = .ok (.iconst (1), 1) := by decide +kernel
theorem dTa_advance_350 : decode prog_9_method_6_code 350 = .ok (.iadd, 1) := by decide +kernel
theorem dTa_advance_351 : decode prog_9_method_6_code 351 = .ok (.putfield 25, 3) := by decide +kernel
theorem dTa_advance_354 : decode prog_9_method_6_code 354 = .ok (.iinc 1 (1), 3) := by decide +kernel
theorem dTa_advance_357 : decode prog_9_method_6_code 357 = .ok (.goto (-121), 3) := by decide +kernel
theorem dTa_advance_360 : decode prog_9_method_6_code 360 = .ok (.return_, 1) := by decide +kernel
theorem dPa_readStatement_0 : decode prog_6_method_4_code 0 = .ok (.aload_n 0, 1) := by decide +kernel
theorem dPa_readStatement_1 : decode prog_6_method_4_code 1 = .ok (.getfield 25, 3) := by decide +kernel
theorem dPa_readStatement_4 : decode prog_6_method_4_code 4 = .ok (.getfield 56, 3) := by decide +kernel
theorem dPa_readStatement_7 : decode prog_6_method_4_code 7 = .ok (.istore_n 1, 1) := by decide +kernel
theorem dPa_readStatement_8 : decode prog_6_method_4_code 8 = .ok (.aload_n 0, 1) := by decide +kernel
theorem dPa_readStatement_9 : decode prog_6_method_4_code 9 = .ok (.getfield 25, 3) := by decide +kernel
theorem dPa_readStatement_12 : decode prog_6_method_4_code 12 = .ok (.ldc 65, 2) := by decide +kernel
theorem dPa_readStatement_14 : decode prog_6_method_4_code 14 = .ok (.invokevirtual 66, 3) := by decide +kernel
theorem dPa_readStatement_17 : decode prog_6_method_4_code 17 = .ok (.ifCond .eq (32), 3) := by decide +kernel
theorem dPa_readStatement_20 : decode prog_6_method_4_code 20 = .ok (.aload_n 0, 1) := by decide +kernel
theorem dPa_readStatement_21 : decode prog_6_method_4_code 21 = .ok (.getfield 29, 3) := by decide +kernel
theorem dPa_readStatement_24 : decode prog_6_method_4_code 24 = .ok (.getfield 70, 3) := by decide +kernel
theorem dPa_readStatement_27 : decode prog_6_method_4_code 27 = .ok (.bipush (12), 2) := by decide +kernel
theorem dPa_readStatement_29 : decode prog_6_method_4_code 29 = .ok (.if_icmp .ge (10), 3) := by decide +kernel
theorem dPa_readStatement_32 : decode prog_6_method_4_code 32 = .ok (.aload_n 0, 1) := by decide +kernel
theorem dPa_readStatement_33 : decode prog_6_method_4_code 33 = .ok (.invokevirtual 73, 3) := by decide +kernel
theorem dPa_readStatement_36 : decode prog_6_method_4_code 36 = .ok (.goto (9), 3) := by decide +kernel
theorem dPa_readStatement_39 : decode prog_6_method_4_code 39 = .ok (.aload_n 0, 1) := by decide +kernel
theorem dPa_readStatement_40 : decode prog_6_method_4_code 40 = .ok (.iconst (5), 1) := by decide +kernel
theorem dPa_readStatement_41 : decode prog_6_method_4_code 41 = .ok (.iload_n 1, 1) := by decide +kernel
theorem dPa_readStatement_42 : decode prog_6_method_4_code 42 = .ok (.invokevirtual 57, 3) := by decide +kernel
theorem dPa_readStatement_45 : decode prog_6_method_4_code 45 = .ok (.istore_n 2, 1) := by decide +kernel
theorem dPa_readStatement_46 : decode prog_6_method_4_code 46 = .ok (.goto (112), 3) := by decide +kernel
theorem dPa_readStatement_49 : decode prog_6_method_4_code 49 = .ok (.aload_n 0, 1) := by decide +kernel
theorem dPa_readStatement_50 : decode prog_6_method_4_code 50 = .ok (.getfield 25, 3) := by decide +kernel
theorem dPa_readStatement_53 : decode prog_6_method_4_code 53 = .ok (.ldc 76, 2) := by decide +kernel
theorem dPa_readStatement_55 : decode prog_6_method_4_code 55 = .ok (.invokevirtual 66, 3) := by decide +kernel
theorem dPa_readStatement_58 : decode prog_6_method_4_code 58 = .ok (.ifCond .eq (32), 3) := by decide +kernel
theorem dPa_readStatement_61 : decode prog_6_method_4_code 61 = .ok (.aload_n 0, 1) := by decide +kernel
theorem dPa_readStatement_62 : decode prog_6_method_4_code 62 = .ok (.getfield 29, 3) := by decide +kernel
theorem dPa_readStatement_65 : decode prog_6_method_4_code 65 = .ok (.getfield 61, 3) := by decide +kernel
theorem dPa_readStatement_68 : decode prog_6_method_4_code 68 = .ok (.bipush (40), 2) := by decide +kernel
theorem dPa_readStatement_70 : decode prog_6_method_4_code 70 = .ok (.if_icmp .ge (10), 3) := by decide +kernel
theorem dPa_readStatement_73 : decode prog_6_method_4_code 73 = .ok (.aload_n 0, 1) := by decide +kernel
theorem dPa_readStatement_74 : decode prog_6_method_4_code 74 = .ok (.invokevirtual 77, 3) := by decide +kernel
theorem dPa_readStatement_77 : decode prog_6_method_4_code 77 = .ok (.goto (9), 3) := by decide +kernel
theorem dPa_readStatement_80 : decode prog_6_method_4_code 80 = .ok (.aload_n 0, 1) := by decide +kernel
theorem dPa_readStatement_81 : decode prog_6_method_4_code 81 = .ok (.iconst (5), 1) := by decide +kernel
theorem dPa_readStatement_82 : decode prog_6_method_4_code 82 = .ok (.iload_n 1, 1) := by decide +kernel
theorem dPa_readStatement_83 : decode prog_6_method_4_code 83 = .ok (.invokevirtual 57, 3) := by decide +kernel
theorem dPa_readStatement_86 : decode prog_6_method_4_code 86 = .ok (.istore_n 2, 1) := by decide +kernel
theorem dPa_readStatement_87 : decode prog_6_method_4_code 87 = .ok (.goto (71), 3) := by decide +kernel
theorem dPa_readStatement_90 : decode prog_6_method_4_code 90 = .ok (.aload_n 0, 1) := by decide +kernel
theorem dPa_readStatement_91 : decode prog_6_method_4_code 91 = .ok (.getfield 25, 3) := by decide +kernel
theorem dPa_readStatement_94 : decode prog_6_method_4_code 94 = .ok (.ldc 80, 2) := by decide +kernel
theorem dPa_readStatement_96 : decode prog_6_method_4_code 96 = .ok (.invokevirtual 66, 3) := by decide +kernel
theorem dPa_readStatement_99 : decode prog_6_method_4_code 99 = .ok (.ifCond .eq (11), 3) := by decide +kernel
theorem dPa_readStatement_102 : decode prog_6_method_4_code 102 = .ok (.aload_n 0, 1) := by decide +kernel
theorem dPa_readStatement_103 : decode prog_6_method_4_code 103 = .ok (.invokevirtual 81, 3) := by decide +kernel
theorem dPa_readStatement_106 : decode prog_6_method_4_code 106 = .ok (.istore_n 2, 1) := by decide +kernel
theorem dPa_readStatement_107 : decode prog_6_method_4_code 107 = .ok (.goto (51), 3) := by decide +kernel
theorem dPa_readStatement_110 : decode prog_6_method_4_code 110 = .ok (.aload_n 0, 1) := by decide +kernel
theorem dPa_readStatement_111 : decode prog_6_method_4_code 111 = .ok (.getfield 25, 3) := by decide +kernel
theorem dPa_readStatement_114 : decode prog_6_method_4_code 114 = .ok (.ldc 84, 2) := by decide +kernel
theorem dPa_readStatement_116 : decode prog_6_method_4_code 116 = .ok (.invokevirtual 66, 3) := by decide +kernel
theorem dPa_readStatement_119 : decode prog_6_method_4_code 119 = .ok (.ifCond .eq (32), 3) := by decide +kernel
theorem dPa_readStatement_122 : decode prog_6_method_4_code 122 = .ok (.aload_n 0, 1) := by decide +kernel
theorem dPa_readStatement_123 : decode prog_6_method_4_code 123 = .ok (.getfield 29, 3) := by decide +kernel
theorem dPa_readStatement_126 : decode prog_6_method_4_code 126 = .ok (.getfield 85, 3) := by decide +kernel
theorem dPa_readStatement_129 : decode prog_6_method_4_code 129 = .ok (.bipush (6), 2) := by decide +kernel
theorem dPa_readStatement_131 : decode prog_6_method_4_code 131 = .ok (.if_icmp .ge (10), 3) := by decide +kernel
theorem dPa_readStatement_134 : decode prog_6_method_4_code 134 = .ok (.aload_n 0, 1) := by decide +kernel
theorem dPa_readStatement_135 : decode prog_6_method_4_code 135 = .ok (.invokevirtual 88, 3) := by decide +kernel
theorem dPa_readStatement_138 : decode prog_6_method_4_code 138 = .ok (.goto (9), 3) := by decide +kernel
theorem dPa_readStatement_141 : decode prog_6_method_4_code 141 = .ok (.aload_n 0, 1) := by decide +kernel
theorem dPa_readStatement_142 : decode prog_6_method_4_code 142 = .ok (.iconst (5), 1) := by decide +kernel
theorem dPa_readStatement_143 : decode prog_6_method_4_code 143 = .ok (.iload_n 1, 1) := by decide +kernel
theorem dPa_readStatement_144 : decode prog_6_method_4_code 144 = .ok (.invokevirtual 57, 3) := by decide +kernel
theorem dPa_readStatement_147 : decode prog_6_method_4_code 147 = .ok (.istore_n 2, 1) := by decide +kernel
theorem dPa_readStatement_148 : decode prog_6_method_4_code 148 = .ok (.goto (10), 3) := by decide +kernel
theorem dPa_readStatement_151 : decode prog_6_method_4_code 151 = .ok (.aload_n 0, 1) := by decide +kernel
theorem dPa_readStatement_152 : decode prog_6_method_4_code 152 = .ok (.iconst (1), 1) := by decide +kernel
theorem dPa_readStatement_153 : decode prog_6_method_4_code 153 = .ok (.iload_n 1, 1) := by decide +kernel
theorem dPa_readStatement_154 : decode prog_6_method_4_code 154 = .ok (.invokevirtual 57, 3) := by decide +kernel
theorem dPa_readStatement_157 : decode prog_6_method_4_code 157 = .ok (.istore_n 2, 1) := by decide +kernel
theorem dPa_readStatement_158 : decode prog_6_method_4_code 158 = .ok (.iload_n 2, 1) := by decide +kernel
theorem dPa_readStatement_159 : decode prog_6_method_4_code 159 = .ok (.ifCond .eq (16), 3) := by decide +kernel
theorem dPa_readStatement_162 : decode prog_6_method_4_code 162 = .ok (.aload_n 0, 1) := by decide +kernel
theorem dPa_readStatement_163 : decode prog_6_method_4_code 163 = .ok (.bipush (59), 2) := by decide +kernel
theorem dPa_readStatement_165 : decode prog_6_method_4_code 165 = .ok (.invokevirtual 91, 3) := by decide +kernel
theorem dPa_readStatement_168 : decode prog_6_method_4_code 168 = .ok (.ifCond .eq (7), 3) := by decide +kernel
theorem dPa_readStatement_171 : decode prog_6_method_4_code 171 = .ok (.iconst (1), 1) := by decide +kernel
theorem dPa_readStatement_172 : decode prog_6_method_4_code 172 = .ok (.goto (4), 3) := by decide +kernel
theorem dPa_readStatement_175 : decode prog_6_method_4_code 175 = .ok (.iconst (0), 1) := by decide +kernel
theorem dPa_readStatement_176 : decode prog_6_method_4_code 176 = .ok (.ireturn, 1) := by decide +kernel
theorem dTa_isWord_0 : decode prog_9_method_7_code 0 = .ok (.aload_n 0, 1) := by decide +kernel
theorem dTa_isWord_1 : decode prog_9_method_7_code 1 = .ok (.getfield 19, 3) := by decide +kernel
theorem dTa_isWord_4 : decode prog_9_method_7_code 4 = .ok (.iconst (2), 1) := by decide +kernel
theorem dTa_isWord_5 : decode prog_9_method_7_code 5 = .ok (.if_icmp .ne (31), 3) := by decide +kernel
theorem dTa_isWord_8 : decode prog_9_method_7_code 8 = .ok (.aload_n 0, 1) := by decide +kernel
theorem dTa_isWord_9 : decode prog_9_method_7_code 9 = .ok (.getfield 31, 3) := by decide +kernel
theorem dTa_isWord_12 : decode prog_9_method_7_code 12 = .ok (.ifCond .ne (24), 3) := by decide +kernel
theorem dTa_isWord_15 : decode prog_9_method_7_code 15 = .ok (.aload_n 0, 1) := by decide +kernel
theorem dTa_isWord_16 : decode prog_9_method_7_code 16 = .ok (.getfield 25, 3) := by decide +kernel
theorem dTa_isWord_19 : decode prog_9_method_7_code 19 = .ok (.bipush (6), 2) := by decide +kernel
theorem dTa_isWord_21 : decode prog_9_method_7_code 21 = .ok (.if_icmp .gt (15), 3) := by decide +kernel
theorem dTa_isWord_24 : decode prog_9_method_7_code 24 = .ok (.aload_n 0, 1) := by decide +kernel
theorem dTa_isWord_25 : decode prog_9_method_7_code 25 = .ok (.getfield 35, 3) := by decide +kernel
theorem dTa_isWord_28 : decode prog_9_method_7_code 28 = .ok (.iload_n 1, 1) := by decide +kernel
theorem dTa_isWord_29 : decode prog_9_method_7_code 29 = .ok (.if_icmp .ne (7), 3) := by decide +kernel
theorem dTa_isWord_32 : decode prog_9_method_7_code 32 = .ok (.iconst (1), 1) := by decide +kernel
theorem dTa_isWord_33 : decode prog_9_method_7_code 33 = .ok (.goto (4), 3) := by decide +kernel
theorem dTa_isWord_36 : decode prog_9_method_7_code 36 = .ok (.iconst (0), 1) := by decide +kernel
theorem dTa_isWord_37 : decode prog_9_method_7_code 37 = .ok (.ireturn, 1) := by decide +kernel
theorem dPa_readRule_0 : decode prog_6_method_5_code 0 = .ok (.aload_n 0, 1) := by decide +kernel
theorem dPa_readRule_1 : decode prog_6_method_5_code 1 = .ok (.getfield 29, 3) := by decide +kernel
theorem dPa_readRule_4 : decode prog_6_method_5_code 4 = .ok (.getfield 70, 3) := by decide +kernel
theorem dPa_readRule_7 : decode prog_6_method_5_code 7 = .ok (.istore_n 1, 1) := by decide +kernel
theorem dPa_readRule_8 : decode prog_6_method_5_code 8 = .ok (.iconst (0), 1) := by decide +kernel
theorem dPa_readRule_9 : decode prog_6_method_5_code 9 = .ok (.istore_n 2, 1) := by decide +kernel
theorem dPa_readRule_10 : decode prog_6_method_5_code 10 = .ok (.aload_n 0, 1) := by decide +kernel
theorem dPa_readRule_11 : decode prog_6_method_5_code 11 = .ok (.getfield 25, 3) := by decide +kernel
theorem dPa_readRule_14 : decode prog_6_method_5_code 14 = .ok (.invokevirtual 94, 3) := by decide +kernel
theorem dPa_readRule_17 : decode prog_6_method_5_code 17 = .ok (.aload_n 0, 1) := by decide +kernel
theorem dPa_readRule_18 : decode prog_6_method_5_code 18 = .ok (.invokevirtual 97, 3) := by decide +kernel
theorem dPa_readRule_21 : decode prog_6_method_5_code 21 = .ok (.istore_n 3, 1) := by decide +kernel
theorem dPa_readRule_22 : decode prog_6_method_5_code 22 = .ok (.iload_n 3, 1) := by decide +kernel
theorem dPa_readRule_23 : decode prog_6_method_5_code 23 = .ok (.ifCond .ne (5), 3) := by decide +kernel
theorem dPa_readRule_26 : decode prog_6_method_5_code 26 = .ok (.iconst (0), 1) := by decide +kernel
theorem dPa_readRule_27 : decode prog_6_method_5_code 27 = .ok (.ireturn, 1) := by decide +kernel
theorem dPa_readRule_28 : decode prog_6_method_5_code 28 = .ok (.aload_n 0, 1) := by decide +kernel
theorem dPa_readRule_29 : decode prog_6_method_5_code 29 = .ok (.getfield 25, 3) := by decide +kernel
theorem dPa_readRule_32 : decode prog_6_method_5_code 32 = .ok (.ldc 101, 2) := by decide +kernel
theorem dPa_readRule_34 : decode prog_6_method_5_code 34 = .ok (.invokevirtual 66, 3) := by decide +kernel
theorem dPa_readRule_37 : decode prog_6_method_5_code 37 = .ok (.ifCond .ne (7), 3) := by decide +kernel
theorem dPa_readRule_40 : decode prog_6_method_5_code 40 = .ok (.iconst (1), 1) := by decide +kernel
theorem dPa_readRule_41 : decode prog_6_method_5_code 41 = .ok (.goto (4), 3) := by decide +kernel
theorem dPa_readRule_44 : decode prog_6_method_5_code 44 = .ok (.iconst (0), 1) := by decide +kernel
theorem dPa_readRule_45 : decode prog_6_method_5_code 45 = .ok (.istore 4, 2) := by decide +kernel
theorem dPa_readRule_47 : decode prog_6_method_5_code 47 = .ok (.iload 4, 2) := by decide +kernel
theorem dPa_readRule_49 : decode prog_6_method_5_code 49 = .ok (.ifCond .eq (79), 3) := by decide +kernel
theorem dPa_readRule_52 : decode prog_6_method_5_code 52 = .ok (.iload_n 2, 1) := by decide +kernel
theorem dPa_readRule_53 : decode prog_6_method_5_code 53 = .ok (.iconst (3), 1) := by decide +kernel
theorem dPa_readRule_54 : decode prog_6_method_5_code 54 = .ok (.if_icmp .ge (74), 3) := by decide +kernel
theorem dPa_readRule_57 : decode prog_6_method_5_code 57 = .ok (.aload_n 0, 1) := by decide +kernel
theorem dPa_readRule_58 : decode prog_6_method_5_code 58 = .ok (.invokevirtual 102, 3) := by decide +kernel
theorem dPa_readRule_61 : decode prog_6_method_5_code 61 = .ok (.istore 5, 2) := by decide +kernel
theorem dPa_readRule_63 : decode prog_6_method_5_code 63 = .ok (.iload 5, 2) := by decide +kernel
theorem dPa_readRule_65 : decode prog_6_method_5_code 65 = .ok (.iconst (-1), 1) := by decide +kernel
theorem dPa_readRule_66 : decode prog_6_method_5_code 66 = .ok (.if_icmp .ne (5), 3) := by decide +kernel
theorem dPa_readRule_69 : decode prog_6_method_5_code 69 = .ok (.iconst (0), 1) := by decide +kernel
theorem dPa_readRule_70 : decode prog_6_method_5_code 70 = .ok (.ireturn, 1) := by decide +kernel
theorem dPa_readRule_71 : decode prog_6_method_5_code 71 = .ok (.aload_n 0, 1) := by decide +kernel
theorem dPa_readRule_72 : decode prog_6_method_5_code 72 = .ok (.getfield 29, 3) := by decide +kernel
theorem dPa_readRule_75 : decode prog_6_method_5_code 75 = .ok (.getfield 105, 3) := by decide +kernel
theorem dPa_readRule_78 : decode prog_6_method_5_code 78 = .ok (.iconst (3), 1) := by decide +kernel
theorem dPa_readRule_79 : decode prog_6_method_5_code 79 = .ok (.iload_n 1, 1) := by decide +kernel
theorem dPa_readRule_80 : decode prog_6_method_5_code 80 = .ok (.imul, 1) := by decide +kernel
theorem dPa_readRule_81 : decode prog_6_method_5_code 81 = .ok (.iload_n 2, 1) := by decide +kernel
theorem dPa_readRule_82 : decode prog_6_method_5_code 82 = .ok (.iadd, 1) := by decide +kernel
theorem dPa_readRule_83 : decode prog_6_method_5_code 83 = .ok (.iload 5, 2) := by decide +kernel
theorem dPa_readRule_85 : decode prog_6_method_5_code 85 = .ok (.iastore, 1) := by decide +kernel
theorem dPa_readRule_86 : decode prog_6_method_5_code 86 = .ok (.iinc 2 (1), 3) := by decide +kernel
theorem dPa_readRule_89 : decode prog_6_method_5_code 89 = .ok (.iload_n 2, 1) := by decide +kernel
theorem dPa_readRule_90 : decode prog_6_method_5_code 90 = .ok (.iconst (3), 1) := by decide +kernel
theorem dPa_readRule_91 : decode prog_6_method_5_code 91 = .ok (.if_icmp .ge (19), 3) := by decide +kernel
theorem dPa_readRule_94 : decode prog_6_method_5_code 94 = .ok (.aload_n 0, 1) := by decide +kernel
theorem dPa_readRule_95 : decode prog_6_method_5_code 95 = .ok (.getfield 25, 3) := by decide +kernel
theorem dPa_readRule_98 : decode prog_6_method_5_code 98 = .ok (.bipush (44), 2) := by decide +kernel
theorem dPa_readRule_100 : decode prog_6_method_5_code 100 = .ok (.invokevirtual 108, 3) := by decide +kernel
theorem dPa_readRule_103 : decode prog_6_method_5_code 103 = .ok (.ifCond .eq (7), 3) := by decide +kernel
theorem dPa_readRule_106 : decode prog_6_method_5_code 106 = .ok (.iconst (1), 1) := by decide +kernel
theorem dPa_readRule_107 : decode prog_6_method_5_code 107 = .ok (.goto (4), 3) := by decide +kernel
theorem dPa_readRule_110 : decode prog_6_method_5_code 110 = .ok (.iconst (0), 1) := by decide +kernel
theorem dPa_readRule_111 : decode prog_6_method_5_code 111 = .ok (.istore 4, 2) := by decide +kernel
theorem dPa_readRule_113 : decode prog_6_method_5_code 113 = .ok (.iload 4, 2) := by decide +kernel
theorem dPa_readRule_115 : decode prog_6_method_5_code 115 = .ok (.ifCond .eq (10), 3) := by decide +kernel
theorem dPa_readRule_118 : decode prog_6_method_5_code 118 = .ok (.aload_n 0, 1) := by decide +kernel
theorem dPa_readRule_119 : decode prog_6_method_5_code 119 = .ok (.getfield 25, 3) := by decide +kernel
theorem dPa_readRule_122 : decode prog_6_method_5_code 122 = .ok (.invokevirtual 94, 3) := by decide +kernel
theorem dPa_readRule_125 : decode prog_6_method_5_code 125 = .ok (.goto (-78), 3) := by decide +kernel
theorem dPa_readRule_128 : decode prog_6_method_5_code 128 = .ok (.aload_n 0, 1) := by decide +kernel
theorem dPa_readRule_129 : decode prog_6_method_5_code 129 = .ok (.ldc 101, 2) := by decide +kernel
theorem dPa_readRule_131 : decode prog_6_method_5_code 131 = .ok (.invokevirtual 111, 3) := by decide +kernel
theorem dPa_readRule_134 : decode prog_6_method_5_code 134 = .ok (.ifCond .ne (5), 3) := by decide +kernel
theorem dPa_readRule_137 : decode prog_6_method_5_code 137 = .ok (.iconst (0), 1) := by decide +kernel
theorem dPa_readRule_138 : decode prog_6_method_5_code 138 = .ok (.ireturn, 1) := by decide +kernel
theorem dPa_readRule_139 : decode prog_6_method_5_code 139 = .ok (.aload_n 0, 1) := by decide +kernel
theorem dPa_readRule_140 : decode prog_6_method_5_code 140 = .ok (.invokevirtual 102, 3) := by decide +kernel
theorem dPa_readRule_143 : decode prog_6_method_5_code 143 = .ok (.istore 5, 2) := by decide +kernel
theorem dPa_readRule_145 : decode prog_6_method_5_code 145 = .ok (.iload 5, 2) := by decide +kernel
theorem dPa_readRule_147 : decode prog_6_method_5_code 147 = .ok (.iconst (-1), 1) := by decide +kernel
theorem dPa_readRule_148 : decode prog_6_method_5_code 148 = .ok (.if_icmp .ne (5), 3) := by decide +kernel
theorem dPa_readRule_151 : decode prog_6_method_5_code 151 = .ok (.iconst (0), 1) := by decide +kernel
theorem dPa_readRule_152 : decode prog_6_method_5_code 152 = .ok (.ireturn, 1) := by decide +kernel
theorem dPa_readRule_153 : decode prog_6_method_5_code 153 = .ok (.aload_n 0, 1) := by decide +kernel
theorem dPa_readRule_154 : decode prog_6_method_5_code 154 = .ok (.getfield 29, 3) := by decide +kernel
theorem dPa_readRule_157 : decode prog_6_method_5_code 157 = .ok (.iload_n 3, 1) := by decide +kernel
theorem dPa_readRule_158 : decode prog_6_method_5_code 158 = .ok (.iload_n 2, 1) := by decide +kernel
theorem dPa_readRule_159 : decode prog_6_method_5_code 159 = .ok (.iload 5, 2) := by decide +kernel
theorem dPa_readRule_161 : decode prog_6_method_5_code 161 = .ok (.invokevirtual 114, 3) := by decide +kernel
theorem dPa_readRule_164 : decode prog_6_method_5_code 164 = .ok (.iconst (1), 1) := by decide +kernel
theorem dPa_readRule_165 : decode prog_6_method_5_code 165 = .ok (.ireturn, 1) := by decide +kernel
theorem dPa_takeNewName_0 : decode prog_6_method_16_code 0 = .ok (.aload_n 0, 1) := by decide +kernel
theorem dPa_takeNewName_1 : decode prog_6_method_16_code 1 = .ok (.invokevirtual 119, 3) := by decide +kernel
theorem dPa_takeNewName_4 : decode prog_6_method_16_code 4 = .ok (.istore_n 1, 1) := by decide +kernel
theorem dPa_takeNewName_5 : decode prog_6_method_16_code 5 = .ok (.iload_n 1, 1) := by decide +kernel
theorem dPa_takeNewName_6 : decode prog_6_method_16_code 6 = .ok (.ifCond .eq (38), 3) := by decide +kernel
theorem dPa_takeNewName_9 : decode prog_6_method_16_code 9 = .ok (.aload_n 0, 1) := by decide +kernel
theorem dPa_takeNewName_10 : decode prog_6_method_16_code 10 = .ok (.getfield 29, 3) := by decide +kernel
theorem dPa_takeNewName_13 : decode prog_6_method_16_code 13 = .ok (.iload_n 1, 1) := by decide +kernel
theorem dPa_takeNewName_14 : decode prog_6_method_16_code 14 = .ok (.invokevirtual 122, 3) := by decide +kernel
theorem dPa_takeNewName_17 : decode prog_6_method_16_code 17 = .ok (.iconst (-1), 1) := by decide +kernel
theorem dPa_takeNewName_18 : decode prog_6_method_16_code 18 = .ok (.if_icmp .ne (14), 3) := by decide +kernel
theorem dPa_takeNewName_21 : decode prog_6_method_16_code 21 = .ok (.aload_n 0, 1) := by decide +kernel
theorem dPa_takeNewName_22 : decode prog_6_method_16_code 22 = .ok (.getfield 29, 3) := by decide +kernel
theorem dPa_takeNewName_25 : decode prog_6_method_16_code 25 = .ok (.iload_n 1, 1) := by decide +kernel
theorem dPa_takeNewName_26 : decode prog_6_method_16_code 26 = .ok (.invokevirtual 198, 3) := by decide +kernel
theorem dPa_takeNewName_29 : decode prog_6_method_16_code 29 = .ok (.ifCond .eq (15), 3) := by decide +kernel
theorem dPa_takeNewName_32 : decode prog_6_method_16_code 32 = .ok (.aload_n 0, 1) := by decide +kernel
theorem dPa_takeNewName_33 : decode prog_6_method_16_code 33 = .ok (.iconst (3), 1) := by decide +kernel
theorem dPa_takeNewName_34 : decode prog_6_method_16_code 34 = .ok (.aload_n 0, 1) := by decide +kernel
theorem dPa_takeNewName_35 : decode prog_6_method_16_code 35 = .ok (.getfield 126, 3) := by decide +kernel
theorem dPa_takeNewName_38 : decode prog_6_method_16_code 38 = .ok (.invokevirtual 57, 3) := by decide +kernel
theorem dPa_takeNewName_41 : decode prog_6_method_16_code 41 = .ok (.pop, 1) := by decide +kernel
theorem dPa_takeNewName_42 : decode prog_6_method_16_code 42 = .ok (.iconst (0), 1) := by decide +kernel
theorem dPa_takeNewName_43 : decode prog_6_method_16_code 43 = .ok (.ireturn, 1) := by decide +kernel
theorem dPa_takeNewName_44 : decode prog_6_method_16_code 44 = .ok (.iload_n 1, 1) := by decide +kernel
theorem dPa_takeNewName_45 : decode prog_6_method_16_code 45 = .ok (.ireturn, 1) := by decide +kernel
theorem dPa_takeName_0 : decode prog_6_method_15_code 0 = .ok (.aload_n 0, 1) := by decide +kernel
theorem dPa_takeName_1 : decode prog_6_method_15_code 1 = .ok (.getfield 25, 3) := by decide +kernel
theorem dPa_takeName_4 : decode prog_6_method_15_code 4 = .ok (.getfield 185, 3) := by decide +kernel
theorem dPa_takeName_7 : decode prog_6_method_15_code 7 = .ok (.istore_n 1, 1) := by decide +kernel
theorem dPa_takeName_8 : decode prog_6_method_15_code 8 = .ok (.aload_n 0, 1) := by decide +kernel
theorem dPa_takeName_9 : decode prog_6_method_15_code 9 = .ok (.aload_n 0, 1) := by decide +kernel
theorem dPa_takeName_10 : decode prog_6_method_15_code 10 = .ok (.getfield 25, 3) := by decide +kernel
theorem dPa_takeName_13 : decode prog_6_method_15_code 13 = .ok (.getfield 56, 3) := by decide +kernel
theorem dPa_takeName_16 : decode prog_6_method_15_code 16 = .ok (.putfield 126, 3) := by decide +kernel
theorem dPa_takeName_19 : decode prog_6_method_15_code 19 = .ok (.aload_n 0, 1) := by decide +kernel
theorem dPa_takeName_20 : decode prog_6_method_15_code 20 = .ok (.getfield 25, 3) := by decide +kernel
theorem dPa_takeName_23 : decode prog_6_method_15_code 23 = .ok (.getfield 49, 3) := by decide +kernel
theorem dPa_takeName_26 : decode prog_6_method_15_code 26 = .ok (.iconst (2), 1) := by decide +kernel
theorem dPa_takeName_27 : decode prog_6_method_15_code 27 = .ok (.if_icmp .ne (13), 3) := by decide +kernel
theorem dPa_takeName_30 : decode prog_6_method_15_code 30 = .ok (.aload_n 0, 1) := by decide +kernel
theorem dPa_takeName_31 : decode prog_6_method_15_code 31 = .ok (.getfield 25, 3) := by decide +kernel
theorem dPa_takeName_34 : decode prog_6_method_15_code 34 = .ok (.getfield 188, 3) := by decide +kernel
theorem dPa_takeName_37 : decode prog_6_method_15_code 37 = .ok (.ifCond .eq (15), 3) := by decide +kernel
theorem dPa_takeName_40 : decode prog_6_method_15_code 40 = .ok (.aload_n 0, 1) := by decide +kernel
theorem dPa_takeName_41 : decode prog_6_method_15_code 41 = .ok (.iconst (1), 1) := by decide +kernel
theorem dPa_takeName_42 : decode prog_6_method_15_code 42 = .ok (.aload_n 0, 1) := by decide +kernel
theorem dPa_takeName_43 : decode prog_6_method_15_code 43 = .ok (.getfield 126, 3) := by decide +kernel
theorem dPa_takeName_46 : decode prog_6_method_15_code 46 = .ok (.invokevirtual 57, 3) := by decide +kernel
theorem dPa_takeName_49 : decode prog_6_method_15_code 49 = .ok (.pop, 1) := by decide +kernel
theorem dPa_takeName_50 : decode prog_6_method_15_code 50 = .ok (.iconst (0), 1) := by decide +kernel
theorem dPa_takeName_51 : decode prog_6_method_15_code 51 = .ok (.ireturn, 1) := by decide +kernel
theorem dPa_takeName_52 : decode prog_6_method_15_code 52 = .ok (.aload_n 0, 1) := by decide +kernel
theorem dPa_takeName_53 : decode prog_6_method_15_code 53 = .ok (.getfield 25, 3) := by decide +kernel
theorem dPa_takeName_56 : decode prog_6_method_15_code 56 = .ok (.getfield 192, 3) := by decide +kernel
theorem dPa_takeName_59 : decode prog_6_method_15_code 59 = .ok (.bipush (6), 2) := by decide +kernel
theorem dPa_takeName_61 : decode prog_6_method_15_code 61 = .ok (.if_icmp .le (18), 3) := by decide +kernel
theorem dPa_takeName_64 : decode prog_6_method_15_code 64 = .ok (.aload_n 0, 1) := by decide +kernel
theorem dPa_takeName_65 : decode prog_6_method_15_code 65 = .ok (.iconst (1), 1) := by decide +kernel
theorem dPa_takeName_66 : decode prog_6_method_15_code 66 = .ok (.aload_n 0, 1) := by decide +kernel
theorem dPa_takeName_67 : decode prog_6_method_15_code 67 = .ok (.getfield 126, 3) := by decide +kernel
theorem dPa_takeName_70 : decode prog_6_method_15_code 70 = .ok (.bipush (6), 2) := by decide +kernel
theorem dPa_takeName_72 : decode prog_6_method_15_code 72 = .ok (.iadd, 1) := by decide +kernel
theorem dPa_takeName_73 : decode prog_6_method_15_code 73 = .ok (.invokevirtual 57, 3) := by decide +kernel
theorem dPa_takeName_76 : decode prog_6_method_15_code 76 = .ok (.pop, 1) := by decide +kernel
theorem dPa_takeName_77 : decode prog_6_method_15_code 77 = .ok (.iconst (0), 1) := by decide +kernel
theorem dPa_takeName_78 : decode prog_6_method_15_code 78 = .ok (.ireturn, 1) := by decide +kernel
theorem dPa_takeName_79 : decode prog_6_method_15_code 79 = .ok (.iload_n 1, 1) := by decide +kernel
theorem dPa_takeName_80 : decode prog_6_method_15_code 80 = .ok (.invokestatic 195, 3) := by decide +kernel
theorem dPa_takeName_83 : decode prog_6_method_15_code 83 = .ok (.ifCond .eq (15), 3) := by decide +kernel
theorem dPa_takeName_86 : decode prog_6_method_15_code 86 = .ok (.aload_n 0, 1) := by decide +kernel
theorem dPa_takeName_87 : decode prog_6_method_15_code 87 = .ok (.iconst (1), 1) := by decide +kernel
theorem dPa_takeName_88 : decode prog_6_method_15_code 88 = .ok (.aload_n 0, 1) := by decide +kernel
theorem dPa_takeName_89 : decode prog_6_method_15_code 89 = .ok (.getfield 126, 3) := by decide +kernel
theorem dPa_takeName_92 : decode prog_6_method_15_code 92 = .ok (.invokevirtual 57, 3) := by decide +kernel
theorem dPa_takeName_95 : decode prog_6_method_15_code 95 = .ok (.pop, 1) := by decide +kernel
theorem dPa_takeName_96 : decode prog_6_method_15_code 96 = .ok (.iconst (0), 1) := by decide +kernel
theorem dPa_takeName_97 : decode prog_6_method_15_code 97 = .ok (.ireturn, 1) := by decide +kernel
theorem dPa_takeName_98 : decode prog_6_method_15_code 98 = .ok (.aload_n 0, 1) := by decide +kernel
theorem dPa_takeName_99 : decode prog_6_method_15_code 99 = .ok (.getfield 25, 3) := by decide +kernel
theorem dPa_takeName_102 : decode prog_6_method_15_code 102 = .ok (.invokevirtual 94, 3) := by decide +kernel
theorem dPa_takeName_105 : decode prog_6_method_15_code 105 = .ok (.iload_n 1, 1) := by decide +kernel
theorem dPa_takeName_106 : decode prog_6_method_15_code 106 = .ok (.ireturn, 1) := by decide +kernel
theorem dPa_refuse_0 : decode prog_6_method_3_code 0 = .ok (.aload_n 0, 1) := by decide +kernel
theorem dPa_refuse_1 : decode prog_6_method_3_code 1 = .ok (.iload_n 1, 1) := by decide +kernel
theorem dPa_refuse_2 : decode prog_6_method_3_code 2 = .ok (.putfield 41, 3) := by decide +kernel
theorem dPa_refuse_5 : decode prog_6_method_3_code 5 = .ok (.aload_n 0, 1) := by decide +kernel
theorem dPa_refuse_6 : decode prog_6_method_3_code 6 = .ok (.iload_n 2, 1) := by decide +kernel
theorem dPa_refuse_7 : decode prog_6_method_3_code 7 = .ok (.putfield 21, 3) := by decide +kernel
theorem dPa_refuse_10 : decode prog_6_method_3_code 10 = .ok (.iconst (0), 1) := by decide +kernel
theorem dPa_refuse_11 : decode prog_6_method_3_code 11 = .ok (.ireturn, 1) := by decide +kernel
theorem dPa_isOwn_0 : decode prog_6_method_18_code 0 = .ok (.iload_n 0, 1) := by decide +kernel
theorem dPa_isOwn_1 : decode prog_6_method_18_code 1 = .ok (.lookupswitch (85) #[(93323264, 83), (220705792, 83), (245044832, 83), (250654720, 83), (507661312, 83), (609259698, 83), (626398208, 83), (658685952, 83), (686817280, 83)], 83) := by decide +kernel
theorem dPa_isOwn_84 : decode prog_6_method_18_code 84 = .ok (.iconst (1), 1) := by decide +kernel
theorem dPa_isOwn_85 : decode prog_6_method_18_code 85 = .ok (.ireturn, 1) := by decide +kernel
theorem dPa_isOwn_86 : decode prog_6_method_18_code 86 = .ok (.iconst (0), 1) := by decide +kernel
theorem dPa_isOwn_87 : decode prog_6_method_18_code 87 = .ok (.ireturn, 1) := by decide +kernel
theorem dBk_ruleNamed_0 : decode prog_3_method_9_code 0 = .ok (.iconst (0), 1) := by decide +kernel
theorem dBk_ruleNamed_1 : decode prog_3_method_9_code 1 = .ok (.istore_n 2, 1) := by decide +kernel
theorem dBk_ruleNamed_2 : decode prog_3_method_9_code 2 = .ok (.iload_n 2, 1) := by decide +kernel
theorem dBk_ruleNamed_3 : decode prog_3_method_9_code 3 = .ok (.aload_n 0, 1) := by decide +kernel
theorem dBk_ruleNamed_4 : decode prog_3_method_9_code 4 = .ok (.getfield 59, 3) := by decide +kernel
theorem dBk_ruleNamed_7 : decode prog_3_method_9_code 7 = .ok (.if_icmp .ge (21), 3) := by decide +kernel
theorem dBk_ruleNamed_10 : decode prog_3_method_9_code 10 = .ok (.aload_n 0, 1) := by decide +kernel
theorem dBk_ruleNamed_11 : decode prog_3_method_9_code 11 = .ok (.getfield 18, 3) := by decide +kernel
theorem dBk_ruleNamed_14 : decode prog_3_method_9_code 14 = .ok (.iload_n 2, 1) := by decide +kernel
theorem dBk_ruleNamed_15 : decode prog_3_method_9_code 15 = .ok (.iaload, 1) := by decide +kernel
theorem dBk_ruleNamed_16 : decode prog_3_method_9_code 16 = .ok (.iload_n 1, 1) := by decide +kernel
theorem dBk_ruleNamed_17 : decode prog_3_method_9_code 17 = .ok (.if_icmp .ne (5), 3) := by decide +kernel
theorem dBk_ruleNamed_20 : decode prog_3_method_9_code 20 = .ok (.iload_n 2, 1) := by decide +kernel
theorem dBk_ruleNamed_21 : decode prog_3_method_9_code 21 = .ok (.ireturn, 1) := by decide +kernel
theorem dBk_ruleNamed_22 : decode prog_3_method_9_code 22 = .ok (.iinc 2 (1), 3) := by decide +kernel
theorem dBk_ruleNamed_25 : decode prog_3_method_9_code 25 = .ok (.goto (-23), 3) := by decide +kernel
theorem dBk_ruleNamed_28 : decode prog_3_method_9_code 28 = .ok (.iconst (-1), 1) := by decide +kernel
theorem dBk_ruleNamed_29 : decode prog_3_method_9_code 29 = .ok (.ireturn, 1) := by decide +kernel
theorem dBk_hasReaderNamed_0 : decode prog_3_method_10_code 0 = .ok (.iconst (0), 1) := by decide +kernel
theorem dBk_hasReaderNamed_1 : decode prog_3_method_10_code 1 = .ok (.istore_n 2, 1) := by decide +kernel
theorem dBk_hasReaderNamed_2 : decode prog_3_method_10_code 2 = .ok (.iload_n 2, 1) := by decide +kernel
theorem dBk_hasReaderNamed_3 : decode prog_3_method_10_code 3 = .ok (.aload_n 0, 1) := by decide +kernel
theorem dBk_hasReaderNamed_4 : decode prog_3_method_10_code 4 = .ok (.getfield 65, 3) := by decide +kernel
theorem dBk_hasReaderNamed_7 : decode prog_3_method_10_code 7 = .ok (.if_icmp .ge (21), 3) := by decide +kernel
theorem dBk_hasReaderNamed_10 : decode prog_3_method_10_code 10 = .ok (.aload_n 0, 1) := by decide +kernel
theorem dBk_hasReaderNamed_11 : decode prog_3_method_10_code 11 = .ok (.getfield 40, 3) := by decide +kernel
theorem dBk_hasReaderNamed_14 : decode prog_3_method_10_code 14 = .ok (.iload_n 2, 1) := by decide +kernel
theorem dBk_hasReaderNamed_15 : decode prog_3_method_10_code 15 = .ok (.iaload, 1) := by decide +kernel
theorem dBk_hasReaderNamed_16 : decode prog_3_method_10_code 16 = .ok (.iload_n 1, 1) := by decide +kernel
theorem dBk_hasReaderNamed_17 : decode prog_3_method_10_code 17 = .ok (.if_icmp .ne (5), 3) := by decide +kernel
theorem dBk_hasReaderNamed_20 : decode prog_3_method_10_code 20 = .ok (.iconst (1), 1) := by decide +kernel
theorem dBk_hasReaderNamed_21 : decode prog_3_method_10_code 21 = .ok (.ireturn, 1) := by decide +kernel
theorem dBk_hasReaderNamed_22 : decode prog_3_method_10_code 22 = .ok (.iinc 2 (1), 3) := by decide +kernel
theorem dBk_hasReaderNamed_25 : decode prog_3_method_10_code 25 = .ok (.goto (-23), 3) := by decide +kernel
theorem dBk_hasReaderNamed_28 : decode prog_3_method_10_code 28 = .ok (.iconst (0), 1) := by decide +kernel
theorem dBk_hasReaderNamed_29 : decode prog_3_method_10_code 29 = .ok (.ireturn, 1) := by decide +kernel
theorem dPa_readTerm_0 : decode prog_6_method_9_code 0 = .ok (.aload_n 0, 1) := by decide +kernel
theorem dPa_readTerm_1 : decode prog_6_method_9_code 1 = .ok (.getfield 29, 3) := by decide +kernel
theorem dPa_readTerm_4 : decode prog_6_method_9_code 4 = .ok (.getfield 150, 3) := by decide +kernel
theorem dPa_readTerm_7 : decode prog_6_method_9_code 7 = .ok (.getfield 154, 3) := by decide +kernel
theorem dPa_readTerm_10 : decode prog_6_method_9_code 10 = .ok (.istore_n 1, 1) := by decide +kernel
theorem dPa_readTerm_11 : decode prog_6_method_9_code 11 = .ok (.aload_n 0, 1) := by decide +kernel
theorem dPa_readTerm_12 : decode prog_6_method_9_code 12 = .ok (.iconst (0), 1) := by decide +kernel
theorem dPa_readTerm_13 : decode prog_6_method_9_code 13 = .ok (.putfield 159, 3) := by decide +kernel
theorem dPa_readTerm_16 : decode prog_6_method_9_code 16 = .ok (.iconst (0), 1) := by decide +kernel
theorem dPa_readTerm_17 : decode prog_6_method_9_code 17 = .ok (.istore_n 2, 1) := by decide +kernel
theorem dPa_readTerm_18 : decode prog_6_method_9_code 18 = .ok (.iload_n 2, 1) := by decide +kernel
theorem dPa_readTerm_19 : decode prog_6_method_9_code 19 = .ok (.bipush (24), 2) := by decide +kernel
theorem dPa_readTerm_21 : decode prog_6_method_9_code 21 = .ok (.if_icmp .gt (83), 3) := by decide +kernel
theorem dPa_readTerm_24 : decode prog_6_method_9_code 24 = .ok (.aload_n 0, 1) := by decide +kernel
theorem dPa_readTerm_25 : decode prog_6_method_9_code 25 = .ok (.iload_n 1, 1) := by decide +kernel
theorem dPa_readTerm_26 : decode prog_6_method_9_code 26 = .ok (.invokevirtual 162, 3) := by decide +kernel
theorem dPa_readTerm_29 : decode prog_6_method_9_code 29 = .ok (.istore_n 3, 1) := by decide +kernel
theorem dPa_readTerm_30 : decode prog_6_method_9_code 30 = .ok (.iload_n 3, 1) := by decide +kernel
theorem dPa_readTerm_31 : decode prog_6_method_9_code 31 = .ok (.iconst (-1), 1) := by decide +kernel
theorem dPa_readTerm_32 : decode prog_6_method_9_code 32 = .ok (.if_icmp .ne (5), 3) := by decide +kernel
theorem dPa_readTerm_35 : decode prog_6_method_9_code 35 = .ok (.iconst (-1), 1) := by decide +kernel
theorem dPa_readTerm_36 : decode prog_6_method_9_code 36 = .ok (.ireturn, 1) := by decide +kernel
theorem dPa_readTerm_37 : decode prog_6_method_9_code 37 = .ok (.iload_n 3, 1) := by decide +kernel
theorem dPa_readTerm_38 : decode prog_6_method_9_code 38 = .ok (.bipush (100), 2) := by decide +kernel
theorem dPa_readTerm_40 : decode prog_6_method_9_code 40 = .ok (.if_icmp .ge (7), 3) := by decide +kernel
theorem dPa_readTerm_43 : decode prog_6_method_9_code 43 = .ok (.iconst (1), 1) := by decide +kernel
theorem dPa_readTerm_44 : decode prog_6_method_9_code 44 = .ok (.goto (4), 3) := by decide +kernel
theorem dPa_readTerm_47 : decode prog_6_method_9_code 47 = .ok (.iconst (0), 1) := by decide +kernel
theorem dPa_readTerm_48 : decode prog_6_method_9_code 48 = .ok (.istore 4, 2) := by decide +kernel
theorem dPa_readTerm_50 : decode prog_6_method_9_code 50 = .ok (.iload 4, 2) := by decide +kernel
theorem dPa_readTerm_52 : decode prog_6_method_9_code 52 = .ok (.ifCond .eq (22), 3) := by decide +kernel
theorem dPa_readTerm_55 : decode prog_6_method_9_code 55 = .ok (.aload_n 0, 1) := by decide +kernel
theorem dPa_readTerm_56 : decode prog_6_method_9_code 56 = .ok (.getfield 25, 3) := by decide +kernel
theorem dPa_readTerm_59 : decode prog_6_method_9_code 59 = .ok (.bipush (40), 2) := by decide +kernel
theorem dPa_readTerm_61 : decode prog_6_method_9_code 61 = .ok (.invokevirtual 108, 3) := by decide +kernel
theorem dPa_readTerm_64 : decode prog_6_method_9_code 64 = .ok (.ifCond .eq (10), 3) := by decide +kernel
theorem dPa_readTerm_67 : decode prog_6_method_9_code 67 = .ok (.aload_n 0, 1) := by decide +kernel
theorem dPa_readTerm_68 : decode prog_6_method_9_code 68 = .ok (.invokevirtual 165, 3) := by decide +kernel
theorem dPa_readTerm_71 : decode prog_6_method_9_code 71 = .ok (.goto (9), 3) := by decide +kernel
theorem dPa_readTerm_74 : decode prog_6_method_9_code 74 = .ok (.aload_n 0, 1) := by decide +kernel
theorem dPa_readTerm_75 : decode prog_6_method_9_code 75 = .ok (.iload 4, 2) := by decide +kernel
theorem dPa_readTerm_77 : decode prog_6_method_9_code 77 = .ok (.invokevirtual 168, 3) := by decide +kernel
theorem dPa_readTerm_80 : decode prog_6_method_9_code 80 = .ok (.istore 5, 2) := by decide +kernel
theorem dPa_readTerm_82 : decode prog_6_method_9_code 82 = .ok (.iload 5, 2) := by decide +kernel
theorem dPa_readTerm_84 : decode prog_6_method_9_code 84 = .ok (.ifCond .ne (5), 3) := by decide +kernel
theorem dPa_readTerm_87 : decode prog_6_method_9_code 87 = .ok (.iconst (-1), 1) := by decide +kernel
theorem dPa_readTerm_88 : decode prog_6_method_9_code 88 = .ok (.ireturn, 1) := by decide +kernel
theorem dPa_readTerm_89 : decode prog_6_method_9_code 89 = .ok (.aload_n 0, 1) := by decide +kernel
theorem dPa_readTerm_90 : decode prog_6_method_9_code 90 = .ok (.getfield 159, 3) := by decide +kernel
theorem dPa_readTerm_93 : decode prog_6_method_9_code 93 = .ok (.ifCond .ne (5), 3) := by decide +kernel
theorem dPa_readTerm_96 : decode prog_6_method_9_code 96 = .ok (.iload_n 1, 1) := by decide +kernel
theorem dPa_readTerm_97 : decode prog_6_method_9_code 97 = .ok (.ireturn, 1) := by decide +kernel
theorem dPa_readTerm_98 : decode prog_6_method_9_code 98 = .ok (.iinc 2 (1), 3) := by decide +kernel
theorem dPa_readTerm_101 : decode prog_6_method_9_code 101 = .ok (.goto (-83), 3) := by decide +kernel
theorem dPa_readTerm_104 : decode prog_6_method_9_code 104 = .ok (.iconst (-1), 1) := by decide +kernel
theorem dPa_readTerm_105 : decode prog_6_method_9_code 105 = .ok (.ireturn, 1) := by decide +kernel
theorem dPa_readCell_0 : decode prog_6_method_10_code 0 = .ok (.aload_n 0, 1) := by decide +kernel
theorem dPa_readCell_1 : decode prog_6_method_10_code 1 = .ok (.getfield 29, 3) := by decide +kernel
theorem dPa_readCell_4 : decode prog_6_method_10_code 4 = .ok (.getfield 150, 3) := by decide +kernel
theorem dPa_readCell_7 : decode prog_6_method_10_code 7 = .ok (.astore_n 2, 1) := by decide +kernel
theorem dPa_readCell_8 : decode prog_6_method_10_code 8 = .ok (.aload_n 0, 1) := by decide +kernel
theorem dPa_readCell_9 : decode prog_6_method_10_code 9 = .ok (.getfield 25, 3) := by decide +kernel
theorem dPa_readCell_12 : decode prog_6_method_10_code 12 = .ok (.bipush (63), 2) := by decide +kernel
theorem dPa_readCell_14 : decode prog_6_method_10_code 14 = .ok (.invokevirtual 108, 3) := by decide +kernel
theorem dPa_readCell_17 : decode prog_6_method_10_code 17 = .ok (.istore_n 3, 1) := by decide +kernel
theorem dPa_readCell_18 : decode prog_6_method_10_code 18 = .ok (.iload_n 3, 1) := by decide +kernel
theorem dPa_readCell_19 : decode prog_6_method_10_code 19 = .ok (.ifCond .eq (10), 3) := by decide +kernel
theorem dPa_readCell_22 : decode prog_6_method_10_code 22 = .ok (.aload_n 0, 1) := by decide +kernel
theorem dPa_readCell_23 : decode prog_6_method_10_code 23 = .ok (.getfield 25, 3) := by decide +kernel
theorem dPa_readCell_26 : decode prog_6_method_10_code 26 = .ok (.invokevirtual 94, 3) := by decide +kernel
theorem dPa_readCell_29 : decode prog_6_method_10_code 29 = .ok (.aload_n 0, 1) := by decide +kernel
theorem dPa_readCell_30 : decode prog_6_method_10_code 30 = .ok (.invokevirtual 119, 3) := by decide +kernel
theorem dPa_readCell_33 : decode prog_6_method_10_code 33 = .ok (.istore 4, 2) := by decide +kernel
theorem dPa_readCell_35 : decode prog_6_method_10_code 35 = .ok (.iload 4, 2) := by decide +kernel
theorem dPa_readCell_37 : decode prog_6_method_10_code 37 = .ok (.ifCond .ne (5), 3) := by decide +kernel
theorem dPa_readCell_40 : decode prog_6_method_10_code 40 = .ok (.iconst (-1), 1) := by decide +kernel
theorem dPa_readCell_41 : decode prog_6_method_10_code 41 = .ok (.ireturn, 1) := by decide +kernel
theorem dPa_readCell_42 : decode prog_6_method_10_code 42 = .ok (.iconst (-1), 1) := by decide +kernel
theorem dPa_readCell_43 : decode prog_6_method_10_code 43 = .ok (.istore 5, 2) := by decide +kernel
theorem dPa_readCell_45 : decode prog_6_method_10_code 45 = .ok (.aload_n 2, 1) := by decide +kernel
theorem dPa_readCell_46 : decode prog_6_method_10_code 46 = .ok (.getfield 154, 3) := by decide +kernel
theorem dPa_readCell_49 : decode prog_6_method_10_code 49 = .ok (.iload_n 1, 1) := by decide +kernel
theorem dPa_readCell_50 : decode prog_6_method_10_code 50 = .ok (.isub, 1) := by decide +kernel
theorem dPa_readCell_51 : decode prog_6_method_10_code 51 = .ok (.bipush (24), 2) := by decide +kernel
theorem dPa_readCell_53 : decode prog_6_method_10_code 53 = .ok (.if_icmp .ge (34), 3) := by decide +kernel
theorem dPa_readCell_56 : decode prog_6_method_10_code 56 = .ok (.aload_n 2, 1) := by decide +kernel
theorem dPa_readCell_57 : decode prog_6_method_10_code 57 = .ok (.getfield 154, 3) := by decide +kernel
theorem dPa_readCell_60 : decode prog_6_method_10_code 60 = .ok (.sipush (400), 3) := by decide +kernel
theorem dPa_readCell_63 : decode prog_6_method_10_code 63 = .ok (.if_icmp .ge (24), 3) := by decide +kernel
theorem dPa_readCell_66 : decode prog_6_method_10_code 66 = .ok (.iload_n 3, 1) := by decide +kernel
theorem dPa_readCell_67 : decode prog_6_method_10_code 67 = .ok (.ifCond .eq (12), 3) := by decide +kernel
theorem dPa_readCell_70 : decode prog_6_method_10_code 70 = .ok (.aload_n 2, 1) := by decide +kernel
theorem dPa_readCell_71 : decode prog_6_method_10_code 71 = .ok (.iload 4, 2) := by decide +kernel
theorem dPa_readCell_73 : decode prog_6_method_10_code 73 = .ok (.invokevirtual 172, 3) := by decide +kernel
theorem dPa_readCell_76 : decode prog_6_method_10_code 76 = .ok (.goto (9), 3) := by decide +kernel
theorem dPa_readCell_79 : decode prog_6_method_10_code 79 = .ok (.aload_n 2, 1) := by decide +kernel
theorem dPa_readCell_80 : decode prog_6_method_10_code 80 = .ok (.iload 4, 2) := by decide +kernel
theorem dPa_readCell_82 : decode prog_6_method_10_code 82 = .ok (.invokevirtual 175, 3) := by decide +kernel
theorem dPa_readCell_85 : decode prog_6_method_10_code 85 = .ok (.istore 5, 2) := by decide +kernel
theorem dPa_readCell_87 : decode prog_6_method_10_code 87 = .ok (.iload 5, 2) := by decide +kernel
theorem dPa_readCell_89 : decode prog_6_method_10_code 89 = .ok (.iconst (-1), 1) := by decide +kernel
theorem dPa_readCell_90 : decode prog_6_method_10_code 90 = .ok (.if_icmp .ne (15), 3) := by decide +kernel
theorem dPa_readCell_93 : decode prog_6_method_10_code 93 = .ok (.aload_n 0, 1) := by decide +kernel
theorem dPa_readCell_94 : decode prog_6_method_10_code 94 = .ok (.iconst (5), 1) := by decide +kernel
theorem dPa_readCell_95 : decode prog_6_method_10_code 95 = .ok (.aload_n 0, 1) := by decide +kernel
theorem dPa_readCell_96 : decode prog_6_method_10_code 96 = .ok (.getfield 126, 3) := by decide +kernel
theorem dPa_readCell_99 : decode prog_6_method_10_code 99 = .ok (.invokevirtual 57, 3) := by decide +kernel
theorem dPa_readCell_102 : decode prog_6_method_10_code 102 = .ok (.pop, 1) := by decide +kernel
theorem dPa_readCell_103 : decode prog_6_method_10_code 103 = .ok (.iconst (-1), 1) := by decide +kernel
theorem dPa_readCell_104 : decode prog_6_method_10_code 104 = .ok (.ireturn, 1) := by decide +kernel
theorem dPa_readCell_105 : decode prog_6_method_10_code 105 = .ok (.aload_n 2, 1) := by decide +kernel
theorem dPa_readCell_106 : decode prog_6_method_10_code 106 = .ok (.iload 5, 2) := by decide +kernel
theorem dPa_readCell_108 : decode prog_6_method_10_code 108 = .ok (.invokevirtual 178, 3) := by decide +kernel
theorem dPa_readCell_111 : decode prog_6_method_10_code 111 = .ok (.iload 5, 2) := by decide +kernel
theorem dPa_readCell_113 : decode prog_6_method_10_code 113 = .ok (.ireturn, 1) := by decide +kernel
theorem dTa_isMark_0 : decode prog_9_method_8_code 0 = .ok (.aload_n 0, 1) := by decide +kernel
theorem dTa_isMark_1 : decode prog_9_method_8_code 1 = .ok (.getfield 19, 3) := by decide +kernel
theorem dTa_isMark_4 : decode prog_9_method_8_code 4 = .ok (.iconst (1), 1) := by decide +kernel
theorem dTa_isMark_5 : decode prog_9_method_8_code 5 = .ok (.if_icmp .ne (15), 3) := by decide +kernel
theorem dTa_isMark_8 : decode prog_9_method_8_code 8 = .ok (.aload_n 0, 1) := by decide +kernel
theorem dTa_isMark_9 : decode prog_9_method_8_code 9 = .ok (.getfield 35, 3) := by decide +kernel
theorem dTa_isMark_12 : decode prog_9_method_8_code 12 = .ok (.iload_n 1, 1) := by decide +kernel
theorem dTa_isMark_13 : decode prog_9_method_8_code 13 = .ok (.if_icmp .ne (7), 3) := by decide +kernel
theorem dTa_isMark_16 : decode prog_9_method_8_code 16 = .ok (.iconst (1), 1) := by decide +kernel
theorem dTa_isMark_17 : decode prog_9_method_8_code 17 = .ok (.goto (4), 3) := by decide +kernel
theorem dTa_isMark_20 : decode prog_9_method_8_code 20 = .ok (.iconst (0), 1) := by decide +kernel
theorem dTa_isMark_21 : decode prog_9_method_8_code 21 = .ok (.ireturn, 1) := by decide +kernel
theorem dTe_holeFor_0 : decode prog_10_method_4_code 0 = .ok (.iconst (0), 1) := by decide +kernel
theorem dTe_holeFor_1 : decode prog_10_method_4_code 1 = .ok (.istore_n 2, 1) := by decide +kernel
theorem dTe_holeFor_2 : decode prog_10_method_4_code 2 = .ok (.iload_n 2, 1) := by decide +kernel
theorem dTe_holeFor_3 : decode prog_10_method_4_code 3 = .ok (.aload_n 0, 1) := by decide +kernel
theorem dTe_holeFor_4 : decode prog_10_method_4_code 4 = .ok (.getfield 34, 3) := by decide +kernel
theorem dTe_holeFor_7 : decode prog_10_method_4_code 7 = .ok (.if_icmp .ge (24), 3) := by decide +kernel
theorem dTe_holeFor_10 : decode prog_10_method_4_code 10 = .ok (.aload_n 0, 1) := by decide +kernel
theorem dTe_holeFor_11 : decode prog_10_method_4_code 11 = .ok (.getfield 18, 3) := by decide +kernel
theorem dTe_holeFor_14 : decode prog_10_method_4_code 14 = .ok (.iload_n 2, 1) := by decide +kernel
theorem dTe_holeFor_15 : decode prog_10_method_4_code 15 = .ok (.iaload, 1) := by decide +kernel
theorem dTe_holeFor_16 : decode prog_10_method_4_code 16 = .ok (.iload_n 1, 1) := by decide +kernel
theorem dTe_holeFor_17 : decode prog_10_method_4_code 17 = .ok (.if_icmp .ne (8), 3) := by decide +kernel
theorem dTe_holeFor_20 : decode prog_10_method_4_code 20 = .ok (.bipush (100), 2) := by decide +kernel
theorem dTe_holeFor_22 : decode prog_10_method_4_code 22 = .ok (.iload_n 2, 1) := by decide +kernel
theorem dTe_holeFor_23 : decode prog_10_method_4_code 23 = .ok (.iadd, 1) := by decide +kernel
theorem dTe_holeFor_24 : decode prog_10_method_4_code 24 = .ok (.ireturn, 1) := by decide +kernel
theorem dTe_holeFor_25 : decode prog_10_method_4_code 25 = .ok (.iinc 2 (1), 3) := by decide +kernel
theorem dTe_holeFor_28 : decode prog_10_method_4_code 28 = .ok (.goto (-26), 3) := by decide +kernel
theorem dTe_holeFor_31 : decode prog_10_method_4_code 31 = .ok (.aload_n 0, 1) := by decide +kernel
theorem dTe_holeFor_32 : decode prog_10_method_4_code 32 = .ok (.getfield 34, 3) := by decide +kernel
theorem dTe_holeFor_35 : decode prog_10_method_4_code 35 = .ok (.bipush (12), 2) := by decide +kernel
theorem dTe_holeFor_37 : decode prog_10_method_4_code 37 = .ok (.if_icmp .ne (5), 3) := by decide +kernel
theorem dTe_holeFor_40 : decode prog_10_method_4_code 40 = .ok (.iconst (-1), 1) := by decide +kernel
theorem dTe_holeFor_41 : decode prog_10_method_4_code 41 = .ok (.ireturn, 1) := by decide +kernel
theorem dTe_holeFor_42 : decode prog_10_method_4_code 42 = .ok (.aload_n 0, 1) := by decide +kernel
theorem dTe_holeFor_43 : decode prog_10_method_4_code 43 = .ok (.getfield 18, 3) := by decide +kernel
theorem dTe_holeFor_46 : decode prog_10_method_4_code 46 = .ok (.aload_n 0, 1) := by decide +kernel
theorem dTe_holeFor_47 : decode prog_10_method_4_code 47 = .ok (.getfield 34, 3) := by decide +kernel
theorem dTe_holeFor_50 : decode prog_10_method_4_code 50 = .ok (.iload_n 1, 1) := by decide +kernel
theorem dTe_holeFor_51 : decode prog_10_method_4_code 51 = .ok (.iastore, 1) := by decide +kernel
theorem dTe_holeFor_52 : decode prog_10_method_4_code 52 = .ok (.aload_n 0, 1) := by decide +kernel
theorem dTe_holeFor_53 : decode prog_10_method_4_code 53 = .ok (.dup, 1) := by decide +kernel
theorem dTe_holeFor_54 : decode prog_10_method_4_code 54 = .ok (.getfield 34, 3) := by decide +kernel
theorem dTe_holeFor_57 : decode prog_10_method_4_code 57 = .ok (.iconst (1), 1) := by decide +kernel
theorem dTe_holeFor_58 : decode prog_10_method_4_code 58 = .ok (.iadd, 1) := by decide +kernel
theorem dTe_holeFor_59 : decode prog_10_method_4_code 59 = .ok (.putfield 34, 3) := by decide +kernel
theorem dTe_holeFor_62 : decode prog_10_method_4_code 62 = .ok (.bipush (100), 2) := by decide +kernel
theorem dTe_holeFor_64 : decode prog_10_method_4_code 64 = .ok (.aload_n 0, 1) := by decide +kernel
theorem dTe_holeFor_65 : decode prog_10_method_4_code 65 = .ok (.getfield 34, 3) := by decide +kernel
theorem dTe_holeFor_68 : decode prog_10_method_4_code 68 = .ok (.iadd, 1) := by decide +kernel
theorem dTe_holeFor_69 : decode prog_10_method_4_code 69 = .ok (.iconst (1), 1) := by decide +kernel
theorem dTe_holeFor_70 : decode prog_10_method_4_code 70 = .ok (.isub, 1) := by decide +kernel
theorem dTe_holeFor_71 : decode prog_10_method_4_code 71 = .ok (.ireturn, 1) := by decide +kernel
theorem dTe_signFor_0 : decode prog_10_method_3_code 0 = .ok (.iconst (0), 1) := by decide +kernel
theorem dTe_signFor_1 : decode prog_10_method_3_code 1 = .ok (.istore_n 2, 1) := by decide +kernel
theorem dTe_signFor_2 : decode prog_10_method_3_code 2 = .ok (.iload_n 2, 1) := by decide +kernel
theorem dTe_signFor_3 : decode prog_10_method_3_code 3 = .ok (.aload_n 0, 1) := by decide +kernel
theorem dTe_signFor_4 : decode prog_10_method_3_code 4 = .ok (.getfield 30, 3) := by decide +kernel
theorem dTe_signFor_7 : decode prog_10_method_3_code 7 = .ok (.if_icmp .ge (21), 3) := by decide +kernel
theorem dTe_signFor_10 : decode prog_10_method_3_code 10 = .ok (.aload_n 0, 1) := by decide +kernel
theorem dTe_signFor_11 : decode prog_10_method_3_code 11 = .ok (.getfield 11, 3) := by decide +kernel
theorem dTe_signFor_14 : decode prog_10_method_3_code 14 = .ok (.iload_n 2, 1) := by decide +kernel
theorem dTe_signFor_15 : decode prog_10_method_3_code 15 = .ok (.iaload, 1) := by decide +kernel
theorem dTe_signFor_16 : decode prog_10_method_3_code 16 = .ok (.iload_n 1, 1) := by decide +kernel
theorem dTe_signFor_17 : decode prog_10_method_3_code 17 = .ok (.if_icmp .ne (5), 3) := by decide +kernel
theorem dTe_signFor_20 : decode prog_10_method_3_code 20 = .ok (.iload_n 2, 1) := by decide +kernel
theorem dTe_signFor_21 : decode prog_10_method_3_code 21 = .ok (.ireturn, 1) := by decide +kernel
theorem dTe_signFor_22 : decode prog_10_method_3_code 22 = .ok (.iinc 2 (1), 3) := by decide +kernel
theorem dTe_signFor_25 : decode prog_10_method_3_code 25 = .ok (.goto (-23), 3) := by decide +kernel
theorem dTe_signFor_28 : decode prog_10_method_3_code 28 = .ok (.aload_n 0, 1) := by decide +kernel
theorem dTe_signFor_29 : decode prog_10_method_3_code 29 = .ok (.getfield 30, 3) := by decide +kernel
theorem dTe_signFor_32 : decode prog_10_method_3_code 32 = .ok (.bipush (24), 2) := by decide +kernel
theorem dTe_signFor_34 : decode prog_10_method_3_code 34 = .ok (.if_icmp .ne (5), 3) := by decide +kernel
theorem dTe_signFor_37 : decode prog_10_method_3_code 37 = .ok (.iconst (-1), 1) := by decide +kernel
theorem dTe_signFor_38 : decode prog_10_method_3_code 38 = .ok (.ireturn, 1) := by decide +kernel
theorem dTe_signFor_39 : decode prog_10_method_3_code 39 = .ok (.aload_n 0, 1) := by decide +kernel
theorem dTe_signFor_40 : decode prog_10_method_3_code 40 = .ok (.getfield 11, 3) := by decide +kernel
theorem dTe_signFor_43 : decode prog_10_method_3_code 43 = .ok (.aload_n 0, 1) := by decide +kernel
theorem dTe_signFor_44 : decode prog_10_method_3_code 44 = .ok (.getfield 30, 3) := by decide +kernel
theorem dTe_signFor_47 : decode prog_10_method_3_code 47 = .ok (.iload_n 1, 1) := by decide +kernel
theorem dTe_signFor_48 : decode prog_10_method_3_code 48 = .ok (.iastore, 1) := by decide +kernel
theorem dTe_signFor_49 : decode prog_10_method_3_code 49 = .ok (.aload_n 0, 1) := by decide +kernel
theorem dTe_signFor_50 : decode prog_10_method_3_code 50 = .ok (.getfield 15, 3) := by decide +kernel
theorem dTe_signFor_53 : decode prog_10_method_3_code 53 = .ok (.aload_n 0, 1) := by decide +kernel
theorem dTe_signFor_54 : decode prog_10_method_3_code 54 = .ok (.getfield 30, 3) := by decide +kernel
theorem dTe_signFor_57 : decode prog_10_method_3_code 57 = .ok (.iconst (-1), 1) := by decide +kernel
theorem dTe_signFor_58 : decode prog_10_method_3_code 58 = .ok (.iastore, 1) := by decide +kernel
theorem dTe_signFor_59 : decode prog_10_method_3_code 59 = .ok (.aload_n 0, 1) := by decide +kernel
theorem dTe_signFor_60 : decode prog_10_method_3_code 60 = .ok (.dup, 1) := by decide +kernel
theorem dTe_signFor_61 : decode prog_10_method_3_code 61 = .ok (.getfield 30, 3) := by decide +kernel
theorem dTe_signFor_64 : decode prog_10_method_3_code 64 = .ok (.iconst (1), 1) := by decide +kernel
theorem dTe_signFor_65 : decode prog_10_method_3_code 65 = .ok (.iadd, 1) := by decide +kernel
theorem dTe_signFor_66 : decode prog_10_method_3_code 66 = .ok (.putfield 30, 3) := by decide +kernel
theorem dTe_signFor_69 : decode prog_10_method_3_code 69 = .ok (.aload_n 0, 1) := by decide +kernel
theorem dTe_signFor_70 : decode prog_10_method_3_code 70 = .ok (.getfield 30, 3) := by decide +kernel
theorem dTe_signFor_73 : decode prog_10_method_3_code 73 = .ok (.iconst (1), 1) := by decide +kernel
theorem dTe_signFor_74 : decode prog_10_method_3_code 74 = .ok (.isub, 1) := by decide +kernel
theorem dTe_signFor_75 : decode prog_10_method_3_code 75 = .ok (.ireturn, 1) := by decide +kernel
theorem dTe_add_0 : decode prog_10_method_5_code 0 = .ok (.aload_n 0, 1) := by decide +kernel
theorem dTe_add_1 : decode prog_10_method_5_code 1 = .ok (.getfield 37, 3) := by decide +kernel
theorem dTe_add_4 : decode prog_10_method_5_code 4 = .ok (.sipush (400), 3) := by decide +kernel
theorem dTe_add_7 : decode prog_10_method_5_code 7 = .ok (.if_icmp .ge (38), 3) := by decide +kernel
theorem dTe_add_10 : decode prog_10_method_5_code 10 = .ok (.aload_n 0, 1) := by decide +kernel
theorem dTe_add_11 : decode prog_10_method_5_code 11 = .ok (.getfield 21, 3) := by decide +kernel
theorem dTe_add_14 : decode prog_10_method_5_code 14 = .ok (.aload_n 0, 1) := by decide +kernel
theorem dTe_add_15 : decode prog_10_method_5_code 15 = .ok (.getfield 37, 3) := by decide +kernel
theorem dTe_add_18 : decode prog_10_method_5_code 18 = .ok (.iload_n 1, 1) := by decide +kernel
theorem dTe_add_19 : decode prog_10_method_5_code 19 = .ok (.iastore, 1) := by decide +kernel
theorem dTe_add_20 : decode prog_10_method_5_code 20 = .ok (.aload_n 0, 1) := by decide +kernel
theorem dTe_add_21 : decode prog_10_method_5_code 21 = .ok (.getfield 24, 3) := by decide +kernel
theorem dTe_add_24 : decode prog_10_method_5_code 24 = .ok (.aload_n 0, 1) := by decide +kernel
theorem dTe_add_25 : decode prog_10_method_5_code 25 = .ok (.getfield 37, 3) := by decide +kernel
theorem dTe_add_28 : decode prog_10_method_5_code 28 = .ok (.aload_n 0, 1) := by decide +kernel
theorem dTe_add_29 : decode prog_10_method_5_code 29 = .ok (.getfield 37, 3) := by decide +kernel
theorem dTe_add_32 : decode prog_10_method_5_code 32 = .ok (.iconst (1), 1) := by decide +kernel
theorem dTe_add_33 : decode prog_10_method_5_code 33 = .ok (.iadd, 1) := by decide +kernel
theorem dTe_add_34 : decode prog_10_method_5_code 34 = .ok (.iastore, 1) := by decide +kernel
theorem dTe_add_35 : decode prog_10_method_5_code 35 = .ok (.aload_n 0, 1) := by decide +kernel
theorem dTe_add_36 : decode prog_10_method_5_code 36 = .ok (.dup, 1) := by decide +kernel
theorem dTe_add_37 : decode prog_10_method_5_code 37 = .ok (.getfield 37, 3) := by decide +kernel
theorem dTe_add_40 : decode prog_10_method_5_code 40 = .ok (.iconst (1), 1) := by decide +kernel
theorem dTe_add_41 : decode prog_10_method_5_code 41 = .ok (.iadd, 1) := by decide +kernel
theorem dTe_add_42 : decode prog_10_method_5_code 42 = .ok (.putfield 37, 3) := by decide +kernel
theorem dTe_add_45 : decode prog_10_method_5_code 45 = .ok (.return_, 1) := by decide +kernel
theorem dPa_openBracket_0 : decode prog_6_method_11_code 0 = .ok (.aload_n 0, 1) := by decide +kernel
theorem dPa_openBracket_1 : decode prog_6_method_11_code 1 = .ok (.getfield 159, 3) := by decide +kernel
theorem dPa_openBracket_4 : decode prog_6_method_11_code 4 = .ok (.bipush (6), 2) := by decide +kernel
theorem dPa_openBracket_6 : decode prog_6_method_11_code 6 = .ok (.if_icmp .lt (16), 3) := by decide +kernel
theorem dPa_openBracket_9 : decode prog_6_method_11_code 9 = .ok (.aload_n 0, 1) := by decide +kernel
theorem dPa_openBracket_10 : decode prog_6_method_11_code 10 = .ok (.iconst (4), 1) := by decide +kernel
theorem dPa_openBracket_11 : decode prog_6_method_11_code 11 = .ok (.aload_n 0, 1) := by decide +kernel
theorem dPa_openBracket_12 : decode prog_6_method_11_code 12 = .ok (.getfield 25, 3) := by decide +kernel
theorem dPa_openBracket_15 : decode prog_6_method_11_code 15 = .ok (.getfield 56, 3) := by decide +kernel
theorem dPa_openBracket_18 : decode prog_6_method_11_code 18 = .ok (.invokevirtual 57, 3) := by decide +kernel
theorem dPa_openBracket_21 : decode prog_6_method_11_code 21 = .ok (.ireturn, 1) := by decide +kernel
theorem dPa_openBracket_22 : decode prog_6_method_11_code 22 = .ok (.aload_n 0, 1) := by decide +kernel
theorem dPa_openBracket_23 : decode prog_6_method_11_code 23 = .ok (.getfield 11, 3) := by decide +kernel
theorem dPa_openBracket_26 : decode prog_6_method_11_code 26 = .ok (.aload_n 0, 1) := by decide +kernel
theorem dPa_openBracket_27 : decode prog_6_method_11_code 27 = .ok (.getfield 159, 3) := by decide +kernel
theorem dPa_openBracket_30 : decode prog_6_method_11_code 30 = .ok (.aload_n 0, 1) := by decide +kernel
theorem dPa_openBracket_31 : decode prog_6_method_11_code 31 = .ok (.getfield 29, 3) := by decide +kernel
theorem dPa_openBracket_34 : decode prog_6_method_11_code 34 = .ok (.getfield 150, 3) := by decide +kernel
theorem dPa_openBracket_37 : decode prog_6_method_11_code 37 = .ok (.getfield 154, 3) := by decide +kernel
theorem dPa_openBracket_40 : decode prog_6_method_11_code 40 = .ok (.iconst (1), 1) := by decide +kernel
theorem dPa_openBracket_41 : decode prog_6_method_11_code 41 = .ok (.isub, 1) := by decide +kernel
theorem dPa_openBracket_42 : decode prog_6_method_11_code 42 = .ok (.iastore, 1) := by decide +kernel
theorem dPa_openBracket_43 : decode prog_6_method_11_code 43 = .ok (.aload_n 0, 1) := by decide +kernel
theorem dPa_openBracket_44 : decode prog_6_method_11_code 44 = .ok (.getfield 15, 3) := by decide +kernel
theorem dPa_openBracket_47 : decode prog_6_method_11_code 47 = .ok (.aload_n 0, 1) := by decide +kernel
theorem dPa_openBracket_48 : decode prog_6_method_11_code 48 = .ok (.getfield 159, 3) := by decide +kernel
theorem dPa_openBracket_51 : decode prog_6_method_11_code 51 = .ok (.aload_n 0, 1) := by decide +kernel
theorem dPa_openBracket_52 : decode prog_6_method_11_code 52 = .ok (.getfield 126, 3) := by decide +kernel
theorem dPa_openBracket_55 : decode prog_6_method_11_code 55 = .ok (.iastore, 1) := by decide +kernel
theorem dPa_openBracket_56 : decode prog_6_method_11_code 56 = .ok (.aload_n 0, 1) := by decide +kernel
theorem dPa_openBracket_57 : decode prog_6_method_11_code 57 = .ok (.getfield 18, 3) := by decide +kernel
theorem dPa_openBracket_60 : decode prog_6_method_11_code 60 = .ok (.aload_n 0, 1) := by decide +kernel
theorem dPa_openBracket_61 : decode prog_6_method_11_code 61 = .ok (.getfield 159, 3) := by decide +kernel
theorem dPa_openBracket_64 : decode prog_6_method_11_code 64 = .ok (.iconst (1), 1) := by decide +kernel
theorem dPa_openBracket_65 : decode prog_6_method_11_code 65 = .ok (.iastore, 1) := by decide +kernel
theorem dPa_openBracket_66 : decode prog_6_method_11_code 66 = .ok (.aload_n 0, 1) := by decide +kernel
theorem dPa_openBracket_67 : decode prog_6_method_11_code 67 = .ok (.dup, 1) := by decide +kernel
theorem dPa_openBracket_68 : decode prog_6_method_11_code 68 = .ok (.getfield 159, 3) := by decide +kernel
theorem dPa_openBracket_71 : decode prog_6_method_11_code 71 = .ok (.iconst (1), 1) := by decide +kernel
theorem dPa_openBracket_72 : decode prog_6_method_11_code 72 = .ok (.iadd, 1) := by decide +kernel
theorem dPa_openBracket_73 : decode prog_6_method_11_code 73 = .ok (.putfield 159, 3) := by decide +kernel
theorem dPa_openBracket_76 : decode prog_6_method_11_code 76 = .ok (.aload_n 0, 1) := by decide +kernel
theorem dPa_openBracket_77 : decode prog_6_method_11_code 77 = .ok (.getfield 25, 3) := by decide +kernel
theorem dPa_openBracket_80 : decode prog_6_method_11_code 80 = .ok (.invokevirtual 94, 3) := by decide +kernel
theorem dPa_openBracket_83 : decode prog_6_method_11_code 83 = .ok (.iconst (1), 1) := by decide +kernel
theorem dPa_openBracket_84 : decode prog_6_method_11_code 84 = .ok (.ireturn, 1) := by decide +kernel
theorem dPa_closeBrackets_0 : decode prog_6_method_12_code 0 = .ok (.iload_n 1, 1) := by decide +kernel
theorem dPa_closeBrackets_1 : decode prog_6_method_12_code 1 = .ok (.ifCond .eq (39), 3) := by decide +kernel
theorem dPa_closeBrackets_4 : decode prog_6_method_12_code 4 = .ok (.aload_n 0, 1) := by decide +kernel
theorem dPa_closeBrackets_5 : decode prog_6_method_12_code 5 = .ok (.getfield 29, 3) := by decide +kernel
theorem dPa_closeBrackets_8 : decode prog_6_method_12_code 8 = .ok (.getfield 150, 3) := by decide +kernel
theorem dPa_closeBrackets_11 : decode prog_6_method_12_code 11 = .ok (.aload_n 0, 1) := by decide +kernel
theorem dPa_closeBrackets_12 : decode prog_6_method_12_code 12 = .ok (.getfield 29, 3) := by decide +kernel
theorem dPa_closeBrackets_15 : decode prog_6_method_12_code 15 = .ok (.getfield 150, 3) := by decide +kernel
theorem dPa_closeBrackets_18 : decode prog_6_method_12_code 18 = .ok (.getfield 154, 3) := by decide +kernel
theorem dPa_closeBrackets_21 : decode prog_6_method_12_code 21 = .ok (.iconst (1), 1) := by decide +kernel
theorem dPa_closeBrackets_22 : decode prog_6_method_12_code 22 = .ok (.isub, 1) := by decide +kernel
theorem dPa_closeBrackets_23 : decode prog_6_method_12_code 23 = .ok (.iconst (0), 1) := by decide +kernel
theorem dPa_closeBrackets_24 : decode prog_6_method_12_code 24 = .ok (.invokevirtual 182, 3) := by decide +kernel
theorem dPa_closeBrackets_27 : decode prog_6_method_12_code 27 = .ok (.ifCond .ne (13), 3) := by decide +kernel
theorem dPa_closeBrackets_30 : decode prog_6_method_12_code 30 = .ok (.aload_n 0, 1) := by decide +kernel
theorem dPa_closeBrackets_31 : decode prog_6_method_12_code 31 = .ok (.iconst (3), 1) := by decide +kernel
theorem dPa_closeBrackets_32 : decode prog_6_method_12_code 32 = .ok (.aload_n 0, 1) := by decide +kernel
theorem dPa_closeBrackets_33 : decode prog_6_method_12_code 33 = .ok (.getfield 126, 3) := by decide +kernel
theorem dPa_closeBrackets_36 : decode prog_6_method_12_code 36 = .ok (.invokevirtual 57, 3) := by decide +kernel
theorem dPa_closeBrackets_39 : decode prog_6_method_12_code 39 = .ok (.ireturn, 1) := by decide +kernel
theorem dPa_closeBrackets_40 : decode prog_6_method_12_code 40 = .ok (.aload_n 0, 1) := by decide +kernel
theorem dPa_closeBrackets_41 : decode prog_6_method_12_code 41 = .ok (.getfield 159, 3) := by decide +kernel
theorem dPa_closeBrackets_44 : decode prog_6_method_12_code 44 = .ok (.iconst (1), 1) := by decide +kernel
theorem dPa_closeBrackets_45 : decode prog_6_method_12_code 45 = .ok (.isub, 1) := by decide +kernel
theorem dPa_closeBrackets_46 : decode prog_6_method_12_code 46 = .ok (.istore_n 2, 1) := by decide +kernel
theorem dPa_closeBrackets_47 : decode prog_6_method_12_code 47 = .ok (.iload_n 2, 1) := by decide +kernel
theorem dPa_closeBrackets_48 : decode prog_6_method_12_code 48 = .ok (.ifCond .lt (103), 3) := by decide +kernel
theorem dPa_closeBrackets_51 : decode prog_6_method_12_code 51 = .ok (.aload_n 0, 1) := by decide +kernel
theorem dPa_closeBrackets_52 : decode prog_6_method_12_code 52 = .ok (.getfield 18, 3) := by decide +kernel
theorem dPa_closeBrackets_55 : decode prog_6_method_12_code 55 = .ok (.iload_n 2, 1) := by decide +kernel
theorem dPa_closeBrackets_56 : decode prog_6_method_12_code 56 = .ok (.iaload, 1) := by decide +kernel
theorem dPa_closeBrackets_57 : decode prog_6_method_12_code 57 = .ok (.iconst (3), 1) := by decide +kernel
theorem dPa_closeBrackets_58 : decode prog_6_method_12_code 58 = .ok (.if_icmp .ge (34), 3) := by decide +kernel
theorem dPa_closeBrackets_61 : decode prog_6_method_12_code 61 = .ok (.aload_n 0, 1) := by decide +kernel
theorem dPa_closeBrackets_62 : decode prog_6_method_12_code 62 = .ok (.getfield 25, 3) := by decide +kernel
theorem dPa_closeBrackets_65 : decode prog_6_method_12_code 65 = .ok (.bipush (44), 2) := by decide +kernel
theorem dPa_closeBrackets_67 : decode prog_6_method_12_code 67 = .ok (.invokevirtual 108, 3) := by decide +kernel
theorem dPa_closeBrackets_70 : decode prog_6_method_12_code 70 = .ok (.ifCond .eq (22), 3) := by decide +kernel
theorem dPa_closeBrackets_73 : decode prog_6_method_12_code 73 = .ok (.aload_n 0, 1) := by decide +kernel
theorem dPa_closeBrackets_74 : decode prog_6_method_12_code 74 = .ok (.getfield 18, 3) := by decide +kernel
theorem dPa_closeBrackets_77 : decode prog_6_method_12_code 77 = .ok (.iload_n 2, 1) := by decide +kernel
theorem dPa_closeBrackets_78 : decode prog_6_method_12_code 78 = .ok (.dup2, 1) := by decide +kernel
theorem dPa_closeBrackets_79 : decode prog_6_method_12_code 79 = .ok (.iaload, 1) := by decide +kernel
theorem dPa_closeBrackets_80 : decode prog_6_method_12_code 80 = .ok (.iconst (1), 1) := by decide +kernel
theorem dPa_closeBrackets_81 : decode prog_6_method_12_code 81 = .ok (.iadd, 1) := by decide +kernel
theorem dPa_closeBrackets_82 : decode prog_6_method_12_code 82 = .ok (.iastore, 1) := by decide +kernel
theorem dPa_closeBrackets_83 : decode prog_6_method_12_code 83 = .ok (.aload_n 0, 1) := by decide +kernel
theorem dPa_closeBrackets_84 : decode prog_6_method_12_code 84 = .ok (.getfield 25, 3) := by decide +kernel
theorem dPa_closeBrackets_87 : decode prog_6_method_12_code 87 = .ok (.invokevirtual 94, 3) := by decide +kernel
theorem dPa_closeBrackets_90 : decode prog_6_method_12_code 90 = .ok (.iconst (1), 1) := by decide +kernel
theorem dPa_closeBrackets_91 : decode prog_6_method_12_code 91 = .ok (.ireturn, 1) := by decide +kernel
theorem dPa_closeBrackets_92 : decode prog_6_method_12_code 92 = .ok (.aload_n 0, 1) := by decide +kernel
theorem dPa_closeBrackets_93 : decode prog_6_method_12_code 93 = .ok (.bipush (41), 2) := by decide +kernel
theorem dPa_closeBrackets_95 : decode prog_6_method_12_code 95 = .ok (.invokevirtual 91, 3) := by decide +kernel
theorem dPa_closeBrackets_98 : decode prog_6_method_12_code 98 = .ok (.ifCond .ne (5), 3) := by decide +kernel
theorem dPa_closeBrackets_101 : decode prog_6_method_12_code 101 = .ok (.iconst (0), 1) := by decide +kernel
theorem dPa_closeBrackets_102 : decode prog_6_method_12_code 102 = .ok (.ireturn, 1) := by decide +kernel
theorem dPa_closeBrackets_103 : decode prog_6_method_12_code 103 = .ok (.aload_n 0, 1) := by decide +kernel
theorem dPa_closeBrackets_104 : decode prog_6_method_12_code 104 = .ok (.getfield 29, 3) := by decide +kernel
theorem dPa_closeBrackets_107 : decode prog_6_method_12_code 107 = .ok (.getfield 150, 3) := by decide +kernel
theorem dPa_closeBrackets_110 : decode prog_6_method_12_code 110 = .ok (.aload_n 0, 1) := by decide +kernel
theorem dPa_closeBrackets_111 : decode prog_6_method_12_code 111 = .ok (.getfield 11, 3) := by decide +kernel
theorem dPa_closeBrackets_114 : decode prog_6_method_12_code 114 = .ok (.iload_n 2, 1) := by decide +kernel
theorem dPa_closeBrackets_115 : decode prog_6_method_12_code 115 = .ok (.iaload, 1) := by decide +kernel
theorem dPa_closeBrackets_116 : decode prog_6_method_12_code 116 = .ok (.aload_n 0, 1) := by decide +kernel
theorem dPa_closeBrackets_117 : decode prog_6_method_12_code 117 = .ok (.getfield 18, 3) := by decide +kernel
theorem dPa_closeBrackets_120 : decode prog_6_method_12_code 120 = .ok (.iload_n 2, 1) := by decide +kernel
theorem dPa_closeBrackets_121 : decode prog_6_method_12_code 121 = .ok (.iaload, 1) := by decide +kernel
theorem dPa_closeBrackets_122 : decode prog_6_method_12_code 122 = .ok (.invokevirtual 182, 3) := by decide +kernel
theorem dPa_closeBrackets_125 : decode prog_6_method_12_code 125 = .ok (.ifCond .ne (15), 3) := by decide +kernel
theorem dPa_closeBrackets_128 : decode prog_6_method_12_code 128 = .ok (.aload_n 0, 1) := by decide +kernel
theorem dPa_closeBrackets_129 : decode prog_6_method_12_code 129 = .ok (.iconst (3), 1) := by decide +kernel
theorem dPa_closeBrackets_130 : decode prog_6_method_12_code 130 = .ok (.aload_n 0, 1) := by decide +kernel
theorem dPa_closeBrackets_131 : decode prog_6_method_12_code 131 = .ok (.getfield 15, 3) := by decide +kernel
theorem dPa_closeBrackets_134 : decode prog_6_method_12_code 134 = .ok (.iload_n 2, 1) := by decide +kernel
theorem dPa_closeBrackets_135 : decode prog_6_method_12_code 135 = .ok (.iaload, 1) := by decide +kernel
theorem dPa_closeBrackets_136 : decode prog_6_method_12_code 136 = .ok (.invokevirtual 57, 3) := by decide +kernel
theorem dPa_closeBrackets_139 : decode prog_6_method_12_code 139 = .ok (.ireturn, 1) := by decide +kernel
theorem dPa_closeBrackets_140 : decode prog_6_method_12_code 140 = .ok (.aload_n 0, 1) := by decide +kernel
theorem dPa_closeBrackets_141 : decode prog_6_method_12_code 141 = .ok (.iload_n 2, 1) := by decide +kernel
theorem dPa_closeBrackets_142 : decode prog_6_method_12_code 142 = .ok (.putfield 159, 3) := by decide +kernel
theorem dPa_closeBrackets_145 : decode prog_6_method_12_code 145 = .ok (.iinc 2 (-1), 3) := by decide +kernel
theorem dPa_closeBrackets_148 : decode prog_6_method_12_code 148 = .ok (.goto (-101), 3) := by decide +kernel
theorem dPa_closeBrackets_151 : decode prog_6_method_12_code 151 = .ok (.iconst (1), 1) := by decide +kernel
theorem dPa_closeBrackets_152 : decode prog_6_method_12_code 152 = .ok (.ireturn, 1) := by decide +kernel
theorem dTe_endParts_0 : decode prog_10_method_6_code 0 = .ok (.aload_n 0, 1) := by decide +kernel
theorem dTe_endParts_1 : decode prog_10_method_6_code 1 = .ok (.getfield 21, 3) := by decide +kernel
theorem dTe_endParts_4 : decode prog_10_method_6_code 4 = .ok (.iload_n 1, 1) := by decide +kernel
theorem dTe_endParts_5 : decode prog_10_method_6_code 5 = .ok (.iaload, 1) := by decide +kernel
theorem dTe_endParts_6 : decode prog_10_method_6_code 6 = .ok (.istore_n 3, 1) := by decide +kernel
theorem dTe_endParts_7 : decode prog_10_method_6_code 7 = .ok (.aload_n 0, 1) := by decide +kernel
theorem dTe_endParts_8 : decode prog_10_method_6_code 8 = .ok (.getfield 24, 3) := by decide +kernel
theorem dTe_endParts_11 : decode prog_10_method_6_code 11 = .ok (.iload_n 1, 1) := by decide +kernel
theorem dTe_endParts_12 : decode prog_10_method_6_code 12 = .ok (.aload_n 0, 1) := by decide +kernel
theorem dTe_endParts_13 : decode prog_10_method_6_code 13 = .ok (.getfield 37, 3) := by decide +kernel
theorem dTe_endParts_16 : decode prog_10_method_6_code 16 = .ok (.iastore, 1) := by decide +kernel
theorem dTe_endParts_17 : decode prog_10_method_6_code 17 = .ok (.aload_n 0, 1) := by decide +kernel
theorem dTe_endParts_18 : decode prog_10_method_6_code 18 = .ok (.getfield 15, 3) := by decide +kernel
theorem dTe_endParts_21 : decode prog_10_method_6_code 21 = .ok (.iload_n 3, 1) := by decide +kernel
theorem dTe_endParts_22 : decode prog_10_method_6_code 22 = .ok (.iaload, 1) := by decide +kernel
theorem dTe_endParts_23 : decode prog_10_method_6_code 23 = .ok (.iconst (-1), 1) := by decide +kernel
theorem dTe_endParts_24 : decode prog_10_method_6_code 24 = .ok (.if_icmp .ne (10), 3) := by decide +kernel
theorem dTe_endParts_27 : decode prog_10_method_6_code 27 = .ok (.aload_n 0, 1) := by decide +kernel
theorem dTe_endParts_28 : decode prog_10_method_6_code 28 = .ok (.getfield 15, 3) := by decide +kernel
theorem dTe_endParts_31 : decode prog_10_method_6_code 31 = .ok (.iload_n 3, 1) := by decide +kernel
theorem dTe_endParts_32 : decode prog_10_method_6_code 32 = .ok (.iload_n 2, 1) := by decide +kernel
theorem dTe_endParts_33 : decode prog_10_method_6_code 33 = .ok (.iastore, 1) := by decide +kernel
theorem dTe_endParts_34 : decode prog_10_method_6_code 34 = .ok (.aload_n 0, 1) := by decide +kernel
theorem dTe_endParts_35 : decode prog_10_method_6_code 35 = .ok (.getfield 15, 3) := by decide +kernel
theorem dTe_endParts_38 : decode prog_10_method_6_code 38 = .ok (.iload_n 3, 1) := by decide +kernel
theorem dTe_endParts_39 : decode prog_10_method_6_code 39 = .ok (.iaload, 1) := by decide +kernel
theorem dTe_endParts_40 : decode prog_10_method_6_code 40 = .ok (.iload_n 2, 1) := by decide +kernel
theorem dTe_endParts_41 : decode prog_10_method_6_code 41 = .ok (.if_icmp .ne (7), 3) := by decide +kernel
theorem dTe_endParts_44 : decode prog_10_method_6_code 44 = .ok (.iconst (1), 1) := by decide +kernel
theorem dTe_endParts_45 : decode prog_10_method_6_code 45 = .ok (.goto (4), 3) := by decide +kernel
theorem dTe_endParts_48 : decode prog_10_method_6_code 48 = .ok (.iconst (0), 1) := by decide +kernel
theorem dTe_endParts_49 : decode prog_10_method_6_code 49 = .ok (.ireturn, 1) := by decide +kernel
theorem dPa_takeMark_0 : decode prog_6_method_13_code 0 = .ok (.aload_n 0, 1) := by decide +kernel
theorem dPa_takeMark_1 : decode prog_6_method_13_code 1 = .ok (.getfield 25, 3) := by decide +kernel
theorem dPa_takeMark_4 : decode prog_6_method_13_code 4 = .ok (.iload_n 1, 1) := by decide +kernel
theorem dPa_takeMark_5 : decode prog_6_method_13_code 5 = .ok (.invokevirtual 108, 3) := by decide +kernel
theorem dPa_takeMark_8 : decode prog_6_method_13_code 8 = .ok (.ifCond .ne (16), 3) := by decide +kernel
theorem dPa_takeMark_11 : decode prog_6_method_13_code 11 = .ok (.aload_n 0, 1) := by decide +kernel
theorem dPa_takeMark_12 : decode prog_6_method_13_code 12 = .ok (.iconst (1), 1) := by decide +kernel
theorem dPa_takeMark_13 : decode prog_6_method_13_code 13 = .ok (.aload_n 0, 1) := by decide +kernel
theorem dPa_takeMark_14 : decode prog_6_method_13_code 14 = .ok (.getfield 25, 3) := by decide +kernel
theorem dPa_takeMark_17 : decode prog_6_method_13_code 17 = .ok (.getfield 56, 3) := by decide +kernel
theorem dPa_takeMark_20 : decode prog_6_method_13_code 20 = .ok (.invokevirtual 57, 3) := by decide +kernel
theorem dPa_takeMark_23 : decode prog_6_method_13_code 23 = .ok (.ireturn, 1) := by decide +kernel
theorem dPa_takeMark_24 : decode prog_6_method_13_code 24 = .ok (.aload_n 0, 1) := by decide +kernel
theorem dPa_takeMark_25 : decode prog_6_method_13_code 25 = .ok (.getfield 25, 3) := by decide +kernel
theorem dPa_takeMark_28 : decode prog_6_method_13_code 28 = .ok (.invokevirtual 94, 3) := by decide +kernel
theorem dPa_takeMark_31 : decode prog_6_method_13_code 31 = .ok (.iconst (1), 1) := by decide +kernel
theorem dPa_takeMark_32 : decode prog_6_method_13_code 32 = .ok (.ireturn, 1) := by decide +kernel
theorem dPa_takeWord_0 : decode prog_6_method_14_code 0 = .ok (.aload_n 0, 1) := by decide +kernel
theorem dPa_takeWord_1 : decode prog_6_method_14_code 1 = .ok (.getfield 25, 3) := by decide +kernel
theorem dPa_takeWord_4 : decode prog_6_method_14_code 4 = .ok (.iload_n 1, 1) := by decide +kernel
theorem dPa_takeWord_5 : decode prog_6_method_14_code 5 = .ok (.invokevirtual 66, 3) := by decide +kernel
theorem dPa_takeWord_8 : decode prog_6_method_14_code 8 = .ok (.ifCond .ne (16), 3) := by decide +kernel
theorem dPa_takeWord_11 : decode prog_6_method_14_code 11 = .ok (.aload_n 0, 1) := by decide +kernel
theorem dPa_takeWord_12 : decode prog_6_method_14_code 12 = .ok (.iconst (1), 1) := by decide +kernel
theorem dPa_takeWord_13 : decode prog_6_method_14_code 13 = .ok (.aload_n 0, 1) := by decide +kernel
theorem dPa_takeWord_14 : decode prog_6_method_14_code 14 = .ok (.getfield 25, 3) := by decide +kernel
theorem dPa_takeWord_17 : decode prog_6_method_14_code 17 = .ok (.getfield 56, 3) := by decide +kernel
theorem dPa_takeWord_20 : decode prog_6_method_14_code 20 = .ok (.invokevirtual 57, 3) := by decide +kernel
theorem dPa_takeWord_23 : decode prog_6_method_14_code 23 = .ok (.ireturn, 1) := by decide +kernel
theorem dPa_takeWord_24 : decode prog_6_method_14_code 24 = .ok (.aload_n 0, 1) := by decide +kernel
theorem dPa_takeWord_25 : decode prog_6_method_14_code 25 = .ok (.getfield 25, 3) := by decide +kernel
theorem dPa_takeWord_28 : decode prog_6_method_14_code 28 = .ok (.invokevirtual 94, 3) := by decide +kernel
theorem dPa_takeWord_31 : decode prog_6_method_14_code 31 = .ok (.iconst (1), 1) := by decide +kernel
theorem dPa_takeWord_32 : decode prog_6_method_14_code 32 = .ok (.ireturn, 1) := by decide +kernel
theorem dBk_addRule_0 : decode prog_3_method_3_code 0 = .ok (.aload_n 0, 1) := by decide +kernel
theorem dBk_addRule_1 : decode prog_3_method_3_code 1 = .ok (.getfield 18, 3) := by decide +kernel
theorem dBk_addRule_4 : decode prog_3_method_3_code 4 = .ok (.aload_n 0, 1) := by decide +kernel
theorem dBk_addRule_5 : decode prog_3_method_3_code 5 = .ok (.getfield 59, 3) := by decide +kernel
theorem dBk_addRule_8 : decode prog_3_method_3_code 8 = .ok (.iload_n 1, 1) := by decide +kernel
theorem dBk_addRule_9 : decode prog_3_method_3_code 9 = .ok (.iastore, 1) := by decide +kernel
theorem dBk_addRule_10 : decode prog_3_method_3_code 10 = .ok (.aload_n 0, 1) := by decide +kernel
theorem dBk_addRule_11 : decode prog_3_method_3_code 11 = .ok (.getfield 22, 3) := by decide +kernel
theorem dBk_addRule_14 : decode prog_3_method_3_code 14 = .ok (.aload_n 0, 1) := by decide +kernel
theorem dBk_addRule_15 : decode prog_3_method_3_code 15 = .ok (.getfield 59, 3) := by decide +kernel
theorem dBk_addRule_18 : decode prog_3_method_3_code 18 = .ok (.iload_n 2, 1) := by decide +kernel
theorem dBk_addRule_19 : decode prog_3_method_3_code 19 = .ok (.iastore, 1) := by decide +kernel
theorem dBk_addRule_20 : decode prog_3_method_3_code 20 = .ok (.aload_n 0, 1) := by decide +kernel
theorem dBk_addRule_21 : decode prog_3_method_3_code 21 = .ok (.getfield 28, 3) := by decide +kernel
theorem dBk_addRule_24 : decode prog_3_method_3_code 24 = .ok (.aload_n 0, 1) := by decide +kernel
theorem dBk_addRule_25 : decode prog_3_method_3_code 25 = .ok (.getfield 59, 3) := by decide +kernel
theorem dBk_addRule_28 : decode prog_3_method_3_code 28 = .ok (.iload_n 3, 1) := by decide +kernel
theorem dBk_addRule_29 : decode prog_3_method_3_code 29 = .ok (.iastore, 1) := by decide +kernel
theorem dBk_addRule_30 : decode prog_3_method_3_code 30 = .ok (.aload_n 0, 1) := by decide +kernel
theorem dBk_addRule_31 : decode prog_3_method_3_code 31 = .ok (.dup, 1) := by decide +kernel
theorem dBk_addRule_32 : decode prog_3_method_3_code 32 = .ok (.getfield 59, 3) := by decide +kernel
theorem dBk_addRule_35 : decode prog_3_method_3_code 35 = .ok (.iconst (1), 1) := by decide +kernel
theorem dBk_addRule_36 : decode prog_3_method_3_code 36 = .ok (.iadd, 1) := by decide +kernel
theorem dBk_addRule_37 : decode prog_3_method_3_code 37 = .ok (.putfield 59, 3) := by decide +kernel
theorem dBk_addRule_40 : decode prog_3_method_3_code 40 = .ok (.return_, 1) := by decide +kernel
theorem dPa_readStep_0 : decode prog_6_method_6_code 0 = .ok (.aload_n 0, 1) := by decide +kernel
theorem dPa_readStep_1 : decode prog_6_method_6_code 1 = .ok (.getfield 29, 3) := by decide +kernel
theorem dPa_readStep_4 : decode prog_6_method_6_code 4 = .ok (.getfield 61, 3) := by decide +kernel
theorem dPa_readStep_7 : decode prog_6_method_6_code 7 = .ok (.istore_n 1, 1) := by decide +kernel
theorem dPa_readStep_8 : decode prog_6_method_6_code 8 = .ok (.aload_n 0, 1) := by decide +kernel
theorem dPa_readStep_9 : decode prog_6_method_6_code 9 = .ok (.getfield 25, 3) := by decide +kernel
theorem dPa_readStep_12 : decode prog_6_method_6_code 12 = .ok (.invokevirtual 94, 3) := by decide +kernel
theorem dPa_readStep_15 : decode prog_6_method_6_code 15 = .ok (.aload_n 0, 1) := by decide +kernel
theorem dPa_readStep_16 : decode prog_6_method_6_code 16 = .ok (.invokevirtual 102, 3) := by decide +kernel
theorem dPa_readStep_19 : decode prog_6_method_6_code 19 = .ok (.istore_n 2, 1) := by decide +kernel
theorem dPa_readStep_20 : decode prog_6_method_6_code 20 = .ok (.iload_n 2, 1) := by decide +kernel
theorem dPa_readStep_21 : decode prog_6_method_6_code 21 = .ok (.iconst (-1), 1) := by decide +kernel
theorem dPa_readStep_22 : decode prog_6_method_6_code 22 = .ok (.if_icmp .eq (12), 3) := by decide +kernel
theorem dPa_readStep_25 : decode prog_6_method_6_code 25 = .ok (.aload_n 0, 1) := by decide +kernel
theorem dPa_readStep_26 : decode prog_6_method_6_code 26 = .ok (.ldc 118, 2) := by decide +kernel
theorem dPa_readStep_28 : decode prog_6_method_6_code 28 = .ok (.invokevirtual 111, 3) := by decide +kernel
theorem dPa_readStep_31 : decode prog_6_method_6_code 31 = .ok (.ifCond .ne (5), 3) := by decide +kernel
theorem dPa_readStep_34 : decode prog_6_method_6_code 34 = .ok (.iconst (0), 1) := by decide +kernel
theorem dPa_readStep_35 : decode prog_6_method_6_code 35 = .ok (.ireturn, 1) := by decide +kernel
theorem dPa_readStep_36 : decode prog_6_method_6_code 36 = .ok (.aload_n 0, 1) := by decide +kernel
theorem dPa_readStep_37 : decode prog_6_method_6_code 37 = .ok (.invokevirtual 119, 3) := by decide +kernel
theorem dPa_readStep_40 : decode prog_6_method_6_code 40 = .ok (.istore_n 3, 1) := by decide +kernel
theorem dPa_readStep_41 : decode prog_6_method_6_code 41 = .ok (.iload_n 3, 1) := by decide +kernel
theorem dPa_readStep_42 : decode prog_6_method_6_code 42 = .ok (.ifCond .ne (5), 3) := by decide +kernel
theorem dPa_readStep_45 : decode prog_6_method_6_code 45 = .ok (.iconst (0), 1) := by decide +kernel
theorem dPa_readStep_46 : decode prog_6_method_6_code 46 = .ok (.ireturn, 1) := by decide +kernel
theorem dPa_readStep_47 : decode prog_6_method_6_code 47 = .ok (.aload_n 0, 1) := by decide +kernel
theorem dPa_readStep_48 : decode prog_6_method_6_code 48 = .ok (.getfield 29, 3) := by decide +kernel
theorem dPa_readStep_51 : decode prog_6_method_6_code 51 = .ok (.iload_n 3, 1) := by decide +kernel
theorem dPa_readStep_52 : decode prog_6_method_6_code 52 = .ok (.invokevirtual 122, 3) := by decide +kernel
theorem dPa_readStep_55 : decode prog_6_method_6_code 55 = .ok (.istore 4, 2) := by decide +kernel
theorem dPa_readStep_57 : decode prog_6_method_6_code 57 = .ok (.iload 4, 2) := by decide +kernel
theorem dPa_readStep_59 : decode prog_6_method_6_code 59 = .ok (.iconst (-1), 1) := by decide +kernel
theorem dPa_readStep_60 : decode prog_6_method_6_code 60 = .ok (.if_icmp .ne (13), 3) := by decide +kernel
theorem dPa_readStep_63 : decode prog_6_method_6_code 63 = .ok (.aload_n 0, 1) := by decide +kernel
theorem dPa_readStep_64 : decode prog_6_method_6_code 64 = .ok (.iconst (3), 1) := by decide +kernel
theorem dPa_readStep_65 : decode prog_6_method_6_code 65 = .ok (.aload_n 0, 1) := by decide +kernel
theorem dPa_readStep_66 : decode prog_6_method_6_code 66 = .ok (.getfield 126, 3) := by decide +kernel
theorem dPa_readStep_69 : decode prog_6_method_6_code 69 = .ok (.invokevirtual 57, 3) := by decide +kernel
theorem dPa_readStep_72 : decode prog_6_method_6_code 72 = .ok (.ireturn, 1) := by decide +kernel
theorem dPa_readStep_73 : decode prog_6_method_6_code 73 = .ok (.iconst (0), 1) := by decide +kernel
theorem dPa_readStep_74 : decode prog_6_method_6_code 74 = .ok (.istore 5, 2) := by decide +kernel
theorem dPa_readStep_76 : decode prog_6_method_6_code 76 = .ok (.iload 5, 2) := by decide +kernel
theorem dPa_readStep_78 : decode prog_6_method_6_code 78 = .ok (.aload_n 0, 1) := by decide +kernel
theorem dPa_readStep_79 : decode prog_6_method_6_code 79 = .ok (.getfield 29, 3) := by decide +kernel
theorem dPa_readStep_82 : decode prog_6_method_6_code 82 = .ok (.getfield 129, 3) := by decide +kernel
theorem dPa_readStep_85 : decode prog_6_method_6_code 85 = .ok (.iload 4, 2) := by decide +kernel
theorem dPa_readStep_87 : decode prog_6_method_6_code 87 = .ok (.iaload, 1) := by decide +kernel
theorem dPa_readStep_88 : decode prog_6_method_6_code 88 = .ok (.if_icmp .ge (43), 3) := by decide +kernel
theorem dPa_readStep_91 : decode prog_6_method_6_code 91 = .ok (.aload_n 0, 1) := by decide +kernel
theorem dPa_readStep_92 : decode prog_6_method_6_code 92 = .ok (.iconst (0), 1) := by decide +kernel
theorem dPa_readStep_93 : decode prog_6_method_6_code 93 = .ok (.iload_n 1, 1) := by decide +kernel
theorem dPa_readStep_94 : decode prog_6_method_6_code 94 = .ok (.iconst (1), 1) := by decide +kernel
theorem dPa_readStep_95 : decode prog_6_method_6_code 95 = .ok (.isub, 1) := by decide +kernel
theorem dPa_readStep_96 : decode prog_6_method_6_code 96 = .ok (.invokevirtual 132, 3) := by decide +kernel
theorem dPa_readStep_99 : decode prog_6_method_6_code 99 = .ok (.istore 6, 2) := by decide +kernel
theorem dPa_readStep_101 : decode prog_6_method_6_code 101 = .ok (.iload 6, 2) := by decide +kernel
theorem dPa_readStep_103 : decode prog_6_method_6_code 103 = .ok (.iconst (-1), 1) := by decide +kernel
theorem dPa_readStep_104 : decode prog_6_method_6_code 104 = .ok (.if_icmp .ne (5), 3) := by decide +kernel
theorem dPa_readStep_107 : decode prog_6_method_6_code 107 = .ok (.iconst (0), 1) := by decide +kernel
theorem dPa_readStep_108 : decode prog_6_method_6_code 108 = .ok (.ireturn, 1) := by decide +kernel
theorem dPa_readStep_109 : decode prog_6_method_6_code 109 = .ok (.aload_n 0, 1) := by decide +kernel
theorem dPa_readStep_110 : decode prog_6_method_6_code 110 = .ok (.getfield 29, 3) := by decide +kernel
theorem dPa_readStep_113 : decode prog_6_method_6_code 113 = .ok (.getfield 136, 3) := by decide +kernel
theorem dPa_readStep_116 : decode prog_6_method_6_code 116 = .ok (.iconst (3), 1) := by decide +kernel
theorem dPa_readStep_117 : decode prog_6_method_6_code 117 = .ok (.iload_n 1, 1) := by decide +kernel
theorem dPa_readStep_118 : decode prog_6_method_6_code 118 = .ok (.imul, 1) := by decide +kernel
theorem dPa_readStep_119 : decode prog_6_method_6_code 119 = .ok (.iload 5, 2) := by decide +kernel
theorem dPa_readStep_121 : decode prog_6_method_6_code 121 = .ok (.iadd, 1) := by decide +kernel
theorem dPa_readStep_122 : decode prog_6_method_6_code 122 = .ok (.iload 6, 2) := by decide +kernel
theorem dPa_readStep_124 : decode prog_6_method_6_code 124 = .ok (.iastore, 1) := by decide +kernel
theorem dPa_readStep_125 : decode prog_6_method_6_code 125 = .ok (.iinc 5 (1), 3) := by decide +kernel
theorem dPa_readStep_128 : decode prog_6_method_6_code 128 = .ok (.goto (-52), 3) := by decide +kernel
theorem dPa_readStep_131 : decode prog_6_method_6_code 131 = .ok (.aload_n 0, 1) := by decide +kernel
theorem dPa_readStep_132 : decode prog_6_method_6_code 132 = .ok (.getfield 29, 3) := by decide +kernel
theorem dPa_readStep_135 : decode prog_6_method_6_code 135 = .ok (.iload_n 2, 1) := by decide +kernel
theorem dPa_readStep_136 : decode prog_6_method_6_code 136 = .ok (.iload 4, 2) := by decide +kernel
theorem dPa_readStep_138 : decode prog_6_method_6_code 138 = .ok (.invokevirtual 139, 3) := by decide +kernel
theorem dPa_readStep_141 : decode prog_6_method_6_code 141 = .ok (.iconst (1), 1) := by decide +kernel
theorem dPa_readStep_142 : decode prog_6_method_6_code 142 = .ok (.ireturn, 1) := by decide +kernel
theorem dPa_takeNumber_0 : decode prog_6_method_17_code 0 = .ok (.aload_n 0, 1) := by decide +kernel
theorem dPa_takeNumber_1 : decode prog_6_method_17_code 1 = .ok (.getfield 25, 3) := by decide +kernel
theorem dPa_takeNumber_4 : decode prog_6_method_17_code 4 = .ok (.getfield 185, 3) := by decide +kernel
theorem dPa_takeNumber_7 : decode prog_6_method_17_code 7 = .ok (.istore_n 3, 1) := by decide +kernel
theorem dPa_takeNumber_8 : decode prog_6_method_17_code 8 = .ok (.aload_n 0, 1) := by decide +kernel
theorem dPa_takeNumber_9 : decode prog_6_method_17_code 9 = .ok (.getfield 25, 3) := by decide +kernel
theorem dPa_takeNumber_12 : decode prog_6_method_17_code 12 = .ok (.getfield 56, 3) := by decide +kernel
theorem dPa_takeNumber_15 : decode prog_6_method_17_code 15 = .ok (.istore 4, 2) := by decide +kernel
theorem dPa_takeNumber_17 : decode prog_6_method_17_code 17 = .ok (.aload_n 0, 1) := by decide +kernel
theorem dPa_takeNumber_18 : decode prog_6_method_17_code 18 = .ok (.getfield 25, 3) := by decide +kernel
theorem dPa_takeNumber_21 : decode prog_6_method_17_code 21 = .ok (.getfield 49, 3) := by decide +kernel
theorem dPa_takeNumber_24 : decode prog_6_method_17_code 24 = .ok (.iconst (3), 1) := by decide +kernel
theorem dPa_takeNumber_25 : decode prog_6_method_17_code 25 = .ok (.if_icmp .ne (13), 3) := by decide +kernel
theorem dPa_takeNumber_28 : decode prog_6_method_17_code 28 = .ok (.aload_n 0, 1) := by decide +kernel
theorem dPa_takeNumber_29 : decode prog_6_method_17_code 29 = .ok (.getfield 25, 3) := by decide +kernel
theorem dPa_takeNumber_32 : decode prog_6_method_17_code 32 = .ok (.getfield 188, 3) := by decide +kernel
theorem dPa_takeNumber_35 : decode prog_6_method_17_code 35 = .ok (.ifCond .eq (13), 3) := by decide +kernel
theorem dPa_takeNumber_38 : decode prog_6_method_17_code 38 = .ok (.aload_n 0, 1) := by decide +kernel
theorem dPa_takeNumber_39 : decode prog_6_method_17_code 39 = .ok (.iconst (1), 1) := by decide +kernel
theorem dPa_takeNumber_40 : decode prog_6_method_17_code 40 = .ok (.iload 4, 2) := by decide +kernel
theorem dPa_takeNumber_42 : decode prog_6_method_17_code 42 = .ok (.invokevirtual 57, 3) := by decide +kernel
theorem dPa_takeNumber_45 : decode prog_6_method_17_code 45 = .ok (.pop, 1) := by decide +kernel
theorem dPa_takeNumber_46 : decode prog_6_method_17_code 46 = .ok (.iconst (-1), 1) := by decide +kernel
theorem dPa_takeNumber_47 : decode prog_6_method_17_code 47 = .ok (.ireturn, 1) := by decide +kernel
theorem dPa_takeNumber_48 : decode prog_6_method_17_code 48 = .ok (.aload_n 0, 1) := by decide +kernel
theorem dPa_takeNumber_49 : decode prog_6_method_17_code 49 = .ok (.getfield 25, 3) := by decide +kernel
theorem dPa_takeNumber_52 : decode prog_6_method_17_code 52 = .ok (.getfield 192, 3) := by decide +kernel
theorem dPa_takeNumber_55 : decode prog_6_method_17_code 55 = .ok (.iconst (4), 1) := by decide +kernel
theorem dPa_takeNumber_56 : decode prog_6_method_17_code 56 = .ok (.if_icmp .le (15), 3) := by decide +kernel
theorem dPa_takeNumber_59 : decode prog_6_method_17_code 59 = .ok (.aload_n 0, 1) := by decide +kernel
theorem dPa_takeNumber_60 : decode prog_6_method_17_code 60 = .ok (.iconst (1), 1) := by decide +kernel
theorem dPa_takeNumber_61 : decode prog_6_method_17_code 61 = .ok (.iload 4, 2) := by decide +kernel
theorem dPa_takeNumber_63 : decode prog_6_method_17_code 63 = .ok (.iconst (4), 1) := by decide +kernel
theorem dPa_takeNumber_64 : decode prog_6_method_17_code 64 = .ok (.iadd, 1) := by decide +kernel
theorem dPa_takeNumber_65 : decode prog_6_method_17_code 65 = .ok (.invokevirtual 57, 3) := by decide +kernel
theorem dPa_takeNumber_68 : decode prog_6_method_17_code 68 = .ok (.pop, 1) := by decide +kernel
theorem dPa_takeNumber_69 : decode prog_6_method_17_code 69 = .ok (.iconst (-1), 1) := by decide +kernel
theorem dPa_takeNumber_70 : decode prog_6_method_17_code 70 = .ok (.ireturn, 1) := by decide +kernel
theorem dPa_takeNumber_71 : decode prog_6_method_17_code 71 = .ok (.iload_n 3, 1) := by decide +kernel
theorem dPa_takeNumber_72 : decode prog_6_method_17_code 72 = .ok (.iload_n 1, 1) := by decide +kernel
theorem dPa_takeNumber_73 : decode prog_6_method_17_code 73 = .ok (.if_icmp .lt (8), 3) := by decide +kernel
theorem dPa_takeNumber_76 : decode prog_6_method_17_code 76 = .ok (.iload_n 3, 1) := by decide +kernel
theorem dPa_takeNumber_77 : decode prog_6_method_17_code 77 = .ok (.iload_n 2, 1) := by decide +kernel
theorem dPa_takeNumber_78 : decode prog_6_method_17_code 78 = .ok (.if_icmp .le (13), 3) := by decide +kernel
theorem dPa_takeNumber_81 : decode prog_6_method_17_code 81 = .ok (.aload_n 0, 1) := by decide +kernel
theorem dPa_takeNumber_82 : decode prog_6_method_17_code 82 = .ok (.iconst (2), 1) := by decide +kernel
theorem dPa_takeNumber_83 : decode prog_6_method_17_code 83 = .ok (.iload 4, 2) := by decide +kernel
theorem dPa_takeNumber_85 : decode prog_6_method_17_code 85 = .ok (.invokevirtual 57, 3) := by decide +kernel
theorem dPa_takeNumber_88 : decode prog_6_method_17_code 88 = .ok (.pop, 1) := by decide +kernel
theorem dPa_takeNumber_89 : decode prog_6_method_17_code 89 = .ok (.iconst (-1), 1) := by decide +kernel
theorem dPa_takeNumber_90 : decode prog_6_method_17_code 90 = .ok (.ireturn, 1) := by decide +kernel
theorem dPa_takeNumber_91 : decode prog_6_method_17_code 91 = .ok (.aload_n 0, 1) := by decide +kernel
theorem dPa_takeNumber_92 : decode prog_6_method_17_code 92 = .ok (.getfield 25, 3) := by decide +kernel
theorem dPa_takeNumber_95 : decode prog_6_method_17_code 95 = .ok (.invokevirtual 94, 3) := by decide +kernel
theorem dPa_takeNumber_98 : decode prog_6_method_17_code 98 = .ok (.iload_n 3, 1) := by decide +kernel
theorem dPa_takeNumber_99 : decode prog_6_method_17_code 99 = .ok (.ireturn, 1) := by decide +kernel
theorem dBk_addStep_0 : decode prog_3_method_4_code 0 = .ok (.aload_n 0, 1) := by decide +kernel
theorem dBk_addStep_1 : decode prog_3_method_4_code 1 = .ok (.getfield 34, 3) := by decide +kernel
theorem dBk_addStep_4 : decode prog_3_method_4_code 4 = .ok (.aload_n 0, 1) := by decide +kernel
theorem dBk_addStep_5 : decode prog_3_method_4_code 5 = .ok (.getfield 62, 3) := by decide +kernel
theorem dBk_addStep_8 : decode prog_3_method_4_code 8 = .ok (.iload_n 1, 1) := by decide +kernel
theorem dBk_addStep_9 : decode prog_3_method_4_code 9 = .ok (.iastore, 1) := by decide +kernel
theorem dBk_addStep_10 : decode prog_3_method_4_code 10 = .ok (.aload_n 0, 1) := by decide +kernel
theorem dBk_addStep_11 : decode prog_3_method_4_code 11 = .ok (.getfield 31, 3) := by decide +kernel
theorem dBk_addStep_14 : decode prog_3_method_4_code 14 = .ok (.aload_n 0, 1) := by decide +kernel
theorem dBk_addStep_15 : decode prog_3_method_4_code 15 = .ok (.getfield 62, 3) := by decide +kernel
theorem dBk_addStep_18 : decode prog_3_method_4_code 18 = .ok (.iload_n 2, 1) := by decide +kernel
theorem dBk_addStep_19 : decode prog_3_method_4_code 19 = .ok (.iastore, 1) := by decide +kernel
theorem dBk_addStep_20 : decode prog_3_method_4_code 20 = .ok (.aload_n 0, 1) := by decide +kernel
theorem dBk_addStep_21 : decode prog_3_method_4_code 21 = .ok (.dup, 1) := by decide +kernel
theorem dBk_addStep_22 : decode prog_3_method_4_code 22 = .ok (.getfield 62, 3) := by decide +kernel
theorem dBk_addStep_25 : decode prog_3_method_4_code 25 = .ok (.iconst (1), 1) := by decide +kernel
theorem dBk_addStep_26 : decode prog_3_method_4_code 26 = .ok (.iadd, 1) := by decide +kernel
theorem dBk_addStep_27 : decode prog_3_method_4_code 27 = .ok (.putfield 62, 3) := by decide +kernel
theorem dBk_addStep_30 : decode prog_3_method_4_code 30 = .ok (.return_, 1) := by decide +kernel
theorem dPa_readGoal_0 : decode prog_6_method_7_code 0 = .ok (.aload_n 0, 1) := by decide +kernel
theorem dPa_readGoal_1 : decode prog_6_method_7_code 1 = .ok (.getfield 25, 3) := by decide +kernel
theorem dPa_readGoal_4 : decode prog_6_method_7_code 4 = .ok (.invokevirtual 94, 3) := by decide +kernel
theorem dPa_readGoal_7 : decode prog_6_method_7_code 7 = .ok (.aload_n 0, 1) := by decide +kernel
theorem dPa_readGoal_8 : decode prog_6_method_7_code 8 = .ok (.iconst (0), 1) := by decide +kernel
theorem dPa_readGoal_9 : decode prog_6_method_7_code 9 = .ok (.aload_n 0, 1) := by decide +kernel
theorem dPa_readGoal_10 : decode prog_6_method_7_code 10 = .ok (.getfield 29, 3) := by decide +kernel
theorem dPa_readGoal_13 : decode prog_6_method_7_code 13 = .ok (.getfield 61, 3) := by decide +kernel
theorem dPa_readGoal_16 : decode prog_6_method_7_code 16 = .ok (.iconst (1), 1) := by decide +kernel
theorem dPa_readGoal_17 : decode prog_6_method_7_code 17 = .ok (.isub, 1) := by decide +kernel
theorem dPa_readGoal_18 : decode prog_6_method_7_code 18 = .ok (.invokevirtual 132, 3) := by decide +kernel
theorem dPa_readGoal_21 : decode prog_6_method_7_code 21 = .ok (.istore_n 1, 1) := by decide +kernel
theorem dPa_readGoal_22 : decode prog_6_method_7_code 22 = .ok (.iload_n 1, 1) := by decide +kernel
theorem dPa_readGoal_23 : decode prog_6_method_7_code 23 = .ok (.iconst (-1), 1) := by decide +kernel
theorem dPa_readGoal_24 : decode prog_6_method_7_code 24 = .ok (.if_icmp .ne (5), 3) := by decide +kernel
theorem dPa_readGoal_27 : decode prog_6_method_7_code 27 = .ok (.iconst (0), 1) := by decide +kernel
theorem dPa_readGoal_28 : decode prog_6_method_7_code 28 = .ok (.ireturn, 1) := by decide +kernel
theorem dPa_readGoal_29 : decode prog_6_method_7_code 29 = .ok (.aload_n 0, 1) := by decide +kernel
theorem dPa_readGoal_30 : decode prog_6_method_7_code 30 = .ok (.iload_n 1, 1) := by decide +kernel
theorem dPa_readGoal_31 : decode prog_6_method_7_code 31 = .ok (.putfield 38, 3) := by decide +kernel
theorem dPa_readGoal_34 : decode prog_6_method_7_code 34 = .ok (.iconst (1), 1) := by decide +kernel
theorem dPa_readGoal_35 : decode prog_6_method_7_code 35 = .ok (.ireturn, 1) := by decide +kernel
theorem dPa_readReader_0 : decode prog_6_method_8_code 0 = .ok (.aload_n 0, 1) := by decide +kernel
theorem dPa_readReader_1 : decode prog_6_method_8_code 1 = .ok (.getfield 25, 3) := by decide +kernel
theorem dPa_readReader_4 : decode prog_6_method_8_code 4 = .ok (.invokevirtual 94, 3) := by decide +kernel
theorem dPa_readReader_7 : decode prog_6_method_8_code 7 = .ok (.aload_n 0, 1) := by decide +kernel
theorem dPa_readReader_8 : decode prog_6_method_8_code 8 = .ok (.invokevirtual 97, 3) := by decide +kernel
theorem dPa_readReader_11 : decode prog_6_method_8_code 11 = .ok (.istore_n 1, 1) := by decide +kernel
theorem dPa_readReader_12 : decode prog_6_method_8_code 12 = .ok (.iload_n 1, 1) := by decide +kernel
theorem dPa_readReader_13 : decode prog_6_method_8_code 13 = .ok (.ifCond .eq (12), 3) := by decide +kernel
theorem dPa_readReader_16 : decode prog_6_method_8_code 16 = .ok (.aload_n 0, 1) := by decide +kernel
theorem dPa_readReader_17 : decode prog_6_method_8_code 17 = .ok (.ldc 143, 2) := by decide +kernel
theorem dPa_readReader_19 : decode prog_6_method_8_code 19 = .ok (.invokevirtual 111, 3) := by decide +kernel
theorem dPa_readReader_22 : decode prog_6_method_8_code 22 = .ok (.ifCond .ne (5), 3) := by decide +kernel
theorem dPa_readReader_25 : decode prog_6_method_8_code 25 = .ok (.iconst (0), 1) := by decide +kernel
theorem dPa_readReader_26 : decode prog_6_method_8_code 26 = .ok (.ireturn, 1) := by decide +kernel
theorem dPa_readReader_27 : decode prog_6_method_8_code 27 = .ok (.aload_n 0, 1) := by decide +kernel
theorem dPa_readReader_28 : decode prog_6_method_8_code 28 = .ok (.iconst (0), 1) := by decide +kernel
theorem dPa_readReader_29 : decode prog_6_method_8_code 29 = .ok (.bipush (100), 2) := by decide +kernel
theorem dPa_readReader_31 : decode prog_6_method_8_code 31 = .ok (.invokevirtual 132, 3) := by decide +kernel
theorem dPa_readReader_34 : decode prog_6_method_8_code 34 = .ok (.istore_n 2, 1) := by decide +kernel
theorem dPa_readReader_35 : decode prog_6_method_8_code 35 = .ok (.iload_n 2, 1) := by decide +kernel
theorem dPa_readReader_36 : decode prog_6_method_8_code 36 = .ok (.iconst (-1), 1) := by decide +kernel
theorem dPa_readReader_37 : decode prog_6_method_8_code 37 = .ok (.if_icmp .eq (12), 3) := by decide +kernel
theorem dPa_readReader_40 : decode prog_6_method_8_code 40 = .ok (.aload_n 0, 1) := by decide +kernel
theorem dPa_readReader_41 : decode prog_6_method_8_code 41 = .ok (.ldc 144, 2) := by decide +kernel
theorem dPa_readReader_43 : decode prog_6_method_8_code 43 = .ok (.invokevirtual 111, 3) := by decide +kernel
theorem dPa_readReader_46 : decode prog_6_method_8_code 46 = .ok (.ifCond .ne (5), 3) := by decide +kernel
theorem dPa_readReader_49 : decode prog_6_method_8_code 49 = .ok (.iconst (0), 1) := by decide +kernel
theorem dPa_readReader_50 : decode prog_6_method_8_code 50 = .ok (.ireturn, 1) := by decide +kernel
theorem dPa_readReader_51 : decode prog_6_method_8_code 51 = .ok (.aload_n 0, 1) := by decide +kernel
theorem dPa_readReader_52 : decode prog_6_method_8_code 52 = .ok (.iconst (0), 1) := by decide +kernel
theorem dPa_readReader_53 : decode prog_6_method_8_code 53 = .ok (.aload_n 0, 1) := by decide +kernel
theorem dPa_readReader_54 : decode prog_6_method_8_code 54 = .ok (.getfield 29, 3) := by decide +kernel
theorem dPa_readReader_57 : decode prog_6_method_8_code 57 = .ok (.getfield 61, 3) := by decide +kernel
theorem dPa_readReader_60 : decode prog_6_method_8_code 60 = .ok (.iconst (1), 1) := by decide +kernel
theorem dPa_readReader_61 : decode prog_6_method_8_code 61 = .ok (.isub, 1) := by decide +kernel
theorem dPa_readReader_62 : decode prog_6_method_8_code 62 = .ok (.invokevirtual 132, 3) := by decide +kernel
theorem dPa_readReader_65 : decode prog_6_method_8_code 65 = .ok (.istore_n 3, 1) := by decide +kernel
theorem dPa_readReader_66 : decode prog_6_method_8_code 66 = .ok (.iload_n 3, 1) := by decide +kernel
theorem dPa_readReader_67 : decode prog_6_method_8_code 67 = .ok (.iconst (-1), 1) := by decide +kernel
theorem dPa_readReader_68 : decode prog_6_method_8_code 68 = .ok (.if_icmp .eq (12), 3) := by decide +kernel
theorem dPa_readReader_71 : decode prog_6_method_8_code 71 = .ok (.aload_n 0, 1) := by decide +kernel
theorem dPa_readReader_72 : decode prog_6_method_8_code 72 = .ok (.ldc 145, 2) := by decide +kernel
theorem dPa_readReader_74 : decode prog_6_method_8_code 74 = .ok (.invokevirtual 111, 3) := by decide +kernel
theorem dPa_readReader_77 : decode prog_6_method_8_code 77 = .ok (.ifCond .ne (5), 3) := by decide +kernel
theorem dPa_readReader_80 : decode prog_6_method_8_code 80 = .ok (.iconst (0), 1) := by decide +kernel
theorem dPa_readReader_81 : decode prog_6_method_8_code 81 = .ok (.ireturn, 1) := by decide +kernel
theorem dPa_readReader_82 : decode prog_6_method_8_code 82 = .ok (.aload_n 0, 1) := by decide +kernel
theorem dPa_readReader_83 : decode prog_6_method_8_code 83 = .ok (.iload_n 3, 1) := by decide +kernel
theorem dPa_readReader_84 : decode prog_6_method_8_code 84 = .ok (.aload_n 0, 1) := by decide +kernel
theorem dPa_readReader_85 : decode prog_6_method_8_code 85 = .ok (.getfield 29, 3) := by decide +kernel
theorem dPa_readReader_88 : decode prog_6_method_8_code 88 = .ok (.getfield 61, 3) := by decide +kernel
theorem dPa_readReader_91 : decode prog_6_method_8_code 91 = .ok (.iconst (1), 1) := by decide +kernel
theorem dPa_readReader_92 : decode prog_6_method_8_code 92 = .ok (.isub, 1) := by decide +kernel
theorem dPa_readReader_93 : decode prog_6_method_8_code 93 = .ok (.invokevirtual 132, 3) := by decide +kernel
theorem dPa_readReader_96 : decode prog_6_method_8_code 96 = .ok (.istore 4, 2) := by decide +kernel
theorem dPa_readReader_98 : decode prog_6_method_8_code 98 = .ok (.iload 4, 2) := by decide +kernel
theorem dPa_readReader_100 : decode prog_6_method_8_code 100 = .ok (.iconst (-1), 1) := by decide +kernel
theorem dPa_readReader_101 : decode prog_6_method_8_code 101 = .ok (.if_icmp .ne (5), 3) := by decide +kernel
theorem dPa_readReader_104 : decode prog_6_method_8_code 104 = .ok (.iconst (0), 1) := by decide +kernel
theorem dPa_readReader_105 : decode prog_6_method_8_code 105 = .ok (.ireturn, 1) := by decide +kernel
theorem dPa_readReader_106 : decode prog_6_method_8_code 106 = .ok (.aload_n 0, 1) := by decide +kernel
theorem dPa_readReader_107 : decode prog_6_method_8_code 107 = .ok (.getfield 29, 3) := by decide +kernel
theorem dPa_readReader_110 : decode prog_6_method_8_code 110 = .ok (.iload_n 1, 1) := by decide +kernel
theorem dPa_readReader_111 : decode prog_6_method_8_code 111 = .ok (.iload_n 2, 1) := by decide +kernel
theorem dPa_readReader_112 : decode prog_6_method_8_code 112 = .ok (.iload_n 3, 1) := by decide +kernel
theorem dPa_readReader_113 : decode prog_6_method_8_code 113 = .ok (.iload 4, 2) := by decide +kernel
theorem dPa_readReader_115 : decode prog_6_method_8_code 115 = .ok (.invokevirtual 146, 3) := by decide +kernel
theorem dPa_readReader_118 : decode prog_6_method_8_code 118 = .ok (.iconst (1), 1) := by decide +kernel
theorem dPa_readReader_119 : decode prog_6_method_8_code 119 = .ok (.ireturn, 1) := by decide +kernel
theorem dBk_addReader_0 : decode prog_3_method_5_code 0 = .ok (.aload_n 0, 1) := by decide +kernel
theorem dBk_addReader_1 : decode prog_3_method_5_code 1 = .ok (.getfield 40, 3) := by decide +kernel
theorem dBk_addReader_4 : decode prog_3_method_5_code 4 = .ok (.aload_n 0, 1) := by decide +kernel
theorem dBk_addReader_5 : decode prog_3_method_5_code 5 = .ok (.getfield 65, 3) := by decide +kernel
theorem dBk_addReader_8 : decode prog_3_method_5_code 8 = .ok (.iload_n 1, 1) := by decide +kernel
theorem dBk_addReader_9 : decode prog_3_method_5_code 9 = .ok (.iastore, 1) := by decide +kernel
theorem dBk_addReader_10 : decode prog_3_method_5_code 10 = .ok (.aload_n 0, 1) := by decide +kernel
theorem dBk_addReader_11 : decode prog_3_method_5_code 11 = .ok (.getfield 43, 3) := by decide +kernel
theorem dBk_addReader_14 : decode prog_3_method_5_code 14 = .ok (.aload_n 0, 1) := by decide +kernel
theorem dBk_addReader_15 : decode prog_3_method_5_code 15 = .ok (.getfield 65, 3) := by decide +kernel
theorem dBk_addReader_18 : decode prog_3_method_5_code 18 = .ok (.iload_n 2, 1) := by decide +kernel
theorem dBk_addReader_19 : decode prog_3_method_5_code 19 = .ok (.iastore, 1) := by decide +kernel
theorem dBk_addReader_20 : decode prog_3_method_5_code 20 = .ok (.aload_n 0, 1) := by decide +kernel
theorem dBk_addReader_21 : decode prog_3_method_5_code 21 = .ok (.getfield 46, 3) := by decide +kernel
theorem dBk_addReader_24 : decode prog_3_method_5_code 24 = .ok (.aload_n 0, 1) := by decide +kernel
theorem dBk_addReader_25 : decode prog_3_method_5_code 25 = .ok (.getfield 65, 3) := by decide +kernel
theorem dBk_addReader_28 : decode prog_3_method_5_code 28 = .ok (.iload_n 3, 1) := by decide +kernel
theorem dBk_addReader_29 : decode prog_3_method_5_code 29 = .ok (.iastore, 1) := by decide +kernel
theorem dBk_addReader_30 : decode prog_3_method_5_code 30 = .ok (.aload_n 0, 1) := by decide +kernel
theorem dBk_addReader_31 : decode prog_3_method_5_code 31 = .ok (.getfield 49, 3) := by decide +kernel
theorem dBk_addReader_34 : decode prog_3_method_5_code 34 = .ok (.aload_n 0, 1) := by decide +kernel
theorem dBk_addReader_35 : decode prog_3_method_5_code 35 = .ok (.getfield 65, 3) := by decide +kernel
theorem dBk_addReader_38 : decode prog_3_method_5_code 38 = .ok (.iload 4, 2) := by decide +kernel
theorem dBk_addReader_40 : decode prog_3_method_5_code 40 = .ok (.iastore, 1) := by decide +kernel
theorem dBk_addReader_41 : decode prog_3_method_5_code 41 = .ok (.aload_n 0, 1) := by decide +kernel
theorem dBk_addReader_42 : decode prog_3_method_5_code 42 = .ok (.dup, 1) := by decide +kernel
theorem dBk_addReader_43 : decode prog_3_method_5_code 43 = .ok (.getfield 65, 3) := by decide +kernel
theorem dBk_addReader_46 : decode prog_3_method_5_code 46 = .ok (.iconst (1), 1) := by decide +kernel
theorem dBk_addReader_47 : decode prog_3_method_5_code 47 = .ok (.iadd, 1) := by decide +kernel
theorem dBk_addReader_48 : decode prog_3_method_5_code 48 = .ok (.putfield 65, 3) := by decide +kernel
theorem dBk_addReader_51 : decode prog_3_method_5_code 51 = .ok (.return_, 1) := by decide +kernel
theorem dFa_study_0 : decode prog_4_method_2_code 0 = .ok (.aload_n 0, 1) := by decide +kernel
theorem dFa_study_1 : decode prog_4_method_2_code 1 = .ok (.aload_n 1, 1) := by decide +kernel
theorem dFa_study_2 : decode prog_4_method_2_code 2 = .ok (.putfield 40, 3) := by decide +kernel
theorem dFa_study_5 : decode prog_4_method_2_code 5 = .ok (.aload_n 0, 1) := by decide +kernel
theorem dFa_study_6 : decode prog_4_method_2_code 6 = .ok (.lconst 0, 1) := by decide +kernel
theorem dFa_study_7 : decode prog_4_method_2_code 7 = .ok (.putfield 44, 3) := by decide +kernel
theorem dFa_study_10 : decode prog_4_method_2_code 10 = .ok (.aload_n 0, 1) := by decide +kernel
theorem dFa_study_11 : decode prog_4_method_2_code 11 = .ok (.lconst 0, 1) := by decide +kernel
theorem dFa_study_12 : decode prog_4_method_2_code 12 = .ok (.putfield 48, 3) := by decide +kernel
theorem dFa_study_15 : decode prog_4_method_2_code 15 = .ok (.aload_n 0, 1) := by decide +kernel
theorem dFa_study_16 : decode prog_4_method_2_code 16 = .ok (.lconst 0, 1) := by decide +kernel
theorem dFa_study_17 : decode prog_4_method_2_code 17 = .ok (.putfield 51, 3) := by decide +kernel
theorem dFa_study_20 : decode prog_4_method_2_code 20 = .ok (.aload_n 0, 1) := by decide +kernel
theorem dFa_study_21 : decode prog_4_method_2_code 21 = .ok (.lconst 0, 1) := by decide +kernel
theorem dFa_study_22 : decode prog_4_method_2_code 22 = .ok (.putfield 54, 3) := by decide +kernel
theorem dFa_study_25 : decode prog_4_method_2_code 25 = .ok (.iconst (0), 1) := by decide +kernel
theorem dFa_study_26 : decode prog_4_method_2_code 26 = .ok (.istore_n 2, 1) := by decide +kernel
theorem dFa_study_27 : decode prog_4_method_2_code 27 = .ok (.iload_n 2, 1) := by decide +kernel
theorem dFa_study_28 : decode prog_4_method_2_code 28 = .ok (.aload_n 0, 1) := by decide +kernel
theorem dFa_study_29 : decode prog_4_method_2_code 29 = .ok (.getfield 40, 3) := by decide +kernel
theorem dFa_study_32 : decode prog_4_method_2_code 32 = .ok (.getfield 57, 3) := by decide +kernel
theorem dFa_study_35 : decode prog_4_method_2_code 35 = .ok (.if_icmp .ge (40), 3) := by decide +kernel
theorem dFa_study_38 : decode prog_4_method_2_code 38 = .ok (.aload_n 0, 1) := by decide +kernel
theorem dFa_study_39 : decode prog_4_method_2_code 39 = .ok (.iload_n 2, 1) := by decide +kernel
theorem dFa_study_40 : decode prog_4_method_2_code 40 = .ok (.invokevirtual 61, 3) := by decide +kernel
theorem dFa_study_43 : decode prog_4_method_2_code 43 = .ok (.aload_n 0, 1) := by decide +kernel
theorem dFa_study_44 : decode prog_4_method_2_code 44 = .ok (.iload_n 2, 1) := by decide +kernel
theorem dFa_study_45 : decode prog_4_method_2_code 45 = .ok (.invokevirtual 65, 3) := by decide +kernel
theorem dFa_study_48 : decode prog_4_method_2_code 48 = .ok (.aload_n 0, 1) := by decide +kernel
theorem dFa_study_49 : decode prog_4_method_2_code 49 = .ok (.iload_n 2, 1) := by decide +kernel
theorem dFa_study_50 : decode prog_4_method_2_code 50 = .ok (.invokevirtual 68, 3) := by decide +kernel
theorem dFa_study_53 : decode prog_4_method_2_code 53 = .ok (.ifCond .eq (16), 3) := by decide +kernel
theorem dFa_study_56 : decode prog_4_method_2_code 56 = .ok (.aload_n 0, 1) := by decide +kernel
theorem dFa_study_57 : decode prog_4_method_2_code 57 = .ok (.dup, 1) := by decide +kernel
theorem dFa_study_58 : decode prog_4_method_2_code 58 = .ok (.getfield 44, 3) := by decide +kernel
theorem dFa_study_61 : decode prog_4_method_2_code 61 = .ok (.iload_n 2, 1) := by decide +kernel
theorem dFa_study_62 : decode prog_4_method_2_code 62 = .ok (.invokestatic 72, 3) := by decide +kernel
theorem dFa_study_65 : decode prog_4_method_2_code 65 = .ok (.lor, 1) := by decide +kernel
theorem dFa_study_66 : decode prog_4_method_2_code 66 = .ok (.putfield 44, 3) := by decide +kernel
theorem dFa_study_69 : decode prog_4_method_2_code 69 = .ok (.iinc 2 (1), 3) := by decide +kernel
theorem dFa_study_72 : decode prog_4_method_2_code 72 = .ok (.goto (-45), 3) := by decide +kernel
theorem dFa_study_75 : decode prog_4_method_2_code 75 = .ok (.aload_n 0, 1) := by decide +kernel
theorem dFa_study_76 : decode prog_4_method_2_code 76 = .ok (.aload_n 0, 1) := by decide +kernel
theorem dFa_study_77 : decode prog_4_method_2_code 77 = .ok (.getfield 40, 3) := by decide +kernel
theorem dFa_study_80 : decode prog_4_method_2_code 80 = .ok (.getfield 57, 3) := by decide +kernel
theorem dFa_study_83 : decode prog_4_method_2_code 83 = .ok (.ifCond .ne (7), 3) := by decide +kernel
theorem dFa_study_86 : decode prog_4_method_2_code 86 = .ok (.lconst 0, 1) := by decide +kernel
theorem dFa_study_87 : decode prog_4_method_2_code 87 = .ok (.goto (26), 3) := by decide +kernel
theorem dFa_study_90 : decode prog_4_method_2_code 90 = .ok (.aload_n 0, 1) := by decide +kernel
theorem dFa_study_91 : decode prog_4_method_2_code 91 = .ok (.getfield 40, 3) := by decide +kernel
theorem dFa_study_94 : decode prog_4_method_2_code 94 = .ok (.getfield 76, 3) := by decide +kernel
theorem dFa_study_97 : decode prog_4_method_2_code 97 = .ok (.invokestatic 72, 3) := by decide +kernel
theorem dFa_study_100 : decode prog_4_method_2_code 100 = .ok (.aload_n 0, 1) := by decide +kernel
theorem dFa_study_101 : decode prog_4_method_2_code 101 = .ok (.getfield 26, 3) := by decide +kernel
theorem dFa_study_104 : decode prog_4_method_2_code 104 = .ok (.aload_n 0, 1) := by decide +kernel
theorem dFa_study_105 : decode prog_4_method_2_code 105 = .ok (.getfield 40, 3) := by decide +kernel
theorem dFa_study_108 : decode prog_4_method_2_code 108 = .ok (.getfield 76, 3) := by decide +kernel
theorem dFa_study_111 : decode prog_4_method_2_code 111 = .ok (.laload, 1) := by decide +kernel
theorem dFa_study_112 : decode prog_4_method_2_code 112 = .ok (.lor, 1) := by decide +kernel
theorem dFa_study_113 : decode prog_4_method_2_code 113 = .ok (.putfield 79, 3) := by decide +kernel
theorem dFa_study_116 : decode prog_4_method_2_code 116 = .ok (.iconst (0), 1) := by decide +kernel
theorem dFa_study_117 : decode prog_4_method_2_code 117 = .ok (.istore_n 2, 1) := by decide +kernel
theorem dFa_study_118 : decode prog_4_method_2_code 118 = .ok (.iload_n 2, 1) := by decide +kernel
theorem dFa_study_119 : decode prog_4_method_2_code 119 = .ok (.aload_n 0, 1) := by decide +kernel
theorem dFa_study_120 : decode prog_4_method_2_code 120 = .ok (.getfield 40, 3) := by decide +kernel
theorem dFa_study_123 : decode prog_4_method_2_code 123 = .ok (.getfield 57, 3) := by decide +kernel
theorem dFa_study_126 : decode prog_4_method_2_code 126 = .ok (.if_icmp .ge (30), 3) := by decide +kernel
theorem dFa_study_129 : decode prog_4_method_2_code 129 = .ok (.aload_n 0, 1) := by decide +kernel
theorem dFa_study_130 : decode prog_4_method_2_code 130 = .ok (.iload_n 2, 1) := by decide +kernel
theorem dFa_study_131 : decode prog_4_method_2_code 131 = .ok (.invokevirtual 82, 3) := by decide +kernel
theorem dFa_study_134 : decode prog_4_method_2_code 134 = .ok (.ifCond .ne (16), 3) := by decide +kernel
theorem dFa_study_137 : decode prog_4_method_2_code 137 = .ok (.aload_n 0, 1) := by decide +kernel
theorem dFa_study_138 : decode prog_4_method_2_code 138 = .ok (.dup, 1) := by decide +kernel
theorem dFa_study_139 : decode prog_4_method_2_code 139 = .ok (.getfield 54, 3) := by decide +kernel
theorem dFa_study_142 : decode prog_4_method_2_code 142 = .ok (.iload_n 2, 1) := by decide +kernel
theorem dFa_study_143 : decode prog_4_method_2_code 143 = .ok (.invokestatic 72, 3) := by decide +kernel
theorem dFa_study_146 : decode prog_4_method_2_code 146 = .ok (.lor, 1) := by decide +kernel
theorem dFa_study_147 : decode prog_4_method_2_code 147 = .ok (.putfield 54, 3) := by decide +kernel
theorem dFa_study_150 : decode prog_4_method_2_code 150 = .ok (.iinc 2 (1), 3) := by decide +kernel
theorem dFa_study_153 : decode prog_4_method_2_code 153 = .ok (.goto (-35), 3) := by decide +kernel
theorem dFa_study_156 : decode prog_4_method_2_code 156 = .ok (.aload_n 0, 1) := by decide +kernel
theorem dFa_study_157 : decode prog_4_method_2_code 157 = .ok (.getfield 36, 3) := by decide +kernel
theorem dFa_study_160 : decode prog_4_method_2_code 160 = .ok (.aload_n 0, 1) := by decide +kernel
theorem dFa_study_161 : decode prog_4_method_2_code 161 = .ok (.invokevirtual 85, 3) := by decide +kernel
theorem dFa_study_164 : decode prog_4_method_2_code 164 = .ok (.return_, 1) := by decide +kernel
theorem dFa_compare_0 : decode prog_4_method_3_code 0 = .ok (.aload_n 0, 1) := by decide +kernel
theorem dFa_compare_1 : decode prog_4_method_3_code 1 = .ok (.getfield 40, 3) := by decide +kernel
theorem dFa_compare_4 : decode prog_4_method_3_code 4 = .ok (.getfield 89, 3) := by decide +kernel
theorem dFa_compare_7 : decode prog_4_method_3_code 7 = .ok (.astore_n 2, 1) := by decide +kernel
theorem dFa_compare_8 : decode prog_4_method_3_code 8 = .ok (.aload_n 0, 1) := by decide +kernel
theorem dFa_compare_9 : decode prog_4_method_3_code 9 = .ok (.getfield 40, 3) := by decide +kernel
theorem dFa_compare_12 : decode prog_4_method_3_code 12 = .ok (.getfield 93, 3) := by decide +kernel
theorem dFa_compare_15 : decode prog_4_method_3_code 15 = .ok (.iload_n 1, 1) := by decide +kernel
theorem dFa_compare_16 : decode prog_4_method_3_code 16 = .ok (.iaload, 1) := by decide +kernel
theorem dFa_compare_17 : decode prog_4_method_3_code 17 = .ok (.istore_n 3, 1) := by decide +kernel
theorem dFa_compare_18 : decode prog_4_method_3_code 18 = .ok (.aload_n 0, 1) := by decide +kernel
theorem dFa_compare_19 : decode prog_4_method_3_code 19 = .ok (.getfield 11, 3) := by decide +kernel
theorem dFa_compare_22 : decode prog_4_method_3_code 22 = .ok (.iload_n 1, 1) := by decide +kernel
theorem dFa_compare_23 : decode prog_4_method_3_code 23 = .ok (.iload_n 1, 1) := by decide +kernel
theorem dFa_compare_24 : decode prog_4_method_3_code 24 = .ok (.iastore, 1) := by decide +kernel
theorem dFa_compare_25 : decode prog_4_method_3_code 25 = .ok (.aload_n 0, 1) := by decide +kernel
theorem dFa_compare_26 : decode prog_4_method_3_code 26 = .ok (.getfield 17, 3) := by decide +kernel
theorem dFa_compare_29 : decode prog_4_method_3_code 29 = .ok (.iload_n 1, 1) := by decide +kernel
theorem dFa_compare_30 : decode prog_4_method_3_code 30 = .ok (.iconst (-1), 1) := by decide +kernel
theorem dFa_compare_31 : decode prog_4_method_3_code 31 = .ok (.iastore, 1) := by decide +kernel
theorem dFa_compare_32 : decode prog_4_method_3_code 32 = .ok (.aload_n 0, 1) := by decide +kernel
theorem dFa_compare_33 : decode prog_4_method_3_code 33 = .ok (.getfield 20, 3) := by decide +kernel
theorem dFa_compare_36 : decode prog_4_method_3_code 36 = .ok (.iload_n 1, 1) := by decide +kernel
theorem dFa_compare_37 : decode prog_4_method_3_code 37 = .ok (.iconst (0), 1) := by decide +kernel
theorem dFa_compare_38 : decode prog_4_method_3_code 38 = .ok (.iastore, 1) := by decide +kernel
theorem dFa_compare_39 : decode prog_4_method_3_code 39 = .ok (.iload_n 1, 1) := by decide +kernel
theorem dFa_compare_40 : decode prog_4_method_3_code 40 = .ok (.iconst (1), 1) := by decide +kernel
theorem dFa_compare_41 : decode prog_4_method_3_code 41 = .ok (.isub, 1) := by decide +kernel
theorem dFa_compare_42 : decode prog_4_method_3_code 42 = .ok (.istore 4, 2) := by decide +kernel
theorem dFa_compare_44 : decode prog_4_method_3_code 44 = .ok (.iload 4, 2) := by decide +kernel
theorem dFa_compare_46 : decode prog_4_method_3_code 46 = .ok (.ifCond .lt (102), 3) := by decide +kernel
theorem dFa_compare_49 : decode prog_4_method_3_code 49 = .ok (.aload_n 2, 1) := by decide +kernel
theorem dFa_compare_50 : decode prog_4_method_3_code 50 = .ok (.aload_n 0, 1) := by decide +kernel
theorem dFa_compare_51 : decode prog_4_method_3_code 51 = .ok (.getfield 40, 3) := by decide +kernel
theorem dFa_compare_54 : decode prog_4_method_3_code 54 = .ok (.getfield 93, 3) := by decide +kernel
theorem dFa_compare_57 : decode prog_4_method_3_code 57 = .ok (.iload 4, 2) := by decide +kernel
theorem dFa_compare_59 : decode prog_4_method_3_code 59 = .ok (.iaload, 1) := by decide +kernel
theorem dFa_compare_60 : decode prog_4_method_3_code 60 = .ok (.iload_n 3, 1) := by decide +kernel
theorem dFa_compare_61 : decode prog_4_method_3_code 61 = .ok (.invokevirtual 96, 3) := by decide +kernel
theorem dFa_compare_64 : decode prog_4_method_3_code 64 = .ok (.ifCond .eq (24), 3) := by decide +kernel
theorem dFa_compare_67 : decode prog_4_method_3_code 67 = .ok (.aload_n 0, 1) := by decide +kernel
theorem dFa_compare_68 : decode prog_4_method_3_code 68 = .ok (.getfield 11, 3) := by decide +kernel
theorem dFa_compare_71 : decode prog_4_method_3_code 71 = .ok (.iload_n 1, 1) := by decide +kernel
theorem dFa_compare_72 : decode prog_4_method_3_code 72 = .ok (.iload 4, 2) := by decide +kernel
theorem dFa_compare_74 : decode prog_4_method_3_code 74 = .ok (.iastore, 1) := by decide +kernel
theorem dFa_compare_75 : decode prog_4_method_3_code 75 = .ok (.aload_n 0, 1) := by decide +kernel
theorem dFa_compare_76 : decode prog_4_method_3_code 76 = .ok (.dup, 1) := by decide +kernel
theorem dFa_compare_77 : decode prog_4_method_3_code 77 = .ok (.getfield 48, 3) := by decide +kernel
theorem dFa_compare_80 : decode prog_4_method_3_code 80 = .ok (.iload_n 1, 1) := by decide +kernel
theorem dFa_compare_81 : decode prog_4_method_3_code 81 = .ok (.invokestatic 72, 3) := by decide +kernel
theorem dFa_compare_84 : decode prog_4_method_3_code 84 = .ok (.lor, 1) := by decide +kernel
theorem dFa_compare_85 : decode prog_4_method_3_code 85 = .ok (.putfield 48, 3) := by decide +kernel
theorem dFa_compare_88 : decode prog_4_method_3_code 88 = .ok (.aload_n 2, 1) := by decide +kernel
theorem dFa_compare_89 : decode prog_4_method_3_code 89 = .ok (.invokevirtual 102, 3) := by decide +kernel
theorem dFa_compare_92 : decode prog_4_method_3_code 92 = .ok (.aload_n 2, 1) := by decide +kernel
theorem dFa_compare_93 : decode prog_4_method_3_code 93 = .ok (.aload_n 0, 1) := by decide +kernel
theorem dFa_compare_94 : decode prog_4_method_3_code 94 = .ok (.getfield 40, 3) := by decide +kernel
theorem dFa_compare_97 : decode prog_4_method_3_code 97 = .ok (.getfield 93, 3) := by decide +kernel
theorem dFa_compare_100 : decode prog_4_method_3_code 100 = .ok (.iload 4, 2) := by decide +kernel
theorem dFa_compare_102 : decode prog_4_method_3_code 102 = .ok (.iaload, 1) := by decide +kernel
theorem dFa_compare_103 : decode prog_4_method_3_code 103 = .ok (.iload_n 3, 1) := by decide +kernel
theorem dFa_compare_104 : decode prog_4_method_3_code 104 = .ok (.invokevirtual 105, 3) := by decide +kernel
theorem dFa_compare_107 : decode prog_4_method_3_code 107 = .ok (.ifCond .eq (35), 3) := by decide +kernel
theorem dFa_compare_110 : decode prog_4_method_3_code 110 = .ok (.aload_n 0, 1) := by decide +kernel
theorem dFa_compare_111 : decode prog_4_method_3_code 111 = .ok (.getfield 17, 3) := by decide +kernel
theorem dFa_compare_114 : decode prog_4_method_3_code 114 = .ok (.iload_n 1, 1) := by decide +kernel
theorem dFa_compare_115 : decode prog_4_method_3_code 115 = .ok (.iload 4, 2) := by decide +kernel
theorem dFa_compare_117 : decode prog_4_method_3_code 117 = .ok (.iastore, 1) := by decide +kernel
theorem dFa_compare_118 : decode prog_4_method_3_code 118 = .ok (.aload_n 0, 1) := by decide +kernel
theorem dFa_compare_119 : decode prog_4_method_3_code 119 = .ok (.getfield 20, 3) := by decide +kernel
theorem dFa_compare_122 : decode prog_4_method_3_code 122 = .ok (.iload 4, 2) := by decide +kernel
theorem dFa_compare_124 : decode prog_4_method_3_code 124 = .ok (.dup2, 1) := by decide +kernel
theorem dFa_compare_125 : decode prog_4_method_3_code 125 = .ok (.iaload, 1) := by decide +kernel
theorem dFa_compare_126 : decode prog_4_method_3_code 126 = .ok (.iconst (1), 1) := by decide +kernel
theorem dFa_compare_127 : decode prog_4_method_3_code 127 = .ok (.iadd, 1) := by decide +kernel
theorem dFa_compare_128 : decode prog_4_method_3_code 128 = .ok (.iastore, 1) := by decide +kernel
theorem dFa_compare_129 : decode prog_4_method_3_code 129 = .ok (.aload_n 0, 1) := by decide +kernel
theorem dFa_compare_130 : decode prog_4_method_3_code 130 = .ok (.dup, 1) := by decide +kernel
theorem dFa_compare_131 : decode prog_4_method_3_code 131 = .ok (.getfield 51, 3) := by decide +kernel
theorem dFa_compare_134 : decode prog_4_method_3_code 134 = .ok (.iload_n 1, 1) := by decide +kernel
theorem dFa_compare_135 : decode prog_4_method_3_code 135 = .ok (.invokestatic 72, 3) := by decide +kernel
theorem dFa_compare_138 : decode prog_4_method_3_code 138 = .ok (.lor, 1) := by decide +kernel
theorem dFa_compare_139 : decode prog_4_method_3_code 139 = .ok (.putfield 51, 3) := by decide +kernel
theorem dFa_compare_142 : decode prog_4_method_3_code 142 = .ok (.iinc 4 (-1), 3) := by decide +kernel
theorem dFa_compare_145 : decode prog_4_method_3_code 145 = .ok (.goto (-101), 3) := by decide +kernel
theorem dFa_compare_148 : decode prog_4_method_3_code 148 = .ok (.return_, 1) := by decide +kernel
theorem dTe_areSame_0 : decode prog_10_method_8_code 0 = .ok (.aload_n 0, 1) := by decide +kernel
theorem dTe_areSame_1 : decode prog_10_method_8_code 1 = .ok (.iload_n 1, 1) := by decide +kernel
theorem dTe_areSame_2 : decode prog_10_method_8_code 2 = .ok (.invokevirtual 40, 3) := by decide +kernel
theorem dTe_areSame_5 : decode prog_10_method_8_code 5 = .ok (.istore_n 3, 1) := by decide +kernel
theorem dTe_areSame_6 : decode prog_10_method_8_code 6 = .ok (.aload_n 0, 1) := by decide +kernel
theorem dTe_areSame_7 : decode prog_10_method_8_code 7 = .ok (.iload_n 2, 1) := by decide +kernel
theorem dTe_areSame_8 : decode prog_10_method_8_code 8 = .ok (.invokevirtual 40, 3) := by decide +kernel
theorem dTe_areSame_11 : decode prog_10_method_8_code 11 = .ok (.iload_n 3, 1) := by decide +kernel
theorem dTe_areSame_12 : decode prog_10_method_8_code 12 = .ok (.if_icmp .eq (5), 3) := by decide +kernel
theorem dTe_areSame_15 : decode prog_10_method_8_code 15 = .ok (.iconst (0), 1) := by decide +kernel
theorem dTe_areSame_16 : decode prog_10_method_8_code 16 = .ok (.ireturn, 1) := by decide +kernel
theorem dTe_areSame_17 : decode prog_10_method_8_code 17 = .ok (.iconst (0), 1) := by decide +kernel
theorem dTe_areSame_18 : decode prog_10_method_8_code 18 = .ok (.istore 4, 2) := by decide +kernel
theorem dTe_areSame_20 : decode prog_10_method_8_code 20 = .ok (.iload 4, 2) := by decide +kernel
theorem dTe_areSame_22 : decode prog_10_method_8_code 22 = .ok (.iload_n 3, 1) := by decide +kernel
theorem dTe_areSame_23 : decode prog_10_method_8_code 23 = .ok (.if_icmp .ge (32), 3) := by decide +kernel
theorem dTe_areSame_26 : decode prog_10_method_8_code 26 = .ok (.aload_n 0, 1) := by decide +kernel
theorem dTe_areSame_27 : decode prog_10_method_8_code 27 = .ok (.getfield 21, 3) := by decide +kernel
theorem dTe_areSame_30 : decode prog_10_method_8_code 30 = .ok (.iload_n 1, 1) := by decide +kernel
theorem dTe_areSame_31 : decode prog_10_method_8_code 31 = .ok (.iload 4, 2) := by decide +kernel
theorem dTe_areSame_33 : decode prog_10_method_8_code 33 = .ok (.iadd, 1) := by decide +kernel
theorem dTe_areSame_34 : decode prog_10_method_8_code 34 = .ok (.iaload, 1) := by decide +kernel
theorem dTe_areSame_35 : decode prog_10_method_8_code 35 = .ok (.aload_n 0, 1) := by decide +kernel
theorem dTe_areSame_36 : decode prog_10_method_8_code 36 = .ok (.getfield 21, 3) := by decide +kernel
theorem dTe_areSame_39 : decode prog_10_method_8_code 39 = .ok (.iload_n 2, 1) := by decide +kernel
theorem dTe_areSame_40 : decode prog_10_method_8_code 40 = .ok (.iload 4, 2) := by decide +kernel
theorem dTe_areSame_42 : decode prog_10_method_8_code 42 = .ok (.iadd, 1) := by decide +kernel
theorem dTe_areSame_43 : decode prog_10_method_8_code 43 = .ok (.iaload, 1) := by decide +kernel
theorem dTe_areSame_44 : decode prog_10_method_8_code 44 = .ok (.if_icmp .eq (5), 3) := by decide +kernel
theorem dTe_areSame_47 : decode prog_10_method_8_code 47 = .ok (.iconst (0), 1) := by decide +kernel
theorem dTe_areSame_48 : decode prog_10_method_8_code 48 = .ok (.ireturn, 1) := by decide +kernel
theorem dTe_areSame_49 : decode prog_10_method_8_code 49 = .ok (.iinc 4 (1), 3) := by decide +kernel
theorem dTe_areSame_52 : decode prog_10_method_8_code 52 = .ok (.goto (-32), 3) := by decide +kernel
theorem dTe_areSame_55 : decode prog_10_method_8_code 55 = .ok (.iconst (1), 1) := by decide +kernel
theorem dTe_areSame_56 : decode prog_10_method_8_code 56 = .ok (.ireturn, 1) := by decide +kernel
theorem dTe_size_0 : decode prog_10_method_7_code 0 = .ok (.aload_n 0, 1) := by decide +kernel
theorem dTe_size_1 : decode prog_10_method_7_code 1 = .ok (.getfield 24, 3) := by decide +kernel
theorem dTe_size_4 : decode prog_10_method_7_code 4 = .ok (.iload_n 1, 1) := by decide +kernel
theorem dTe_size_5 : decode prog_10_method_7_code 5 = .ok (.iaload, 1) := by decide +kernel
theorem dTe_size_6 : decode prog_10_method_7_code 6 = .ok (.iload_n 1, 1) := by decide +kernel
theorem dTe_size_7 : decode prog_10_method_7_code 7 = .ok (.isub, 1) := by decide +kernel
theorem dTe_size_8 : decode prog_10_method_7_code 8 = .ok (.ireturn, 1) := by decide +kernel
theorem dX_bit_0 : decode prog_1_method_44_code 0 = .ok (.lconst 1, 1) := by decide +kernel
theorem dX_bit_1 : decode prog_1_method_44_code 1 = .ok (.iload_n 0, 1) := by decide +kernel
theorem dX_bit_2 : decode prog_1_method_44_code 2 = .ok (.lshl, 1) := by decide +kernel
theorem dX_bit_3 : decode prog_1_method_44_code 3 = .ok (.lreturn, 1) := by decide +kernel
theorem dTe_freeHoles_0 : decode prog_10_method_9_code 0 = .ok (.aload_n 0, 1) := by decide +kernel
theorem dTe_freeHoles_1 : decode prog_10_method_9_code 1 = .ok (.getfield 27, 3) := by decide +kernel
theorem dTe_freeHoles_4 : decode prog_10_method_9_code 4 = .ok (.iconst (-1), 1) := by decide +kernel
theorem dTe_freeHoles_5 : decode prog_10_method_9_code 5 = .ok (.invokestatic 44, 3) := by decide +kernel
theorem dTe_freeHoles_8 : decode prog_10_method_9_code 8 = .ok (.return_, 1) := by decide +kernel
theorem dAr_fill_0 : decode prog_18_method_103_code 0 = .ok (.iconst (0), 1) := by decide +kernel
theorem dAr_fill_1 : decode prog_18_method_103_code 1 = .ok (.istore_n 2, 1) := by decide +kernel
theorem dAr_fill_2 : decode prog_18_method_103_code 2 = .ok (.aload_n 0, 1) := by decide +kernel
theorem dAr_fill_3 : decode prog_18_method_103_code 3 = .ok (.arraylength, 1) := by decide +kernel
theorem dAr_fill_4 : decode prog_18_method_103_code 4 = .ok (.istore_n 3, 1) := by decide +kernel
theorem dAr_fill_5 : decode prog_18_method_103_code 5 = .ok (.iload_n 2, 1) := by decide +kernel
theorem dAr_fill_6 : decode prog_18_method_103_code 6 = .ok (.iload_n 3, 1) := by decide +kernel
theorem dAr_fill_7 : decode prog_18_method_103_code 7 = .ok (.if_icmp .ge (13), 3) := by decide +kernel
theorem dAr_fill_10 : decode prog_18_method_103_code 10 = .ok (.aload_n 0, 1) := by decide +kernel
theorem dAr_fill_11 : decode prog_18_method_103_code 11 = .ok (.iload_n 2, 1) := by decide +kernel
theorem dAr_fill_12 : decode prog_18_method_103_code 12 = .ok (.iload_n 1, 1) := by decide +kernel
theorem dAr_fill_13 : decode prog_18_method_103_code 13 = .ok (.iastore, 1) := by decide +kernel
theorem dAr_fill_14 : decode prog_18_method_103_code 14 = .ok (.iinc 2 (1), 3) := by decide +kernel
theorem dAr_fill_17 : decode prog_18_method_103_code 17 = .ok (.goto (-12), 3) := by decide +kernel
theorem dAr_fill_20 : decode prog_18_method_103_code 20 = .ok (.return_, 1) := by decide +kernel
theorem dTe_fits_0 : decode prog_10_method_10_code 0 = .ok (.iload_n 2, 1) := by decide +kernel
theorem dTe_fits_1 : decode prog_10_method_10_code 1 = .ok (.istore_n 3, 1) := by decide +kernel
theorem dTe_fits_2 : decode prog_10_method_10_code 2 = .ok (.iload_n 1, 1) := by decide +kernel
theorem dTe_fits_3 : decode prog_10_method_10_code 3 = .ok (.istore 4, 2) := by decide +kernel
theorem dTe_fits_5 : decode prog_10_method_10_code 5 = .ok (.iload 4, 2) := by decide +kernel
theorem dTe_fits_7 : decode prog_10_method_10_code 7 = .ok (.aload_n 0, 1) := by decide +kernel
theorem dTe_fits_8 : decode prog_10_method_10_code 8 = .ok (.getfield 24, 3) := by decide +kernel
theorem dTe_fits_11 : decode prog_10_method_10_code 11 = .ok (.iload_n 1, 1) := by decide +kernel
theorem dTe_fits_12 : decode prog_10_method_10_code 12 = .ok (.iaload, 1) := by decide +kernel
theorem dTe_fits_13 : decode prog_10_method_10_code 13 = .ok (.if_icmp .ge (76), 3) := by decide +kernel
theorem dTe_fits_16 : decode prog_10_method_10_code 16 = .ok (.aload_n 0, 1) := by decide +kernel
theorem dTe_fits_17 : decode prog_10_method_10_code 17 = .ok (.getfield 21, 3) := by decide +kernel
theorem dTe_fits_20 : decode prog_10_method_10_code 20 = .ok (.iload 4, 2) := by decide +kernel
theorem dTe_fits_22 : decode prog_10_method_10_code 22 = .ok (.iaload, 1) := by decide +kernel
theorem dTe_fits_23 : decode prog_10_method_10_code 23 = .ok (.istore 5, 2) := by decide +kernel
theorem dTe_fits_25 : decode prog_10_method_10_code 25 = .ok (.iload_n 3, 1) := by decide +kernel
theorem dTe_fits_26 : decode prog_10_method_10_code 26 = .ok (.aload_n 0, 1) := by decide +kernel
theorem dTe_fits_27 : decode prog_10_method_10_code 27 = .ok (.getfield 37, 3) := by decide +kernel
theorem dTe_fits_30 : decode prog_10_method_10_code 30 = .ok (.if_icmp .lt (5), 3) := by decide +kernel
theorem dTe_fits_33 : decode prog_10_method_10_code 33 = .ok (.iconst (0), 1) := by decide +kernel
theorem dTe_fits_34 : decode prog_10_method_10_code 34 = .ok (.ireturn, 1) := by decide +kernel
theorem dTe_fits_35 : decode prog_10_method_10_code 35 = .ok (.iload 5, 2) := by decide +kernel
theorem dTe_fits_37 : decode prog_10_method_10_code 37 = .ok (.bipush (100), 2) := by decide +kernel
theorem dTe_fits_39 : decode prog_10_method_10_code 39 = .ok (.if_icmp .ge (22), 3) := by decide +kernel
theorem dTe_fits_42 : decode prog_10_method_10_code 42 = .ok (.aload_n 0, 1) := by decide +kernel
theorem dTe_fits_43 : decode prog_10_method_10_code 43 = .ok (.getfield 21, 3) := by decide +kernel
theorem dTe_fits_46 : decode prog_10_method_10_code 46 = .ok (.iload_n 3, 1) := by decide +kernel
theorem dTe_fits_47 : decode prog_10_method_10_code 47 = .ok (.iaload, 1) := by decide +kernel
theorem dTe_fits_48 : decode prog_10_method_10_code 48 = .ok (.iload 5, 2) := by decide +kernel
theorem dTe_fits_50 : decode prog_10_method_10_code 50 = .ok (.if_icmp .eq (5), 3) := by decide +kernel
theorem dTe_fits_53 : decode prog_10_method_10_code 53 = .ok (.iconst (0), 1) := by decide +kernel
theorem dTe_fits_54 : decode prog_10_method_10_code 54 = .ok (.ireturn, 1) := by decide +kernel
theorem dTe_fits_55 : decode prog_10_method_10_code 55 = .ok (.iinc 3 (1), 3) := by decide +kernel
theorem dTe_fits_58 : decode prog_10_method_10_code 58 = .ok (.goto (25), 3) := by decide +kernel
theorem dTe_fits_61 : decode prog_10_method_10_code 61 = .ok (.aload_n 0, 1) := by decide +kernel
theorem dTe_fits_62 : decode prog_10_method_10_code 62 = .ok (.iload 5, 2) := by decide +kernel
theorem dTe_fits_64 : decode prog_10_method_10_code 64 = .ok (.bipush (100), 2) := by decide +kernel
theorem dTe_fits_66 : decode prog_10_method_10_code 66 = .ok (.isub, 1) := by decide +kernel
theorem dTe_fits_67 : decode prog_10_method_10_code 67 = .ok (.iload_n 3, 1) := by decide +kernel
theorem dTe_fits_68 : decode prog_10_method_10_code 68 = .ok (.invokevirtual 50, 3) := by decide +kernel
theorem dTe_fits_71 : decode prog_10_method_10_code 71 = .ok (.ifCond .ne (5), 3) := by decide +kernel
theorem dTe_fits_74 : decode prog_10_method_10_code 74 = .ok (.iconst (0), 1) := by decide +kernel
theorem dTe_fits_75 : decode prog_10_method_10_code 75 = .ok (.ireturn, 1) := by decide +kernel
theorem dTe_fits_76 : decode prog_10_method_10_code 76 = .ok (.aload_n 0, 1) := by decide +kernel
theorem dTe_fits_77 : decode prog_10_method_10_code 77 = .ok (.getfield 24, 3) := by decide +kernel
theorem dTe_fits_80 : decode prog_10_method_10_code 80 = .ok (.iload_n 3, 1) := by decide +kernel
theorem dTe_fits_81 : decode prog_10_method_10_code 81 = .ok (.iaload, 1) := by decide +kernel
theorem dTe_fits_82 : decode prog_10_method_10_code 82 = .ok (.istore_n 3, 1) := by decide +kernel
theorem dTe_fits_83 : decode prog_10_method_10_code 83 = .ok (.iinc 4 (1), 3) := by decide +kernel
theorem dTe_fits_86 : decode prog_10_method_10_code 86 = .ok (.goto (-81), 3) := by decide +kernel
theorem dTe_fits_89 : decode prog_10_method_10_code 89 = .ok (.iconst (1), 1) := by decide +kernel
theorem dTe_fits_90 : decode prog_10_method_10_code 90 = .ok (.ireturn, 1) := by decide +kernel
theorem dTe_takes_0 : decode prog_10_method_11_code 0 = .ok (.aload_n 0, 1) := by decide +kernel
theorem dTe_takes_1 : decode prog_10_method_11_code 1 = .ok (.getfield 27, 3) := by decide +kernel
theorem dTe_takes_4 : decode prog_10_method_11_code 4 = .ok (.iload_n 1, 1) := by decide +kernel
theorem dTe_takes_5 : decode prog_10_method_11_code 5 = .ok (.iaload, 1) := by decide +kernel
theorem dTe_takes_6 : decode prog_10_method_11_code 6 = .ok (.iconst (-1), 1) := by decide +kernel
theorem dTe_takes_7 : decode prog_10_method_11_code 7 = .ok (.if_icmp .ne (10), 3) := by decide +kernel
theorem dTe_takes_10 : decode prog_10_method_11_code 10 = .ok (.aload_n 0, 1) := by decide +kernel
theorem dTe_takes_11 : decode prog_10_method_11_code 11 = .ok (.getfield 27, 3) := by decide +kernel
theorem dTe_takes_14 : decode prog_10_method_11_code 14 = .ok (.iload_n 1, 1) := by decide +kernel
theorem dTe_takes_15 : decode prog_10_method_11_code 15 = .ok (.iload_n 2, 1) := by decide +kernel
theorem dTe_takes_16 : decode prog_10_method_11_code 16 = .ok (.iastore, 1) := by decide +kernel
theorem dTe_takes_17 : decode prog_10_method_11_code 17 = .ok (.aload_n 0, 1) := by decide +kernel
theorem dTe_takes_18 : decode prog_10_method_11_code 18 = .ok (.aload_n 0, 1) := by decide +kernel
theorem dTe_takes_19 : decode prog_10_method_11_code 19 = .ok (.getfield 27, 3) := by decide +kernel
theorem dTe_takes_22 : decode prog_10_method_11_code 22 = .ok (.iload_n 1, 1) := by decide +kernel
theorem dTe_takes_23 : decode prog_10_method_11_code 23 = .ok (.iaload, 1) := by decide +kernel
theorem dTe_takes_24 : decode prog_10_method_11_code 24 = .ok (.iload_n 2, 1) := by decide +kernel
theorem dTe_takes_25 : decode prog_10_method_11_code 25 = .ok (.invokevirtual 54, 3) := by decide +kernel
theorem dTe_takes_28 : decode prog_10_method_11_code 28 = .ok (.ireturn, 1) := by decide +kernel
theorem dFa_follow_0 : decode prog_4_method_4_code 0 = .ok (.aload_n 0, 1) := by decide +kernel
theorem dFa_follow_1 : decode prog_4_method_4_code 1 = .ok (.getfield 26, 3) := by decide +kernel
theorem dFa_follow_4 : decode prog_4_method_4_code 4 = .ok (.iload_n 1, 1) := by decide +kernel
theorem dFa_follow_5 : decode prog_4_method_4_code 5 = .ok (.lconst 0, 1) := by decide +kernel
theorem dFa_follow_6 : decode prog_4_method_4_code 6 = .ok (.lastore, 1) := by decide +kernel
theorem dFa_follow_7 : decode prog_4_method_4_code 7 = .ok (.aload_n 0, 1) := by decide +kernel
theorem dFa_follow_8 : decode prog_4_method_4_code 8 = .ok (.getfield 30, 3) := by decide +kernel
theorem dFa_follow_11 : decode prog_4_method_4_code 11 = .ok (.iload_n 1, 1) := by decide +kernel
theorem dFa_follow_12 : decode prog_4_method_4_code 12 = .ok (.lconst 0, 1) := by decide +kernel
theorem dFa_follow_13 : decode prog_4_method_4_code 13 = .ok (.lastore, 1) := by decide +kernel
theorem dFa_follow_14 : decode prog_4_method_4_code 14 = .ok (.aload_n 0, 1) := by decide +kernel
theorem dFa_follow_15 : decode prog_4_method_4_code 15 = .ok (.getfield 23, 3) := by decide +kernel
theorem dFa_follow_18 : decode prog_4_method_4_code 18 = .ok (.iload_n 1, 1) := by decide +kernel
theorem dFa_follow_19 : decode prog_4_method_4_code 19 = .ok (.iconst (1), 1) := by decide +kernel
theorem dFa_follow_20 : decode prog_4_method_4_code 20 = .ok (.iastore, 1) := by decide +kernel
theorem dFa_follow_21 : decode prog_4_method_4_code 21 = .ok (.iconst (0), 1) := by decide +kernel
theorem dFa_follow_22 : decode prog_4_method_4_code 22 = .ok (.istore_n 2, 1) := by decide +kernel
theorem dFa_follow_23 : decode prog_4_method_4_code 23 = .ok (.iload_n 2, 1) := by decide +kernel
theorem dFa_follow_24 : decode prog_4_method_4_code 24 = .ok (.aload_n 0, 1) := by decide +kernel
theorem dFa_follow_25 : decode prog_4_method_4_code 25 = .ok (.getfield 40, 3) := by decide +kernel
theorem dFa_follow_28 : decode prog_4_method_4_code 28 = .ok (.iload_n 1, 1) := by decide +kernel
theorem dFa_follow_29 : decode prog_4_method_4_code 29 = .ok (.invokevirtual 108, 3) := by decide +kernel
theorem dFa_follow_32 : decode prog_4_method_4_code 32 = .ok (.if_icmp .ge (75), 3) := by decide +kernel
theorem dFa_follow_35 : decode prog_4_method_4_code 35 = .ok (.aload_n 0, 1) := by decide +kernel
theorem dFa_follow_36 : decode prog_4_method_4_code 36 = .ok (.getfield 40, 3) := by decide +kernel
theorem dFa_follow_39 : decode prog_4_method_4_code 39 = .ok (.iload_n 1, 1) := by decide +kernel
theorem dFa_follow_40 : decode prog_4_method_4_code 40 = .ok (.iload_n 2, 1) := by decide +kernel
theorem dFa_follow_41 : decode prog_4_method_4_code 41 = .ok (.invokevirtual 112, 3) := by decide +kernel
theorem dFa_follow_44 : decode prog_4_method_4_code 44 = .ok (.istore_n 3, 1) := by decide +kernel
theorem dFa_follow_45 : decode prog_4_method_4_code 45 = .ok (.aload_n 0, 1) := by decide +kernel
theorem dFa_follow_46 : decode prog_4_method_4_code 46 = .ok (.getfield 26, 3) := by decide +kernel
theorem dFa_follow_49 : decode prog_4_method_4_code 49 = .ok (.iload_n 1, 1) := by decide +kernel
theorem dFa_follow_50 : decode prog_4_method_4_code 50 = .ok (.dup2, 1) := by decide +kernel
theorem dFa_follow_51 : decode prog_4_method_4_code 51 = .ok (.laload, 1) := by decide +kernel
theorem dFa_follow_52 : decode prog_4_method_4_code 52 = .ok (.iload_n 3, 1) := by decide +kernel
theorem dFa_follow_53 : decode prog_4_method_4_code 53 = .ok (.invokestatic 72, 3) := by decide +kernel
theorem dFa_follow_56 : decode prog_4_method_4_code 56 = .ok (.aload_n 0, 1) := by decide +kernel
theorem dFa_follow_57 : decode prog_4_method_4_code 57 = .ok (.getfield 26, 3) := by decide +kernel
theorem dFa_follow_60 : decode prog_4_method_4_code 60 = .ok (.iload_n 3, 1) := by decide +kernel
theorem dFa_follow_61 : decode prog_4_method_4_code 61 = .ok (.laload, 1) := by decide +kernel
theorem dFa_follow_62 : decode prog_4_method_4_code 62 = .ok (.lor, 1) := by decide +kernel
theorem dFa_follow_63 : decode prog_4_method_4_code 63 = .ok (.lor, 1) := by decide +kernel
theorem dFa_follow_64 : decode prog_4_method_4_code 64 = .ok (.lastore, 1) := by decide +kernel
theorem dFa_follow_65 : decode prog_4_method_4_code 65 = .ok (.aload_n 0, 1) := by decide +kernel
theorem dFa_follow_66 : decode prog_4_method_4_code 66 = .ok (.getfield 30, 3) := by decide +kernel
theorem dFa_follow_69 : decode prog_4_method_4_code 69 = .ok (.iload_n 3, 1) := by decide +kernel
theorem dFa_follow_70 : decode prog_4_method_4_code 70 = .ok (.dup2, 1) := by decide +kernel
theorem dFa_follow_71 : decode prog_4_method_4_code 71 = .ok (.laload, 1) := by decide +kernel
theorem dFa_follow_72 : decode prog_4_method_4_code 72 = .ok (.iload_n 1, 1) := by decide +kernel
theorem dFa_follow_73 : decode prog_4_method_4_code 73 = .ok (.invokestatic 72, 3) := by decide +kernel
theorem dFa_follow_76 : decode prog_4_method_4_code 76 = .ok (.lor, 1) := by decide +kernel
theorem dFa_follow_77 : decode prog_4_method_4_code 77 = .ok (.lastore, 1) := by decide +kernel
theorem dFa_follow_78 : decode prog_4_method_4_code 78 = .ok (.aload_n 0, 1) := by decide +kernel
theorem dFa_follow_79 : decode prog_4_method_4_code 79 = .ok (.getfield 23, 3) := by decide +kernel
theorem dFa_follow_82 : decode prog_4_method_4_code 82 = .ok (.iload_n 1, 1) := by decide +kernel
theorem dFa_follow_83 : decode prog_4_method_4_code 83 = .ok (.aload_n 0, 1) := by decide +kernel
theorem dFa_follow_84 : decode prog_4_method_4_code 84 = .ok (.getfield 23, 3) := by decide +kernel
theorem dFa_follow_87 : decode prog_4_method_4_code 87 = .ok (.iload_n 1, 1) := by decide +kernel
theorem dFa_follow_88 : decode prog_4_method_4_code 88 = .ok (.iaload, 1) := by decide +kernel
theorem dFa_follow_89 : decode prog_4_method_4_code 89 = .ok (.aload_n 0, 1) := by decide +kernel
theorem dFa_follow_90 : decode prog_4_method_4_code 90 = .ok (.getfield 23, 3) := by decide +kernel
theorem dFa_follow_93 : decode prog_4_method_4_code 93 = .ok (.iload_n 3, 1) := by decide +kernel
theorem dFa_follow_94 : decode prog_4_method_4_code 94 = .ok (.iaload, 1) := by decide +kernel
theorem dFa_follow_95 : decode prog_4_method_4_code 95 = .ok (.iconst (1), 1) := by decide +kernel
theorem dFa_follow_96 : decode prog_4_method_4_code 96 = .ok (.iadd, 1) := by decide +kernel
theorem dFa_follow_97 : decode prog_4_method_4_code 97 = .ok (.invokestatic 116, 3) := by decide +kernel
theorem dFa_follow_100 : decode prog_4_method_4_code 100 = .ok (.iastore, 1) := by decide +kernel
theorem dFa_follow_101 : decode prog_4_method_4_code 101 = .ok (.iinc 2 (1), 3) := by decide +kernel
theorem dFa_follow_104 : decode prog_4_method_4_code 104 = .ok (.goto (-81), 3) := by decide +kernel
theorem dFa_follow_107 : decode prog_4_method_4_code 107 = .ok (.return_, 1) := by decide +kernel
theorem dBk_nameCount_0 : decode prog_3_method_11_code 0 = .ok (.aload_n 0, 1) := by decide +kernel
theorem dBk_nameCount_1 : decode prog_3_method_11_code 1 = .ok (.getfield 22, 3) := by decide +kernel
theorem dBk_nameCount_4 : decode prog_3_method_11_code 4 = .ok (.aload_n 0, 1) := by decide +kernel
theorem dBk_nameCount_5 : decode prog_3_method_11_code 5 = .ok (.getfield 31, 3) := by decide +kernel
theorem dBk_nameCount_8 : decode prog_3_method_11_code 8 = .ok (.iload_n 1, 1) := by decide +kernel
theorem dBk_nameCount_9 : decode prog_3_method_11_code 9 = .ok (.iaload, 1) := by decide +kernel
theorem dBk_nameCount_10 : decode prog_3_method_11_code 10 = .ok (.iaload, 1) := by decide +kernel
theorem dBk_nameCount_11 : decode prog_3_method_11_code 11 = .ok (.ireturn, 1) := by decide +kernel
theorem dBk_named_0 : decode prog_3_method_12_code 0 = .ok (.aload_n 0, 1) := by decide +kernel
theorem dBk_named_1 : decode prog_3_method_12_code 1 = .ok (.getfield 37, 3) := by decide +kernel
theorem dBk_named_4 : decode prog_3_method_12_code 4 = .ok (.iconst (3), 1) := by decide +kernel
theorem dBk_named_5 : decode prog_3_method_12_code 5 = .ok (.iload_n 1, 1) := by decide +kernel
theorem dBk_named_6 : decode prog_3_method_12_code 6 = .ok (.imul, 1) := by decide +kernel
theorem dBk_named_7 : decode prog_3_method_12_code 7 = .ok (.iload_n 2, 1) := by decide +kernel
theorem dBk_named_8 : decode prog_3_method_12_code 8 = .ok (.iadd, 1) := by decide +kernel
theorem dBk_named_9 : decode prog_3_method_12_code 9 = .ok (.iaload, 1) := by decide +kernel
theorem dBk_named_10 : decode prog_3_method_12_code 10 = .ok (.ireturn, 1) := by decide +kernel
theorem dMt_max_0 : decode prog_17_method_65_code 0 = .ok (.iload_n 0, 1) := by decide +kernel
theorem dMt_max_1 : decode prog_17_method_65_code 1 = .ok (.iload_n 1, 1) := by decide +kernel
theorem dMt_max_2 : decode prog_17_method_65_code 2 = .ok (.if_icmp .lt (7), 3) := by decide +kernel
theorem dMt_max_5 : decode prog_17_method_65_code 5 = .ok (.iload_n 0, 1) := by decide +kernel
theorem dMt_max_6 : decode prog_17_method_65_code 6 = .ok (.goto (4), 3) := by decide +kernel
theorem dMt_max_9 : decode prog_17_method_65_code 9 = .ok (.iload_n 1, 1) := by decide +kernel
theorem dMt_max_10 : decode prog_17_method_65_code 10 = .ok (.ireturn, 1) := by decide +kernel
theorem dFa_isRight_0 : decode prog_4_method_5_code 0 = .ok (.aload_n 0, 1) := by decide +kernel
theorem dFa_isRight_1 : decode prog_4_method_5_code 1 = .ok (.getfield 40, 3) := by decide +kernel
theorem dFa_isRight_4 : decode prog_4_method_5_code 4 = .ok (.getfield 121, 3) := by decide +kernel
theorem dFa_isRight_7 : decode prog_4_method_5_code 7 = .ok (.iload_n 1, 1) := by decide +kernel
theorem dFa_isRight_8 : decode prog_4_method_5_code 8 = .ok (.iaload, 1) := by decide +kernel
theorem dFa_isRight_9 : decode prog_4_method_5_code 9 = .ok (.istore_n 2, 1) := by decide +kernel
theorem dFa_isRight_10 : decode prog_4_method_5_code 10 = .ok (.aload_n 0, 1) := by decide +kernel
theorem dFa_isRight_11 : decode prog_4_method_5_code 11 = .ok (.getfield 40, 3) := by decide +kernel
theorem dFa_isRight_14 : decode prog_4_method_5_code 14 = .ok (.getfield 89, 3) := by decide +kernel
theorem dFa_isRight_17 : decode prog_4_method_5_code 17 = .ok (.invokevirtual 102, 3) := by decide +kernel
theorem dFa_isRight_20 : decode prog_4_method_5_code 20 = .ok (.iconst (0), 1) := by decide +kernel
theorem dFa_isRight_21 : decode prog_4_method_5_code 21 = .ok (.istore_n 3, 1) := by decide +kernel
theorem dFa_isRight_22 : decode prog_4_method_5_code 22 = .ok (.iload_n 3, 1) := by decide +kernel
theorem dFa_isRight_23 : decode prog_4_method_5_code 23 = .ok (.aload_n 0, 1) := by decide +kernel
theorem dFa_isRight_24 : decode prog_4_method_5_code 24 = .ok (.getfield 40, 3) := by decide +kernel
theorem dFa_isRight_27 : decode prog_4_method_5_code 27 = .ok (.getfield 124, 3) := by decide +kernel
theorem dFa_isRight_30 : decode prog_4_method_5_code 30 = .ok (.iload_n 2, 1) := by decide +kernel
theorem dFa_isRight_31 : decode prog_4_method_5_code 31 = .ok (.iaload, 1) := by decide +kernel
theorem dFa_isRight_32 : decode prog_4_method_5_code 32 = .ok (.if_icmp .ge (58), 3) := by decide +kernel
theorem dFa_isRight_35 : decode prog_4_method_5_code 35 = .ok (.aload_n 0, 1) := by decide +kernel
theorem dFa_isRight_36 : decode prog_4_method_5_code 36 = .ok (.getfield 40, 3) := by decide +kernel
theorem dFa_isRight_39 : decode prog_4_method_5_code 39 = .ok (.iload_n 1, 1) := by decide +kernel
theorem dFa_isRight_40 : decode prog_4_method_5_code 40 = .ok (.iload_n 3, 1) := by decide +kernel
theorem dFa_isRight_41 : decode prog_4_method_5_code 41 = .ok (.invokevirtual 112, 3) := by decide +kernel
theorem dFa_isRight_44 : decode prog_4_method_5_code 44 = .ok (.istore 4, 2) := by decide +kernel
theorem dFa_isRight_46 : decode prog_4_method_5_code 46 = .ok (.aload_n 0, 1) := by decide +kernel
theorem dFa_isRight_47 : decode prog_4_method_5_code 47 = .ok (.getfield 40, 3) := by decide +kernel
theorem dFa_isRight_50 : decode prog_4_method_5_code 50 = .ok (.getfield 89, 3) := by decide +kernel
theorem dFa_isRight_53 : decode prog_4_method_5_code 53 = .ok (.aload_n 0, 1) := by decide +kernel
theorem dFa_isRight_54 : decode prog_4_method_5_code 54 = .ok (.getfield 40, 3) := by decide +kernel
theorem dFa_isRight_57 : decode prog_4_method_5_code 57 = .ok (.getfield 127, 3) := by decide +kernel
theorem dFa_isRight_60 : decode prog_4_method_5_code 60 = .ok (.iconst (3), 1) := by decide +kernel
theorem dFa_isRight_61 : decode prog_4_method_5_code 61 = .ok (.iload_n 2, 1) := by decide +kernel
theorem dFa_isRight_62 : decode prog_4_method_5_code 62 = .ok (.imul, 1) := by decide +kernel
theorem dFa_isRight_63 : decode prog_4_method_5_code 63 = .ok (.iload_n 3, 1) := by decide +kernel
theorem dFa_isRight_64 : decode prog_4_method_5_code 64 = .ok (.iadd, 1) := by decide +kernel
theorem dFa_isRight_65 : decode prog_4_method_5_code 65 = .ok (.iaload, 1) := by decide +kernel
theorem dFa_isRight_66 : decode prog_4_method_5_code 66 = .ok (.aload_n 0, 1) := by decide +kernel
theorem dFa_isRight_67 : decode prog_4_method_5_code 67 = .ok (.getfield 40, 3) := by decide +kernel
theorem dFa_isRight_70 : decode prog_4_method_5_code 70 = .ok (.getfield 93, 3) := by decide +kernel
theorem dFa_isRight_73 : decode prog_4_method_5_code 73 = .ok (.iload 4, 2) := by decide +kernel
theorem dFa_isRight_75 : decode prog_4_method_5_code 75 = .ok (.iaload, 1) := by decide +kernel
theorem dFa_isRight_76 : decode prog_4_method_5_code 76 = .ok (.invokevirtual 105, 3) := by decide +kernel
theorem dFa_isRight_79 : decode prog_4_method_5_code 79 = .ok (.ifCond .ne (5), 3) := by decide +kernel
theorem dFa_isRight_82 : decode prog_4_method_5_code 82 = .ok (.iconst (0), 1) := by decide +kernel
theorem dFa_isRight_83 : decode prog_4_method_5_code 83 = .ok (.ireturn, 1) := by decide +kernel
theorem dFa_isRight_84 : decode prog_4_method_5_code 84 = .ok (.iinc 3 (1), 3) := by decide +kernel
theorem dFa_isRight_87 : decode prog_4_method_5_code 87 = .ok (.goto (-65), 3) := by decide +kernel
theorem dFa_isRight_90 : decode prog_4_method_5_code 90 = .ok (.aload_n 0, 1) := by decide +kernel
theorem dFa_isRight_91 : decode prog_4_method_5_code 91 = .ok (.getfield 40, 3) := by decide +kernel
theorem dFa_isRight_94 : decode prog_4_method_5_code 94 = .ok (.getfield 89, 3) := by decide +kernel
theorem dFa_isRight_97 : decode prog_4_method_5_code 97 = .ok (.aload_n 0, 1) := by decide +kernel
theorem dFa_isRight_98 : decode prog_4_method_5_code 98 = .ok (.getfield 40, 3) := by decide +kernel
theorem dFa_isRight_101 : decode prog_4_method_5_code 101 = .ok (.getfield 130, 3) := by decide +kernel
theorem dFa_isRight_104 : decode prog_4_method_5_code 104 = .ok (.iload_n 2, 1) := by decide +kernel
theorem dFa_isRight_105 : decode prog_4_method_5_code 105 = .ok (.iaload, 1) := by decide +kernel
theorem dFa_isRight_106 : decode prog_4_method_5_code 106 = .ok (.aload_n 0, 1) := by decide +kernel
theorem dFa_isRight_107 : decode prog_4_method_5_code 107 = .ok (.getfield 40, 3) := by decide +kernel
theorem dFa_isRight_110 : decode prog_4_method_5_code 110 = .ok (.getfield 93, 3) := by decide +kernel
theorem dFa_isRight_113 : decode prog_4_method_5_code 113 = .ok (.iload_n 1, 1) := by decide +kernel
theorem dFa_isRight_114 : decode prog_4_method_5_code 114 = .ok (.iaload, 1) := by decide +kernel
theorem dFa_isRight_115 : decode prog_4_method_5_code 115 = .ok (.invokevirtual 105, 3) := by decide +kernel
theorem dFa_isRight_118 : decode prog_4_method_5_code 118 = .ok (.ireturn, 1) := by decide +kernel
theorem dFa_isProvedWithout_0 : decode prog_4_method_6_code 0 = .ok (.lconst 0, 1) := by decide +kernel
theorem dFa_isProvedWithout_1 : decode prog_4_method_6_code 1 = .ok (.lstore_n 2, 1) := by decide +kernel
theorem dFa_isProvedWithout_2 : decode prog_4_method_6_code 2 = .ok (.iconst (0), 1) := by decide +kernel
theorem dFa_isProvedWithout_3 : decode prog_4_method_6_code 3 = .ok (.istore 4, 2) := by decide +kernel
theorem dFa_isProvedWithout_5 : decode prog_4_method_6_code 5 = .ok (.iload 4, 2) := by decide +kernel
theorem dFa_isProvedWithout_7 : decode prog_4_method_6_code 7 = .ok (.aload_n 0, 1) := by decide +kernel
theorem dFa_isProvedWithout_8 : decode prog_4_method_6_code 8 = .ok (.getfield 40, 3) := by decide +kernel
theorem dFa_isProvedWithout_11 : decode prog_4_method_6_code 11 = .ok (.getfield 57, 3) := by decide +kernel
theorem dFa_isProvedWithout_14 : decode prog_4_method_6_code 14 = .ok (.if_icmp .ge (98), 3) := by decide +kernel
theorem dFa_isProvedWithout_17 : decode prog_4_method_6_code 17 = .ok (.iload 4, 2) := by decide +kernel
theorem dFa_isProvedWithout_19 : decode prog_4_method_6_code 19 = .ok (.iload_n 1, 1) := by decide +kernel
theorem dFa_isProvedWithout_20 : decode prog_4_method_6_code 20 = .ok (.if_icmp .eq (7), 3) := by decide +kernel
theorem dFa_isProvedWithout_23 : decode prog_4_method_6_code 23 = .ok (.iconst (1), 1) := by decide +kernel
theorem dFa_isProvedWithout_24 : decode prog_4_method_6_code 24 = .ok (.goto (4), 3) := by decide +kernel
theorem dFa_isProvedWithout_27 : decode prog_4_method_6_code 27 = .ok (.iconst (0), 1) := by decide +kernel
theorem dFa_isProvedWithout_28 : decode prog_4_method_6_code 28 = .ok (.istore 5, 2) := by decide +kernel
theorem dFa_isProvedWithout_30 : decode prog_4_method_6_code 30 = .ok (.iconst (0), 1) := by decide +kernel
theorem dFa_isProvedWithout_31 : decode prog_4_method_6_code 31 = .ok (.istore 6, 2) := by decide +kernel
theorem dFa_isProvedWithout_33 : decode prog_4_method_6_code 33 = .ok (.iload 6, 2) := by decide +kernel
theorem dFa_isProvedWithout_35 : decode prog_4_method_6_code 35 = .ok (.aload_n 0, 1) := by decide +kernel
theorem dFa_isProvedWithout_36 : decode prog_4_method_6_code 36 = .ok (.getfield 40, 3) := by decide +kernel
theorem dFa_isProvedWithout_39 : decode prog_4_method_6_code 39 = .ok (.iload 4, 2) := by decide +kernel
theorem dFa_isProvedWithout_41 : decode prog_4_method_6_code 41 = .ok (.invokevirtual 108, 3) := by decide +kernel
theorem dFa_isProvedWithout_44 : decode prog_4_method_6_code 44 = .ok (.if_icmp .ge (44), 3) := by decide +kernel
theorem dFa_isProvedWithout_47 : decode prog_4_method_6_code 47 = .ok (.iload 5, 2) := by decide +kernel
theorem dFa_isProvedWithout_49 : decode prog_4_method_6_code 49 = .ok (.ifCond .eq (30), 3) := by decide +kernel
theorem dFa_isProvedWithout_52 : decode prog_4_method_6_code 52 = .ok (.aload_n 0, 1) := by decide +kernel
theorem dFa_isProvedWithout_53 : decode prog_4_method_6_code 53 = .ok (.getfield 11, 3) := by decide +kernel
theorem dFa_isProvedWithout_56 : decode prog_4_method_6_code 56 = .ok (.aload_n 0, 1) := by decide +kernel
theorem dFa_isProvedWithout_57 : decode prog_4_method_6_code 57 = .ok (.getfield 40, 3) := by decide +kernel
theorem dFa_isProvedWithout_60 : decode prog_4_method_6_code 60 = .ok (.iload 4, 2) := by decide +kernel
theorem dFa_isProvedWithout_62 : decode prog_4_method_6_code 62 = .ok (.iload 6, 2) := by decide +kernel
theorem dFa_isProvedWithout_64 : decode prog_4_method_6_code 64 = .ok (.invokevirtual 112, 3) := by decide +kernel
theorem dFa_isProvedWithout_67 : decode prog_4_method_6_code 67 = .ok (.iaload, 1) := by decide +kernel
theorem dFa_isProvedWithout_68 : decode prog_4_method_6_code 68 = .ok (.lload_n 2, 1) := by decide +kernel
theorem dFa_isProvedWithout_69 : decode prog_4_method_6_code 69 = .ok (.invokestatic 133, 3) := by decide +kernel
theorem dFa_isProvedWithout_72 : decode prog_4_method_6_code 72 = .ok (.ifCond .eq (7), 3) := by decide +kernel
theorem dFa_isProvedWithout_75 : decode prog_4_method_6_code 75 = .ok (.iconst (1), 1) := by decide +kernel
theorem dFa_isProvedWithout_76 : decode prog_4_method_6_code 76 = .ok (.goto (4), 3) := by decide +kernel
theorem dFa_isProvedWithout_79 : decode prog_4_method_6_code 79 = .ok (.iconst (0), 1) := by decide +kernel
theorem dFa_isProvedWithout_80 : decode prog_4_method_6_code 80 = .ok (.istore 5, 2) := by decide +kernel
theorem dFa_isProvedWithout_82 : decode prog_4_method_6_code 82 = .ok (.iinc 6 (1), 3) := by decide +kernel
theorem dFa_isProvedWithout_85 : decode prog_4_method_6_code 85 = .ok (.goto (-52), 3) := by decide +kernel
theorem dFa_isProvedWithout_88 : decode prog_4_method_6_code 88 = .ok (.iload 5, 2) := by decide +kernel
theorem dFa_isProvedWithout_90 : decode prog_4_method_6_code 90 = .ok (.ifCond .eq (16), 3) := by decide +kernel
theorem dFa_isProvedWithout_93 : decode prog_4_method_6_code 93 = .ok (.lload_n 2, 1) := by decide +kernel
theorem dFa_isProvedWithout_94 : decode prog_4_method_6_code 94 = .ok (.aload_n 0, 1) := by decide +kernel
theorem dFa_isProvedWithout_95 : decode prog_4_method_6_code 95 = .ok (.getfield 11, 3) := by decide +kernel
theorem dFa_isProvedWithout_98 : decode prog_4_method_6_code 98 = .ok (.iload 4, 2) := by decide +kernel
theorem dFa_isProvedWithout_100 : decode prog_4_method_6_code 100 = .ok (.iaload, 1) := by decide +kernel
theorem dFa_isProvedWithout_101 : decode prog_4_method_6_code 101 = .ok (.invokestatic 72, 3) := by decide +kernel
theorem dFa_isProvedWithout_104 : decode prog_4_method_6_code 104 = .ok (.lor, 1) := by decide +kernel
theorem dFa_isProvedWithout_105 : decode prog_4_method_6_code 105 = .ok (.lstore_n 2, 1) := by decide +kernel
theorem dFa_isProvedWithout_106 : decode prog_4_method_6_code 106 = .ok (.iinc 4 (1), 3) := by decide +kernel
theorem dFa_isProvedWithout_109 : decode prog_4_method_6_code 109 = .ok (.goto (-104), 3) := by decide +kernel
theorem dFa_isProvedWithout_112 : decode prog_4_method_6_code 112 = .ok (.aload_n 0, 1) := by decide +kernel
theorem dFa_isProvedWithout_113 : decode prog_4_method_6_code 113 = .ok (.getfield 11, 3) := by decide +kernel
theorem dFa_isProvedWithout_116 : decode prog_4_method_6_code 116 = .ok (.aload_n 0, 1) := by decide +kernel
theorem dFa_isProvedWithout_117 : decode prog_4_method_6_code 117 = .ok (.getfield 40, 3) := by decide +kernel
theorem dFa_isProvedWithout_120 : decode prog_4_method_6_code 120 = .ok (.getfield 76, 3) := by decide +kernel
theorem dFa_isProvedWithout_123 : decode prog_4_method_6_code 123 = .ok (.iaload, 1) := by decide +kernel
theorem dFa_isProvedWithout_124 : decode prog_4_method_6_code 124 = .ok (.lload_n 2, 1) := by decide +kernel
theorem dFa_isProvedWithout_125 : decode prog_4_method_6_code 125 = .ok (.invokestatic 133, 3) := by decide +kernel
theorem dFa_isProvedWithout_128 : decode prog_4_method_6_code 128 = .ok (.ireturn, 1) := by decide +kernel
theorem dX_isIn_0 : decode prog_1_method_45_code 0 = .ok (.lload_n 1, 1) := by decide +kernel
theorem dX_isIn_1 : decode prog_1_method_45_code 1 = .ok (.iload_n 0, 1) := by decide +kernel
theorem dX_isIn_2 : decode prog_1_method_45_code 2 = .ok (.lushr, 1) := by decide +kernel
theorem dX_isIn_3 : decode prog_1_method_45_code 3 = .ok (.lconst 1, 1) := by decide +kernel
theorem dX_isIn_4 : decode prog_1_method_45_code 4 = .ok (.land, 1) := by decide +kernel
theorem dX_isIn_5 : decode prog_1_method_45_code 5 = .ok (.lconst 0, 1) := by decide +kernel
theorem dX_isIn_6 : decode prog_1_method_45_code 6 = .ok (.lcmp, 1) := by decide +kernel
theorem dX_isIn_7 : decode prog_1_method_45_code 7 = .ok (.ifCond .eq (7), 3) := by decide +kernel
theorem dX_isIn_10 : decode prog_1_method_45_code 10 = .ok (.iconst (1), 1) := by decide +kernel
theorem dX_isIn_11 : decode prog_1_method_45_code 11 = .ok (.goto (4), 3) := by decide +kernel
theorem dX_isIn_14 : decode prog_1_method_45_code 14 = .ok (.iconst (0), 1) := by decide +kernel
theorem dX_isIn_15 : decode prog_1_method_45_code 15 = .ok (.ireturn, 1) := by decide +kernel
theorem dRe_gather_0 : decode prog_7_method_2_code 0 = .ok (.aload_n 1, 1) := by decide +kernel
theorem dRe_gather_1 : decode prog_7_method_2_code 1 = .ok (.getfield 33, 3) := by decide +kernel
theorem dRe_gather_4 : decode prog_7_method_2_code 4 = .ok (.astore_n 2, 1) := by decide +kernel
theorem dRe_gather_5 : decode prog_7_method_2_code 5 = .ok (.aload_n 1, 1) := by decide +kernel
theorem dRe_gather_6 : decode prog_7_method_2_code 6 = .ok (.invokestatic 39, 3) := by decide +kernel
theorem dRe_gather_9 : decode prog_7_method_2_code 9 = .ok (.lstore_n 3, 1) := by decide +kernel
theorem dRe_gather_10 : decode prog_7_method_2_code 10 = .ok (.aload_n 0, 1) := by decide +kernel
theorem dRe_gather_11 : decode prog_7_method_2_code 11 = .ok (.iconst (0), 1) := by decide +kernel
theorem dRe_gather_12 : decode prog_7_method_2_code 12 = .ok (.putfield 43, 3) := by decide +kernel
theorem dRe_gather_15 : decode prog_7_method_2_code 15 = .ok (.iconst (0), 1) := by decide +kernel
theorem dRe_gather_16 : decode prog_7_method_2_code 16 = .ok (.istore 5, 2) := by decide +kernel
theorem dRe_gather_18 : decode prog_7_method_2_code 18 = .ok (.iload 5, 2) := by decide +kernel
theorem dRe_gather_20 : decode prog_7_method_2_code 20 = .ok (.aload_n 2, 1) := by decide +kernel
theorem dRe_gather_21 : decode prog_7_method_2_code 21 = .ok (.getfield 47, 3) := by decide +kernel
theorem dRe_gather_24 : decode prog_7_method_2_code 24 = .ok (.if_icmp .ge (44), 3) := by decide +kernel
theorem dRe_gather_27 : decode prog_7_method_2_code 27 = .ok (.aload_n 0, 1) := by decide +kernel
theorem dRe_gather_28 : decode prog_7_method_2_code 28 = .ok (.getfield 17, 3) := by decide +kernel
theorem dRe_gather_31 : decode prog_7_method_2_code 31 = .ok (.iload 5, 2) := by decide +kernel
theorem dRe_gather_33 : decode prog_7_method_2_code 33 = .ok (.iconst (-1), 1) := by decide +kernel
theorem dRe_gather_34 : decode prog_7_method_2_code 34 = .ok (.iastore, 1) := by decide +kernel
theorem dRe_gather_35 : decode prog_7_method_2_code 35 = .ok (.iload 5, 2) := by decide +kernel
theorem dRe_gather_37 : decode prog_7_method_2_code 37 = .ok (.lload_n 3, 1) := by decide +kernel
theorem dRe_gather_38 : decode prog_7_method_2_code 38 = .ok (.invokestatic 50, 3) := by decide +kernel
theorem dRe_gather_41 : decode prog_7_method_2_code 41 = .ok (.ifCond .eq (21), 3) := by decide +kernel
theorem dRe_gather_44 : decode prog_7_method_2_code 44 = .ok (.aload_n 0, 1) := by decide +kernel
theorem dRe_gather_45 : decode prog_7_method_2_code 45 = .ok (.getfield 17, 3) := by decide +kernel
theorem dRe_gather_48 : decode prog_7_method_2_code 48 = .ok (.iload 5, 2) := by decide +kernel
theorem dRe_gather_50 : decode prog_7_method_2_code 50 = .ok (.aload_n 0, 1) := by decide +kernel
theorem dRe_gather_51 : decode prog_7_method_2_code 51 = .ok (.getfield 43, 3) := by decide +kernel
theorem dRe_gather_54 : decode prog_7_method_2_code 54 = .ok (.iastore, 1) := by decide +kernel
theorem dRe_gather_55 : decode prog_7_method_2_code 55 = .ok (.aload_n 0, 1) := by decide +kernel
theorem dRe_gather_56 : decode prog_7_method_2_code 56 = .ok (.aload_n 1, 1) := by decide +kernel
theorem dRe_gather_57 : decode prog_7_method_2_code 57 = .ok (.iload 5, 2) := by decide +kernel
theorem dRe_gather_59 : decode prog_7_method_2_code 59 = .ok (.invokevirtual 54, 3) := by decide +kernel
theorem dRe_gather_62 : decode prog_7_method_2_code 62 = .ok (.iinc 5 (1), 3) := by decide +kernel
theorem dRe_gather_65 : decode prog_7_method_2_code 65 = .ok (.goto (-47), 3) := by decide +kernel
theorem dRe_gather_68 : decode prog_7_method_2_code 68 = .ok (.return_, 1) := by decide +kernel
theorem dRe_keptOf_0 : decode prog_7_method_3_code 0 = .ok (.aload_n 0, 1) := by decide +kernel
theorem dRe_keptOf_1 : decode prog_7_method_3_code 1 = .ok (.getfield 33, 3) := by decide +kernel
theorem dRe_keptOf_4 : decode prog_7_method_3_code 4 = .ok (.astore_n 1, 1) := by decide +kernel
theorem dRe_keptOf_5 : decode prog_7_method_3_code 5 = .ok (.aload_n 1, 1) := by decide +kernel
theorem dRe_keptOf_6 : decode prog_7_method_3_code 6 = .ok (.getfield 47, 3) := by decide +kernel
theorem dRe_keptOf_9 : decode prog_7_method_3_code 9 = .ok (.ifCond .ne (5), 3) := by decide +kernel
theorem dRe_keptOf_12 : decode prog_7_method_3_code 12 = .ok (.lconst 0, 1) := by decide +kernel
theorem dRe_keptOf_13 : decode prog_7_method_3_code 13 = .ok (.lreturn, 1) := by decide +kernel
theorem dRe_keptOf_14 : decode prog_7_method_3_code 14 = .ok (.aload_n 0, 1) := by decide +kernel
theorem dRe_keptOf_15 : decode prog_7_method_3_code 15 = .ok (.getfield 58, 3) := by decide +kernel
theorem dRe_keptOf_18 : decode prog_7_method_3_code 18 = .ok (.aload_n 1, 1) := by decide +kernel
theorem dRe_keptOf_19 : decode prog_7_method_3_code 19 = .ok (.getfield 61, 3) := by decide +kernel
theorem dRe_keptOf_22 : decode prog_7_method_3_code 22 = .ok (.iaload, 1) := by decide +kernel
theorem dRe_keptOf_23 : decode prog_7_method_3_code 23 = .ok (.istore_n 2, 1) := by decide +kernel
theorem dRe_keptOf_24 : decode prog_7_method_3_code 24 = .ok (.iload_n 2, 1) := by decide +kernel
theorem dRe_keptOf_25 : decode prog_7_method_3_code 25 = .ok (.invokestatic 64, 3) := by decide +kernel
theorem dRe_keptOf_28 : decode prog_7_method_3_code 28 = .ok (.lstore_n 3, 1) := by decide +kernel
theorem dRe_keptOf_29 : decode prog_7_method_3_code 29 = .ok (.iload_n 2, 1) := by decide +kernel
theorem dRe_keptOf_30 : decode prog_7_method_3_code 30 = .ok (.istore 5, 2) := by decide +kernel
theorem dRe_keptOf_32 : decode prog_7_method_3_code 32 = .ok (.iload 5, 2) := by decide +kernel
theorem dRe_keptOf_34 : decode prog_7_method_3_code 34 = .ok (.ifCond .lt (57), 3) := by decide +kernel
theorem dRe_keptOf_37 : decode prog_7_method_3_code 37 = .ok (.iconst (0), 1) := by decide +kernel
theorem dRe_keptOf_38 : decode prog_7_method_3_code 38 = .ok (.istore 6, 2) := by decide +kernel
theorem dRe_keptOf_40 : decode prog_7_method_3_code 40 = .ok (.iload 5, 2) := by decide +kernel
theorem dRe_keptOf_42 : decode prog_7_method_3_code 42 = .ok (.lload_n 3, 1) := by decide +kernel
theorem dRe_keptOf_43 : decode prog_7_method_3_code 43 = .ok (.invokestatic 50, 3) := by decide +kernel
theorem dRe_keptOf_46 : decode prog_7_method_3_code 46 = .ok (.ifCond .eq (39), 3) := by decide +kernel
theorem dRe_keptOf_49 : decode prog_7_method_3_code 49 = .ok (.iload 6, 2) := by decide +kernel
theorem dRe_keptOf_51 : decode prog_7_method_3_code 51 = .ok (.aload_n 1, 1) := by decide +kernel
theorem dRe_keptOf_52 : decode prog_7_method_3_code 52 = .ok (.iload 5, 2) := by decide +kernel
theorem dRe_keptOf_54 : decode prog_7_method_3_code 54 = .ok (.invokevirtual 68, 3) := by decide +kernel
theorem dRe_keptOf_57 : decode prog_7_method_3_code 57 = .ok (.if_icmp .ge (28), 3) := by decide +kernel
theorem dRe_keptOf_60 : decode prog_7_method_3_code 60 = .ok (.lload_n 3, 1) := by decide +kernel
theorem dRe_keptOf_61 : decode prog_7_method_3_code 61 = .ok (.aload_n 0, 1) := by decide +kernel
theorem dRe_keptOf_62 : decode prog_7_method_3_code 62 = .ok (.getfield 58, 3) := by decide +kernel
theorem dRe_keptOf_65 : decode prog_7_method_3_code 65 = .ok (.aload_n 1, 1) := by decide +kernel
theorem dRe_keptOf_66 : decode prog_7_method_3_code 66 = .ok (.iload 5, 2) := by decide +kernel
theorem dRe_keptOf_68 : decode prog_7_method_3_code 68 = .ok (.iload 6, 2) := by decide +kernel
theorem dRe_keptOf_70 : decode prog_7_method_3_code 70 = .ok (.invokevirtual 72, 3) := by decide +kernel
theorem dRe_keptOf_73 : decode prog_7_method_3_code 73 = .ok (.iaload, 1) := by decide +kernel
theorem dRe_keptOf_74 : decode prog_7_method_3_code 74 = .ok (.invokestatic 64, 3) := by decide +kernel
theorem dRe_keptOf_77 : decode prog_7_method_3_code 77 = .ok (.lor, 1) := by decide +kernel
theorem dRe_keptOf_78 : decode prog_7_method_3_code 78 = .ok (.lstore_n 3, 1) := by decide +kernel
theorem dRe_keptOf_79 : decode prog_7_method_3_code 79 = .ok (.iinc 6 (1), 3) := by decide +kernel
theorem dRe_keptOf_82 : decode prog_7_method_3_code 82 = .ok (.goto (-42), 3) := by decide +kernel
theorem dRe_keptOf_85 : decode prog_7_method_3_code 85 = .ok (.iinc 5 (-1), 3) := by decide +kernel
theorem dRe_keptOf_88 : decode prog_7_method_3_code 88 = .ok (.goto (-56), 3) := by decide +kernel
theorem dRe_keptOf_91 : decode prog_7_method_3_code 91 = .ok (.lload_n 3, 1) := by decide +kernel
theorem dRe_keptOf_92 : decode prog_7_method_3_code 92 = .ok (.lreturn, 1) := by decide +kernel
theorem dRe_add_0 : decode prog_7_method_4_code 0 = .ok (.aload_n 1, 1) := by decide +kernel
theorem dRe_add_1 : decode prog_7_method_4_code 1 = .ok (.getfield 33, 3) := by decide +kernel
theorem dRe_add_4 : decode prog_7_method_4_code 4 = .ok (.astore_n 3, 1) := by decide +kernel
theorem dRe_add_5 : decode prog_7_method_4_code 5 = .ok (.aload_n 0, 1) := by decide +kernel
theorem dRe_add_6 : decode prog_7_method_4_code 6 = .ok (.getfield 11, 3) := by decide +kernel
theorem dRe_add_9 : decode prog_7_method_4_code 9 = .ok (.aload_n 0, 1) := by decide +kernel
theorem dRe_add_10 : decode prog_7_method_4_code 10 = .ok (.getfield 43, 3) := by decide +kernel
theorem dRe_add_13 : decode prog_7_method_4_code 13 = .ok (.iload_n 2, 1) := by decide +kernel
theorem dRe_add_14 : decode prog_7_method_4_code 14 = .ok (.iastore, 1) := by decide +kernel
theorem dRe_add_15 : decode prog_7_method_4_code 15 = .ok (.aload_n 0, 1) := by decide +kernel
theorem dRe_add_16 : decode prog_7_method_4_code 16 = .ok (.getfield 20, 3) := by decide +kernel
theorem dRe_add_19 : decode prog_7_method_4_code 19 = .ok (.aload_n 0, 1) := by decide +kernel
theorem dRe_add_20 : decode prog_7_method_4_code 20 = .ok (.getfield 43, 3) := by decide +kernel
theorem dRe_add_23 : decode prog_7_method_4_code 23 = .ok (.aload_n 3, 1) := by decide +kernel
theorem dRe_add_24 : decode prog_7_method_4_code 24 = .ok (.iload_n 2, 1) := by decide +kernel
theorem dRe_add_25 : decode prog_7_method_4_code 25 = .ok (.invokevirtual 68, 3) := by decide +kernel
theorem dRe_add_28 : decode prog_7_method_4_code 28 = .ok (.iastore, 1) := by decide +kernel
theorem dRe_add_29 : decode prog_7_method_4_code 29 = .ok (.aload_n 0, 1) := by decide +kernel
theorem dRe_add_30 : decode prog_7_method_4_code 30 = .ok (.getfield 26, 3) := by decide +kernel
theorem dRe_add_33 : decode prog_7_method_4_code 33 = .ok (.aload_n 0, 1) := by decide +kernel
theorem dRe_add_34 : decode prog_7_method_4_code 34 = .ok (.getfield 43, 3) := by decide +kernel
theorem dRe_add_37 : decode prog_7_method_4_code 37 = .ok (.lconst 0, 1) := by decide +kernel
theorem dRe_add_38 : decode prog_7_method_4_code 38 = .ok (.lastore, 1) := by decide +kernel
theorem dRe_add_39 : decode prog_7_method_4_code 39 = .ok (.aload_n 0, 1) := by decide +kernel
theorem dRe_add_40 : decode prog_7_method_4_code 40 = .ok (.getfield 30, 3) := by decide +kernel
theorem dRe_add_43 : decode prog_7_method_4_code 43 = .ok (.aload_n 0, 1) := by decide +kernel
theorem dRe_add_44 : decode prog_7_method_4_code 44 = .ok (.getfield 43, 3) := by decide +kernel
theorem dRe_add_47 : decode prog_7_method_4_code 47 = .ok (.lconst 0, 1) := by decide +kernel
theorem dRe_add_48 : decode prog_7_method_4_code 48 = .ok (.lastore, 1) := by decide +kernel
theorem dRe_add_49 : decode prog_7_method_4_code 49 = .ok (.iconst (0), 1) := by decide +kernel
theorem dRe_add_50 : decode prog_7_method_4_code 50 = .ok (.istore 4, 2) := by decide +kernel
theorem dRe_add_52 : decode prog_7_method_4_code 52 = .ok (.iload 4, 2) := by decide +kernel
theorem dRe_add_54 : decode prog_7_method_4_code 54 = .ok (.aload_n 0, 1) := by decide +kernel
theorem dRe_add_55 : decode prog_7_method_4_code 55 = .ok (.getfield 20, 3) := by decide +kernel
theorem dRe_add_58 : decode prog_7_method_4_code 58 = .ok (.aload_n 0, 1) := by decide +kernel
theorem dRe_add_59 : decode prog_7_method_4_code 59 = .ok (.getfield 43, 3) := by decide +kernel
theorem dRe_add_62 : decode prog_7_method_4_code 62 = .ok (.iaload, 1) := by decide +kernel
theorem dRe_add_63 : decode prog_7_method_4_code 63 = .ok (.if_icmp .ge (78), 3) := by decide +kernel
theorem dRe_add_66 : decode prog_7_method_4_code 66 = .ok (.aload_n 0, 1) := by decide +kernel
theorem dRe_add_67 : decode prog_7_method_4_code 67 = .ok (.getfield 17, 3) := by decide +kernel
theorem dRe_add_70 : decode prog_7_method_4_code 70 = .ok (.aload_n 1, 1) := by decide +kernel
theorem dRe_add_71 : decode prog_7_method_4_code 71 = .ok (.getfield 58, 3) := by decide +kernel
theorem dRe_add_74 : decode prog_7_method_4_code 74 = .ok (.aload_n 3, 1) := by decide +kernel
theorem dRe_add_75 : decode prog_7_method_4_code 75 = .ok (.iload_n 2, 1) := by decide +kernel
theorem dRe_add_76 : decode prog_7_method_4_code 76 = .ok (.iload 4, 2) := by decide +kernel
theorem dRe_add_78 : decode prog_7_method_4_code 78 = .ok (.invokevirtual 72, 3) := by decide +kernel
theorem dRe_add_81 : decode prog_7_method_4_code 81 = .ok (.iaload, 1) := by decide +kernel
theorem dRe_add_82 : decode prog_7_method_4_code 82 = .ok (.iaload, 1) := by decide +kernel
theorem dRe_add_83 : decode prog_7_method_4_code 83 = .ok (.istore 5, 2) := by decide +kernel
theorem dRe_add_85 : decode prog_7_method_4_code 85 = .ok (.aload_n 0, 1) := by decide +kernel
theorem dRe_add_86 : decode prog_7_method_4_code 86 = .ok (.getfield 23, 3) := by decide +kernel
theorem dRe_add_89 : decode prog_7_method_4_code 89 = .ok (.iconst (3), 1) := by decide +kernel
theorem dRe_add_90 : decode prog_7_method_4_code 90 = .ok (.aload_n 0, 1) := by decide +kernel
theorem dRe_add_91 : decode prog_7_method_4_code 91 = .ok (.getfield 43, 3) := by decide +kernel
theorem dRe_add_94 : decode prog_7_method_4_code 94 = .ok (.imul, 1) := by decide +kernel
theorem dRe_add_95 : decode prog_7_method_4_code 95 = .ok (.iload 4, 2) := by decide +kernel
theorem dRe_add_97 : decode prog_7_method_4_code 97 = .ok (.iadd, 1) := by decide +kernel
theorem dRe_add_98 : decode prog_7_method_4_code 98 = .ok (.iload 5, 2) := by decide +kernel
theorem dRe_add_100 : decode prog_7_method_4_code 100 = .ok (.iastore, 1) := by decide +kernel
theorem dRe_add_101 : decode prog_7_method_4_code 101 = .ok (.aload_n 0, 1) := by decide +kernel
theorem dRe_add_102 : decode prog_7_method_4_code 102 = .ok (.getfield 26, 3) := by decide +kernel
theorem dRe_add_105 : decode prog_7_method_4_code 105 = .ok (.aload_n 0, 1) := by decide +kernel
theorem dRe_add_106 : decode prog_7_method_4_code 106 = .ok (.getfield 43, 3) := by decide +kernel
theorem dRe_add_109 : decode prog_7_method_4_code 109 = .ok (.dup2, 1) := by decide +kernel
theorem dRe_add_110 : decode prog_7_method_4_code 110 = .ok (.laload, 1) := by decide +kernel
theorem dRe_add_111 : decode prog_7_method_4_code 111 = .ok (.iload 5, 2) := by decide +kernel
theorem dRe_add_113 : decode prog_7_method_4_code 113 = .ok (.invokestatic 64, 3) := by decide +kernel
theorem dRe_add_116 : decode prog_7_method_4_code 116 = .ok (.lor, 1) := by decide +kernel
theorem dRe_add_117 : decode prog_7_method_4_code 117 = .ok (.lastore, 1) := by decide +kernel
theorem dRe_add_118 : decode prog_7_method_4_code 118 = .ok (.aload_n 0, 1) := by decide +kernel
theorem dRe_add_119 : decode prog_7_method_4_code 119 = .ok (.getfield 30, 3) := by decide +kernel
theorem dRe_add_122 : decode prog_7_method_4_code 122 = .ok (.iload 5, 2) := by decide +kernel
theorem dRe_add_124 : decode prog_7_method_4_code 124 = .ok (.dup2, 1) := by decide +kernel
theorem dRe_add_125 : decode prog_7_method_4_code 125 = .ok (.laload, 1) := by decide +kernel
theorem dRe_add_126 : decode prog_7_method_4_code 126 = .ok (.aload_n 0, 1) := by decide +kernel
theorem dRe_add_127 : decode prog_7_method_4_code 127 = .ok (.getfield 43, 3) := by decide +kernel
theorem dRe_add_130 : decode prog_7_method_4_code 130 = .ok (.invokestatic 64, 3) := by decide +kernel
theorem dRe_add_133 : decode prog_7_method_4_code 133 = .ok (.lor, 1) := by decide +kernel
theorem dRe_add_134 : decode prog_7_method_4_code 134 = .ok (.lastore, 1) := by decide +kernel
theorem dRe_add_135 : decode prog_7_method_4_code 135 = .ok (.iinc 4 (1), 3) := by decide +kernel
theorem dRe_add_138 : decode prog_7_method_4_code 138 = .ok (.goto (-86), 3) := by decide +kernel
theorem dRe_add_141 : decode prog_7_method_4_code 141 = .ok (.aload_n 0, 1) := by decide +kernel
theorem dRe_add_142 : decode prog_7_method_4_code 142 = .ok (.dup, 1) := by decide +kernel
theorem dRe_add_143 : decode prog_7_method_4_code 143 = .ok (.getfield 43, 3) := by decide +kernel
theorem dRe_add_146 : decode prog_7_method_4_code 146 = .ok (.iconst (1), 1) := by decide +kernel
theorem dRe_add_147 : decode prog_7_method_4_code 147 = .ok (.iadd, 1) := by decide +kernel
theorem dRe_add_148 : decode prog_7_method_4_code 148 = .ok (.putfield 43, 3) := by decide +kernel
theorem dRe_add_151 : decode prog_7_method_4_code 151 = .ok (.return_, 1) := by decide +kernel
theorem dX_setWrong_0 : decode prog_1_method_42_code 0 = .ok (.aload_n 0, 1) := by decide +kernel
theorem dX_setWrong_1 : decode prog_1_method_42_code 1 = .ok (.iload_n 1, 1) := by decide +kernel
theorem dX_setWrong_2 : decode prog_1_method_42_code 2 = .ok (.putfield 92, 3) := by decide +kernel
theorem dX_setWrong_5 : decode prog_1_method_42_code 5 = .ok (.aload_n 0, 1) := by decide +kernel
theorem dX_setWrong_6 : decode prog_1_method_42_code 6 = .ok (.aload_n 0, 1) := by decide +kernel
theorem dX_setWrong_7 : decode prog_1_method_42_code 7 = .ok (.getfield 26, 3) := by decide +kernel
theorem dX_setWrong_10 : decode prog_1_method_42_code 10 = .ok (.iload_n 1, 1) := by decide +kernel
theorem dX_setWrong_11 : decode prog_1_method_42_code 11 = .ok (.invokevirtual 217, 3) := by decide +kernel
theorem dX_setWrong_14 : decode prog_1_method_42_code 14 = .ok (.putfield 95, 3) := by decide +kernel
theorem dX_setWrong_17 : decode prog_1_method_42_code 17 = .ok (.aload_n 0, 1) := by decide +kernel
theorem dX_setWrong_18 : decode prog_1_method_42_code 18 = .ok (.getfield 66, 3) := by decide +kernel
theorem dX_setWrong_21 : decode prog_1_method_42_code 21 = .ok (.iconst (0), 1) := by decide +kernel
theorem dX_setWrong_22 : decode prog_1_method_42_code 22 = .ok (.putfield 405, 3) := by decide +kernel
theorem dX_setWrong_25 : decode prog_1_method_42_code 25 = .ok (.return_, 1) := by decide +kernel
theorem dBk_fallenBy_0 : decode prog_3_method_14_code 0 = .ok (.lconst 0, 1) := by decide +kernel
theorem dBk_fallenBy_1 : decode prog_3_method_14_code 1 = .ok (.lstore_n 2, 1) := by decide +kernel
theorem dBk_fallenBy_2 : decode prog_3_method_14_code 2 = .ok (.iconst (0), 1) := by decide +kernel
theorem dBk_fallenBy_3 : decode prog_3_method_14_code 3 = .ok (.istore 4, 2) := by decide +kernel
theorem dBk_fallenBy_5 : decode prog_3_method_14_code 5 = .ok (.iload 4, 2) := by decide +kernel
theorem dBk_fallenBy_7 : decode prog_3_method_14_code 7 = .ok (.aload_n 0, 1) := by decide +kernel
theorem dBk_fallenBy_8 : decode prog_3_method_14_code 8 = .ok (.getfield 62, 3) := by decide +kernel
theorem dBk_fallenBy_11 : decode prog_3_method_14_code 11 = .ok (.if_icmp .ge (90), 3) := by decide +kernel
theorem dBk_fallenBy_14 : decode prog_3_method_14_code 14 = .ok (.iload_n 1, 1) := by decide +kernel
theorem dBk_fallenBy_15 : decode prog_3_method_14_code 15 = .ok (.aload_n 0, 1) := by decide +kernel
theorem dBk_fallenBy_16 : decode prog_3_method_14_code 16 = .ok (.getfield 31, 3) := by decide +kernel
theorem dBk_fallenBy_19 : decode prog_3_method_14_code 19 = .ok (.iload 4, 2) := by decide +kernel
theorem dBk_fallenBy_21 : decode prog_3_method_14_code 21 = .ok (.iaload, 1) := by decide +kernel
theorem dBk_fallenBy_22 : decode prog_3_method_14_code 22 = .ok (.ishr, 1) := by decide +kernel
theorem dBk_fallenBy_23 : decode prog_3_method_14_code 23 = .ok (.iconst (1), 1) := by decide +kernel
theorem dBk_fallenBy_24 : decode prog_3_method_14_code 24 = .ok (.iand, 1) := by decide +kernel
theorem dBk_fallenBy_25 : decode prog_3_method_14_code 25 = .ok (.ifCond .eq (7), 3) := by decide +kernel
theorem dBk_fallenBy_28 : decode prog_3_method_14_code 28 = .ok (.iconst (1), 1) := by decide +kernel
theorem dBk_fallenBy_29 : decode prog_3_method_14_code 29 = .ok (.goto (4), 3) := by decide +kernel
theorem dBk_fallenBy_32 : decode prog_3_method_14_code 32 = .ok (.iconst (0), 1) := by decide +kernel
theorem dBk_fallenBy_33 : decode prog_3_method_14_code 33 = .ok (.istore 5, 2) := by decide +kernel
theorem dBk_fallenBy_35 : decode prog_3_method_14_code 35 = .ok (.iconst (0), 1) := by decide +kernel
theorem dBk_fallenBy_36 : decode prog_3_method_14_code 36 = .ok (.istore 6, 2) := by decide +kernel
theorem dBk_fallenBy_38 : decode prog_3_method_14_code 38 = .ok (.iload 6, 2) := by decide +kernel
theorem dBk_fallenBy_40 : decode prog_3_method_14_code 40 = .ok (.aload_n 0, 1) := by decide +kernel
theorem dBk_fallenBy_41 : decode prog_3_method_14_code 41 = .ok (.iload 4, 2) := by decide +kernel
theorem dBk_fallenBy_43 : decode prog_3_method_14_code 43 = .ok (.invokevirtual 72, 3) := by decide +kernel
theorem dBk_fallenBy_46 : decode prog_3_method_14_code 46 = .ok (.if_icmp .ge (36), 3) := by decide +kernel
theorem dBk_fallenBy_49 : decode prog_3_method_14_code 49 = .ok (.iload 5, 2) := by decide +kernel
theorem dBk_fallenBy_51 : decode prog_3_method_14_code 51 = .ok (.ifCond .ne (18), 3) := by decide +kernel
theorem dBk_fallenBy_54 : decode prog_3_method_14_code 54 = .ok (.aload_n 0, 1) := by decide +kernel
theorem dBk_fallenBy_55 : decode prog_3_method_14_code 55 = .ok (.iload 4, 2) := by decide +kernel
theorem dBk_fallenBy_57 : decode prog_3_method_14_code 57 = .ok (.iload 6, 2) := by decide +kernel
theorem dBk_fallenBy_59 : decode prog_3_method_14_code 59 = .ok (.invokevirtual 76, 3) := by decide +kernel
theorem dBk_fallenBy_62 : decode prog_3_method_14_code 62 = .ok (.lload_n 2, 1) := by decide +kernel
theorem dBk_fallenBy_63 : decode prog_3_method_14_code 63 = .ok (.invokestatic 80, 3) := by decide +kernel
theorem dBk_fallenBy_66 : decode prog_3_method_14_code 66 = .ok (.ifCond .eq (7), 3) := by decide +kernel
theorem dBk_fallenBy_69 : decode prog_3_method_14_code 69 = .ok (.iconst (1), 1) := by decide +kernel
theorem dBk_fallenBy_70 : decode prog_3_method_14_code 70 = .ok (.goto (4), 3) := by decide +kernel
theorem dBk_fallenBy_73 : decode prog_3_method_14_code 73 = .ok (.iconst (0), 1) := by decide +kernel
theorem dBk_fallenBy_74 : decode prog_3_method_14_code 74 = .ok (.istore 5, 2) := by decide +kernel
theorem dBk_fallenBy_76 : decode prog_3_method_14_code 76 = .ok (.iinc 6 (1), 3) := by decide +kernel
theorem dBk_fallenBy_79 : decode prog_3_method_14_code 79 = .ok (.goto (-41), 3) := by decide +kernel
theorem dBk_fallenBy_82 : decode prog_3_method_14_code 82 = .ok (.iload 5, 2) := by decide +kernel
theorem dBk_fallenBy_84 : decode prog_3_method_14_code 84 = .ok (.ifCond .eq (11), 3) := by decide +kernel
theorem dBk_fallenBy_87 : decode prog_3_method_14_code 87 = .ok (.lload_n 2, 1) := by decide +kernel
theorem dBk_fallenBy_88 : decode prog_3_method_14_code 88 = .ok (.iload 4, 2) := by decide +kernel
theorem dBk_fallenBy_90 : decode prog_3_method_14_code 90 = .ok (.invokestatic 68, 3) := by decide +kernel
theorem dBk_fallenBy_93 : decode prog_3_method_14_code 93 = .ok (.lor, 1) := by decide +kernel
theorem dBk_fallenBy_94 : decode prog_3_method_14_code 94 = .ok (.lstore_n 2, 1) := by decide +kernel
theorem dBk_fallenBy_95 : decode prog_3_method_14_code 95 = .ok (.iinc 4 (1), 3) := by decide +kernel
theorem dBk_fallenBy_98 : decode prog_3_method_14_code 98 = .ok (.goto (-93), 3) := by decide +kernel
theorem dBk_fallenBy_101 : decode prog_3_method_14_code 101 = .ok (.lload_n 2, 1) := by decide +kernel
theorem dBk_fallenBy_102 : decode prog_3_method_14_code 102 = .ok (.lreturn, 1) := by decide +kernel
theorem dX_fault_0 : decode prog_1_method_5_code 0 = .ok (.iload_n 1, 1) := by decide +kernel
theorem dX_fault_1 : decode prog_1_method_5_code 1 = .ok (.lookupswitch (37) #[(0, 27), (1, 32)], 27) := by decide +kernel
theorem dX_fault_28 : decode prog_1_method_5_code 28 = .ok (.aload_n 0, 1) := by decide +kernel
theorem dX_fault_29 : decode prog_1_method_5_code 29 = .ok (.getfield 85, 3) := by decide +kernel
theorem dX_fault_32 : decode prog_1_method_5_code 32 = .ok (.ireturn, 1) := by decide +kernel
theorem dX_fault_33 : decode prog_1_method_5_code 33 = .ok (.aload_n 0, 1) := by decide +kernel
theorem dX_fault_34 : decode prog_1_method_5_code 34 = .ok (.getfield 89, 3) := by decide +kernel
theorem dX_fault_37 : decode prog_1_method_5_code 37 = .ok (.ireturn, 1) := by decide +kernel
theorem dX_fault_38 : decode prog_1_method_5_code 38 = .ok (.iconst (-1), 1) := by decide +kernel
theorem dX_fault_39 : decode prog_1_method_5_code 39 = .ok (.ireturn, 1) := by decide +kernel
theorem dX_has_0 : decode prog_1_method_6_code 0 = .ok (.iload_n 1, 1) := by decide +kernel
theorem dX_has_1 : decode prog_1_method_6_code 1 = .ok (.tableswitch (207) (0) (13) #[71, 79, 87, 95, 106, 117, 125, 136, 147, 158, 169, 180, 188, 196], 71) := by decide +kernel
theorem dX_has_72 : decode prog_1_method_6_code 72 = .ok (.aload_n 0, 1) := by decide +kernel
theorem dX_has_73 : decode prog_1_method_6_code 73 = .ok (.getfield 26, 3) := by decide +kernel
theorem dX_has_76 : decode prog_1_method_6_code 76 = .ok (.getfield 133, 3) := by decide +kernel
theorem dX_has_79 : decode prog_1_method_6_code 79 = .ok (.ireturn, 1) := by decide +kernel
theorem dX_has_80 : decode prog_1_method_6_code 80 = .ok (.aload_n 0, 1) := by decide +kernel
theorem dX_has_81 : decode prog_1_method_6_code 81 = .ok (.getfield 26, 3) := by decide +kernel
theorem dX_has_84 : decode prog_1_method_6_code 84 = .ok (.getfield 136, 3) := by decide +kernel
theorem dX_has_87 : decode prog_1_method_6_code 87 = .ok (.ireturn, 1) := by decide +kernel
theorem dX_has_88 : decode prog_1_method_6_code 88 = .ok (.aload_n 0, 1) := by decide +kernel
theorem dX_has_89 : decode prog_1_method_6_code 89 = .ok (.getfield 26, 3) := by decide +kernel
theorem dX_has_92 : decode prog_1_method_6_code 92 = .ok (.getfield 139, 3) := by decide +kernel
theorem dX_has_95 : decode prog_1_method_6_code 95 = .ok (.ireturn, 1) := by decide +kernel
theorem dX_has_96 : decode prog_1_method_6_code 96 = .ok (.aload_n 0, 1) := by decide +kernel
theorem dX_has_97 : decode prog_1_method_6_code 97 = .ok (.getfield 26, 3) := by decide +kernel
theorem dX_has_100 : decode prog_1_method_6_code 100 = .ok (.getfield 142, 3) := by decide +kernel
theorem dX_has_103 : decode prog_1_method_6_code 103 = .ok (.getfield 146, 3) := by decide +kernel
theorem dX_has_106 : decode prog_1_method_6_code 106 = .ok (.ireturn, 1) := by decide +kernel
theorem dX_has_107 : decode prog_1_method_6_code 107 = .ok (.aload_n 0, 1) := by decide +kernel
theorem dX_has_108 : decode prog_1_method_6_code 108 = .ok (.getfield 26, 3) := by decide +kernel
theorem dX_has_111 : decode prog_1_method_6_code 111 = .ok (.getfield 142, 3) := by decide +kernel
theorem dX_has_114 : decode prog_1_method_6_code 114 = .ok (.getfield 151, 3) := by decide +kernel
theorem dX_has_117 : decode prog_1_method_6_code 117 = .ok (.ireturn, 1) := by decide +kernel
theorem dX_has_118 : decode prog_1_method_6_code 118 = .ok (.aload_n 0, 1) := by decide +kernel
theorem dX_has_119 : decode prog_1_method_6_code 119 = .ok (.getfield 26, 3) := by decide +kernel
theorem dX_has_122 : decode prog_1_method_6_code 122 = .ok (.getfield 154, 3) := by decide +kernel
theorem dX_has_125 : decode prog_1_method_6_code 125 = .ok (.ireturn, 1) := by decide +kernel
theorem dX_has_126 : decode prog_1_method_6_code 126 = .ok (.aload_n 0, 1) := by decide +kernel
theorem dX_has_127 : decode prog_1_method_6_code 127 = .ok (.getfield 38, 3) := by decide +kernel
theorem dX_has_130 : decode prog_1_method_6_code 130 = .ok (.getfield 157, 3) := by decide +kernel
theorem dX_has_133 : decode prog_1_method_6_code 133 = .ok (.invokestatic 160, 3) := by decide +kernel
theorem dX_has_136 : decode prog_1_method_6_code 136 = .ok (.ireturn, 1) := by decide +kernel
theorem dX_has_137 : decode prog_1_method_6_code 137 = .ok (.aload_n 0, 1) := by decide +kernel
theorem dX_has_138 : decode prog_1_method_6_code 138 = .ok (.getfield 38, 3) := by decide +kernel
theorem dX_has_141 : decode prog_1_method_6_code 141 = .ok (.getfield 166, 3) := by decide +kernel
theorem dX_has_144 : decode prog_1_method_6_code 144 = .ok (.invokestatic 160, 3) := by decide +kernel
theorem dX_has_147 : decode prog_1_method_6_code 147 = .ok (.ireturn, 1) := by decide +kernel
theorem dX_has_148 : decode prog_1_method_6_code 148 = .ok (.aload_n 0, 1) := by decide +kernel
theorem dX_has_149 : decode prog_1_method_6_code 149 = .ok (.getfield 38, 3) := by decide +kernel
theorem dX_has_152 : decode prog_1_method_6_code 152 = .ok (.getfield 169, 3) := by decide +kernel
theorem dX_has_155 : decode prog_1_method_6_code 155 = .ok (.invokestatic 160, 3) := by decide +kernel
theorem dX_has_158 : decode prog_1_method_6_code 158 = .ok (.ireturn, 1) := by decide +kernel
theorem dX_has_159 : decode prog_1_method_6_code 159 = .ok (.aload_n 0, 1) := by decide +kernel
theorem dX_has_160 : decode prog_1_method_6_code 160 = .ok (.getfield 38, 3) := by decide +kernel
theorem dX_has_163 : decode prog_1_method_6_code 163 = .ok (.getfield 172, 3) := by decide +kernel
theorem dX_has_166 : decode prog_1_method_6_code 166 = .ok (.invokestatic 160, 3) := by decide +kernel
theorem dX_has_169 : decode prog_1_method_6_code 169 = .ok (.ireturn, 1) := by decide +kernel
theorem dX_has_170 : decode prog_1_method_6_code 170 = .ok (.aload_n 0, 1) := by decide +kernel
theorem dX_has_171 : decode prog_1_method_6_code 171 = .ok (.getfield 38, 3) := by decide +kernel
theorem dX_has_174 : decode prog_1_method_6_code 174 = .ok (.getfield 175, 3) := by decide +kernel
theorem dX_has_177 : decode prog_1_method_6_code 177 = .ok (.getfield 179, 3) := by decide +kernel
theorem dX_has_180 : decode prog_1_method_6_code 180 = .ok (.ireturn, 1) := by decide +kernel
theorem dX_has_181 : decode prog_1_method_6_code 181 = .ok (.aload_n 0, 1) := by decide +kernel
theorem dX_has_182 : decode prog_1_method_6_code 182 = .ok (.getfield 92, 3) := by decide +kernel
theorem dX_has_185 : decode prog_1_method_6_code 185 = .ok (.invokestatic 182, 3) := by decide +kernel
theorem dX_has_188 : decode prog_1_method_6_code 188 = .ok (.ireturn, 1) := by decide +kernel
theorem dX_has_189 : decode prog_1_method_6_code 189 = .ok (.aload_n 0, 1) := by decide +kernel
theorem dX_has_190 : decode prog_1_method_6_code 190 = .ok (.getfield 95, 3) := by decide +kernel
theorem dX_has_193 : decode prog_1_method_6_code 193 = .ok (.invokestatic 160, 3) := by decide +kernel
theorem dX_has_196 : decode prog_1_method_6_code 196 = .ok (.ireturn, 1) := by decide +kernel
theorem dX_has_197 : decode prog_1_method_6_code 197 = .ok (.aload_n 0, 1) := by decide +kernel
theorem dX_has_198 : decode prog_1_method_6_code 198 = .ok (.getfield 73, 3) := by decide +kernel
theorem dX_has_201 : decode prog_1_method_6_code 201 = .ok (.getfield 127, 3) := by decide +kernel
theorem dX_has_204 : decode prog_1_method_6_code 204 = .ok (.invokestatic 182, 3) := by decide +kernel
theorem dX_has_207 : decode prog_1_method_6_code 207 = .ok (.ireturn, 1) := by decide +kernel
theorem dX_has_208 : decode prog_1_method_6_code 208 = .ok (.iconst (-1), 1) := by decide +kernel
theorem dX_has_209 : decode prog_1_method_6_code 209 = .ok (.ireturn, 1) := by decide +kernel
theorem dLg_bitCount_0 : decode prog_16_method_50_code 0 = .ok (.lload_n 0, 1) := by decide +kernel
theorem dLg_bitCount_1 : decode prog_16_method_50_code 1 = .ok (.lload_n 0, 1) := by decide +kernel
theorem dLg_bitCount_2 : decode prog_16_method_50_code 2 = .ok (.iconst (1), 1) := by decide +kernel
theorem dLg_bitCount_3 : decode prog_16_method_50_code 3 = .ok (.lushr, 1) := by decide +kernel
theorem dLg_bitCount_4 : decode prog_16_method_50_code 4 = .ok (.ldc2_w 314, 3) := by decide +kernel
theorem dLg_bitCount_7 : decode prog_16_method_50_code 7 = .ok (.land, 1) := by decide +kernel
theorem dLg_bitCount_8 : decode prog_16_method_50_code 8 = .ok (.lsub, 1) := by decide +kernel
theorem dLg_bitCount_9 : decode prog_16_method_50_code 9 = .ok (.lstore_n 0, 1) := by decide +kernel
theorem dLg_bitCount_10 : decode prog_16_method_50_code 10 = .ok (.lload_n 0, 1) := by decide +kernel
theorem dLg_bitCount_11 : decode prog_16_method_50_code 11 = .ok (.ldc2_w 316, 3) := by decide +kernel
theorem dLg_bitCount_14 : decode prog_16_method_50_code 14 = .ok (.land, 1) := by decide +kernel
theorem dLg_bitCount_15 : decode prog_16_method_50_code 15 = .ok (.lload_n 0, 1) := by decide +kernel
theorem dLg_bitCount_16 : decode prog_16_method_50_code 16 = .ok (.iconst (2), 1) := by decide +kernel
theorem dLg_bitCount_17 : decode prog_16_method_50_code 17 = .ok (.lushr, 1) := by decide +kernel
theorem dLg_bitCount_18 : decode prog_16_method_50_code 18 = .ok (.ldc2_w 316, 3) := by decide +kernel
theorem dLg_bitCount_21 : decode prog_16_method_50_code 21 = .ok (.land, 1) := by decide +kernel
theorem dLg_bitCount_22 : decode prog_16_method_50_code 22 = .ok (.ladd, 1) := by decide +kernel
theorem dLg_bitCount_23 : decode prog_16_method_50_code 23 = .ok (.lstore_n 0, 1) := by decide +kernel
theorem dLg_bitCount_24 : decode prog_16_method_50_code 24 = .ok (.lload_n 0, 1) := by decide +kernel
theorem dLg_bitCount_25 : decode prog_16_method_50_code 25 = .ok (.lload_n 0, 1) := by decide +kernel
theorem dLg_bitCount_26 : decode prog_16_method_50_code 26 = .ok (.iconst (4), 1) := by decide +kernel
theorem dLg_bitCount_27 : decode prog_16_method_50_code 27 = .ok (.lushr, 1) := by decide +kernel
theorem dLg_bitCount_28 : decode prog_16_method_50_code 28 = .ok (.ladd, 1) := by decide +kernel
theorem dLg_bitCount_29 : decode prog_16_method_50_code 29 = .ok (.ldc2_w 318, 3) := by decide +kernel
theorem dLg_bitCount_32 : decode prog_16_method_50_code 32 = .ok (.land, 1) := by decide +kernel
theorem dLg_bitCount_33 : decode prog_16_method_50_code 33 = .ok (.lstore_n 0, 1) := by decide +kernel
theorem dLg_bitCount_34 : decode prog_16_method_50_code 34 = .ok (.lload_n 0, 1) := by decide +kernel
theorem dLg_bitCount_35 : decode prog_16_method_50_code 35 = .ok (.lload_n 0, 1) := by decide +kernel
theorem dLg_bitCount_36 : decode prog_16_method_50_code 36 = .ok (.bipush (8), 2) := by decide +kernel
theorem dLg_bitCount_38 : decode prog_16_method_50_code 38 = .ok (.lushr, 1) := by decide +kernel
theorem dLg_bitCount_39 : decode prog_16_method_50_code 39 = .ok (.ladd, 1) := by decide +kernel
theorem dLg_bitCount_40 : decode prog_16_method_50_code 40 = .ok (.lstore_n 0, 1) := by decide +kernel
theorem dLg_bitCount_41 : decode prog_16_method_50_code 41 = .ok (.lload_n 0, 1) := by decide +kernel
theorem dLg_bitCount_42 : decode prog_16_method_50_code 42 = .ok (.lload_n 0, 1) := by decide +kernel
theorem dLg_bitCount_43 : decode prog_16_method_50_code 43 = .ok (.bipush (16), 2) := by decide +kernel
theorem dLg_bitCount_45 : decode prog_16_method_50_code 45 = .ok (.lushr, 1) := by decide +kernel
theorem dLg_bitCount_46 : decode prog_16_method_50_code 46 = .ok (.ladd, 1) := by decide +kernel
theorem dLg_bitCount_47 : decode prog_16_method_50_code 47 = .ok (.lstore_n 0, 1) := by decide +kernel
theorem dLg_bitCount_48 : decode prog_16_method_50_code 48 = .ok (.lload_n 0, 1) := by decide +kernel
theorem dLg_bitCount_49 : decode prog_16_method_50_code 49 = .ok (.lload_n 0, 1) := by decide +kernel
theorem dLg_bitCount_50 : decode prog_16_method_50_code 50 = .ok (.bipush (32), 2) := by decide +kernel
theorem dLg_bitCount_52 : decode prog_16_method_50_code 52 = .ok (.lushr, 1) := by decide +kernel
theorem dLg_bitCount_53 : decode prog_16_method_50_code 53 = .ok (.ladd, 1) := by decide +kernel
theorem dLg_bitCount_54 : decode prog_16_method_50_code 54 = .ok (.lstore_n 0, 1) := by decide +kernel
theorem dLg_bitCount_55 : decode prog_16_method_50_code 55 = .ok (.lload_n 0, 1) := by decide +kernel
theorem dLg_bitCount_56 : decode prog_16_method_50_code 56 = .ok (.l2i, 1) := by decide +kernel
theorem dLg_bitCount_57 : decode prog_16_method_50_code 57 = .ok (.bipush (127), 2) := by decide +kernel
theorem dLg_bitCount_59 : decode prog_16_method_50_code 59 = .ok (.iand, 1) := by decide +kernel
theorem dLg_bitCount_60 : decode prog_16_method_50_code 60 = .ok (.ireturn, 1) := by decide +kernel
theorem dIg_bitCount_0 : decode prog_15_method_49_code 0 = .ok (.iload_n 0, 1) := by decide +kernel
theorem dIg_bitCount_1 : decode prog_15_method_49_code 1 = .ok (.iload_n 0, 1) := by decide +kernel
theorem dIg_bitCount_2 : decode prog_15_method_49_code 2 = .ok (.iconst (1), 1) := by decide +kernel
theorem dIg_bitCount_3 : decode prog_15_method_49_code 3 = .ok (.iushr, 1) := by decide +kernel
theorem dIg_bitCount_4 : decode prog_15_method_49_code 4 = .ok (.ldc_w 265, 3) := by decide +kernel
theorem dIg_bitCount_7 : decode prog_15_method_49_code 7 = .ok (.iand, 1) := by decide +kernel
theorem dIg_bitCount_8 : decode prog_15_method_49_code 8 = .ok (.isub, 1) := by decide +kernel
theorem dIg_bitCount_9 : decode prog_15_method_49_code 9 = .ok (.istore_n 0, 1) := by decide +kernel
theorem dIg_bitCount_10 : decode prog_15_method_49_code 10 = .ok (.iload_n 0, 1) := by decide +kernel
theorem dIg_bitCount_11 : decode prog_15_method_49_code 11 = .ok (.ldc_w 266, 3) := by decide +kernel
theorem dIg_bitCount_14 : decode prog_15_method_49_code 14 = .ok (.iand, 1) := by decide +kernel
theorem dIg_bitCount_15 : decode prog_15_method_49_code 15 = .ok (.iload_n 0, 1) := by decide +kernel
theorem dIg_bitCount_16 : decode prog_15_method_49_code 16 = .ok (.iconst (2), 1) := by decide +kernel
theorem dIg_bitCount_17 : decode prog_15_method_49_code 17 = .ok (.iushr, 1) := by decide +kernel
theorem dIg_bitCount_18 : decode prog_15_method_49_code 18 = .ok (.ldc_w 266, 3) := by decide +kernel
theorem dIg_bitCount_21 : decode prog_15_method_49_code 21 = .ok (.iand, 1) := by decide +kernel
theorem dIg_bitCount_22 : decode prog_15_method_49_code 22 = .ok (.iadd, 1) := by decide +kernel
theorem dIg_bitCount_23 : decode prog_15_method_49_code 23 = .ok (.istore_n 0, 1) := by decide +kernel
theorem dIg_bitCount_24 : decode prog_15_method_49_code 24 = .ok (.iload_n 0, 1) := by decide +kernel
theorem dIg_bitCount_25 : decode prog_15_method_49_code 25 = .ok (.iload_n 0, 1) := by decide +kernel
theorem dIg_bitCount_26 : decode prog_15_method_49_code 26 = .ok (.iconst (4), 1) := by decide +kernel
theorem dIg_bitCount_27 : decode prog_15_method_49_code 27 = .ok (.iushr, 1) := by decide +kernel
theorem dIg_bitCount_28 : decode prog_15_method_49_code 28 = .ok (.iadd, 1) := by decide +kernel
theorem dIg_bitCount_29 : decode prog_15_method_49_code 29 = .ok (.ldc_w 267, 3) := by decide +kernel
theorem dIg_bitCount_32 : decode prog_15_method_49_code 32 = .ok (.iand, 1) := by decide +kernel
theorem dIg_bitCount_33 : decode prog_15_method_49_code 33 = .ok (.istore_n 0, 1) := by decide +kernel
theorem dIg_bitCount_34 : decode prog_15_method_49_code 34 = .ok (.iload_n 0, 1) := by decide +kernel
theorem dIg_bitCount_35 : decode prog_15_method_49_code 35 = .ok (.iload_n 0, 1) := by decide +kernel
theorem dIg_bitCount_36 : decode prog_15_method_49_code 36 = .ok (.bipush (8), 2) := by decide +kernel
theorem dIg_bitCount_38 : decode prog_15_method_49_code 38 = .ok (.iushr, 1) := by decide +kernel
theorem dIg_bitCount_39 : decode prog_15_method_49_code 39 = .ok (.iadd, 1) := by decide +kernel
theorem dIg_bitCount_40 : decode prog_15_method_49_code 40 = .ok (.istore_n 0, 1) := by decide +kernel
theorem dIg_bitCount_41 : decode prog_15_method_49_code 41 = .ok (.iload_n 0, 1) := by decide +kernel
theorem dIg_bitCount_42 : decode prog_15_method_49_code 42 = .ok (.iload_n 0, 1) := by decide +kernel
theorem dIg_bitCount_43 : decode prog_15_method_49_code 43 = .ok (.bipush (16), 2) := by decide +kernel
theorem dIg_bitCount_45 : decode prog_15_method_49_code 45 = .ok (.iushr, 1) := by decide +kernel
theorem dIg_bitCount_46 : decode prog_15_method_49_code 46 = .ok (.iadd, 1) := by decide +kernel
theorem dIg_bitCount_47 : decode prog_15_method_49_code 47 = .ok (.istore_n 0, 1) := by decide +kernel
theorem dIg_bitCount_48 : decode prog_15_method_49_code 48 = .ok (.iload_n 0, 1) := by decide +kernel
theorem dIg_bitCount_49 : decode prog_15_method_49_code 49 = .ok (.bipush (63), 2) := by decide +kernel
theorem dIg_bitCount_51 : decode prog_15_method_49_code 51 = .ok (.iand, 1) := by decide +kernel
theorem dIg_bitCount_52 : decode prog_15_method_49_code 52 = .ok (.ireturn, 1) := by decide +kernel
theorem dX_letter_0 : decode prog_1_method_7_code 0 = .ok (.iload_n 3, 1) := by decide +kernel
theorem dX_letter_1 : decode prog_1_method_7_code 1 = .ok (.ifCond .lt (13), 3) := by decide +kernel
theorem dX_letter_4 : decode prog_1_method_7_code 4 = .ok (.iload_n 3, 1) := by decide +kernel
theorem dX_letter_5 : decode prog_1_method_7_code 5 = .ok (.bipush (6), 2) := by decide +kernel
theorem dX_letter_7 : decode prog_1_method_7_code 7 = .ok (.if_icmp .ge (7), 3) := by decide +kernel
theorem dX_letter_10 : decode prog_1_method_7_code 10 = .ok (.iload_n 2, 1) := by decide +kernel
theorem dX_letter_11 : decode prog_1_method_7_code 11 = .ok (.ifCond .ge (5), 3) := by decide +kernel
theorem dX_letter_14 : decode prog_1_method_7_code 14 = .ok (.iconst (-1), 1) := by decide +kernel
theorem dX_letter_15 : decode prog_1_method_7_code 15 = .ok (.ireturn, 1) := by decide +kernel
theorem dX_letter_16 : decode prog_1_method_7_code 16 = .ok (.iload_n 1, 1) := by decide +kernel
theorem dX_letter_17 : decode prog_1_method_7_code 17 = .ok (.tableswitch (159) (0) (3) #[31, 60, 89, 124], 31) := by decide +kernel
theorem dX_letter_48 : decode prog_1_method_7_code 48 = .ok (.iload_n 2, 1) := by decide +kernel
theorem dX_letter_49 : decode prog_1_method_7_code 49 = .ok (.aload_n 0, 1) := by decide +kernel
theorem dX_letter_50 : decode prog_1_method_7_code 50 = .ok (.getfield 26, 3) := by decide +kernel
theorem dX_letter_53 : decode prog_1_method_7_code 53 = .ok (.getfield 133, 3) := by decide +kernel
theorem dX_letter_56 : decode prog_1_method_7_code 56 = .ok (.if_icmp .ge (19), 3) := by decide +kernel
theorem dX_letter_59 : decode prog_1_method_7_code 59 = .ok (.aload_n 0, 1) := by decide +kernel
theorem dX_letter_60 : decode prog_1_method_7_code 60 = .ok (.getfield 26, 3) := by decide +kernel
theorem dX_letter_63 : decode prog_1_method_7_code 63 = .ok (.getfield 187, 3) := by decide +kernel
theorem dX_letter_66 : decode prog_1_method_7_code 66 = .ok (.iload_n 2, 1) := by decide +kernel
theorem dX_letter_67 : decode prog_1_method_7_code 67 = .ok (.iaload, 1) := by decide +kernel
theorem dX_letter_68 : decode prog_1_method_7_code 68 = .ok (.iload_n 3, 1) := by decide +kernel
theorem dX_letter_69 : decode prog_1_method_7_code 69 = .ok (.invokestatic 190, 3) := by decide +kernel
theorem dX_letter_72 : decode prog_1_method_7_code 72 = .ok (.goto (4), 3) := by decide +kernel
theorem dX_letter_75 : decode prog_1_method_7_code 75 = .ok (.iconst (-1), 1) := by decide +kernel
theorem dX_letter_76 : decode prog_1_method_7_code 76 = .ok (.ireturn, 1) := by decide +kernel
theorem dX_letter_77 : decode prog_1_method_7_code 77 = .ok (.iload_n 2, 1) := by decide +kernel
theorem dX_letter_78 : decode prog_1_method_7_code 78 = .ok (.aload_n 0, 1) := by decide +kernel
theorem dX_letter_79 : decode prog_1_method_7_code 79 = .ok (.getfield 26, 3) := by decide +kernel
theorem dX_letter_82 : decode prog_1_method_7_code 82 = .ok (.getfield 139, 3) := by decide +kernel
theorem dX_letter_85 : decode prog_1_method_7_code 85 = .ok (.if_icmp .ge (19), 3) := by decide +kernel
theorem dX_letter_88 : decode prog_1_method_7_code 88 = .ok (.aload_n 0, 1) := by decide +kernel
theorem dX_letter_89 : decode prog_1_method_7_code 89 = .ok (.getfield 26, 3) := by decide +kernel
theorem dX_letter_92 : decode prog_1_method_7_code 92 = .ok (.getfield 194, 3) := by decide +kernel
theorem dX_letter_95 : decode prog_1_method_7_code 95 = .ok (.iload_n 2, 1) := by decide +kernel
theorem dX_letter_96 : decode prog_1_method_7_code 96 = .ok (.iaload, 1) := by decide +kernel
theorem dX_letter_97 : decode prog_1_method_7_code 97 = .ok (.iload_n 3, 1) := by decide +kernel
theorem dX_letter_98 : decode prog_1_method_7_code 98 = .ok (.invokestatic 190, 3) := by decide +kernel
theorem dX_letter_101 : decode prog_1_method_7_code 101 = .ok (.goto (4), 3) := by decide +kernel
theorem dX_letter_104 : decode prog_1_method_7_code 104 = .ok (.iconst (-1), 1) := by decide +kernel
theorem dX_letter_105 : decode prog_1_method_7_code 105 = .ok (.ireturn, 1) := by decide +kernel
theorem dX_letter_106 : decode prog_1_method_7_code 106 = .ok (.iload_n 2, 1) := by decide +kernel
theorem dX_letter_107 : decode prog_1_method_7_code 107 = .ok (.aload_n 0, 1) := by decide +kernel
theorem dX_letter_108 : decode prog_1_method_7_code 108 = .ok (.getfield 26, 3) := by decide +kernel
theorem dX_letter_111 : decode prog_1_method_7_code 111 = .ok (.getfield 142, 3) := by decide +kernel
theorem dX_letter_114 : decode prog_1_method_7_code 114 = .ok (.getfield 146, 3) := by decide +kernel
theorem dX_letter_117 : decode prog_1_method_7_code 117 = .ok (.if_icmp .ge (22), 3) := by decide +kernel
theorem dX_letter_120 : decode prog_1_method_7_code 120 = .ok (.aload_n 0, 1) := by decide +kernel
theorem dX_letter_121 : decode prog_1_method_7_code 121 = .ok (.getfield 26, 3) := by decide +kernel
theorem dX_letter_124 : decode prog_1_method_7_code 124 = .ok (.getfield 142, 3) := by decide +kernel
theorem dX_letter_127 : decode prog_1_method_7_code 127 = .ok (.getfield 197, 3) := by decide +kernel
theorem dX_letter_130 : decode prog_1_method_7_code 130 = .ok (.iload_n 2, 1) := by decide +kernel
theorem dX_letter_131 : decode prog_1_method_7_code 131 = .ok (.iaload, 1) := by decide +kernel
theorem dX_letter_132 : decode prog_1_method_7_code 132 = .ok (.iload_n 3, 1) := by decide +kernel
theorem dX_letter_133 : decode prog_1_method_7_code 133 = .ok (.invokestatic 190, 3) := by decide +kernel
theorem dX_letter_136 : decode prog_1_method_7_code 136 = .ok (.goto (4), 3) := by decide +kernel
theorem dX_letter_139 : decode prog_1_method_7_code 139 = .ok (.iconst (-1), 1) := by decide +kernel
theorem dX_letter_140 : decode prog_1_method_7_code 140 = .ok (.ireturn, 1) := by decide +kernel
theorem dX_letter_141 : decode prog_1_method_7_code 141 = .ok (.iload_n 2, 1) := by decide +kernel
theorem dX_letter_142 : decode prog_1_method_7_code 142 = .ok (.aload_n 0, 1) := by decide +kernel
theorem dX_letter_143 : decode prog_1_method_7_code 143 = .ok (.getfield 26, 3) := by decide +kernel
theorem dX_letter_146 : decode prog_1_method_7_code 146 = .ok (.getfield 142, 3) := by decide +kernel
theorem dX_letter_149 : decode prog_1_method_7_code 149 = .ok (.getfield 151, 3) := by decide +kernel
theorem dX_letter_152 : decode prog_1_method_7_code 152 = .ok (.if_icmp .ge (22), 3) := by decide +kernel
theorem dX_letter_155 : decode prog_1_method_7_code 155 = .ok (.aload_n 0, 1) := by decide +kernel
theorem dX_letter_156 : decode prog_1_method_7_code 156 = .ok (.getfield 26, 3) := by decide +kernel
theorem dX_letter_159 : decode prog_1_method_7_code 159 = .ok (.getfield 142, 3) := by decide +kernel
theorem dX_letter_162 : decode prog_1_method_7_code 162 = .ok (.getfield 200, 3) := by decide +kernel
theorem dX_letter_165 : decode prog_1_method_7_code 165 = .ok (.iload_n 2, 1) := by decide +kernel
theorem dX_letter_166 : decode prog_1_method_7_code 166 = .ok (.iaload, 1) := by decide +kernel
theorem dX_letter_167 : decode prog_1_method_7_code 167 = .ok (.iload_n 3, 1) := by decide +kernel
theorem dX_letter_168 : decode prog_1_method_7_code 168 = .ok (.invokestatic 190, 3) := by decide +kernel
theorem dX_letter_171 : decode prog_1_method_7_code 171 = .ok (.goto (4), 3) := by decide +kernel
theorem dX_letter_174 : decode prog_1_method_7_code 174 = .ok (.iconst (-1), 1) := by decide +kernel
theorem dX_letter_175 : decode prog_1_method_7_code 175 = .ok (.ireturn, 1) := by decide +kernel
theorem dX_letter_176 : decode prog_1_method_7_code 176 = .ok (.iconst (-1), 1) := by decide +kernel
theorem dX_letter_177 : decode prog_1_method_7_code 177 = .ok (.ireturn, 1) := by decide +kernel
theorem dX_letterOf_0 : decode prog_1_method_47_code 0 = .ok (.iload_n 0, 1) := by decide +kernel
theorem dX_letterOf_1 : decode prog_1_method_47_code 1 = .ok (.iconst (5), 1) := by decide +kernel
theorem dX_letterOf_2 : decode prog_1_method_47_code 2 = .ok (.iconst (5), 1) := by decide +kernel
theorem dX_letterOf_3 : decode prog_1_method_47_code 3 = .ok (.iload_n 1, 1) := by decide +kernel
theorem dX_letterOf_4 : decode prog_1_method_47_code 4 = .ok (.isub, 1) := by decide +kernel
theorem dX_letterOf_5 : decode prog_1_method_47_code 5 = .ok (.imul, 1) := by decide +kernel
theorem dX_letterOf_6 : decode prog_1_method_47_code 6 = .ok (.ishr, 1) := by decide +kernel
theorem dX_letterOf_7 : decode prog_1_method_47_code 7 = .ok (.bipush (31), 2) := by decide +kernel
theorem dX_letterOf_9 : decode prog_1_method_47_code 9 = .ok (.iand, 1) := by decide +kernel
theorem dX_letterOf_10 : decode prog_1_method_47_code 10 = .ok (.ireturn, 1) := by decide +kernel
theorem dX_rule_0 : decode prog_1_method_8_code 0 = .ok (.aload_n 0, 1) := by decide +kernel
theorem dX_rule_1 : decode prog_1_method_8_code 1 = .ok (.getfield 26, 3) := by decide +kernel
theorem dX_rule_4 : decode prog_1_method_8_code 4 = .ok (.iload_n 1, 1) := by decide +kernel
theorem dX_rule_5 : decode prog_1_method_8_code 5 = .ok (.invokevirtual 203, 3) := by decide +kernel
theorem dX_rule_8 : decode prog_1_method_8_code 8 = .ok (.ifCond .ne (5), 3) := by decide +kernel
theorem dX_rule_11 : decode prog_1_method_8_code 11 = .ok (.iconst (-1), 1) := by decide +kernel
theorem dX_rule_12 : decode prog_1_method_8_code 12 = .ok (.ireturn, 1) := by decide +kernel
theorem dX_rule_13 : decode prog_1_method_8_code 13 = .ok (.iload_n 2, 1) := by decide +kernel
theorem dX_rule_14 : decode prog_1_method_8_code 14 = .ok (.tableswitch (83) (0) (3) #[30, 40, 49, 69], 30) := by decide +kernel
theorem dX_rule_44 : decode prog_1_method_8_code 44 = .ok (.aload_n 0, 1) := by decide +kernel
theorem dX_rule_45 : decode prog_1_method_8_code 45 = .ok (.getfield 26, 3) := by decide +kernel
theorem dX_rule_48 : decode prog_1_method_8_code 48 = .ok (.getfield 207, 3) := by decide +kernel
theorem dX_rule_51 : decode prog_1_method_8_code 51 = .ok (.iload_n 1, 1) := by decide +kernel
theorem dX_rule_52 : decode prog_1_method_8_code 52 = .ok (.iaload, 1) := by decide +kernel
theorem dX_rule_53 : decode prog_1_method_8_code 53 = .ok (.ireturn, 1) := by decide +kernel
theorem dX_rule_54 : decode prog_1_method_8_code 54 = .ok (.aload_n 0, 1) := by decide +kernel
theorem dX_rule_55 : decode prog_1_method_8_code 55 = .ok (.getfield 26, 3) := by decide +kernel
theorem dX_rule_58 : decode prog_1_method_8_code 58 = .ok (.iload_n 1, 1) := by decide +kernel
theorem dX_rule_59 : decode prog_1_method_8_code 59 = .ok (.invokevirtual 210, 3) := by decide +kernel
theorem dX_rule_62 : decode prog_1_method_8_code 62 = .ok (.ireturn, 1) := by decide +kernel
theorem dX_rule_63 : decode prog_1_method_8_code 63 = .ok (.aload_n 0, 1) := by decide +kernel
theorem dX_rule_64 : decode prog_1_method_8_code 64 = .ok (.getfield 92, 3) := by decide +kernel
theorem dX_rule_67 : decode prog_1_method_8_code 67 = .ok (.iload_n 1, 1) := by decide +kernel
theorem dX_rule_68 : decode prog_1_method_8_code 68 = .ok (.ishr, 1) := by decide +kernel
theorem dX_rule_69 : decode prog_1_method_8_code 69 = .ok (.iconst (1), 1) := by decide +kernel
theorem dX_rule_70 : decode prog_1_method_8_code 70 = .ok (.iand, 1) := by decide +kernel
theorem dX_rule_71 : decode prog_1_method_8_code 71 = .ok (.ifCond .eq (7), 3) := by decide +kernel
theorem dX_rule_74 : decode prog_1_method_8_code 74 = .ok (.iconst (1), 1) := by decide +kernel
theorem dX_rule_75 : decode prog_1_method_8_code 75 = .ok (.goto (4), 3) := by decide +kernel
theorem dX_rule_78 : decode prog_1_method_8_code 78 = .ok (.iconst (0), 1) := by decide +kernel
theorem dX_rule_79 : decode prog_1_method_8_code 79 = .ok (.invokestatic 213, 3) := by decide +kernel
theorem dX_rule_82 : decode prog_1_method_8_code 82 = .ok (.ireturn, 1) := by decide +kernel
theorem dX_rule_83 : decode prog_1_method_8_code 83 = .ok (.aload_n 0, 1) := by decide +kernel
theorem dX_rule_84 : decode prog_1_method_8_code 84 = .ok (.getfield 26, 3) := by decide +kernel
theorem dX_rule_87 : decode prog_1_method_8_code 87 = .ok (.iconst (1), 1) := by decide +kernel
theorem dX_rule_88 : decode prog_1_method_8_code 88 = .ok (.iload_n 1, 1) := by decide +kernel
theorem dX_rule_89 : decode prog_1_method_8_code 89 = .ok (.ishl, 1) := by decide +kernel
theorem dX_rule_90 : decode prog_1_method_8_code 90 = .ok (.invokevirtual 217, 3) := by decide +kernel
theorem dX_rule_93 : decode prog_1_method_8_code 93 = .ok (.invokestatic 160, 3) := by decide +kernel
theorem dX_rule_96 : decode prog_1_method_8_code 96 = .ok (.ireturn, 1) := by decide +kernel
theorem dX_rule_97 : decode prog_1_method_8_code 97 = .ok (.iconst (-1), 1) := by decide +kernel
theorem dX_rule_98 : decode prog_1_method_8_code 98 = .ok (.ireturn, 1) := by decide +kernel
theorem dBk_hasRule_0 : decode prog_3_method_6_code 0 = .ok (.iload_n 1, 1) := by decide +kernel
theorem dBk_hasRule_1 : decode prog_3_method_6_code 1 = .ok (.ifCond .lt (15), 3) := by decide +kernel
theorem dBk_hasRule_4 : decode prog_3_method_6_code 4 = .ok (.iload_n 1, 1) := by decide +kernel
theorem dBk_hasRule_5 : decode prog_3_method_6_code 5 = .ok (.aload_n 0, 1) := by decide +kernel
theorem dBk_hasRule_6 : decode prog_3_method_6_code 6 = .ok (.getfield 59, 3) := by decide +kernel
theorem dBk_hasRule_9 : decode prog_3_method_6_code 9 = .ok (.if_icmp .ge (7), 3) := by decide +kernel
theorem dBk_hasRule_12 : decode prog_3_method_6_code 12 = .ok (.iconst (1), 1) := by decide +kernel
theorem dBk_hasRule_13 : decode prog_3_method_6_code 13 = .ok (.goto (4), 3) := by decide +kernel
theorem dBk_hasRule_16 : decode prog_3_method_6_code 16 = .ok (.iconst (0), 1) := by decide +kernel
theorem dBk_hasRule_17 : decode prog_3_method_6_code 17 = .ok (.ireturn, 1) := by decide +kernel
theorem dBk_stepsBy_0 : decode prog_3_method_13_code 0 = .ok (.iconst (0), 1) := by decide +kernel
theorem dBk_stepsBy_1 : decode prog_3_method_13_code 1 = .ok (.istore_n 2, 1) := by decide +kernel
theorem dBk_stepsBy_2 : decode prog_3_method_13_code 2 = .ok (.iconst (0), 1) := by decide +kernel
theorem dBk_stepsBy_3 : decode prog_3_method_13_code 3 = .ok (.istore_n 3, 1) := by decide +kernel
theorem dBk_stepsBy_4 : decode prog_3_method_13_code 4 = .ok (.iload_n 3, 1) := by decide +kernel
theorem dBk_stepsBy_5 : decode prog_3_method_13_code 5 = .ok (.aload_n 0, 1) := by decide +kernel
theorem dBk_stepsBy_6 : decode prog_3_method_13_code 6 = .ok (.getfield 62, 3) := by decide +kernel
theorem dBk_stepsBy_9 : decode prog_3_method_13_code 9 = .ok (.if_icmp .ge (22), 3) := by decide +kernel
theorem dBk_stepsBy_12 : decode prog_3_method_13_code 12 = .ok (.aload_n 0, 1) := by decide +kernel
theorem dBk_stepsBy_13 : decode prog_3_method_13_code 13 = .ok (.getfield 31, 3) := by decide +kernel
theorem dBk_stepsBy_16 : decode prog_3_method_13_code 16 = .ok (.iload_n 3, 1) := by decide +kernel
theorem dBk_stepsBy_17 : decode prog_3_method_13_code 17 = .ok (.iaload, 1) := by decide +kernel
theorem dBk_stepsBy_18 : decode prog_3_method_13_code 18 = .ok (.iload_n 1, 1) := by decide +kernel
theorem dBk_stepsBy_19 : decode prog_3_method_13_code 19 = .ok (.if_icmp .ne (6), 3) := by decide +kernel
theorem dBk_stepsBy_22 : decode prog_3_method_13_code 22 = .ok (.iinc 2 (1), 3) := by decide +kernel
theorem dBk_stepsBy_25 : decode prog_3_method_13_code 25 = .ok (.iinc 3 (1), 3) := by decide +kernel
theorem dBk_stepsBy_28 : decode prog_3_method_13_code 28 = .ok (.goto (-24), 3) := by decide +kernel
theorem dBk_stepsBy_31 : decode prog_3_method_13_code 31 = .ok (.iload_n 2, 1) := by decide +kernel
theorem dBk_stepsBy_32 : decode prog_3_method_13_code 32 = .ok (.ireturn, 1) := by decide +kernel
theorem dX_flag_0 : decode prog_1_method_43_code 0 = .ok (.iload_n 0, 1) := by decide +kernel
theorem dX_flag_1 : decode prog_1_method_43_code 1 = .ok (.ifCond .eq (7), 3) := by decide +kernel
theorem dX_flag_4 : decode prog_1_method_43_code 4 = .ok (.iconst (1), 1) := by decide +kernel
theorem dX_flag_5 : decode prog_1_method_43_code 5 = .ok (.goto (4), 3) := by decide +kernel
theorem dX_flag_8 : decode prog_1_method_43_code 8 = .ok (.iconst (0), 1) := by decide +kernel
theorem dX_flag_9 : decode prog_1_method_43_code 9 = .ok (.ireturn, 1) := by decide +kernel
theorem dX_step_0 : decode prog_1_method_9_code 0 = .ok (.aload_n 0, 1) := by decide +kernel
theorem dX_step_1 : decode prog_1_method_9_code 1 = .ok (.getfield 26, 3) := by decide +kernel
theorem dX_step_4 : decode prog_1_method_9_code 4 = .ok (.iload_n 1, 1) := by decide +kernel
theorem dX_step_5 : decode prog_1_method_9_code 5 = .ok (.invokevirtual 221, 3) := by decide +kernel
theorem dX_step_8 : decode prog_1_method_9_code 8 = .ok (.ifCond .ne (5), 3) := by decide +kernel
theorem dX_step_11 : decode prog_1_method_9_code 11 = .ok (.iconst (-1), 1) := by decide +kernel
theorem dX_step_12 : decode prog_1_method_9_code 12 = .ok (.ireturn, 1) := by decide +kernel
theorem dX_step_13 : decode prog_1_method_9_code 13 = .ok (.iload_n 2, 1) := by decide +kernel
theorem dX_step_14 : decode prog_1_method_9_code 14 = .ok (.tableswitch (205) (0) (10) #[58, 68, 77, 92, 107, 117, 127, 140, 152, 165, 185], 58) := by decide +kernel
theorem dX_step_72 : decode prog_1_method_9_code 72 = .ok (.aload_n 0, 1) := by decide +kernel
theorem dX_step_73 : decode prog_1_method_9_code 73 = .ok (.getfield 26, 3) := by decide +kernel
theorem dX_step_76 : decode prog_1_method_9_code 76 = .ok (.getfield 224, 3) := by decide +kernel
theorem dX_step_79 : decode prog_1_method_9_code 79 = .ok (.iload_n 1, 1) := by decide +kernel
theorem dX_step_80 : decode prog_1_method_9_code 80 = .ok (.iaload, 1) := by decide +kernel
theorem dX_step_81 : decode prog_1_method_9_code 81 = .ok (.ireturn, 1) := by decide +kernel
theorem dX_step_82 : decode prog_1_method_9_code 82 = .ok (.aload_n 0, 1) := by decide +kernel
theorem dX_step_83 : decode prog_1_method_9_code 83 = .ok (.getfield 26, 3) := by decide +kernel
theorem dX_step_86 : decode prog_1_method_9_code 86 = .ok (.iload_n 1, 1) := by decide +kernel
theorem dX_step_87 : decode prog_1_method_9_code 87 = .ok (.invokevirtual 227, 3) := by decide +kernel
theorem dX_step_90 : decode prog_1_method_9_code 90 = .ok (.ireturn, 1) := by decide +kernel
theorem dX_step_91 : decode prog_1_method_9_code 91 = .ok (.iload_n 1, 1) := by decide +kernel
theorem dX_step_92 : decode prog_1_method_9_code 92 = .ok (.aload_n 0, 1) := by decide +kernel
theorem dX_step_93 : decode prog_1_method_9_code 93 = .ok (.getfield 38, 3) := by decide +kernel
theorem dX_step_96 : decode prog_1_method_9_code 96 = .ok (.getfield 157, 3) := by decide +kernel
theorem dX_step_99 : decode prog_1_method_9_code 99 = .ok (.invokestatic 230, 3) := by decide +kernel
theorem dX_step_102 : decode prog_1_method_9_code 102 = .ok (.invokestatic 213, 3) := by decide +kernel
theorem dX_step_105 : decode prog_1_method_9_code 105 = .ok (.ireturn, 1) := by decide +kernel
theorem dX_step_106 : decode prog_1_method_9_code 106 = .ok (.iload_n 1, 1) := by decide +kernel
theorem dX_step_107 : decode prog_1_method_9_code 107 = .ok (.aload_n 0, 1) := by decide +kernel
theorem dX_step_108 : decode prog_1_method_9_code 108 = .ok (.getfield 38, 3) := by decide +kernel
theorem dX_step_111 : decode prog_1_method_9_code 111 = .ok (.getfield 166, 3) := by decide +kernel
theorem dX_step_114 : decode prog_1_method_9_code 114 = .ok (.invokestatic 230, 3) := by decide +kernel
theorem dX_step_117 : decode prog_1_method_9_code 117 = .ok (.invokestatic 213, 3) := by decide +kernel
theorem dX_step_120 : decode prog_1_method_9_code 120 = .ok (.ireturn, 1) := by decide +kernel
theorem dX_step_121 : decode prog_1_method_9_code 121 = .ok (.aload_n 0, 1) := by decide +kernel
theorem dX_step_122 : decode prog_1_method_9_code 122 = .ok (.getfield 38, 3) := by decide +kernel
theorem dX_step_125 : decode prog_1_method_9_code 125 = .ok (.getfield 234, 3) := by decide +kernel
theorem dX_step_128 : decode prog_1_method_9_code 128 = .ok (.iload_n 1, 1) := by decide +kernel
theorem dX_step_129 : decode prog_1_method_9_code 129 = .ok (.iaload, 1) := by decide +kernel
theorem dX_step_130 : decode prog_1_method_9_code 130 = .ok (.ireturn, 1) := by decide +kernel
theorem dX_step_131 : decode prog_1_method_9_code 131 = .ok (.aload_n 0, 1) := by decide +kernel
theorem dX_step_132 : decode prog_1_method_9_code 132 = .ok (.getfield 38, 3) := by decide +kernel
theorem dX_step_135 : decode prog_1_method_9_code 135 = .ok (.getfield 237, 3) := by decide +kernel
theorem dX_step_138 : decode prog_1_method_9_code 138 = .ok (.iload_n 1, 1) := by decide +kernel
theorem dX_step_139 : decode prog_1_method_9_code 139 = .ok (.iaload, 1) := by decide +kernel
theorem dX_step_140 : decode prog_1_method_9_code 140 = .ok (.ireturn, 1) := by decide +kernel
theorem dX_step_141 : decode prog_1_method_9_code 141 = .ok (.aload_n 0, 1) := by decide +kernel
theorem dX_step_142 : decode prog_1_method_9_code 142 = .ok (.getfield 38, 3) := by decide +kernel
theorem dX_step_145 : decode prog_1_method_9_code 145 = .ok (.getfield 175, 3) := by decide +kernel
theorem dX_step_148 : decode prog_1_method_9_code 148 = .ok (.getfield 240, 3) := by decide +kernel
theorem dX_step_151 : decode prog_1_method_9_code 151 = .ok (.iload_n 1, 1) := by decide +kernel
theorem dX_step_152 : decode prog_1_method_9_code 152 = .ok (.iaload, 1) := by decide +kernel
theorem dX_step_153 : decode prog_1_method_9_code 153 = .ok (.ireturn, 1) := by decide +kernel
theorem dX_step_154 : decode prog_1_method_9_code 154 = .ok (.iload_n 1, 1) := by decide +kernel
theorem dX_step_155 : decode prog_1_method_9_code 155 = .ok (.aload_n 0, 1) := by decide +kernel
theorem dX_step_156 : decode prog_1_method_9_code 156 = .ok (.getfield 95, 3) := by decide +kernel
theorem dX_step_159 : decode prog_1_method_9_code 159 = .ok (.invokestatic 230, 3) := by decide +kernel
theorem dX_step_162 : decode prog_1_method_9_code 162 = .ok (.invokestatic 213, 3) := by decide +kernel
theorem dX_step_165 : decode prog_1_method_9_code 165 = .ok (.ireturn, 1) := by decide +kernel
theorem dX_step_166 : decode prog_1_method_9_code 166 = .ok (.aload_n 0, 1) := by decide +kernel
theorem dX_step_167 : decode prog_1_method_9_code 167 = .ok (.getfield 38, 3) := by decide +kernel
theorem dX_step_170 : decode prog_1_method_9_code 170 = .ok (.getfield 243, 3) := by decide +kernel
theorem dX_step_173 : decode prog_1_method_9_code 173 = .ok (.iload_n 1, 1) := by decide +kernel
theorem dX_step_174 : decode prog_1_method_9_code 174 = .ok (.laload, 1) := by decide +kernel
theorem dX_step_175 : decode prog_1_method_9_code 175 = .ok (.invokestatic 160, 3) := by decide +kernel
theorem dX_step_178 : decode prog_1_method_9_code 178 = .ok (.ireturn, 1) := by decide +kernel
theorem dX_step_179 : decode prog_1_method_9_code 179 = .ok (.aload_n 0, 1) := by decide +kernel
theorem dX_step_180 : decode prog_1_method_9_code 180 = .ok (.getfield 26, 3) := by decide +kernel
theorem dX_step_183 : decode prog_1_method_9_code 183 = .ok (.getfield 142, 3) := by decide +kernel
theorem dX_step_186 : decode prog_1_method_9_code 186 = .ok (.aload_n 0, 1) := by decide +kernel
theorem dX_step_187 : decode prog_1_method_9_code 187 = .ok (.getfield 26, 3) := by decide +kernel
theorem dX_step_190 : decode prog_1_method_9_code 190 = .ok (.getfield 247, 3) := by decide +kernel
theorem dX_step_193 : decode prog_1_method_9_code 193 = .ok (.iload_n 1, 1) := by decide +kernel
theorem dX_step_194 : decode prog_1_method_9_code 194 = .ok (.iaload, 1) := by decide +kernel
theorem dX_step_195 : decode prog_1_method_9_code 195 = .ok (.invokevirtual 250, 3) := by decide +kernel
theorem dX_step_198 : decode prog_1_method_9_code 198 = .ok (.ireturn, 1) := by decide +kernel
theorem dX_step_199 : decode prog_1_method_9_code 199 = .ok (.aload_n 0, 1) := by decide +kernel
theorem dX_step_200 : decode prog_1_method_9_code 200 = .ok (.getfield 73, 3) := by decide +kernel
theorem dX_step_203 : decode prog_1_method_9_code 203 = .ok (.aload_n 0, 1) := by decide +kernel
theorem dX_step_204 : decode prog_1_method_9_code 204 = .ok (.getfield 26, 3) := by decide +kernel
theorem dX_step_207 : decode prog_1_method_9_code 207 = .ok (.iload_n 1, 1) := by decide +kernel
theorem dX_step_208 : decode prog_1_method_9_code 208 = .ok (.aload_n 0, 1) := by decide +kernel
theorem dX_step_209 : decode prog_1_method_9_code 209 = .ok (.getfield 73, 3) := by decide +kernel
theorem dX_step_212 : decode prog_1_method_9_code 212 = .ok (.getfield 127, 3) := by decide +kernel
theorem dX_step_215 : decode prog_1_method_9_code 215 = .ok (.invokevirtual 253, 3) := by decide +kernel
theorem dX_step_218 : decode prog_1_method_9_code 218 = .ok (.ireturn, 1) := by decide +kernel
theorem dX_step_219 : decode prog_1_method_9_code 219 = .ok (.iconst (-1), 1) := by decide +kernel
theorem dX_step_220 : decode prog_1_method_9_code 220 = .ok (.ireturn, 1) := by decide +kernel
theorem dBk_hasStep_0 : decode prog_3_method_7_code 0 = .ok (.iload_n 1, 1) := by decide +kernel
theorem dBk_hasStep_1 : decode prog_3_method_7_code 1 = .ok (.ifCond .lt (15), 3) := by decide +kernel
theorem dBk_hasStep_4 : decode prog_3_method_7_code 4 = .ok (.iload_n 1, 1) := by decide +kernel
theorem dBk_hasStep_5 : decode prog_3_method_7_code 5 = .ok (.aload_n 0, 1) := by decide +kernel
theorem dBk_hasStep_6 : decode prog_3_method_7_code 6 = .ok (.getfield 62, 3) := by decide +kernel
theorem dBk_hasStep_9 : decode prog_3_method_7_code 9 = .ok (.if_icmp .ge (7), 3) := by decide +kernel
theorem dBk_hasStep_12 : decode prog_3_method_7_code 12 = .ok (.iconst (1), 1) := by decide +kernel
theorem dBk_hasStep_13 : decode prog_3_method_7_code 13 = .ok (.goto (4), 3) := by decide +kernel
theorem dBk_hasStep_16 : decode prog_3_method_7_code 16 = .ok (.iconst (0), 1) := by decide +kernel
theorem dBk_hasStep_17 : decode prog_3_method_7_code 17 = .ok (.ireturn, 1) := by decide +kernel
theorem dWa_seen_0 : decode prog_11_method_3_code 0 = .ok (.sipush (1000), 3) := by decide +kernel
theorem dWa_seen_3 : decode prog_11_method_3_code 3 = .ok (.istore 4, 2) := by decide +kernel
theorem dWa_seen_5 : decode prog_11_method_3_code 5 = .ok (.iconst (0), 1) := by decide +kernel
theorem dWa_seen_6 : decode prog_11_method_3_code 6 = .ok (.istore 5, 2) := by decide +kernel
theorem dWa_seen_8 : decode prog_11_method_3_code 8 = .ok (.iload 5, 2) := by decide +kernel
theorem dWa_seen_10 : decode prog_11_method_3_code 10 = .ok (.aload_n 1, 1) := by decide +kernel
theorem dWa_seen_11 : decode prog_11_method_3_code 11 = .ok (.getfield 24, 3) := by decide +kernel
theorem dWa_seen_14 : decode prog_11_method_3_code 14 = .ok (.if_icmp .ge (46), 3) := by decide +kernel
theorem dWa_seen_17 : decode prog_11_method_3_code 17 = .ok (.iload_n 3, 1) := by decide +kernel
theorem dWa_seen_18 : decode prog_11_method_3_code 18 = .ok (.iload 5, 2) := by decide +kernel
theorem dWa_seen_20 : decode prog_11_method_3_code 20 = .ok (.ishr, 1) := by decide +kernel
theorem dWa_seen_21 : decode prog_11_method_3_code 21 = .ok (.iconst (1), 1) := by decide +kernel
theorem dWa_seen_22 : decode prog_11_method_3_code 22 = .ok (.iand, 1) := by decide +kernel
theorem dWa_seen_23 : decode prog_11_method_3_code 23 = .ok (.ifCond .eq (31), 3) := by decide +kernel
theorem dWa_seen_26 : decode prog_11_method_3_code 26 = .ok (.aload_n 1, 1) := by decide +kernel
theorem dWa_seen_27 : decode prog_11_method_3_code 27 = .ok (.iload 5, 2) := by decide +kernel
theorem dWa_seen_29 : decode prog_11_method_3_code 29 = .ok (.iload_n 2, 1) := by decide +kernel
theorem dWa_seen_30 : decode prog_11_method_3_code 30 = .ok (.invokestatic 27, 3) := by decide +kernel
theorem dWa_seen_33 : decode prog_11_method_3_code 33 = .ok (.ifCond .eq (21), 3) := by decide +kernel
theorem dWa_seen_36 : decode prog_11_method_3_code 36 = .ok (.iload 4, 2) := by decide +kernel
theorem dWa_seen_38 : decode prog_11_method_3_code 38 = .ok (.bipush (100), 2) := by decide +kernel
theorem dWa_seen_40 : decode prog_11_method_3_code 40 = .ok (.aload_n 1, 1) := by decide +kernel
theorem dWa_seen_41 : decode prog_11_method_3_code 41 = .ok (.getfield 31, 3) := by decide +kernel
theorem dWa_seen_44 : decode prog_11_method_3_code 44 = .ok (.iload 5, 2) := by decide +kernel
theorem dWa_seen_46 : decode prog_11_method_3_code 46 = .ok (.iaload, 1) := by decide +kernel
theorem dWa_seen_47 : decode prog_11_method_3_code 47 = .ok (.isub, 1) := by decide +kernel
theorem dWa_seen_48 : decode prog_11_method_3_code 48 = .ok (.imul, 1) := by decide +kernel
theorem dWa_seen_49 : decode prog_11_method_3_code 49 = .ok (.bipush (100), 2) := by decide +kernel
theorem dWa_seen_51 : decode prog_11_method_3_code 51 = .ok (.idiv, 1) := by decide +kernel
theorem dWa_seen_52 : decode prog_11_method_3_code 52 = .ok (.istore 4, 2) := by decide +kernel
theorem dWa_seen_54 : decode prog_11_method_3_code 54 = .ok (.iinc 5 (1), 3) := by decide +kernel
theorem dWa_seen_57 : decode prog_11_method_3_code 57 = .ok (.goto (-49), 3) := by decide +kernel
theorem dWa_seen_60 : decode prog_11_method_3_code 60 = .ok (.sipush (1000), 3) := by decide +kernel
theorem dWa_seen_63 : decode prog_11_method_3_code 63 = .ok (.iload 4, 2) := by decide +kernel
theorem dWa_seen_65 : decode prog_11_method_3_code 65 = .ok (.isub, 1) := by decide +kernel
theorem dWa_seen_66 : decode prog_11_method_3_code 66 = .ok (.ireturn, 1) := by decide +kernel
theorem dWa_looksAt_0 : decode prog_11_method_2_code 0 = .ok (.aload_n 0, 1) := by decide +kernel
theorem dWa_looksAt_1 : decode prog_11_method_2_code 1 = .ok (.getfield 15, 3) := by decide +kernel
theorem dWa_looksAt_4 : decode prog_11_method_2_code 4 = .ok (.iload_n 1, 1) := by decide +kernel
theorem dWa_looksAt_5 : decode prog_11_method_2_code 5 = .ok (.iaload, 1) := by decide +kernel
theorem dWa_looksAt_6 : decode prog_11_method_2_code 6 = .ok (.iload_n 2, 1) := by decide +kernel
theorem dWa_looksAt_7 : decode prog_11_method_2_code 7 = .ok (.if_icmp .gt (17), 3) := by decide +kernel
theorem dWa_looksAt_10 : decode prog_11_method_2_code 10 = .ok (.iload_n 2, 1) := by decide +kernel
theorem dWa_looksAt_11 : decode prog_11_method_2_code 11 = .ok (.aload_n 0, 1) := by decide +kernel
theorem dWa_looksAt_12 : decode prog_11_method_2_code 12 = .ok (.getfield 21, 3) := by decide +kernel
theorem dWa_looksAt_15 : decode prog_11_method_2_code 15 = .ok (.iload_n 1, 1) := by decide +kernel
theorem dWa_looksAt_16 : decode prog_11_method_2_code 16 = .ok (.iaload, 1) := by decide +kernel
theorem dWa_looksAt_17 : decode prog_11_method_2_code 17 = .ok (.if_icmp .gt (7), 3) := by decide +kernel
theorem dWa_looksAt_20 : decode prog_11_method_2_code 20 = .ok (.iconst (1), 1) := by decide +kernel
theorem dWa_looksAt_21 : decode prog_11_method_2_code 21 = .ok (.goto (4), 3) := by decide +kernel
theorem dWa_looksAt_24 : decode prog_11_method_2_code 24 = .ok (.iconst (0), 1) := by decide +kernel
theorem dWa_looksAt_25 : decode prog_11_method_2_code 25 = .ok (.ireturn, 1) := by decide +kernel
theorem dX_names_0 : decode prog_1_method_10_code 0 = .ok (.aload_n 0, 1) := by decide +kernel
theorem dX_names_1 : decode prog_1_method_10_code 1 = .ok (.getfield 26, 3) := by decide +kernel
theorem dX_names_4 : decode prog_1_method_10_code 4 = .ok (.iload_n 1, 1) := by decide +kernel
theorem dX_names_5 : decode prog_1_method_10_code 5 = .ok (.invokevirtual 221, 3) := by decide +kernel
theorem dX_names_8 : decode prog_1_method_10_code 8 = .ok (.ifCond .eq (19), 3) := by decide +kernel
theorem dX_names_11 : decode prog_1_method_10_code 11 = .ok (.iload_n 2, 1) := by decide +kernel
theorem dX_names_12 : decode prog_1_method_10_code 12 = .ok (.ifCond .lt (15), 3) := by decide +kernel
theorem dX_names_15 : decode prog_1_method_10_code 15 = .ok (.iload_n 2, 1) := by decide +kernel
theorem dX_names_16 : decode prog_1_method_10_code 16 = .ok (.aload_n 0, 1) := by decide +kernel
theorem dX_names_17 : decode prog_1_method_10_code 17 = .ok (.getfield 26, 3) := by decide +kernel
theorem dX_names_20 : decode prog_1_method_10_code 20 = .ok (.iload_n 1, 1) := by decide +kernel
theorem dX_names_21 : decode prog_1_method_10_code 21 = .ok (.invokevirtual 227, 3) := by decide +kernel
theorem dX_names_24 : decode prog_1_method_10_code 24 = .ok (.if_icmp .lt (5), 3) := by decide +kernel
theorem dX_names_27 : decode prog_1_method_10_code 27 = .ok (.iconst (-1), 1) := by decide +kernel
theorem dX_names_28 : decode prog_1_method_10_code 28 = .ok (.ireturn, 1) := by decide +kernel
theorem dX_names_29 : decode prog_1_method_10_code 29 = .ok (.aload_n 0, 1) := by decide +kernel
theorem dX_names_30 : decode prog_1_method_10_code 30 = .ok (.getfield 26, 3) := by decide +kernel
theorem dX_names_33 : decode prog_1_method_10_code 33 = .ok (.iload_n 1, 1) := by decide +kernel
theorem dX_names_34 : decode prog_1_method_10_code 34 = .ok (.iload_n 2, 1) := by decide +kernel
theorem dX_names_35 : decode prog_1_method_10_code 35 = .ok (.invokevirtual 257, 3) := by decide +kernel
theorem dX_names_38 : decode prog_1_method_10_code 38 = .ok (.ireturn, 1) := by decide +kernel
theorem dX_term_0 : decode prog_1_method_11_code 0 = .ok (.aload_n 0, 1) := by decide +kernel
theorem dX_term_1 : decode prog_1_method_11_code 1 = .ok (.getfield 26, 3) := by decide +kernel
theorem dX_term_4 : decode prog_1_method_11_code 4 = .ok (.iload_n 1, 1) := by decide +kernel
theorem dX_term_5 : decode prog_1_method_11_code 5 = .ok (.invokevirtual 221, 3) := by decide +kernel
theorem dX_term_8 : decode prog_1_method_11_code 8 = .ok (.ifCond .eq (7), 3) := by decide +kernel
theorem dX_term_11 : decode prog_1_method_11_code 11 = .ok (.iload_n 2, 1) := by decide +kernel
theorem dX_term_12 : decode prog_1_method_11_code 12 = .ok (.ifCond .ge (5), 3) := by decide +kernel
theorem dX_term_15 : decode prog_1_method_11_code 15 = .ok (.iconst (-1), 1) := by decide +kernel
theorem dX_term_16 : decode prog_1_method_11_code 16 = .ok (.ireturn, 1) := by decide +kernel
theorem dX_term_17 : decode prog_1_method_11_code 17 = .ok (.aload_n 0, 1) := by decide +kernel
theorem dX_term_18 : decode prog_1_method_11_code 18 = .ok (.getfield 26, 3) := by decide +kernel
theorem dX_term_21 : decode prog_1_method_11_code 21 = .ok (.getfield 247, 3) := by decide +kernel
theorem dX_term_24 : decode prog_1_method_11_code 24 = .ok (.iload_n 1, 1) := by decide +kernel
theorem dX_term_25 : decode prog_1_method_11_code 25 = .ok (.iaload, 1) := by decide +kernel
theorem dX_term_26 : decode prog_1_method_11_code 26 = .ok (.istore_n 3, 1) := by decide +kernel
theorem dX_term_27 : decode prog_1_method_11_code 27 = .ok (.iload_n 2, 1) := by decide +kernel
theorem dX_term_28 : decode prog_1_method_11_code 28 = .ok (.aload_n 0, 1) := by decide +kernel
theorem dX_term_29 : decode prog_1_method_11_code 29 = .ok (.getfield 26, 3) := by decide +kernel
theorem dX_term_32 : decode prog_1_method_11_code 32 = .ok (.getfield 142, 3) := by decide +kernel
theorem dX_term_35 : decode prog_1_method_11_code 35 = .ok (.iload_n 3, 1) := by decide +kernel
theorem dX_term_36 : decode prog_1_method_11_code 36 = .ok (.invokevirtual 250, 3) := by decide +kernel
theorem dX_term_39 : decode prog_1_method_11_code 39 = .ok (.if_icmp .ge (20), 3) := by decide +kernel
theorem dX_term_42 : decode prog_1_method_11_code 42 = .ok (.aload_n 0, 1) := by decide +kernel
theorem dX_term_43 : decode prog_1_method_11_code 43 = .ok (.getfield 26, 3) := by decide +kernel
theorem dX_term_46 : decode prog_1_method_11_code 46 = .ok (.getfield 142, 3) := by decide +kernel
theorem dX_term_49 : decode prog_1_method_11_code 49 = .ok (.getfield 260, 3) := by decide +kernel
theorem dX_term_52 : decode prog_1_method_11_code 52 = .ok (.iload_n 3, 1) := by decide +kernel
theorem dX_term_53 : decode prog_1_method_11_code 53 = .ok (.iload_n 2, 1) := by decide +kernel
theorem dX_term_54 : decode prog_1_method_11_code 54 = .ok (.iadd, 1) := by decide +kernel
theorem dX_term_55 : decode prog_1_method_11_code 55 = .ok (.iaload, 1) := by decide +kernel
theorem dX_term_56 : decode prog_1_method_11_code 56 = .ok (.goto (4), 3) := by decide +kernel
theorem dX_term_59 : decode prog_1_method_11_code 59 = .ok (.iconst (-1), 1) := by decide +kernel
theorem dX_term_60 : decode prog_1_method_11_code 60 = .ok (.ireturn, 1) := by decide +kernel
theorem dX_wrong_0 : decode prog_1_method_12_code 0 = .ok (.aload_n 0, 1) := by decide +kernel
theorem dX_wrong_1 : decode prog_1_method_12_code 1 = .ok (.getfield 26, 3) := by decide +kernel
theorem dX_wrong_4 : decode prog_1_method_12_code 4 = .ok (.invokevirtual 263, 3) := by decide +kernel
theorem dX_wrong_7 : decode prog_1_method_12_code 7 = .ok (.aload_n 0, 1) := by decide +kernel
theorem dX_wrong_8 : decode prog_1_method_12_code 8 = .ok (.getfield 38, 3) := by decide +kernel
theorem dX_wrong_11 : decode prog_1_method_12_code 11 = .ok (.getfield 157, 3) := by decide +kernel
theorem dX_wrong_14 : decode prog_1_method_12_code 14 = .ok (.ldc2_w 267, 3) := by decide +kernel
theorem dX_wrong_17 : decode prog_1_method_12_code 17 = .ok (.lxor, 1) := by decide +kernel
theorem dX_wrong_18 : decode prog_1_method_12_code 18 = .ok (.land, 1) := by decide +kernel
theorem dX_wrong_19 : decode prog_1_method_12_code 19 = .ok (.iconst (0), 1) := by decide +kernel
theorem dX_wrong_20 : decode prog_1_method_12_code 20 = .ok (.invokestatic 269, 3) := by decide +kernel
theorem dX_wrong_23 : decode prog_1_method_12_code 23 = .ok (.ireturn, 1) := by decide +kernel
theorem dBk_all_0 : decode prog_3_method_8_code 0 = .ok (.aload_n 0, 1) := by decide +kernel
theorem dBk_all_1 : decode prog_3_method_8_code 1 = .ok (.getfield 62, 3) := by decide +kernel
theorem dBk_all_4 : decode prog_3_method_8_code 4 = .ok (.invokestatic 68, 3) := by decide +kernel
theorem dBk_all_7 : decode prog_3_method_8_code 7 = .ok (.lconst 1, 1) := by decide +kernel
theorem dBk_all_8 : decode prog_3_method_8_code 8 = .ok (.lsub, 1) := by decide +kernel
theorem dBk_all_9 : decode prog_3_method_8_code 9 = .ok (.lreturn, 1) := by decide +kernel
theorem dX_kthOf_0 : decode prog_1_method_46_code 0 = .ok (.iconst (0), 1) := by decide +kernel
theorem dX_kthOf_1 : decode prog_1_method_46_code 1 = .ok (.istore_n 3, 1) := by decide +kernel
theorem dX_kthOf_2 : decode prog_1_method_46_code 2 = .ok (.iconst (0), 1) := by decide +kernel
theorem dX_kthOf_3 : decode prog_1_method_46_code 3 = .ok (.istore 4, 2) := by decide +kernel
theorem dX_kthOf_5 : decode prog_1_method_46_code 5 = .ok (.iload 4, 2) := by decide +kernel
theorem dX_kthOf_7 : decode prog_1_method_46_code 7 = .ok (.bipush (40), 2) := by decide +kernel
theorem dX_kthOf_9 : decode prog_1_method_46_code 9 = .ok (.if_icmp .ge (29), 3) := by decide +kernel
theorem dX_kthOf_12 : decode prog_1_method_46_code 12 = .ok (.iload 4, 2) := by decide +kernel
theorem dX_kthOf_14 : decode prog_1_method_46_code 14 = .ok (.lload_n 0, 1) := by decide +kernel
theorem dX_kthOf_15 : decode prog_1_method_46_code 15 = .ok (.invokestatic 230, 3) := by decide +kernel
theorem dX_kthOf_18 : decode prog_1_method_46_code 18 = .ok (.ifCond .eq (14), 3) := by decide +kernel
theorem dX_kthOf_21 : decode prog_1_method_46_code 21 = .ok (.iload_n 3, 1) := by decide +kernel
theorem dX_kthOf_22 : decode prog_1_method_46_code 22 = .ok (.iload_n 2, 1) := by decide +kernel
theorem dX_kthOf_23 : decode prog_1_method_46_code 23 = .ok (.if_icmp .ne (6), 3) := by decide +kernel
theorem dX_kthOf_26 : decode prog_1_method_46_code 26 = .ok (.iload 4, 2) := by decide +kernel
theorem dX_kthOf_28 : decode prog_1_method_46_code 28 = .ok (.ireturn, 1) := by decide +kernel
theorem dX_kthOf_29 : decode prog_1_method_46_code 29 = .ok (.iinc 3 (1), 3) := by decide +kernel
theorem dX_kthOf_32 : decode prog_1_method_46_code 32 = .ok (.iinc 4 (1), 3) := by decide +kernel
theorem dX_kthOf_35 : decode prog_1_method_46_code 35 = .ok (.goto (-30), 3) := by decide +kernel
theorem dX_kthOf_38 : decode prog_1_method_46_code 38 = .ok (.iconst (-1), 1) := by decide +kernel
theorem dX_kthOf_39 : decode prog_1_method_46_code 39 = .ok (.ireturn, 1) := by decide +kernel
theorem dX_rest_0 : decode prog_1_method_13_code 0 = .ok (.iload_n 1, 1) := by decide +kernel
theorem dX_rest_1 : decode prog_1_method_13_code 1 = .ok (.ifCond .lt (32), 3) := by decide +kernel
theorem dX_rest_4 : decode prog_1_method_13_code 4 = .ok (.iload_n 1, 1) := by decide +kernel
theorem dX_rest_5 : decode prog_1_method_13_code 5 = .ok (.aload_n 0, 1) := by decide +kernel
theorem dX_rest_6 : decode prog_1_method_13_code 6 = .ok (.getfield 38, 3) := by decide +kernel
theorem dX_rest_9 : decode prog_1_method_13_code 9 = .ok (.getfield 175, 3) := by decide +kernel
theorem dX_rest_12 : decode prog_1_method_13_code 12 = .ok (.getfield 179, 3) := by decide +kernel
theorem dX_rest_15 : decode prog_1_method_13_code 15 = .ok (.if_icmp .ge (18), 3) := by decide +kernel
theorem dX_rest_18 : decode prog_1_method_13_code 18 = .ok (.aload_n 0, 1) := by decide +kernel
theorem dX_rest_19 : decode prog_1_method_13_code 19 = .ok (.getfield 38, 3) := by decide +kernel
theorem dX_rest_22 : decode prog_1_method_13_code 22 = .ok (.getfield 175, 3) := by decide +kernel
theorem dX_rest_25 : decode prog_1_method_13_code 25 = .ok (.getfield 273, 3) := by decide +kernel
theorem dX_rest_28 : decode prog_1_method_13_code 28 = .ok (.iload_n 1, 1) := by decide +kernel
theorem dX_rest_29 : decode prog_1_method_13_code 29 = .ok (.iaload, 1) := by decide +kernel
theorem dX_rest_30 : decode prog_1_method_13_code 30 = .ok (.goto (4), 3) := by decide +kernel
theorem dX_rest_33 : decode prog_1_method_13_code 33 = .ok (.iconst (-1), 1) := by decide +kernel
theorem dX_rest_34 : decode prog_1_method_13_code 34 = .ok (.ireturn, 1) := by decide +kernel
theorem dX_leans_0 : decode prog_1_method_14_code 0 = .ok (.iload_n 1, 1) := by decide +kernel
theorem dX_leans_1 : decode prog_1_method_14_code 1 = .ok (.ifCond .lt (37), 3) := by decide +kernel
theorem dX_leans_4 : decode prog_1_method_14_code 4 = .ok (.iload_n 1, 1) := by decide +kernel
theorem dX_leans_5 : decode prog_1_method_14_code 5 = .ok (.aload_n 0, 1) := by decide +kernel
theorem dX_leans_6 : decode prog_1_method_14_code 6 = .ok (.getfield 38, 3) := by decide +kernel
theorem dX_leans_9 : decode prog_1_method_14_code 9 = .ok (.getfield 175, 3) := by decide +kernel
theorem dX_leans_12 : decode prog_1_method_14_code 12 = .ok (.getfield 179, 3) := by decide +kernel
theorem dX_leans_15 : decode prog_1_method_14_code 15 = .ok (.if_icmp .ge (23), 3) := by decide +kernel
theorem dX_leans_18 : decode prog_1_method_14_code 18 = .ok (.iload_n 2, 1) := by decide +kernel
theorem dX_leans_19 : decode prog_1_method_14_code 19 = .ok (.ifCond .lt (19), 3) := by decide +kernel
theorem dX_leans_22 : decode prog_1_method_14_code 22 = .ok (.iload_n 2, 1) := by decide +kernel
theorem dX_leans_23 : decode prog_1_method_14_code 23 = .ok (.aload_n 0, 1) := by decide +kernel
theorem dX_leans_24 : decode prog_1_method_14_code 24 = .ok (.getfield 38, 3) := by decide +kernel
theorem dX_leans_27 : decode prog_1_method_14_code 27 = .ok (.getfield 175, 3) := by decide +kernel
theorem dX_leans_30 : decode prog_1_method_14_code 30 = .ok (.getfield 276, 3) := by decide +kernel
theorem dX_leans_33 : decode prog_1_method_14_code 33 = .ok (.iload_n 1, 1) := by decide +kernel
theorem dX_leans_34 : decode prog_1_method_14_code 34 = .ok (.iaload, 1) := by decide +kernel
theorem dX_leans_35 : decode prog_1_method_14_code 35 = .ok (.if_icmp .lt (5), 3) := by decide +kernel
theorem dX_leans_38 : decode prog_1_method_14_code 38 = .ok (.iconst (-1), 1) := by decide +kernel
theorem dX_leans_39 : decode prog_1_method_14_code 39 = .ok (.ireturn, 1) := by decide +kernel
theorem dX_leans_40 : decode prog_1_method_14_code 40 = .ok (.aload_n 0, 1) := by decide +kernel
theorem dX_leans_41 : decode prog_1_method_14_code 41 = .ok (.getfield 38, 3) := by decide +kernel
theorem dX_leans_44 : decode prog_1_method_14_code 44 = .ok (.getfield 175, 3) := by decide +kernel
theorem dX_leans_47 : decode prog_1_method_14_code 47 = .ok (.getfield 279, 3) := by decide +kernel
theorem dX_leans_50 : decode prog_1_method_14_code 50 = .ok (.iconst (3), 1) := by decide +kernel
theorem dX_leans_51 : decode prog_1_method_14_code 51 = .ok (.iload_n 1, 1) := by decide +kernel
theorem dX_leans_52 : decode prog_1_method_14_code 52 = .ok (.imul, 1) := by decide +kernel
theorem dX_leans_53 : decode prog_1_method_14_code 53 = .ok (.iload_n 2, 1) := by decide +kernel
theorem dX_leans_54 : decode prog_1_method_14_code 54 = .ok (.iadd, 1) := by decide +kernel
theorem dX_leans_55 : decode prog_1_method_14_code 55 = .ok (.iaload, 1) := by decide +kernel
theorem dX_leans_56 : decode prog_1_method_14_code 56 = .ok (.ireturn, 1) := by decide +kernel
theorem dX_upon_0 : decode prog_1_method_15_code 0 = .ok (.aload_n 0, 1) := by decide +kernel
theorem dX_upon_1 : decode prog_1_method_15_code 1 = .ok (.getfield 26, 3) := by decide +kernel
theorem dX_upon_4 : decode prog_1_method_15_code 4 = .ok (.iload_n 1, 1) := by decide +kernel
theorem dX_upon_5 : decode prog_1_method_15_code 5 = .ok (.invokevirtual 221, 3) := by decide +kernel
theorem dX_upon_8 : decode prog_1_method_15_code 8 = .ok (.ifCond .eq (14), 3) := by decide +kernel
theorem dX_upon_11 : decode prog_1_method_15_code 11 = .ok (.aload_n 0, 1) := by decide +kernel
theorem dX_upon_12 : decode prog_1_method_15_code 12 = .ok (.getfield 26, 3) := by decide +kernel
theorem dX_upon_15 : decode prog_1_method_15_code 15 = .ok (.iload_n 2, 1) := by decide +kernel
theorem dX_upon_16 : decode prog_1_method_15_code 16 = .ok (.invokevirtual 221, 3) := by decide +kernel
theorem dX_upon_19 : decode prog_1_method_15_code 19 = .ok (.ifCond .ne (5), 3) := by decide +kernel
theorem dX_upon_22 : decode prog_1_method_15_code 22 = .ok (.iconst (-1), 1) := by decide +kernel
theorem dX_upon_23 : decode prog_1_method_15_code 23 = .ok (.ireturn, 1) := by decide +kernel
theorem dX_upon_24 : decode prog_1_method_15_code 24 = .ok (.iload_n 2, 1) := by decide +kernel
theorem dX_upon_25 : decode prog_1_method_15_code 25 = .ok (.aload_n 0, 1) := by decide +kernel
theorem dX_upon_26 : decode prog_1_method_15_code 26 = .ok (.getfield 38, 3) := by decide +kernel
theorem dX_upon_29 : decode prog_1_method_15_code 29 = .ok (.getfield 282, 3) := by decide +kernel
theorem dX_upon_32 : decode prog_1_method_15_code 32 = .ok (.iload_n 1, 1) := by decide +kernel
theorem dX_upon_33 : decode prog_1_method_15_code 33 = .ok (.laload, 1) := by decide +kernel
theorem dX_upon_34 : decode prog_1_method_15_code 34 = .ok (.invokestatic 230, 3) := by decide +kernel
theorem dX_upon_37 : decode prog_1_method_15_code 37 = .ok (.invokestatic 213, 3) := by decide +kernel
theorem dX_upon_40 : decode prog_1_method_15_code 40 = .ok (.ireturn, 1) := by decide +kernel
theorem dX_depth_0 : decode prog_1_method_16_code 0 = .ok (.aload_n 0, 1) := by decide +kernel
theorem dX_depth_1 : decode prog_1_method_16_code 1 = .ok (.getfield 26, 3) := by decide +kernel
theorem dX_depth_4 : decode prog_1_method_16_code 4 = .ok (.iload_n 1, 1) := by decide +kernel
theorem dX_depth_5 : decode prog_1_method_16_code 5 = .ok (.invokevirtual 221, 3) := by decide +kernel
theorem dX_depth_8 : decode prog_1_method_16_code 8 = .ok (.ifCond .eq (15), 3) := by decide +kernel
theorem dX_depth_11 : decode prog_1_method_16_code 11 = .ok (.aload_n 0, 1) := by decide +kernel
theorem dX_depth_12 : decode prog_1_method_16_code 12 = .ok (.getfield 38, 3) := by decide +kernel
theorem dX_depth_15 : decode prog_1_method_16_code 15 = .ok (.getfield 285, 3) := by decide +kernel
theorem dX_depth_18 : decode prog_1_method_16_code 18 = .ok (.iload_n 1, 1) := by decide +kernel
theorem dX_depth_19 : decode prog_1_method_16_code 19 = .ok (.iaload, 1) := by decide +kernel
theorem dX_depth_20 : decode prog_1_method_16_code 20 = .ok (.goto (4), 3) := by decide +kernel
theorem dX_depth_23 : decode prog_1_method_16_code 23 = .ok (.iconst (-1), 1) := by decide +kernel
theorem dX_depth_24 : decode prog_1_method_16_code 24 = .ok (.ireturn, 1) := by decide +kernel
theorem dX_load_0 : decode prog_1_method_17_code 0 = .ok (.aload_n 0, 1) := by decide +kernel
theorem dX_load_1 : decode prog_1_method_17_code 1 = .ok (.getfield 26, 3) := by decide +kernel
theorem dX_load_4 : decode prog_1_method_17_code 4 = .ok (.iload_n 1, 1) := by decide +kernel
theorem dX_load_5 : decode prog_1_method_17_code 5 = .ok (.invokevirtual 221, 3) := by decide +kernel
theorem dX_load_8 : decode prog_1_method_17_code 8 = .ok (.ifCond .eq (14), 3) := by decide +kernel
theorem dX_load_11 : decode prog_1_method_17_code 11 = .ok (.aload_n 0, 1) := by decide +kernel
theorem dX_load_12 : decode prog_1_method_17_code 12 = .ok (.getfield 38, 3) := by decide +kernel
theorem dX_load_15 : decode prog_1_method_17_code 15 = .ok (.iload_n 1, 1) := by decide +kernel
theorem dX_load_16 : decode prog_1_method_17_code 16 = .ok (.invokevirtual 288, 3) := by decide +kernel
theorem dX_load_19 : decode prog_1_method_17_code 19 = .ok (.goto (4), 3) := by decide +kernel
theorem dX_load_22 : decode prog_1_method_17_code 22 = .ok (.iconst (-1), 1) := by decide +kernel
theorem dX_load_23 : decode prog_1_method_17_code 23 = .ok (.ireturn, 1) := by decide +kernel
theorem dFa_neededUpon_0 : decode prog_4_method_7_code 0 = .ok (.iconst (0), 1) := by decide +kernel
theorem dFa_neededUpon_1 : decode prog_4_method_7_code 1 = .ok (.istore_n 2, 1) := by decide +kernel
theorem dFa_neededUpon_2 : decode prog_4_method_7_code 2 = .ok (.iload_n 1, 1) := by decide +kernel
theorem dFa_neededUpon_3 : decode prog_4_method_7_code 3 = .ok (.iconst (1), 1) := by decide +kernel
theorem dFa_neededUpon_4 : decode prog_4_method_7_code 4 = .ok (.iadd, 1) := by decide +kernel
theorem dFa_neededUpon_5 : decode prog_4_method_7_code 5 = .ok (.istore_n 3, 1) := by decide +kernel
theorem dFa_neededUpon_6 : decode prog_4_method_7_code 6 = .ok (.iload_n 3, 1) := by decide +kernel
theorem dFa_neededUpon_7 : decode prog_4_method_7_code 7 = .ok (.aload_n 0, 1) := by decide +kernel
theorem dFa_neededUpon_8 : decode prog_4_method_7_code 8 = .ok (.getfield 40, 3) := by decide +kernel
theorem dFa_neededUpon_11 : decode prog_4_method_7_code 11 = .ok (.getfield 57, 3) := by decide +kernel
theorem dFa_neededUpon_14 : decode prog_4_method_7_code 14 = .ok (.if_icmp .ge (36), 3) := by decide +kernel
theorem dFa_neededUpon_17 : decode prog_4_method_7_code 17 = .ok (.iload_n 3, 1) := by decide +kernel
theorem dFa_neededUpon_18 : decode prog_4_method_7_code 18 = .ok (.aload_n 0, 1) := by decide +kernel
theorem dFa_neededUpon_19 : decode prog_4_method_7_code 19 = .ok (.getfield 79, 3) := by decide +kernel
theorem dFa_neededUpon_22 : decode prog_4_method_7_code 22 = .ok (.invokestatic 133, 3) := by decide +kernel
theorem dFa_neededUpon_25 : decode prog_4_method_7_code 25 = .ok (.ifCond .eq (19), 3) := by decide +kernel
theorem dFa_neededUpon_28 : decode prog_4_method_7_code 28 = .ok (.iload_n 1, 1) := by decide +kernel
theorem dFa_neededUpon_29 : decode prog_4_method_7_code 29 = .ok (.aload_n 0, 1) := by decide +kernel
theorem dFa_neededUpon_30 : decode prog_4_method_7_code 30 = .ok (.getfield 26, 3) := by decide +kernel
theorem dFa_neededUpon_33 : decode prog_4_method_7_code 33 = .ok (.iload_n 3, 1) := by decide +kernel
theorem dFa_neededUpon_34 : decode prog_4_method_7_code 34 = .ok (.laload, 1) := by decide +kernel
theorem dFa_neededUpon_35 : decode prog_4_method_7_code 35 = .ok (.invokestatic 133, 3) := by decide +kernel
theorem dFa_neededUpon_38 : decode prog_4_method_7_code 38 = .ok (.ifCond .eq (6), 3) := by decide +kernel
theorem dFa_neededUpon_41 : decode prog_4_method_7_code 41 = .ok (.iinc 2 (1), 3) := by decide +kernel
theorem dFa_neededUpon_44 : decode prog_4_method_7_code 44 = .ok (.iinc 3 (1), 3) := by decide +kernel
theorem dFa_neededUpon_47 : decode prog_4_method_7_code 47 = .ok (.goto (-41), 3) := by decide +kernel
theorem dFa_neededUpon_50 : decode prog_4_method_7_code 50 = .ok (.iload_n 2, 1) := by decide +kernel
theorem dFa_neededUpon_51 : decode prog_4_method_7_code 51 = .ok (.ireturn, 1) := by decide +kernel
theorem dX_covers_0 : decode prog_1_method_18_code 0 = .ok (.aload_n 0, 1) := by decide +kernel
theorem dX_covers_1 : decode prog_1_method_18_code 1 = .ok (.getfield 26, 3) := by decide +kernel
theorem dX_covers_4 : decode prog_1_method_18_code 4 = .ok (.iload_n 1, 1) := by decide +kernel
theorem dX_covers_5 : decode prog_1_method_18_code 5 = .ok (.invokevirtual 221, 3) := by decide +kernel
theorem dX_covers_8 : decode prog_1_method_18_code 8 = .ok (.ifCond .eq (15), 3) := by decide +kernel
theorem dX_covers_11 : decode prog_1_method_18_code 11 = .ok (.aload_n 0, 1) := by decide +kernel
theorem dX_covers_12 : decode prog_1_method_18_code 12 = .ok (.getfield 38, 3) := by decide +kernel
theorem dX_covers_15 : decode prog_1_method_18_code 15 = .ok (.getfield 291, 3) := by decide +kernel
theorem dX_covers_18 : decode prog_1_method_18_code 18 = .ok (.iload_n 1, 1) := by decide +kernel
theorem dX_covers_19 : decode prog_1_method_18_code 19 = .ok (.iaload, 1) := by decide +kernel
theorem dX_covers_20 : decode prog_1_method_18_code 20 = .ok (.goto (4), 3) := by decide +kernel
theorem dX_covers_23 : decode prog_1_method_18_code 23 = .ok (.iconst (-1), 1) := by decide +kernel
theorem dX_covers_24 : decode prog_1_method_18_code 24 = .ok (.ireturn, 1) := by decide +kernel
theorem dX_vital_0 : decode prog_1_method_19_code 0 = .ok (.aload_n 0, 1) := by decide +kernel
theorem dX_vital_1 : decode prog_1_method_19_code 1 = .ok (.getfield 26, 3) := by decide +kernel
theorem dX_vital_4 : decode prog_1_method_19_code 4 = .ok (.iload_n 1, 1) := by decide +kernel
theorem dX_vital_5 : decode prog_1_method_19_code 5 = .ok (.invokevirtual 221, 3) := by decide +kernel
theorem dX_vital_8 : decode prog_1_method_19_code 8 = .ok (.ifCond .eq (20), 3) := by decide +kernel
theorem dX_vital_11 : decode prog_1_method_19_code 11 = .ok (.iload_n 1, 1) := by decide +kernel
theorem dX_vital_12 : decode prog_1_method_19_code 12 = .ok (.aload_n 0, 1) := by decide +kernel
theorem dX_vital_13 : decode prog_1_method_19_code 13 = .ok (.getfield 38, 3) := by decide +kernel
theorem dX_vital_16 : decode prog_1_method_19_code 16 = .ok (.getfield 294, 3) := by decide +kernel
theorem dX_vital_19 : decode prog_1_method_19_code 19 = .ok (.invokestatic 230, 3) := by decide +kernel
theorem dX_vital_22 : decode prog_1_method_19_code 22 = .ok (.invokestatic 213, 3) := by decide +kernel
theorem dX_vital_25 : decode prog_1_method_19_code 25 = .ok (.goto (4), 3) := by decide +kernel
theorem dX_vital_28 : decode prog_1_method_19_code 28 = .ok (.iconst (-1), 1) := by decide +kernel
theorem dX_vital_29 : decode prog_1_method_19_code 29 = .ok (.ireturn, 1) := by decide +kernel
theorem dX_vitals_0 : decode prog_1_method_20_code 0 = .ok (.aload_n 0, 1) := by decide +kernel
theorem dX_vitals_1 : decode prog_1_method_20_code 1 = .ok (.getfield 38, 3) := by decide +kernel
theorem dX_vitals_4 : decode prog_1_method_20_code 4 = .ok (.getfield 294, 3) := by decide +kernel
theorem dX_vitals_7 : decode prog_1_method_20_code 7 = .ok (.iload_n 1, 1) := by decide +kernel
theorem dX_vitals_8 : decode prog_1_method_20_code 8 = .ok (.invokestatic 269, 3) := by decide +kernel
theorem dX_vitals_11 : decode prog_1_method_20_code 11 = .ok (.ireturn, 1) := by decide +kernel
theorem dX_beside_0 : decode prog_1_method_21_code 0 = .ok (.aload_n 0, 1) := by decide +kernel
theorem dX_beside_1 : decode prog_1_method_21_code 1 = .ok (.getfield 26, 3) := by decide +kernel
theorem dX_beside_4 : decode prog_1_method_21_code 4 = .ok (.iload_n 1, 1) := by decide +kernel
theorem dX_beside_5 : decode prog_1_method_21_code 5 = .ok (.invokevirtual 221, 3) := by decide +kernel
theorem dX_beside_8 : decode prog_1_method_21_code 8 = .ok (.ifCond .eq (14), 3) := by decide +kernel
theorem dX_beside_11 : decode prog_1_method_21_code 11 = .ok (.aload_n 0, 1) := by decide +kernel
theorem dX_beside_12 : decode prog_1_method_21_code 12 = .ok (.getfield 26, 3) := by decide +kernel
theorem dX_beside_15 : decode prog_1_method_21_code 15 = .ok (.iload_n 2, 1) := by decide +kernel
theorem dX_beside_16 : decode prog_1_method_21_code 16 = .ok (.invokevirtual 221, 3) := by decide +kernel
theorem dX_beside_19 : decode prog_1_method_21_code 19 = .ok (.ifCond .ne (5), 3) := by decide +kernel
theorem dX_beside_22 : decode prog_1_method_21_code 22 = .ok (.iconst (-1), 1) := by decide +kernel
theorem dX_beside_23 : decode prog_1_method_21_code 23 = .ok (.ireturn, 1) := by decide +kernel
theorem dX_beside_24 : decode prog_1_method_21_code 24 = .ok (.aload_n 0, 1) := by decide +kernel
theorem dX_beside_25 : decode prog_1_method_21_code 25 = .ok (.getfield 45, 3) := by decide +kernel
theorem dX_beside_28 : decode prog_1_method_21_code 28 = .ok (.aload_n 0, 1) := by decide +kernel
theorem dX_beside_29 : decode prog_1_method_21_code 29 = .ok (.getfield 26, 3) := by decide +kernel
theorem dX_beside_32 : decode prog_1_method_21_code 32 = .ok (.getfield 142, 3) := by decide +kernel
theorem dX_beside_35 : decode prog_1_method_21_code 35 = .ok (.aload_n 0, 1) := by decide +kernel
theorem dX_beside_36 : decode prog_1_method_21_code 36 = .ok (.getfield 26, 3) := by decide +kernel
theorem dX_beside_39 : decode prog_1_method_21_code 39 = .ok (.getfield 247, 3) := by decide +kernel
theorem dX_beside_42 : decode prog_1_method_21_code 42 = .ok (.iload_n 1, 1) := by decide +kernel
theorem dX_beside_43 : decode prog_1_method_21_code 43 = .ok (.iaload, 1) := by decide +kernel
theorem dX_beside_44 : decode prog_1_method_21_code 44 = .ok (.aload_n 0, 1) := by decide +kernel
theorem dX_beside_45 : decode prog_1_method_21_code 45 = .ok (.getfield 26, 3) := by decide +kernel
theorem dX_beside_48 : decode prog_1_method_21_code 48 = .ok (.getfield 247, 3) := by decide +kernel
theorem dX_beside_51 : decode prog_1_method_21_code 51 = .ok (.iload_n 2, 1) := by decide +kernel
theorem dX_beside_52 : decode prog_1_method_21_code 52 = .ok (.iaload, 1) := by decide +kernel
theorem dX_beside_53 : decode prog_1_method_21_code 53 = .ok (.invokevirtual 297, 3) := by decide +kernel
theorem dX_beside_56 : decode prog_1_method_21_code 56 = .ok (.iload_n 3, 1) := by decide +kernel
theorem dX_beside_57 : decode prog_1_method_21_code 57 = .ok (.tableswitch (51) (0) (2) #[27, 35, 43], 27) := by decide +kernel
theorem dX_beside_84 : decode prog_1_method_21_code 84 = .ok (.aload_n 0, 1) := by decide +kernel
theorem dX_beside_85 : decode prog_1_method_21_code 85 = .ok (.getfield 45, 3) := by decide +kernel
theorem dX_beside_88 : decode prog_1_method_21_code 88 = .ok (.getfield 301, 3) := by decide +kernel
theorem dX_beside_91 : decode prog_1_method_21_code 91 = .ok (.ireturn, 1) := by decide +kernel
theorem dX_beside_92 : decode prog_1_method_21_code 92 = .ok (.aload_n 0, 1) := by decide +kernel
theorem dX_beside_93 : decode prog_1_method_21_code 93 = .ok (.getfield 45, 3) := by decide +kernel
theorem dX_beside_96 : decode prog_1_method_21_code 96 = .ok (.getfield 303, 3) := by decide +kernel
theorem dX_beside_99 : decode prog_1_method_21_code 99 = .ok (.ireturn, 1) := by decide +kernel
theorem dX_beside_100 : decode prog_1_method_21_code 100 = .ok (.aload_n 0, 1) := by decide +kernel
theorem dX_beside_101 : decode prog_1_method_21_code 101 = .ok (.getfield 45, 3) := by decide +kernel
theorem dX_beside_104 : decode prog_1_method_21_code 104 = .ok (.getfield 306, 3) := by decide +kernel
theorem dX_beside_107 : decode prog_1_method_21_code 107 = .ok (.ireturn, 1) := by decide +kernel
theorem dX_beside_108 : decode prog_1_method_21_code 108 = .ok (.iconst (-1), 1) := by decide +kernel
theorem dX_beside_109 : decode prog_1_method_21_code 109 = .ok (.ireturn, 1) := by decide +kernel
theorem dBe_lay_0 : decode prog_2_method_2_code 0 = .ok (.iload_n 2, 1) := by decide +kernel
theorem dBe_lay_1 : decode prog_2_method_2_code 1 = .ok (.istore 4, 2) := by decide +kernel
theorem dBe_lay_3 : decode prog_2_method_2_code 3 = .ok (.iload_n 3, 1) := by decide +kernel
theorem dBe_lay_4 : decode prog_2_method_2_code 4 = .ok (.istore 5, 2) := by decide +kernel
theorem dBe_lay_6 : decode prog_2_method_2_code 6 = .ok (.aload_n 0, 1) := by decide +kernel
theorem dBe_lay_7 : decode prog_2_method_2_code 7 = .ok (.iconst (0), 1) := by decide +kernel
theorem dBe_lay_8 : decode prog_2_method_2_code 8 = .ok (.putfield 21, 3) := by decide +kernel
theorem dBe_lay_11 : decode prog_2_method_2_code 11 = .ok (.aload_n 0, 1) := by decide +kernel
theorem dBe_lay_12 : decode prog_2_method_2_code 12 = .ok (.iconst (0), 1) := by decide +kernel
theorem dBe_lay_13 : decode prog_2_method_2_code 13 = .ok (.putfield 25, 3) := by decide +kernel
theorem dBe_lay_16 : decode prog_2_method_2_code 16 = .ok (.aload_n 0, 1) := by decide +kernel
theorem dBe_lay_17 : decode prog_2_method_2_code 17 = .ok (.iconst (0), 1) := by decide +kernel
theorem dBe_lay_18 : decode prog_2_method_2_code 18 = .ok (.putfield 28, 3) := by decide +kernel
theorem dBe_lay_21 : decode prog_2_method_2_code 21 = .ok (.aload_n 0, 1) := by decide +kernel
theorem dBe_lay_22 : decode prog_2_method_2_code 22 = .ok (.getfield 21, 3) := by decide +kernel
theorem dBe_lay_25 : decode prog_2_method_2_code 25 = .ok (.bipush (24), 2) := by decide +kernel
theorem dBe_lay_27 : decode prog_2_method_2_code 27 = .ok (.if_icmp .ge (130), 3) := by decide +kernel
theorem dBe_lay_30 : decode prog_2_method_2_code 30 = .ok (.iload 4, 2) := by decide +kernel
theorem dBe_lay_32 : decode prog_2_method_2_code 32 = .ok (.aload_n 1, 1) := by decide +kernel
theorem dBe_lay_33 : decode prog_2_method_2_code 33 = .ok (.getfield 31, 3) := by decide +kernel
theorem dBe_lay_36 : decode prog_2_method_2_code 36 = .ok (.iload_n 2, 1) := by decide +kernel
theorem dBe_lay_37 : decode prog_2_method_2_code 37 = .ok (.iaload, 1) := by decide +kernel
theorem dBe_lay_38 : decode prog_2_method_2_code 38 = .ok (.if_icmp .ge (119), 3) := by decide +kernel
theorem dBe_lay_41 : decode prog_2_method_2_code 41 = .ok (.iload 5, 2) := by decide +kernel
theorem dBe_lay_43 : decode prog_2_method_2_code 43 = .ok (.aload_n 1, 1) := by decide +kernel
theorem dBe_lay_44 : decode prog_2_method_2_code 44 = .ok (.getfield 31, 3) := by decide +kernel
theorem dBe_lay_47 : decode prog_2_method_2_code 47 = .ok (.iload_n 3, 1) := by decide +kernel
theorem dBe_lay_48 : decode prog_2_method_2_code 48 = .ok (.iaload, 1) := by decide +kernel
theorem dBe_lay_49 : decode prog_2_method_2_code 49 = .ok (.if_icmp .ge (108), 3) := by decide +kernel
theorem dBe_lay_52 : decode prog_2_method_2_code 52 = .ok (.aload_n 1, 1) := by decide +kernel
theorem dBe_lay_53 : decode prog_2_method_2_code 53 = .ok (.getfield 34, 3) := by decide +kernel
theorem dBe_lay_56 : decode prog_2_method_2_code 56 = .ok (.iload 4, 2) := by decide +kernel
theorem dBe_lay_58 : decode prog_2_method_2_code 58 = .ok (.iaload, 1) := by decide +kernel
theorem dBe_lay_59 : decode prog_2_method_2_code 59 = .ok (.aload_n 1, 1) := by decide +kernel
theorem dBe_lay_60 : decode prog_2_method_2_code 60 = .ok (.getfield 34, 3) := by decide +kernel
theorem dBe_lay_63 : decode prog_2_method_2_code 63 = .ok (.iload 5, 2) := by decide +kernel
theorem dBe_lay_65 : decode prog_2_method_2_code 65 = .ok (.iaload, 1) := by decide +kernel
theorem dBe_lay_66 : decode prog_2_method_2_code 66 = .ok (.if_icmp .ne (28), 3) := by decide +kernel
theorem dBe_lay_69 : decode prog_2_method_2_code 69 = .ok (.aload_n 0, 1) := by decide +kernel
theorem dBe_lay_70 : decode prog_2_method_2_code 70 = .ok (.getfield 9, 3) := by decide +kernel
theorem dBe_lay_73 : decode prog_2_method_2_code 73 = .ok (.aload_n 0, 1) := by decide +kernel
theorem dBe_lay_74 : decode prog_2_method_2_code 74 = .ok (.getfield 21, 3) := by decide +kernel
theorem dBe_lay_77 : decode prog_2_method_2_code 77 = .ok (.aload_n 1, 1) := by decide +kernel
theorem dBe_lay_78 : decode prog_2_method_2_code 78 = .ok (.getfield 34, 3) := by decide +kernel
theorem dBe_lay_81 : decode prog_2_method_2_code 81 = .ok (.iload 4, 2) := by decide +kernel
theorem dBe_lay_83 : decode prog_2_method_2_code 83 = .ok (.iaload, 1) := by decide +kernel
theorem dBe_lay_84 : decode prog_2_method_2_code 84 = .ok (.iastore, 1) := by decide +kernel
theorem dBe_lay_85 : decode prog_2_method_2_code 85 = .ok (.iinc 4 (1), 3) := by decide +kernel
theorem dBe_lay_88 : decode prog_2_method_2_code 88 = .ok (.iinc 5 (1), 3) := by decide +kernel
theorem dBe_lay_91 : decode prog_2_method_2_code 91 = .ok (.goto (53), 3) := by decide +kernel
theorem dBe_lay_94 : decode prog_2_method_2_code 94 = .ok (.aload_n 0, 1) := by decide +kernel
theorem dBe_lay_95 : decode prog_2_method_2_code 95 = .ok (.getfield 9, 3) := by decide +kernel
theorem dBe_lay_98 : decode prog_2_method_2_code 98 = .ok (.aload_n 0, 1) := by decide +kernel
theorem dBe_lay_99 : decode prog_2_method_2_code 99 = .ok (.getfield 21, 3) := by decide +kernel
theorem dBe_lay_102 : decode prog_2_method_2_code 102 = .ok (.sipush (200), 3) := by decide +kernel
theorem dBe_lay_105 : decode prog_2_method_2_code 105 = .ok (.aload_n 0, 1) := by decide +kernel
theorem dBe_lay_106 : decode prog_2_method_2_code 106 = .ok (.aload_n 1, 1) := by decide +kernel
theorem dBe_lay_107 : decode prog_2_method_2_code 107 = .ok (.iload 4, 2) := by decide +kernel
theorem dBe_lay_109 : decode prog_2_method_2_code 109 = .ok (.iload 5, 2) := by decide +kernel
theorem dBe_lay_111 : decode prog_2_method_2_code 111 = .ok (.invokevirtual 35, 3) := by decide +kernel
theorem dBe_lay_114 : decode prog_2_method_2_code 114 = .ok (.iadd, 1) := by decide +kernel
theorem dBe_lay_115 : decode prog_2_method_2_code 115 = .ok (.iastore, 1) := by decide +kernel
theorem dBe_lay_116 : decode prog_2_method_2_code 116 = .ok (.aload_n 0, 1) := by decide +kernel
theorem dBe_lay_117 : decode prog_2_method_2_code 117 = .ok (.dup, 1) := by decide +kernel
theorem dBe_lay_118 : decode prog_2_method_2_code 118 = .ok (.getfield 25, 3) := by decide +kernel
theorem dBe_lay_121 : decode prog_2_method_2_code 121 = .ok (.iconst (1), 1) := by decide +kernel
theorem dBe_lay_122 : decode prog_2_method_2_code 122 = .ok (.iadd, 1) := by decide +kernel
theorem dBe_lay_123 : decode prog_2_method_2_code 123 = .ok (.putfield 25, 3) := by decide +kernel
theorem dBe_lay_126 : decode prog_2_method_2_code 126 = .ok (.aload_n 1, 1) := by decide +kernel
theorem dBe_lay_127 : decode prog_2_method_2_code 127 = .ok (.getfield 31, 3) := by decide +kernel
theorem dBe_lay_130 : decode prog_2_method_2_code 130 = .ok (.iload 4, 2) := by decide +kernel
theorem dBe_lay_132 : decode prog_2_method_2_code 132 = .ok (.iaload, 1) := by decide +kernel
theorem dBe_lay_133 : decode prog_2_method_2_code 133 = .ok (.istore 4, 2) := by decide +kernel
theorem dBe_lay_135 : decode prog_2_method_2_code 135 = .ok (.aload_n 1, 1) := by decide +kernel
theorem dBe_lay_136 : decode prog_2_method_2_code 136 = .ok (.getfield 31, 3) := by decide +kernel
theorem dBe_lay_139 : decode prog_2_method_2_code 139 = .ok (.iload 5, 2) := by decide +kernel
theorem dBe_lay_141 : decode prog_2_method_2_code 141 = .ok (.iaload, 1) := by decide +kernel
theorem dBe_lay_142 : decode prog_2_method_2_code 142 = .ok (.istore 5, 2) := by decide +kernel
theorem dBe_lay_144 : decode prog_2_method_2_code 144 = .ok (.aload_n 0, 1) := by decide +kernel
theorem dBe_lay_145 : decode prog_2_method_2_code 145 = .ok (.dup, 1) := by decide +kernel
theorem dBe_lay_146 : decode prog_2_method_2_code 146 = .ok (.getfield 21, 3) := by decide +kernel
theorem dBe_lay_149 : decode prog_2_method_2_code 149 = .ok (.iconst (1), 1) := by decide +kernel
theorem dBe_lay_150 : decode prog_2_method_2_code 150 = .ok (.iadd, 1) := by decide +kernel
theorem dBe_lay_151 : decode prog_2_method_2_code 151 = .ok (.putfield 21, 3) := by decide +kernel
theorem dBe_lay_154 : decode prog_2_method_2_code 154 = .ok (.goto (-133), 3) := by decide +kernel
theorem dBe_lay_157 : decode prog_2_method_2_code 157 = .ok (.return_, 1) := by decide +kernel
theorem dBe_holeFor_0 : decode prog_2_method_3_code 0 = .ok (.iconst (0), 1) := by decide +kernel
theorem dBe_holeFor_1 : decode prog_2_method_3_code 1 = .ok (.istore 4, 2) := by decide +kernel
theorem dBe_holeFor_3 : decode prog_2_method_3_code 3 = .ok (.iload 4, 2) := by decide +kernel
theorem dBe_holeFor_5 : decode prog_2_method_3_code 5 = .ok (.aload_n 0, 1) := by decide +kernel
theorem dBe_holeFor_6 : decode prog_2_method_3_code 6 = .ok (.getfield 28, 3) := by decide +kernel
theorem dBe_holeFor_9 : decode prog_2_method_3_code 9 = .ok (.if_icmp .ge (42), 3) := by decide +kernel
theorem dBe_holeFor_12 : decode prog_2_method_3_code 12 = .ok (.aload_n 1, 1) := by decide +kernel
theorem dBe_holeFor_13 : decode prog_2_method_3_code 13 = .ok (.aload_n 0, 1) := by decide +kernel
theorem dBe_holeFor_14 : decode prog_2_method_3_code 14 = .ok (.getfield 15, 3) := by decide +kernel
theorem dBe_holeFor_17 : decode prog_2_method_3_code 17 = .ok (.iload 4, 2) := by decide +kernel
theorem dBe_holeFor_19 : decode prog_2_method_3_code 19 = .ok (.iaload, 1) := by decide +kernel
theorem dBe_holeFor_20 : decode prog_2_method_3_code 20 = .ok (.iload_n 2, 1) := by decide +kernel
theorem dBe_holeFor_21 : decode prog_2_method_3_code 21 = .ok (.invokevirtual 39, 3) := by decide +kernel
theorem dBe_holeFor_24 : decode prog_2_method_3_code 24 = .ok (.ifCond .eq (21), 3) := by decide +kernel
theorem dBe_holeFor_27 : decode prog_2_method_3_code 27 = .ok (.aload_n 1, 1) := by decide +kernel
theorem dBe_holeFor_28 : decode prog_2_method_3_code 28 = .ok (.aload_n 0, 1) := by decide +kernel
theorem dBe_holeFor_29 : decode prog_2_method_3_code 29 = .ok (.getfield 18, 3) := by decide +kernel
theorem dBe_holeFor_32 : decode prog_2_method_3_code 32 = .ok (.iload 4, 2) := by decide +kernel
theorem dBe_holeFor_34 : decode prog_2_method_3_code 34 = .ok (.iaload, 1) := by decide +kernel
theorem dBe_holeFor_35 : decode prog_2_method_3_code 35 = .ok (.iload_n 3, 1) := by decide +kernel
theorem dBe_holeFor_36 : decode prog_2_method_3_code 36 = .ok (.invokevirtual 39, 3) := by decide +kernel
theorem dBe_holeFor_39 : decode prog_2_method_3_code 39 = .ok (.ifCond .eq (6), 3) := by decide +kernel
theorem dBe_holeFor_42 : decode prog_2_method_3_code 42 = .ok (.iload 4, 2) := by decide +kernel
theorem dBe_holeFor_44 : decode prog_2_method_3_code 44 = .ok (.ireturn, 1) := by decide +kernel
theorem dBe_holeFor_45 : decode prog_2_method_3_code 45 = .ok (.iinc 4 (1), 3) := by decide +kernel
theorem dBe_holeFor_48 : decode prog_2_method_3_code 48 = .ok (.goto (-45), 3) := by decide +kernel
theorem dBe_holeFor_51 : decode prog_2_method_3_code 51 = .ok (.aload_n 0, 1) := by decide +kernel
theorem dBe_holeFor_52 : decode prog_2_method_3_code 52 = .ok (.getfield 15, 3) := by decide +kernel
theorem dBe_holeFor_55 : decode prog_2_method_3_code 55 = .ok (.aload_n 0, 1) := by decide +kernel
theorem dBe_holeFor_56 : decode prog_2_method_3_code 56 = .ok (.getfield 28, 3) := by decide +kernel
theorem dBe_holeFor_59 : decode prog_2_method_3_code 59 = .ok (.iload_n 2, 1) := by decide +kernel
theorem dBe_holeFor_60 : decode prog_2_method_3_code 60 = .ok (.iastore, 1) := by decide +kernel
theorem dBe_holeFor_61 : decode prog_2_method_3_code 61 = .ok (.aload_n 0, 1) := by decide +kernel
theorem dBe_holeFor_62 : decode prog_2_method_3_code 62 = .ok (.getfield 18, 3) := by decide +kernel
theorem dBe_holeFor_65 : decode prog_2_method_3_code 65 = .ok (.aload_n 0, 1) := by decide +kernel
theorem dBe_holeFor_66 : decode prog_2_method_3_code 66 = .ok (.getfield 28, 3) := by decide +kernel
theorem dBe_holeFor_69 : decode prog_2_method_3_code 69 = .ok (.iload_n 3, 1) := by decide +kernel
theorem dBe_holeFor_70 : decode prog_2_method_3_code 70 = .ok (.iastore, 1) := by decide +kernel
theorem dBe_holeFor_71 : decode prog_2_method_3_code 71 = .ok (.aload_n 0, 1) := by decide +kernel
theorem dBe_holeFor_72 : decode prog_2_method_3_code 72 = .ok (.dup, 1) := by decide +kernel
theorem dBe_holeFor_73 : decode prog_2_method_3_code 73 = .ok (.getfield 28, 3) := by decide +kernel
theorem dBe_holeFor_76 : decode prog_2_method_3_code 76 = .ok (.iconst (1), 1) := by decide +kernel
theorem dBe_holeFor_77 : decode prog_2_method_3_code 77 = .ok (.iadd, 1) := by decide +kernel
theorem dBe_holeFor_78 : decode prog_2_method_3_code 78 = .ok (.putfield 28, 3) := by decide +kernel
theorem dBe_holeFor_81 : decode prog_2_method_3_code 81 = .ok (.aload_n 0, 1) := by decide +kernel
theorem dBe_holeFor_82 : decode prog_2_method_3_code 82 = .ok (.getfield 28, 3) := by decide +kernel
theorem dBe_holeFor_85 : decode prog_2_method_3_code 85 = .ok (.iconst (1), 1) := by decide +kernel
theorem dBe_holeFor_86 : decode prog_2_method_3_code 86 = .ok (.isub, 1) := by decide +kernel
theorem dBe_holeFor_87 : decode prog_2_method_3_code 87 = .ok (.ireturn, 1) := by decide +kernel
theorem dX_common_0 : decode prog_1_method_22_code 0 = .ok (.aload_n 0, 1) := by decide +kernel
theorem dX_common_1 : decode prog_1_method_22_code 1 = .ok (.getfield 26, 3) := by decide +kernel
theorem dX_common_4 : decode prog_1_method_22_code 4 = .ok (.iload_n 1, 1) := by decide +kernel
theorem dX_common_5 : decode prog_1_method_22_code 5 = .ok (.invokevirtual 221, 3) := by decide +kernel
theorem dX_common_8 : decode prog_1_method_22_code 8 = .ok (.ifCond .eq (18), 3) := by decide +kernel
theorem dX_common_11 : decode prog_1_method_22_code 11 = .ok (.aload_n 0, 1) := by decide +kernel
theorem dX_common_12 : decode prog_1_method_22_code 12 = .ok (.getfield 26, 3) := by decide +kernel
theorem dX_common_15 : decode prog_1_method_22_code 15 = .ok (.iload_n 2, 1) := by decide +kernel
theorem dX_common_16 : decode prog_1_method_22_code 16 = .ok (.invokevirtual 221, 3) := by decide +kernel
theorem dX_common_19 : decode prog_1_method_22_code 19 = .ok (.ifCond .eq (7), 3) := by decide +kernel
theorem dX_common_22 : decode prog_1_method_22_code 22 = .ok (.iload_n 3, 1) := by decide +kernel
theorem dX_common_23 : decode prog_1_method_22_code 23 = .ok (.ifCond .ge (5), 3) := by decide +kernel
theorem dX_common_26 : decode prog_1_method_22_code 26 = .ok (.iconst (-1), 1) := by decide +kernel
theorem dX_common_27 : decode prog_1_method_22_code 27 = .ok (.ireturn, 1) := by decide +kernel
theorem dX_common_28 : decode prog_1_method_22_code 28 = .ok (.aload_n 0, 1) := by decide +kernel
theorem dX_common_29 : decode prog_1_method_22_code 29 = .ok (.getfield 45, 3) := by decide +kernel
theorem dX_common_32 : decode prog_1_method_22_code 32 = .ok (.aload_n 0, 1) := by decide +kernel
theorem dX_common_33 : decode prog_1_method_22_code 33 = .ok (.getfield 26, 3) := by decide +kernel
theorem dX_common_36 : decode prog_1_method_22_code 36 = .ok (.getfield 142, 3) := by decide +kernel
theorem dX_common_39 : decode prog_1_method_22_code 39 = .ok (.aload_n 0, 1) := by decide +kernel
theorem dX_common_40 : decode prog_1_method_22_code 40 = .ok (.getfield 26, 3) := by decide +kernel
theorem dX_common_43 : decode prog_1_method_22_code 43 = .ok (.getfield 247, 3) := by decide +kernel
theorem dX_common_46 : decode prog_1_method_22_code 46 = .ok (.iload_n 1, 1) := by decide +kernel
theorem dX_common_47 : decode prog_1_method_22_code 47 = .ok (.iaload, 1) := by decide +kernel
theorem dX_common_48 : decode prog_1_method_22_code 48 = .ok (.aload_n 0, 1) := by decide +kernel
theorem dX_common_49 : decode prog_1_method_22_code 49 = .ok (.getfield 26, 3) := by decide +kernel
theorem dX_common_52 : decode prog_1_method_22_code 52 = .ok (.getfield 247, 3) := by decide +kernel
theorem dX_common_55 : decode prog_1_method_22_code 55 = .ok (.iload_n 2, 1) := by decide +kernel
theorem dX_common_56 : decode prog_1_method_22_code 56 = .ok (.iaload, 1) := by decide +kernel
theorem dX_common_57 : decode prog_1_method_22_code 57 = .ok (.invokevirtual 297, 3) := by decide +kernel
theorem dX_common_60 : decode prog_1_method_22_code 60 = .ok (.iload_n 3, 1) := by decide +kernel
theorem dX_common_61 : decode prog_1_method_22_code 61 = .ok (.aload_n 0, 1) := by decide +kernel
theorem dX_common_62 : decode prog_1_method_22_code 62 = .ok (.getfield 45, 3) := by decide +kernel
theorem dX_common_65 : decode prog_1_method_22_code 65 = .ok (.getfield 301, 3) := by decide +kernel
theorem dX_common_68 : decode prog_1_method_22_code 68 = .ok (.if_icmp .ge (15), 3) := by decide +kernel
theorem dX_common_71 : decode prog_1_method_22_code 71 = .ok (.aload_n 0, 1) := by decide +kernel
theorem dX_common_72 : decode prog_1_method_22_code 72 = .ok (.getfield 45, 3) := by decide +kernel
theorem dX_common_75 : decode prog_1_method_22_code 75 = .ok (.getfield 309, 3) := by decide +kernel
theorem dX_common_78 : decode prog_1_method_22_code 78 = .ok (.iload_n 3, 1) := by decide +kernel
theorem dX_common_79 : decode prog_1_method_22_code 79 = .ok (.iaload, 1) := by decide +kernel
theorem dX_common_80 : decode prog_1_method_22_code 80 = .ok (.goto (4), 3) := by decide +kernel
theorem dX_common_83 : decode prog_1_method_22_code 83 = .ok (.iconst (-1), 1) := by decide +kernel
theorem dX_common_84 : decode prog_1_method_22_code 84 = .ok (.ireturn, 1) := by decide +kernel
theorem dX_run_0 : decode prog_1_method_23_code 0 = .ok (.aload_n 0, 1) := by decide +kernel
theorem dX_run_1 : decode prog_1_method_23_code 1 = .ok (.getfield 26, 3) := by decide +kernel
theorem dX_run_4 : decode prog_1_method_23_code 4 = .ok (.iload_n 1, 1) := by decide +kernel
theorem dX_run_5 : decode prog_1_method_23_code 5 = .ok (.iload_n 2, 1) := by decide +kernel
theorem dX_run_6 : decode prog_1_method_23_code 6 = .ok (.invokestatic 310, 3) := by decide +kernel
theorem dX_run_9 : decode prog_1_method_23_code 9 = .ok (.ifCond .eq (22), 3) := by decide +kernel
theorem dX_run_12 : decode prog_1_method_23_code 12 = .ok (.aload_n 0, 1) := by decide +kernel
theorem dX_run_13 : decode prog_1_method_23_code 13 = .ok (.getfield 52, 3) := by decide +kernel
theorem dX_run_16 : decode prog_1_method_23_code 16 = .ok (.aload_n 0, 1) := by decide +kernel
theorem dX_run_17 : decode prog_1_method_23_code 17 = .ok (.getfield 38, 3) := by decide +kernel
theorem dX_run_20 : decode prog_1_method_23_code 20 = .ok (.iload_n 1, 1) := by decide +kernel
theorem dX_run_21 : decode prog_1_method_23_code 21 = .ok (.iload_n 2, 1) := by decide +kernel
theorem dX_run_22 : decode prog_1_method_23_code 22 = .ok (.invokevirtual 314, 3) := by decide +kernel
theorem dX_run_25 : decode prog_1_method_23_code 25 = .ok (.invokestatic 213, 3) := by decide +kernel
theorem dX_run_28 : decode prog_1_method_23_code 28 = .ok (.goto (4), 3) := by decide +kernel
theorem dX_run_31 : decode prog_1_method_23_code 31 = .ok (.iconst (-1), 1) := by decide +kernel
theorem dX_run_32 : decode prog_1_method_23_code 32 = .ok (.ireturn, 1) := by decide +kernel
theorem dRu_fit_0 : decode prog_8_method_2_code 0 = .ok (.iload_n 2, 1) := by decide +kernel
theorem dRu_fit_1 : decode prog_8_method_2_code 1 = .ok (.iconst (2), 1) := by decide +kernel
theorem dRu_fit_2 : decode prog_8_method_2_code 2 = .ok (.if_icmp .lt (27), 3) := by decide +kernel
theorem dRu_fit_5 : decode prog_8_method_2_code 5 = .ok (.iload_n 2, 1) := by decide +kernel
theorem dRu_fit_6 : decode prog_8_method_2_code 6 = .ok (.bipush (8), 2) := by decide +kernel
theorem dRu_fit_8 : decode prog_8_method_2_code 8 = .ok (.if_icmp .gt (21), 3) := by decide +kernel
theorem dRu_fit_11 : decode prog_8_method_2_code 11 = .ok (.iload_n 1, 1) := by decide +kernel
theorem dRu_fit_12 : decode prog_8_method_2_code 12 = .ok (.ifCond .lt (17), 3) := by decide +kernel
theorem dRu_fit_15 : decode prog_8_method_2_code 15 = .ok (.iload_n 1, 1) := by decide +kernel
theorem dRu_fit_16 : decode prog_8_method_2_code 16 = .ok (.aload_n 0, 1) := by decide +kernel
theorem dRu_fit_17 : decode prog_8_method_2_code 17 = .ok (.getfield 9, 3) := by decide +kernel
theorem dRu_fit_20 : decode prog_8_method_2_code 20 = .ok (.iload_n 2, 1) := by decide +kernel
theorem dRu_fit_21 : decode prog_8_method_2_code 21 = .ok (.isub, 1) := by decide +kernel
theorem dRu_fit_22 : decode prog_8_method_2_code 22 = .ok (.if_icmp .gt (7), 3) := by decide +kernel
theorem dRu_fit_25 : decode prog_8_method_2_code 25 = .ok (.iconst (1), 1) := by decide +kernel
theorem dRu_fit_26 : decode prog_8_method_2_code 26 = .ok (.goto (4), 3) := by decide +kernel
theorem dRu_fit_29 : decode prog_8_method_2_code 29 = .ok (.iconst (0), 1) := by decide +kernel
theorem dRu_fit_30 : decode prog_8_method_2_code 30 = .ok (.ireturn, 1) := by decide +kernel
theorem dRu_isRun_0 : decode prog_8_method_4_code 0 = .ok (.iload_n 2, 1) := by decide +kernel
theorem dRu_isRun_1 : decode prog_8_method_4_code 1 = .ok (.iload_n 3, 1) := by decide +kernel
theorem dRu_isRun_2 : decode prog_8_method_4_code 2 = .ok (.iadd, 1) := by decide +kernel
theorem dRu_isRun_3 : decode prog_8_method_4_code 3 = .ok (.invokestatic 21, 3) := by decide +kernel
theorem dRu_isRun_6 : decode prog_8_method_4_code 6 = .ok (.iload_n 2, 1) := by decide +kernel
theorem dRu_isRun_7 : decode prog_8_method_4_code 7 = .ok (.invokestatic 21, 3) := by decide +kernel
theorem dRu_isRun_10 : decode prog_8_method_4_code 10 = .ok (.lsub, 1) := by decide +kernel
theorem dRu_isRun_11 : decode prog_8_method_4_code 11 = .ok (.lstore 4, 2) := by decide +kernel
theorem dRu_isRun_13 : decode prog_8_method_4_code 13 = .ok (.iload_n 2, 1) := by decide +kernel
theorem dRu_isRun_14 : decode prog_8_method_4_code 14 = .ok (.istore 6, 2) := by decide +kernel
theorem dRu_isRun_16 : decode prog_8_method_4_code 16 = .ok (.iload 6, 2) := by decide +kernel
theorem dRu_isRun_18 : decode prog_8_method_4_code 18 = .ok (.iload_n 2, 1) := by decide +kernel
theorem dRu_isRun_19 : decode prog_8_method_4_code 19 = .ok (.iload_n 3, 1) := by decide +kernel
theorem dRu_isRun_20 : decode prog_8_method_4_code 20 = .ok (.iadd, 1) := by decide +kernel
theorem dRu_isRun_21 : decode prog_8_method_4_code 21 = .ok (.iconst (1), 1) := by decide +kernel
theorem dRu_isRun_22 : decode prog_8_method_4_code 22 = .ok (.isub, 1) := by decide +kernel
theorem dRu_isRun_23 : decode prog_8_method_4_code 23 = .ok (.if_icmp .ge (30), 3) := by decide +kernel
theorem dRu_isRun_26 : decode prog_8_method_4_code 26 = .ok (.aload_n 1, 1) := by decide +kernel
theorem dRu_isRun_27 : decode prog_8_method_4_code 27 = .ok (.getfield 27, 3) := by decide +kernel
theorem dRu_isRun_30 : decode prog_8_method_4_code 30 = .ok (.iload 6, 2) := by decide +kernel
theorem dRu_isRun_32 : decode prog_8_method_4_code 32 = .ok (.laload, 1) := by decide +kernel
theorem dRu_isRun_33 : decode prog_8_method_4_code 33 = .ok (.lload 4, 2) := by decide +kernel
theorem dRu_isRun_35 : decode prog_8_method_4_code 35 = .ok (.ldc2_w 33, 3) := by decide +kernel
theorem dRu_isRun_38 : decode prog_8_method_4_code 38 = .ok (.lxor, 1) := by decide +kernel
theorem dRu_isRun_39 : decode prog_8_method_4_code 39 = .ok (.land, 1) := by decide +kernel
theorem dRu_isRun_40 : decode prog_8_method_4_code 40 = .ok (.lconst 0, 1) := by decide +kernel
theorem dRu_isRun_41 : decode prog_8_method_4_code 41 = .ok (.lcmp, 1) := by decide +kernel
theorem dRu_isRun_42 : decode prog_8_method_4_code 42 = .ok (.ifCond .eq (5), 3) := by decide +kernel
theorem dRu_isRun_45 : decode prog_8_method_4_code 45 = .ok (.iconst (0), 1) := by decide +kernel
theorem dRu_isRun_46 : decode prog_8_method_4_code 46 = .ok (.ireturn, 1) := by decide +kernel
theorem dRu_isRun_47 : decode prog_8_method_4_code 47 = .ok (.iinc 6 (1), 3) := by decide +kernel
theorem dRu_isRun_50 : decode prog_8_method_4_code 50 = .ok (.goto (-34), 3) := by decide +kernel
theorem dRu_isRun_53 : decode prog_8_method_4_code 53 = .ok (.iconst (1), 1) := by decide +kernel
theorem dRu_isRun_54 : decode prog_8_method_4_code 54 = .ok (.ireturn, 1) := by decide +kernel
theorem dX_alike_0 : decode prog_1_method_24_code 0 = .ok (.aload_n 0, 1) := by decide +kernel
theorem dX_alike_1 : decode prog_1_method_24_code 1 = .ok (.getfield 26, 3) := by decide +kernel
theorem dX_alike_4 : decode prog_1_method_24_code 4 = .ok (.iload_n 1, 1) := by decide +kernel
theorem dX_alike_5 : decode prog_1_method_24_code 5 = .ok (.iload_n 3, 1) := by decide +kernel
theorem dX_alike_6 : decode prog_1_method_24_code 6 = .ok (.invokestatic 310, 3) := by decide +kernel
theorem dX_alike_9 : decode prog_1_method_24_code 9 = .ok (.ifCond .eq (24), 3) := by decide +kernel
theorem dX_alike_12 : decode prog_1_method_24_code 12 = .ok (.aload_n 0, 1) := by decide +kernel
theorem dX_alike_13 : decode prog_1_method_24_code 13 = .ok (.getfield 26, 3) := by decide +kernel
theorem dX_alike_16 : decode prog_1_method_24_code 16 = .ok (.iload_n 2, 1) := by decide +kernel
theorem dX_alike_17 : decode prog_1_method_24_code 17 = .ok (.iload_n 3, 1) := by decide +kernel
theorem dX_alike_18 : decode prog_1_method_24_code 18 = .ok (.invokestatic 310, 3) := by decide +kernel
theorem dX_alike_21 : decode prog_1_method_24_code 21 = .ok (.ifCond .eq (12), 3) := by decide +kernel
theorem dX_alike_24 : decode prog_1_method_24_code 24 = .ok (.iload_n 1, 1) := by decide +kernel
theorem dX_alike_25 : decode prog_1_method_24_code 25 = .ok (.iload_n 2, 1) := by decide +kernel
theorem dX_alike_26 : decode prog_1_method_24_code 26 = .ok (.iload_n 3, 1) := by decide +kernel
theorem dX_alike_27 : decode prog_1_method_24_code 27 = .ok (.invokestatic 318, 3) := by decide +kernel
theorem dX_alike_30 : decode prog_1_method_24_code 30 = .ok (.ifCond .eq (5), 3) := by decide +kernel
theorem dX_alike_33 : decode prog_1_method_24_code 33 = .ok (.iconst (-1), 1) := by decide +kernel
theorem dX_alike_34 : decode prog_1_method_24_code 34 = .ok (.ireturn, 1) := by decide +kernel
theorem dX_alike_35 : decode prog_1_method_24_code 35 = .ok (.aload_n 0, 1) := by decide +kernel
theorem dX_alike_36 : decode prog_1_method_24_code 36 = .ok (.getfield 52, 3) := by decide +kernel
theorem dX_alike_39 : decode prog_1_method_24_code 39 = .ok (.aload_n 0, 1) := by decide +kernel
theorem dX_alike_40 : decode prog_1_method_24_code 40 = .ok (.getfield 38, 3) := by decide +kernel
theorem dX_alike_43 : decode prog_1_method_24_code 43 = .ok (.iload_n 1, 1) := by decide +kernel
theorem dX_alike_44 : decode prog_1_method_24_code 44 = .ok (.iload_n 3, 1) := by decide +kernel
theorem dX_alike_45 : decode prog_1_method_24_code 45 = .ok (.invokevirtual 314, 3) := by decide +kernel
theorem dX_alike_48 : decode prog_1_method_24_code 48 = .ok (.ifCond .eq (19), 3) := by decide +kernel
theorem dX_alike_51 : decode prog_1_method_24_code 51 = .ok (.aload_n 0, 1) := by decide +kernel
theorem dX_alike_52 : decode prog_1_method_24_code 52 = .ok (.getfield 52, 3) := by decide +kernel
theorem dX_alike_55 : decode prog_1_method_24_code 55 = .ok (.aload_n 0, 1) := by decide +kernel
theorem dX_alike_56 : decode prog_1_method_24_code 56 = .ok (.getfield 38, 3) := by decide +kernel
theorem dX_alike_59 : decode prog_1_method_24_code 59 = .ok (.iload_n 2, 1) := by decide +kernel
theorem dX_alike_60 : decode prog_1_method_24_code 60 = .ok (.iload_n 3, 1) := by decide +kernel
theorem dX_alike_61 : decode prog_1_method_24_code 61 = .ok (.invokevirtual 314, 3) := by decide +kernel
theorem dX_alike_64 : decode prog_1_method_24_code 64 = .ok (.ifCond .ne (5), 3) := by decide +kernel
theorem dX_alike_67 : decode prog_1_method_24_code 67 = .ok (.iconst (-1), 1) := by decide +kernel
theorem dX_alike_68 : decode prog_1_method_24_code 68 = .ok (.ireturn, 1) := by decide +kernel
theorem dX_alike_69 : decode prog_1_method_24_code 69 = .ok (.aload_n 0, 1) := by decide +kernel
theorem dX_alike_70 : decode prog_1_method_24_code 70 = .ok (.getfield 52, 3) := by decide +kernel
theorem dX_alike_73 : decode prog_1_method_24_code 73 = .ok (.aload_n 0, 1) := by decide +kernel
theorem dX_alike_74 : decode prog_1_method_24_code 74 = .ok (.getfield 26, 3) := by decide +kernel
theorem dX_alike_77 : decode prog_1_method_24_code 77 = .ok (.iload_n 1, 1) := by decide +kernel
theorem dX_alike_78 : decode prog_1_method_24_code 78 = .ok (.iload_n 2, 1) := by decide +kernel
theorem dX_alike_79 : decode prog_1_method_24_code 79 = .ok (.iload_n 3, 1) := by decide +kernel
theorem dX_alike_80 : decode prog_1_method_24_code 80 = .ok (.invokevirtual 322, 3) := by decide +kernel
theorem dX_alike_83 : decode prog_1_method_24_code 83 = .ok (.invokestatic 213, 3) := by decide +kernel
theorem dX_alike_86 : decode prog_1_method_24_code 86 = .ok (.ireturn, 1) := by decide +kernel
theorem dRu_meet_0 : decode prog_8_method_3_code 0 = .ok (.iload_n 0, 1) := by decide +kernel
theorem dRu_meet_1 : decode prog_8_method_3_code 1 = .ok (.iload_n 1, 1) := by decide +kernel
theorem dRu_meet_2 : decode prog_8_method_3_code 2 = .ok (.isub, 1) := by decide +kernel
theorem dRu_meet_3 : decode prog_8_method_3_code 3 = .ok (.invokestatic 15, 3) := by decide +kernel
theorem dRu_meet_6 : decode prog_8_method_3_code 6 = .ok (.iload_n 2, 1) := by decide +kernel
theorem dRu_meet_7 : decode prog_8_method_3_code 7 = .ok (.if_icmp .ge (7), 3) := by decide +kernel
theorem dRu_meet_10 : decode prog_8_method_3_code 10 = .ok (.iconst (1), 1) := by decide +kernel
theorem dRu_meet_11 : decode prog_8_method_3_code 11 = .ok (.goto (4), 3) := by decide +kernel
theorem dRu_meet_14 : decode prog_8_method_3_code 14 = .ok (.iconst (0), 1) := by decide +kernel
theorem dRu_meet_15 : decode prog_8_method_3_code 15 = .ok (.ireturn, 1) := by decide +kernel
theorem dMt_abs_0 : decode prog_17_method_59_code 0 = .ok (.iload_n 0, 1) := by decide +kernel
theorem dMt_abs_1 : decode prog_17_method_59_code 1 = .ok (.ifCond .ge (8), 3) := by decide +kernel
theorem dMt_abs_4 : decode prog_17_method_59_code 4 = .ok (.iload_n 0, 1) := by decide +kernel
theorem dMt_abs_5 : decode prog_17_method_59_code 5 = .ok (.ineg, 1) := by decide +kernel
theorem dMt_abs_6 : decode prog_17_method_59_code 6 = .ok (.goto (4), 3) := by decide +kernel
theorem dMt_abs_9 : decode prog_17_method_59_code 9 = .ok (.iload_n 0, 1) := by decide +kernel
theorem dMt_abs_10 : decode prog_17_method_59_code 10 = .ok (.ireturn, 1) := by decide +kernel
theorem dRu_areAlike_0 : decode prog_8_method_5_code 0 = .ok (.iconst (0), 1) := by decide +kernel
theorem dRu_areAlike_1 : decode prog_8_method_5_code 1 = .ok (.istore 5, 2) := by decide +kernel
theorem dRu_areAlike_3 : decode prog_8_method_5_code 3 = .ok (.iload 5, 2) := by decide +kernel
theorem dRu_areAlike_5 : decode prog_8_method_5_code 5 = .ok (.iload 4, 2) := by decide +kernel
theorem dRu_areAlike_7 : decode prog_8_method_5_code 7 = .ok (.if_icmp .ge (104), 3) := by decide +kernel
theorem dRu_areAlike_10 : decode prog_8_method_5_code 10 = .ok (.aload_n 1, 1) := by decide +kernel
theorem dRu_areAlike_11 : decode prog_8_method_5_code 11 = .ok (.getfield 35, 3) := by decide +kernel
theorem dRu_areAlike_14 : decode prog_8_method_5_code 14 = .ok (.iload_n 2, 1) := by decide +kernel
theorem dRu_areAlike_15 : decode prog_8_method_5_code 15 = .ok (.iload 5, 2) := by decide +kernel
theorem dRu_areAlike_17 : decode prog_8_method_5_code 17 = .ok (.iadd, 1) := by decide +kernel
theorem dRu_areAlike_18 : decode prog_8_method_5_code 18 = .ok (.iaload, 1) := by decide +kernel
theorem dRu_areAlike_19 : decode prog_8_method_5_code 19 = .ok (.aload_n 1, 1) := by decide +kernel
theorem dRu_areAlike_20 : decode prog_8_method_5_code 20 = .ok (.getfield 35, 3) := by decide +kernel
theorem dRu_areAlike_23 : decode prog_8_method_5_code 23 = .ok (.iload_n 3, 1) := by decide +kernel
theorem dRu_areAlike_24 : decode prog_8_method_5_code 24 = .ok (.iload 5, 2) := by decide +kernel
theorem dRu_areAlike_26 : decode prog_8_method_5_code 26 = .ok (.iadd, 1) := by decide +kernel
theorem dRu_areAlike_27 : decode prog_8_method_5_code 27 = .ok (.iaload, 1) := by decide +kernel
theorem dRu_areAlike_28 : decode prog_8_method_5_code 28 = .ok (.if_icmp .eq (5), 3) := by decide +kernel
theorem dRu_areAlike_31 : decode prog_8_method_5_code 31 = .ok (.iconst (0), 1) := by decide +kernel
theorem dRu_areAlike_32 : decode prog_8_method_5_code 32 = .ok (.ireturn, 1) := by decide +kernel
theorem dRu_areAlike_33 : decode prog_8_method_5_code 33 = .ok (.iconst (0), 1) := by decide +kernel
theorem dRu_areAlike_34 : decode prog_8_method_5_code 34 = .ok (.istore 6, 2) := by decide +kernel
theorem dRu_areAlike_36 : decode prog_8_method_5_code 36 = .ok (.iload 6, 2) := by decide +kernel
theorem dRu_areAlike_38 : decode prog_8_method_5_code 38 = .ok (.aload_n 1, 1) := by decide +kernel
theorem dRu_areAlike_39 : decode prog_8_method_5_code 39 = .ok (.iload_n 2, 1) := by decide +kernel
theorem dRu_areAlike_40 : decode prog_8_method_5_code 40 = .ok (.iload 5, 2) := by decide +kernel
theorem dRu_areAlike_42 : decode prog_8_method_5_code 42 = .ok (.iadd, 1) := by decide +kernel
theorem dRu_areAlike_43 : decode prog_8_method_5_code 43 = .ok (.invokevirtual 39, 3) := by decide +kernel
theorem dRu_areAlike_46 : decode prog_8_method_5_code 46 = .ok (.if_icmp .ge (59), 3) := by decide +kernel
theorem dRu_areAlike_49 : decode prog_8_method_5_code 49 = .ok (.aload_n 1, 1) := by decide +kernel
theorem dRu_areAlike_50 : decode prog_8_method_5_code 50 = .ok (.iload_n 2, 1) := by decide +kernel
theorem dRu_areAlike_51 : decode prog_8_method_5_code 51 = .ok (.iload 5, 2) := by decide +kernel
theorem dRu_areAlike_53 : decode prog_8_method_5_code 53 = .ok (.iadd, 1) := by decide +kernel
theorem dRu_areAlike_54 : decode prog_8_method_5_code 54 = .ok (.iload 6, 2) := by decide +kernel
theorem dRu_areAlike_56 : decode prog_8_method_5_code 56 = .ok (.invokevirtual 42, 3) := by decide +kernel
theorem dRu_areAlike_59 : decode prog_8_method_5_code 59 = .ok (.istore 7, 2) := by decide +kernel
theorem dRu_areAlike_61 : decode prog_8_method_5_code 61 = .ok (.aload_n 1, 1) := by decide +kernel
theorem dRu_areAlike_62 : decode prog_8_method_5_code 62 = .ok (.iload_n 3, 1) := by decide +kernel
theorem dRu_areAlike_63 : decode prog_8_method_5_code 63 = .ok (.iload 5, 2) := by decide +kernel
theorem dRu_areAlike_65 : decode prog_8_method_5_code 65 = .ok (.iadd, 1) := by decide +kernel
theorem dRu_areAlike_66 : decode prog_8_method_5_code 66 = .ok (.iload 6, 2) := by decide +kernel
theorem dRu_areAlike_68 : decode prog_8_method_5_code 68 = .ok (.invokevirtual 42, 3) := by decide +kernel
theorem dRu_areAlike_71 : decode prog_8_method_5_code 71 = .ok (.istore 8, 2) := by decide +kernel
theorem dRu_areAlike_73 : decode prog_8_method_5_code 73 = .ok (.iload 7, 2) := by decide +kernel
theorem dRu_areAlike_75 : decode prog_8_method_5_code 75 = .ok (.iload_n 2, 1) := by decide +kernel
theorem dRu_areAlike_76 : decode prog_8_method_5_code 76 = .ok (.iload 8, 2) := by decide +kernel
theorem dRu_areAlike_78 : decode prog_8_method_5_code 78 = .ok (.iload_n 3, 1) := by decide +kernel
theorem dRu_areAlike_79 : decode prog_8_method_5_code 79 = .ok (.invokestatic 46, 3) := by decide +kernel
theorem dRu_areAlike_82 : decode prog_8_method_5_code 82 = .ok (.ifCond .ne (17), 3) := by decide +kernel
theorem dRu_areAlike_85 : decode prog_8_method_5_code 85 = .ok (.iload 7, 2) := by decide +kernel
theorem dRu_areAlike_87 : decode prog_8_method_5_code 87 = .ok (.iload 8, 2) := by decide +kernel
theorem dRu_areAlike_89 : decode prog_8_method_5_code 89 = .ok (.iload_n 2, 1) := by decide +kernel
theorem dRu_areAlike_90 : decode prog_8_method_5_code 90 = .ok (.iload_n 3, 1) := by decide +kernel
theorem dRu_areAlike_91 : decode prog_8_method_5_code 91 = .ok (.invokestatic 50, 3) := by decide +kernel
theorem dRu_areAlike_94 : decode prog_8_method_5_code 94 = .ok (.ifCond .ne (5), 3) := by decide +kernel
theorem dRu_areAlike_97 : decode prog_8_method_5_code 97 = .ok (.iconst (0), 1) := by decide +kernel
theorem dRu_areAlike_98 : decode prog_8_method_5_code 98 = .ok (.ireturn, 1) := by decide +kernel
theorem dRu_areAlike_99 : decode prog_8_method_5_code 99 = .ok (.iinc 6 (1), 3) := by decide +kernel
theorem dRu_areAlike_102 : decode prog_8_method_5_code 102 = .ok (.goto (-66), 3) := by decide +kernel
theorem dRu_areAlike_105 : decode prog_8_method_5_code 105 = .ok (.iinc 5 (1), 3) := by decide +kernel
theorem dRu_areAlike_108 : decode prog_8_method_5_code 108 = .ok (.goto (-105), 3) := by decide +kernel
theorem dRu_areAlike_111 : decode prog_8_method_5_code 111 = .ok (.iconst (1), 1) := by decide +kernel
theorem dRu_areAlike_112 : decode prog_8_method_5_code 112 = .ok (.ireturn, 1) := by decide +kernel
theorem dRu_areInSamePlace_0 : decode prog_8_method_6_code 0 = .ok (.iload_n 0, 1) := by decide +kernel
theorem dRu_areInSamePlace_1 : decode prog_8_method_6_code 1 = .ok (.iload_n 1, 1) := by decide +kernel
theorem dRu_areInSamePlace_2 : decode prog_8_method_6_code 2 = .ok (.if_icmp .lt (16), 3) := by decide +kernel
theorem dRu_areInSamePlace_5 : decode prog_8_method_6_code 5 = .ok (.iload_n 0, 1) := by decide +kernel
theorem dRu_areInSamePlace_6 : decode prog_8_method_6_code 6 = .ok (.iload_n 1, 1) := by decide +kernel
theorem dRu_areInSamePlace_7 : decode prog_8_method_6_code 7 = .ok (.isub, 1) := by decide +kernel
theorem dRu_areInSamePlace_8 : decode prog_8_method_6_code 8 = .ok (.iload_n 2, 1) := by decide +kernel
theorem dRu_areInSamePlace_9 : decode prog_8_method_6_code 9 = .ok (.iload_n 3, 1) := by decide +kernel
theorem dRu_areInSamePlace_10 : decode prog_8_method_6_code 10 = .ok (.isub, 1) := by decide +kernel
theorem dRu_areInSamePlace_11 : decode prog_8_method_6_code 11 = .ok (.if_icmp .ne (7), 3) := by decide +kernel
theorem dRu_areInSamePlace_14 : decode prog_8_method_6_code 14 = .ok (.iconst (1), 1) := by decide +kernel
theorem dRu_areInSamePlace_15 : decode prog_8_method_6_code 15 = .ok (.goto (4), 3) := by decide +kernel
theorem dRu_areInSamePlace_18 : decode prog_8_method_6_code 18 = .ok (.iconst (0), 1) := by decide +kernel
theorem dRu_areInSamePlace_19 : decode prog_8_method_6_code 19 = .ok (.ireturn, 1) := by decide +kernel
theorem dRu_areAhead_0 : decode prog_8_method_7_code 0 = .ok (.iload_n 0, 1) := by decide +kernel
theorem dRu_areAhead_1 : decode prog_8_method_7_code 1 = .ok (.iload_n 1, 1) := by decide +kernel
theorem dRu_areAhead_2 : decode prog_8_method_7_code 2 = .ok (.invokestatic 53, 3) := by decide +kernel
theorem dRu_areAhead_5 : decode prog_8_method_7_code 5 = .ok (.iload_n 2, 1) := by decide +kernel
theorem dRu_areAhead_6 : decode prog_8_method_7_code 6 = .ok (.iload_n 3, 1) := by decide +kernel
theorem dRu_areAhead_7 : decode prog_8_method_7_code 7 = .ok (.invokestatic 56, 3) := by decide +kernel
theorem dRu_areAhead_10 : decode prog_8_method_7_code 10 = .ok (.if_icmp .ge (7), 3) := by decide +kernel
theorem dRu_areAhead_13 : decode prog_8_method_7_code 13 = .ok (.iconst (1), 1) := by decide +kernel
theorem dRu_areAhead_14 : decode prog_8_method_7_code 14 = .ok (.goto (4), 3) := by decide +kernel
theorem dRu_areAhead_17 : decode prog_8_method_7_code 17 = .ok (.iconst (0), 1) := by decide +kernel
theorem dRu_areAhead_18 : decode prog_8_method_7_code 18 = .ok (.ireturn, 1) := by decide +kernel
theorem dMt_min_0 : decode prog_17_method_69_code 0 = .ok (.iload_n 0, 1) := by decide +kernel
theorem dMt_min_1 : decode prog_17_method_69_code 1 = .ok (.iload_n 1, 1) := by decide +kernel
theorem dMt_min_2 : decode prog_17_method_69_code 2 = .ok (.if_icmp .gt (7), 3) := by decide +kernel
theorem dMt_min_5 : decode prog_17_method_69_code 5 = .ok (.iload_n 0, 1) := by decide +kernel
theorem dMt_min_6 : decode prog_17_method_69_code 6 = .ok (.goto (4), 3) := by decide +kernel
theorem dMt_min_9 : decode prog_17_method_69_code 9 = .ok (.iload_n 1, 1) := by decide +kernel
theorem dMt_min_10 : decode prog_17_method_69_code 10 = .ok (.ireturn, 1) := by decide +kernel
theorem dX_worth_0 : decode prog_1_method_25_code 0 = .ok (.aload_n 0, 1) := by decide +kernel
theorem dX_worth_1 : decode prog_1_method_25_code 1 = .ok (.getfield 26, 3) := by decide +kernel
theorem dX_worth_4 : decode prog_1_method_25_code 4 = .ok (.iload_n 1, 1) := by decide +kernel
theorem dX_worth_5 : decode prog_1_method_25_code 5 = .ok (.iload_n 2, 1) := by decide +kernel
theorem dX_worth_6 : decode prog_1_method_25_code 6 = .ok (.invokestatic 310, 3) := by decide +kernel
theorem dX_worth_9 : decode prog_1_method_25_code 9 = .ok (.ifCond .eq (19), 3) := by decide +kernel
theorem dX_worth_12 : decode prog_1_method_25_code 12 = .ok (.aload_n 0, 1) := by decide +kernel
theorem dX_worth_13 : decode prog_1_method_25_code 13 = .ok (.getfield 52, 3) := by decide +kernel
theorem dX_worth_16 : decode prog_1_method_25_code 16 = .ok (.aload_n 0, 1) := by decide +kernel
theorem dX_worth_17 : decode prog_1_method_25_code 17 = .ok (.getfield 38, 3) := by decide +kernel
theorem dX_worth_20 : decode prog_1_method_25_code 20 = .ok (.iload_n 1, 1) := by decide +kernel
theorem dX_worth_21 : decode prog_1_method_25_code 21 = .ok (.iload_n 2, 1) := by decide +kernel
theorem dX_worth_22 : decode prog_1_method_25_code 22 = .ok (.invokevirtual 314, 3) := by decide +kernel
theorem dX_worth_25 : decode prog_1_method_25_code 25 = .ok (.ifCond .ne (5), 3) := by decide +kernel
theorem dX_worth_28 : decode prog_1_method_25_code 28 = .ok (.iconst (-1), 1) := by decide +kernel
theorem dX_worth_29 : decode prog_1_method_25_code 29 = .ok (.ireturn, 1) := by decide +kernel
theorem dX_worth_30 : decode prog_1_method_25_code 30 = .ok (.aload_n 0, 1) := by decide +kernel
theorem dX_worth_31 : decode prog_1_method_25_code 31 = .ok (.getfield 52, 3) := by decide +kernel
theorem dX_worth_34 : decode prog_1_method_25_code 34 = .ok (.aload_n 0, 1) := by decide +kernel
theorem dX_worth_35 : decode prog_1_method_25_code 35 = .ok (.getfield 38, 3) := by decide +kernel
theorem dX_worth_38 : decode prog_1_method_25_code 38 = .ok (.iload_n 1, 1) := by decide +kernel
theorem dX_worth_39 : decode prog_1_method_25_code 39 = .ok (.iload_n 2, 1) := by decide +kernel
theorem dX_worth_40 : decode prog_1_method_25_code 40 = .ok (.invokevirtual 326, 3) := by decide +kernel
theorem dX_worth_43 : decode prog_1_method_25_code 43 = .ok (.ifCond .eq (19), 3) := by decide +kernel
theorem dX_worth_46 : decode prog_1_method_25_code 46 = .ok (.aload_n 0, 1) := by decide +kernel
theorem dX_worth_47 : decode prog_1_method_25_code 47 = .ok (.getfield 52, 3) := by decide +kernel
theorem dX_worth_50 : decode prog_1_method_25_code 50 = .ok (.aload_n 0, 1) := by decide +kernel
theorem dX_worth_51 : decode prog_1_method_25_code 51 = .ok (.getfield 38, 3) := by decide +kernel
theorem dX_worth_54 : decode prog_1_method_25_code 54 = .ok (.iload_n 1, 1) := by decide +kernel
theorem dX_worth_55 : decode prog_1_method_25_code 55 = .ok (.iload_n 2, 1) := by decide +kernel
theorem dX_worth_56 : decode prog_1_method_25_code 56 = .ok (.invokevirtual 329, 3) := by decide +kernel
theorem dX_worth_59 : decode prog_1_method_25_code 59 = .ok (.goto (4), 3) := by decide +kernel
theorem dX_worth_62 : decode prog_1_method_25_code 62 = .ok (.iconst (-1), 1) := by decide +kernel
theorem dX_worth_63 : decode prog_1_method_25_code 63 = .ok (.ireturn, 1) := by decide +kernel
theorem dRu_isFirstOfItsKind_0 : decode prog_8_method_8_code 0 = .ok (.iconst (0), 1) := by decide +kernel
theorem dRu_isFirstOfItsKind_1 : decode prog_8_method_8_code 1 = .ok (.istore 4, 2) := by decide +kernel
theorem dRu_isFirstOfItsKind_3 : decode prog_8_method_8_code 3 = .ok (.iload 4, 2) := by decide +kernel
theorem dRu_isFirstOfItsKind_5 : decode prog_8_method_8_code 5 = .ok (.iload_n 2, 1) := by decide +kernel
theorem dRu_isFirstOfItsKind_6 : decode prog_8_method_8_code 6 = .ok (.iload_n 3, 1) := by decide +kernel
theorem dRu_isFirstOfItsKind_7 : decode prog_8_method_8_code 7 = .ok (.isub, 1) := by decide +kernel
theorem dRu_isFirstOfItsKind_8 : decode prog_8_method_8_code 8 = .ok (.if_icmp .gt (37), 3) := by decide +kernel
theorem dRu_isFirstOfItsKind_11 : decode prog_8_method_8_code 11 = .ok (.aload_n 0, 1) := by decide +kernel
theorem dRu_isFirstOfItsKind_12 : decode prog_8_method_8_code 12 = .ok (.aload_n 1, 1) := by decide +kernel
theorem dRu_isFirstOfItsKind_13 : decode prog_8_method_8_code 13 = .ok (.iload 4, 2) := by decide +kernel
theorem dRu_isFirstOfItsKind_15 : decode prog_8_method_8_code 15 = .ok (.iload_n 3, 1) := by decide +kernel
theorem dRu_isFirstOfItsKind_16 : decode prog_8_method_8_code 16 = .ok (.invokevirtual 59, 3) := by decide +kernel
theorem dRu_isFirstOfItsKind_19 : decode prog_8_method_8_code 19 = .ok (.ifCond .eq (20), 3) := by decide +kernel
theorem dRu_isFirstOfItsKind_22 : decode prog_8_method_8_code 22 = .ok (.aload_n 0, 1) := by decide +kernel
theorem dRu_isFirstOfItsKind_23 : decode prog_8_method_8_code 23 = .ok (.aload_n 1, 1) := by decide +kernel
theorem dRu_isFirstOfItsKind_24 : decode prog_8_method_8_code 24 = .ok (.getfield 63, 3) := by decide +kernel
theorem dRu_isFirstOfItsKind_27 : decode prog_8_method_8_code 27 = .ok (.iload 4, 2) := by decide +kernel
theorem dRu_isFirstOfItsKind_29 : decode prog_8_method_8_code 29 = .ok (.iload_n 2, 1) := by decide +kernel
theorem dRu_isFirstOfItsKind_30 : decode prog_8_method_8_code 30 = .ok (.iload_n 3, 1) := by decide +kernel
theorem dRu_isFirstOfItsKind_31 : decode prog_8_method_8_code 31 = .ok (.invokevirtual 67, 3) := by decide +kernel
theorem dRu_isFirstOfItsKind_34 : decode prog_8_method_8_code 34 = .ok (.ifCond .eq (5), 3) := by decide +kernel
theorem dRu_isFirstOfItsKind_37 : decode prog_8_method_8_code 37 = .ok (.iconst (0), 1) := by decide +kernel
theorem dRu_isFirstOfItsKind_38 : decode prog_8_method_8_code 38 = .ok (.ireturn, 1) := by decide +kernel
theorem dRu_isFirstOfItsKind_39 : decode prog_8_method_8_code 39 = .ok (.iinc 4 (1), 3) := by decide +kernel
theorem dRu_isFirstOfItsKind_42 : decode prog_8_method_8_code 42 = .ok (.goto (-39), 3) := by decide +kernel
theorem dRu_isFirstOfItsKind_45 : decode prog_8_method_8_code 45 = .ok (.iconst (1), 1) := by decide +kernel
theorem dRu_isFirstOfItsKind_46 : decode prog_8_method_8_code 46 = .ok (.ireturn, 1) := by decide +kernel
theorem dRu_worthOf_0 : decode prog_8_method_9_code 0 = .ok (.iconst (1), 1) := by decide +kernel
theorem dRu_worthOf_1 : decode prog_8_method_9_code 1 = .ok (.istore 4, 2) := by decide +kernel
theorem dRu_worthOf_3 : decode prog_8_method_9_code 3 = .ok (.iload_n 2, 1) := by decide +kernel
theorem dRu_worthOf_4 : decode prog_8_method_9_code 4 = .ok (.iload_n 3, 1) := by decide +kernel
theorem dRu_worthOf_5 : decode prog_8_method_9_code 5 = .ok (.iadd, 1) := by decide +kernel
theorem dRu_worthOf_6 : decode prog_8_method_9_code 6 = .ok (.istore 5, 2) := by decide +kernel
theorem dRu_worthOf_8 : decode prog_8_method_9_code 8 = .ok (.iload 5, 2) := by decide +kernel
theorem dRu_worthOf_10 : decode prog_8_method_9_code 10 = .ok (.istore 6, 2) := by decide +kernel
theorem dRu_worthOf_12 : decode prog_8_method_9_code 12 = .ok (.iload 6, 2) := by decide +kernel
theorem dRu_worthOf_14 : decode prog_8_method_9_code 14 = .ok (.aload_n 1, 1) := by decide +kernel
theorem dRu_worthOf_15 : decode prog_8_method_9_code 15 = .ok (.getfield 63, 3) := by decide +kernel
theorem dRu_worthOf_18 : decode prog_8_method_9_code 18 = .ok (.getfield 9, 3) := by decide +kernel
theorem dRu_worthOf_21 : decode prog_8_method_9_code 21 = .ok (.iload_n 3, 1) := by decide +kernel
theorem dRu_worthOf_22 : decode prog_8_method_9_code 22 = .ok (.isub, 1) := by decide +kernel
theorem dRu_worthOf_23 : decode prog_8_method_9_code 23 = .ok (.if_icmp .gt (51), 3) := by decide +kernel
theorem dRu_worthOf_26 : decode prog_8_method_9_code 26 = .ok (.iload 6, 2) := by decide +kernel
theorem dRu_worthOf_28 : decode prog_8_method_9_code 28 = .ok (.iload 5, 2) := by decide +kernel
theorem dRu_worthOf_30 : decode prog_8_method_9_code 30 = .ok (.if_icmp .lt (38), 3) := by decide +kernel
theorem dRu_worthOf_33 : decode prog_8_method_9_code 33 = .ok (.aload_n 0, 1) := by decide +kernel
theorem dRu_worthOf_34 : decode prog_8_method_9_code 34 = .ok (.aload_n 1, 1) := by decide +kernel
theorem dRu_worthOf_35 : decode prog_8_method_9_code 35 = .ok (.iload 6, 2) := by decide +kernel
theorem dRu_worthOf_37 : decode prog_8_method_9_code 37 = .ok (.iload_n 3, 1) := by decide +kernel
theorem dRu_worthOf_38 : decode prog_8_method_9_code 38 = .ok (.invokevirtual 59, 3) := by decide +kernel
theorem dRu_worthOf_41 : decode prog_8_method_9_code 41 = .ok (.ifCond .eq (27), 3) := by decide +kernel
theorem dRu_worthOf_44 : decode prog_8_method_9_code 44 = .ok (.aload_n 0, 1) := by decide +kernel
theorem dRu_worthOf_45 : decode prog_8_method_9_code 45 = .ok (.aload_n 1, 1) := by decide +kernel
theorem dRu_worthOf_46 : decode prog_8_method_9_code 46 = .ok (.getfield 63, 3) := by decide +kernel
theorem dRu_worthOf_49 : decode prog_8_method_9_code 49 = .ok (.iload_n 2, 1) := by decide +kernel
theorem dRu_worthOf_50 : decode prog_8_method_9_code 50 = .ok (.iload 6, 2) := by decide +kernel
theorem dRu_worthOf_52 : decode prog_8_method_9_code 52 = .ok (.iload_n 3, 1) := by decide +kernel
theorem dRu_worthOf_53 : decode prog_8_method_9_code 53 = .ok (.invokevirtual 67, 3) := by decide +kernel
theorem dRu_worthOf_56 : decode prog_8_method_9_code 56 = .ok (.ifCond .eq (12), 3) := by decide +kernel
theorem dRu_worthOf_59 : decode prog_8_method_9_code 59 = .ok (.iinc 4 (1), 3) := by decide +kernel
theorem dRu_worthOf_62 : decode prog_8_method_9_code 62 = .ok (.iload 6, 2) := by decide +kernel
theorem dRu_worthOf_64 : decode prog_8_method_9_code 64 = .ok (.iload_n 3, 1) := by decide +kernel
theorem dRu_worthOf_65 : decode prog_8_method_9_code 65 = .ok (.iadd, 1) := by decide +kernel
theorem dRu_worthOf_66 : decode prog_8_method_9_code 66 = .ok (.istore 5, 2) := by decide +kernel
theorem dRu_worthOf_68 : decode prog_8_method_9_code 68 = .ok (.iinc 6 (1), 3) := by decide +kernel
theorem dRu_worthOf_71 : decode prog_8_method_9_code 71 = .ok (.goto (-59), 3) := by decide +kernel
theorem dRu_worthOf_74 : decode prog_8_method_9_code 74 = .ok (.iload 4, 2) := by decide +kernel
theorem dRu_worthOf_76 : decode prog_8_method_9_code 76 = .ok (.iload_n 3, 1) := by decide +kernel
theorem dRu_worthOf_77 : decode prog_8_method_9_code 77 = .ok (.iconst (1), 1) := by decide +kernel
theorem dRu_worthOf_78 : decode prog_8_method_9_code 78 = .ok (.isub, 1) := by decide +kernel
theorem dRu_worthOf_79 : decode prog_8_method_9_code 79 = .ok (.imul, 1) := by decide +kernel
theorem dRu_worthOf_80 : decode prog_8_method_9_code 80 = .ok (.iload_n 3, 1) := by decide +kernel
theorem dRu_worthOf_81 : decode prog_8_method_9_code 81 = .ok (.isub, 1) := by decide +kernel
theorem dRu_worthOf_82 : decode prog_8_method_9_code 82 = .ok (.ireturn, 1) := by decide +kernel
theorem dX_lemma_0 : decode prog_1_method_26_code 0 = .ok (.aload_n 0, 1) := by decide +kernel
theorem dX_lemma_1 : decode prog_1_method_26_code 1 = .ok (.getfield 52, 3) := by decide +kernel
theorem dX_lemma_4 : decode prog_1_method_26_code 4 = .ok (.aload_n 0, 1) := by decide +kernel
theorem dX_lemma_5 : decode prog_1_method_26_code 5 = .ok (.getfield 38, 3) := by decide +kernel
theorem dX_lemma_8 : decode prog_1_method_26_code 8 = .ok (.invokevirtual 333, 3) := by decide +kernel
theorem dX_lemma_11 : decode prog_1_method_26_code 11 = .ok (.aload_n 0, 1) := by decide +kernel
theorem dX_lemma_12 : decode prog_1_method_26_code 12 = .ok (.getfield 52, 3) := by decide +kernel
theorem dX_lemma_15 : decode prog_1_method_26_code 15 = .ok (.getfield 337, 3) := by decide +kernel
theorem dX_lemma_18 : decode prog_1_method_26_code 18 = .ok (.ifCond .gt (5), 3) := by decide +kernel
theorem dX_lemma_21 : decode prog_1_method_26_code 21 = .ok (.iconst (-1), 1) := by decide +kernel
theorem dX_lemma_22 : decode prog_1_method_26_code 22 = .ok (.ireturn, 1) := by decide +kernel
theorem dX_lemma_23 : decode prog_1_method_26_code 23 = .ok (.iload_n 1, 1) := by decide +kernel
theorem dX_lemma_24 : decode prog_1_method_26_code 24 = .ok (.tableswitch (52) (0) (2) #[28, 36, 44], 28) := by decide +kernel
theorem dX_lemma_52 : decode prog_1_method_26_code 52 = .ok (.aload_n 0, 1) := by decide +kernel
theorem dX_lemma_53 : decode prog_1_method_26_code 53 = .ok (.getfield 52, 3) := by decide +kernel
theorem dX_lemma_56 : decode prog_1_method_26_code 56 = .ok (.getfield 340, 3) := by decide +kernel
theorem dX_lemma_59 : decode prog_1_method_26_code 59 = .ok (.ireturn, 1) := by decide +kernel
theorem dX_lemma_60 : decode prog_1_method_26_code 60 = .ok (.aload_n 0, 1) := by decide +kernel
theorem dX_lemma_61 : decode prog_1_method_26_code 61 = .ok (.getfield 52, 3) := by decide +kernel
theorem dX_lemma_64 : decode prog_1_method_26_code 64 = .ok (.getfield 343, 3) := by decide +kernel
theorem dX_lemma_67 : decode prog_1_method_26_code 67 = .ok (.ireturn, 1) := by decide +kernel
theorem dX_lemma_68 : decode prog_1_method_26_code 68 = .ok (.aload_n 0, 1) := by decide +kernel
theorem dX_lemma_69 : decode prog_1_method_26_code 69 = .ok (.getfield 52, 3) := by decide +kernel
theorem dX_lemma_72 : decode prog_1_method_26_code 72 = .ok (.getfield 337, 3) := by decide +kernel
theorem dX_lemma_75 : decode prog_1_method_26_code 75 = .ok (.ireturn, 1) := by decide +kernel
theorem dX_lemma_76 : decode prog_1_method_26_code 76 = .ok (.iconst (-1), 1) := by decide +kernel
theorem dX_lemma_77 : decode prog_1_method_26_code 77 = .ok (.ireturn, 1) := by decide +kernel
theorem dRu_findBest_0 : decode prog_8_method_10_code 0 = .ok (.aload_n 0, 1) := by decide +kernel
theorem dRu_findBest_1 : decode prog_8_method_10_code 1 = .ok (.getfield 71, 3) := by decide +kernel
theorem dRu_findBest_4 : decode prog_8_method_10_code 4 = .ok (.ifCond .eq (4), 3) := by decide +kernel
theorem dRu_findBest_7 : decode prog_8_method_10_code 7 = .ok (.return_, 1) := by decide +kernel
theorem dRu_findBest_8 : decode prog_8_method_10_code 8 = .ok (.aload_n 0, 1) := by decide +kernel
theorem dRu_findBest_9 : decode prog_8_method_10_code 9 = .ok (.iconst (1), 1) := by decide +kernel
theorem dRu_findBest_10 : decode prog_8_method_10_code 10 = .ok (.putfield 71, 3) := by decide +kernel
theorem dRu_findBest_13 : decode prog_8_method_10_code 13 = .ok (.aload_n 0, 1) := by decide +kernel
theorem dRu_findBest_14 : decode prog_8_method_10_code 14 = .ok (.iconst (0), 1) := by decide +kernel
theorem dRu_findBest_15 : decode prog_8_method_10_code 15 = .ok (.putfield 75, 3) := by decide +kernel
theorem dRu_findBest_18 : decode prog_8_method_10_code 18 = .ok (.iconst (0), 1) := by decide +kernel
theorem dRu_findBest_19 : decode prog_8_method_10_code 19 = .ok (.istore_n 2, 1) := by decide +kernel
theorem dRu_findBest_20 : decode prog_8_method_10_code 20 = .ok (.iload_n 2, 1) := by decide +kernel
theorem dRu_findBest_21 : decode prog_8_method_10_code 21 = .ok (.aload_n 1, 1) := by decide +kernel
theorem dRu_findBest_22 : decode prog_8_method_10_code 22 = .ok (.getfield 63, 3) := by decide +kernel
theorem dRu_findBest_25 : decode prog_8_method_10_code 25 = .ok (.getfield 9, 3) := by decide +kernel
theorem dRu_findBest_28 : decode prog_8_method_10_code 28 = .ok (.if_icmp .ge (68), 3) := by decide +kernel
theorem dRu_findBest_31 : decode prog_8_method_10_code 31 = .ok (.iconst (2), 1) := by decide +kernel
theorem dRu_findBest_32 : decode prog_8_method_10_code 32 = .ok (.istore_n 3, 1) := by decide +kernel
theorem dRu_findBest_33 : decode prog_8_method_10_code 33 = .ok (.iload_n 3, 1) := by decide +kernel
theorem dRu_findBest_34 : decode prog_8_method_10_code 34 = .ok (.bipush (8), 2) := by decide +kernel
theorem dRu_findBest_36 : decode prog_8_method_10_code 36 = .ok (.if_icmp .gt (54), 3) := by decide +kernel
theorem dRu_findBest_39 : decode prog_8_method_10_code 39 = .ok (.aload_n 1, 1) := by decide +kernel
theorem dRu_findBest_40 : decode prog_8_method_10_code 40 = .ok (.getfield 63, 3) := by decide +kernel
theorem dRu_findBest_43 : decode prog_8_method_10_code 43 = .ok (.iload_n 2, 1) := by decide +kernel
theorem dRu_findBest_44 : decode prog_8_method_10_code 44 = .ok (.iload_n 3, 1) := by decide +kernel
theorem dRu_findBest_45 : decode prog_8_method_10_code 45 = .ok (.invokestatic 78, 3) := by decide +kernel
theorem dRu_findBest_48 : decode prog_8_method_10_code 48 = .ok (.ifCond .eq (42), 3) := by decide +kernel
theorem dRu_findBest_51 : decode prog_8_method_10_code 51 = .ok (.aload_n 0, 1) := by decide +kernel
theorem dRu_findBest_52 : decode prog_8_method_10_code 52 = .ok (.aload_n 1, 1) := by decide +kernel
theorem dRu_findBest_53 : decode prog_8_method_10_code 53 = .ok (.iload_n 2, 1) := by decide +kernel
theorem dRu_findBest_54 : decode prog_8_method_10_code 54 = .ok (.iload_n 3, 1) := by decide +kernel
theorem dRu_findBest_55 : decode prog_8_method_10_code 55 = .ok (.invokevirtual 59, 3) := by decide +kernel
theorem dRu_findBest_58 : decode prog_8_method_10_code 58 = .ok (.ifCond .eq (26), 3) := by decide +kernel
theorem dRu_findBest_61 : decode prog_8_method_10_code 61 = .ok (.aload_n 0, 1) := by decide +kernel
theorem dRu_findBest_62 : decode prog_8_method_10_code 62 = .ok (.aload_n 1, 1) := by decide +kernel
theorem dRu_findBest_63 : decode prog_8_method_10_code 63 = .ok (.iload_n 2, 1) := by decide +kernel
theorem dRu_findBest_64 : decode prog_8_method_10_code 64 = .ok (.iload_n 3, 1) := by decide +kernel
theorem dRu_findBest_65 : decode prog_8_method_10_code 65 = .ok (.invokevirtual 82, 3) := by decide +kernel
theorem dRu_findBest_68 : decode prog_8_method_10_code 68 = .ok (.ifCond .eq (16), 3) := by decide +kernel
theorem dRu_findBest_71 : decode prog_8_method_10_code 71 = .ok (.aload_n 0, 1) := by decide +kernel
theorem dRu_findBest_72 : decode prog_8_method_10_code 72 = .ok (.iload_n 2, 1) := by decide +kernel
theorem dRu_findBest_73 : decode prog_8_method_10_code 73 = .ok (.iload_n 3, 1) := by decide +kernel
theorem dRu_findBest_74 : decode prog_8_method_10_code 74 = .ok (.aload_n 0, 1) := by decide +kernel
theorem dRu_findBest_75 : decode prog_8_method_10_code 75 = .ok (.aload_n 1, 1) := by decide +kernel
theorem dRu_findBest_76 : decode prog_8_method_10_code 76 = .ok (.iload_n 2, 1) := by decide +kernel
theorem dRu_findBest_77 : decode prog_8_method_10_code 77 = .ok (.iload_n 3, 1) := by decide +kernel
theorem dRu_findBest_78 : decode prog_8_method_10_code 78 = .ok (.invokevirtual 85, 3) := by decide +kernel
theorem dRu_findBest_81 : decode prog_8_method_10_code 81 = .ok (.invokevirtual 89, 3) := by decide +kernel
theorem dRu_findBest_84 : decode prog_8_method_10_code 84 = .ok (.iinc 3 (1), 3) := by decide +kernel
theorem dRu_findBest_87 : decode prog_8_method_10_code 87 = .ok (.goto (-54), 3) := by decide +kernel
theorem dRu_findBest_90 : decode prog_8_method_10_code 90 = .ok (.iinc 2 (1), 3) := by decide +kernel
theorem dRu_findBest_93 : decode prog_8_method_10_code 93 = .ok (.goto (-73), 3) := by decide +kernel
theorem dRu_findBest_96 : decode prog_8_method_10_code 96 = .ok (.return_, 1) := by decide +kernel
theorem dRu_keepIfBetter_0 : decode prog_8_method_11_code 0 = .ok (.iload_n 3, 1) := by decide +kernel
theorem dRu_keepIfBetter_1 : decode prog_8_method_11_code 1 = .ok (.aload_n 0, 1) := by decide +kernel
theorem dRu_keepIfBetter_2 : decode prog_8_method_11_code 2 = .ok (.getfield 75, 3) := by decide +kernel
theorem dRu_keepIfBetter_5 : decode prog_8_method_11_code 5 = .ok (.if_icmp .le (18), 3) := by decide +kernel
theorem dRu_keepIfBetter_8 : decode prog_8_method_11_code 8 = .ok (.aload_n 0, 1) := by decide +kernel
theorem dRu_keepIfBetter_9 : decode prog_8_method_11_code 9 = .ok (.iload_n 1, 1) := by decide +kernel
theorem dRu_keepIfBetter_10 : decode prog_8_method_11_code 10 = .ok (.putfield 93, 3) := by decide +kernel
theorem dRu_keepIfBetter_13 : decode prog_8_method_11_code 13 = .ok (.aload_n 0, 1) := by decide +kernel
theorem dRu_keepIfBetter_14 : decode prog_8_method_11_code 14 = .ok (.iload_n 2, 1) := by decide +kernel
theorem dRu_keepIfBetter_15 : decode prog_8_method_11_code 15 = .ok (.putfield 96, 3) := by decide +kernel
theorem dRu_keepIfBetter_18 : decode prog_8_method_11_code 18 = .ok (.aload_n 0, 1) := by decide +kernel
theorem dRu_keepIfBetter_19 : decode prog_8_method_11_code 19 = .ok (.iload_n 3, 1) := by decide +kernel
theorem dRu_keepIfBetter_20 : decode prog_8_method_11_code 20 = .ok (.putfield 75, 3) := by decide +kernel
theorem dRu_keepIfBetter_23 : decode prog_8_method_11_code 23 = .ok (.return_, 1) := by decide +kernel
theorem dX_order_0 : decode prog_1_method_27_code 0 = .ok (.aload_n 0, 1) := by decide +kernel
theorem dX_order_1 : decode prog_1_method_27_code 1 = .ok (.getfield 38, 3) := by decide +kernel
theorem dX_order_4 : decode prog_1_method_27_code 4 = .ok (.getfield 175, 3) := by decide +kernel
theorem dX_order_7 : decode prog_1_method_27_code 7 = .ok (.getfield 179, 3) := by decide +kernel
theorem dX_order_10 : decode prog_1_method_27_code 10 = .ok (.istore_n 2, 1) := by decide +kernel
theorem dX_order_11 : decode prog_1_method_27_code 11 = .ok (.iload_n 2, 1) := by decide +kernel
theorem dX_order_12 : decode prog_1_method_27_code 12 = .ok (.ifCond .eq (19), 3) := by decide +kernel
theorem dX_order_15 : decode prog_1_method_27_code 15 = .ok (.iload_n 2, 1) := by decide +kernel
theorem dX_order_16 : decode prog_1_method_27_code 16 = .ok (.bipush (14), 2) := by decide +kernel
theorem dX_order_18 : decode prog_1_method_27_code 18 = .ok (.if_icmp .gt (13), 3) := by decide +kernel
theorem dX_order_21 : decode prog_1_method_27_code 21 = .ok (.iload_n 1, 1) := by decide +kernel
theorem dX_order_22 : decode prog_1_method_27_code 22 = .ok (.iconst (-1), 1) := by decide +kernel
theorem dX_order_23 : decode prog_1_method_27_code 23 = .ok (.if_icmp .lt (8), 3) := by decide +kernel
theorem dX_order_26 : decode prog_1_method_27_code 26 = .ok (.iload_n 1, 1) := by decide +kernel
theorem dX_order_27 : decode prog_1_method_27_code 27 = .ok (.iload_n 2, 1) := by decide +kernel
theorem dX_order_28 : decode prog_1_method_27_code 28 = .ok (.if_icmp .lt (5), 3) := by decide +kernel
theorem dX_order_31 : decode prog_1_method_27_code 31 = .ok (.iconst (-1), 1) := by decide +kernel
theorem dX_order_32 : decode prog_1_method_27_code 32 = .ok (.ireturn, 1) := by decide +kernel
theorem dX_order_33 : decode prog_1_method_27_code 33 = .ok (.aload_n 0, 1) := by decide +kernel
theorem dX_order_34 : decode prog_1_method_27_code 34 = .ok (.getfield 59, 3) := by decide +kernel
theorem dX_order_37 : decode prog_1_method_27_code 37 = .ok (.aload_n 0, 1) := by decide +kernel
theorem dX_order_38 : decode prog_1_method_27_code 38 = .ok (.getfield 38, 3) := by decide +kernel
theorem dX_order_41 : decode prog_1_method_27_code 41 = .ok (.getfield 175, 3) := by decide +kernel
theorem dX_order_44 : decode prog_1_method_27_code 44 = .ok (.invokevirtual 346, 3) := by decide +kernel
theorem dX_order_47 : decode prog_1_method_27_code 47 = .ok (.iload_n 1, 1) := by decide +kernel
theorem dX_order_48 : decode prog_1_method_27_code 48 = .ok (.iconst (-1), 1) := by decide +kernel
theorem dX_order_49 : decode prog_1_method_27_code 49 = .ok (.if_icmp .ne (13), 3) := by decide +kernel
theorem dX_order_52 : decode prog_1_method_27_code 52 = .ok (.aload_n 0, 1) := by decide +kernel
theorem dX_order_53 : decode prog_1_method_27_code 53 = .ok (.getfield 59, 3) := by decide +kernel
theorem dX_order_56 : decode prog_1_method_27_code 56 = .ok (.getfield 350, 3) := by decide +kernel
theorem dX_order_59 : decode prog_1_method_27_code 59 = .ok (.goto (12), 3) := by decide +kernel
theorem dX_order_62 : decode prog_1_method_27_code 62 = .ok (.aload_n 0, 1) := by decide +kernel
theorem dX_order_63 : decode prog_1_method_27_code 63 = .ok (.getfield 59, 3) := by decide +kernel
theorem dX_order_66 : decode prog_1_method_27_code 66 = .ok (.getfield 353, 3) := by decide +kernel
theorem dX_order_69 : decode prog_1_method_27_code 69 = .ok (.iload_n 1, 1) := by decide +kernel
theorem dX_order_70 : decode prog_1_method_27_code 70 = .ok (.iaload, 1) := by decide +kernel
theorem dX_order_71 : decode prog_1_method_27_code 71 = .ok (.ireturn, 1) := by decide +kernel
theorem dOr_find_0 : decode prog_5_method_2_code 0 = .ok (.aload_n 0, 1) := by decide +kernel
theorem dOr_find_1 : decode prog_5_method_2_code 1 = .ok (.getfield 31, 3) := by decide +kernel
theorem dOr_find_4 : decode prog_5_method_2_code 4 = .ok (.ifCond .eq (4), 3) := by decide +kernel
theorem dOr_find_7 : decode prog_5_method_2_code 7 = .ok (.return_, 1) := by decide +kernel
theorem dOr_find_8 : decode prog_5_method_2_code 8 = .ok (.aload_n 0, 1) := by decide +kernel
theorem dOr_find_9 : decode prog_5_method_2_code 9 = .ok (.iconst (1), 1) := by decide +kernel
theorem dOr_find_10 : decode prog_5_method_2_code 10 = .ok (.putfield 31, 3) := by decide +kernel
theorem dOr_find_13 : decode prog_5_method_2_code 13 = .ok (.aload_n 0, 1) := by decide +kernel
theorem dOr_find_14 : decode prog_5_method_2_code 14 = .ok (.iconst (1), 1) := by decide +kernel
theorem dOr_find_15 : decode prog_5_method_2_code 15 = .ok (.putfield 35, 3) := by decide +kernel
theorem dOr_find_18 : decode prog_5_method_2_code 18 = .ok (.aload_n 0, 1) := by decide +kernel
theorem dOr_find_19 : decode prog_5_method_2_code 19 = .ok (.aload_n 1, 1) := by decide +kernel
theorem dOr_find_20 : decode prog_5_method_2_code 20 = .ok (.invokevirtual 38, 3) := by decide +kernel
theorem dOr_find_23 : decode prog_5_method_2_code 23 = .ok (.ifCond .ne (27), 3) := by decide +kernel
theorem dOr_find_26 : decode prog_5_method_2_code 26 = .ok (.aload_n 0, 1) := by decide +kernel
theorem dOr_find_27 : decode prog_5_method_2_code 27 = .ok (.getfield 35, 3) := by decide +kernel
theorem dOr_find_30 : decode prog_5_method_2_code 30 = .ok (.aload_n 1, 1) := by decide +kernel
theorem dOr_find_31 : decode prog_5_method_2_code 31 = .ok (.getfield 42, 3) := by decide +kernel
theorem dOr_find_34 : decode prog_5_method_2_code 34 = .ok (.if_icmp .ge (16), 3) := by decide +kernel
theorem dOr_find_37 : decode prog_5_method_2_code 37 = .ok (.aload_n 0, 1) := by decide +kernel
theorem dOr_find_38 : decode prog_5_method_2_code 38 = .ok (.dup, 1) := by decide +kernel
theorem dOr_find_39 : decode prog_5_method_2_code 39 = .ok (.getfield 35, 3) := by decide +kernel
theorem dOr_find_42 : decode prog_5_method_2_code 42 = .ok (.iconst (1), 1) := by decide +kernel
theorem dOr_find_43 : decode prog_5_method_2_code 43 = .ok (.iadd, 1) := by decide +kernel
theorem dOr_find_44 : decode prog_5_method_2_code 44 = .ok (.putfield 35, 3) := by decide +kernel
theorem dOr_find_47 : decode prog_5_method_2_code 47 = .ok (.goto (-29), 3) := by decide +kernel
theorem dOr_find_50 : decode prog_5_method_2_code 50 = .ok (.return_, 1) := by decide +kernel
theorem dOr_tellsWithin_0 : decode prog_5_method_3_code 0 = .ok (.iconst (0), 1) := by decide +kernel
theorem dOr_tellsWithin_1 : decode prog_5_method_3_code 1 = .ok (.istore_n 2, 1) := by decide +kernel
theorem dOr_tellsWithin_2 : decode prog_5_method_3_code 2 = .ok (.iconst (0), 1) := by decide +kernel
theorem dOr_tellsWithin_3 : decode prog_5_method_3_code 3 = .ok (.istore_n 3, 1) := by decide +kernel
theorem dOr_tellsWithin_4 : decode prog_5_method_3_code 4 = .ok (.iconst (0), 1) := by decide +kernel
theorem dOr_tellsWithin_5 : decode prog_5_method_3_code 5 = .ok (.istore 4, 2) := by decide +kernel
theorem dOr_tellsWithin_7 : decode prog_5_method_3_code 7 = .ok (.aload_n 0, 1) := by decide +kernel
theorem dOr_tellsWithin_8 : decode prog_5_method_3_code 8 = .ok (.getfield 15, 3) := by decide +kernel
theorem dOr_tellsWithin_11 : decode prog_5_method_3_code 11 = .ok (.lconst 0, 1) := by decide +kernel
theorem dOr_tellsWithin_12 : decode prog_5_method_3_code 12 = .ok (.invokestatic 47, 3) := by decide +kernel
theorem dOr_tellsWithin_15 : decode prog_5_method_3_code 15 = .ok (.iconst (0), 1) := by decide +kernel
theorem dOr_tellsWithin_16 : decode prog_5_method_3_code 16 = .ok (.istore 5, 2) := by decide +kernel
theorem dOr_tellsWithin_18 : decode prog_5_method_3_code 18 = .ok (.iload 5, 2) := by decide +kernel
theorem dOr_tellsWithin_20 : decode prog_5_method_3_code 20 = .ok (.ldc 53, 2) := by decide +kernel
theorem dOr_tellsWithin_22 : decode prog_5_method_3_code 22 = .ok (.if_icmp .gt (110), 3) := by decide +kernel
theorem dOr_tellsWithin_25 : decode prog_5_method_3_code 25 = .ok (.iload_n 3, 1) := by decide +kernel
theorem dOr_tellsWithin_26 : decode prog_5_method_3_code 26 = .ok (.aload_n 1, 1) := by decide +kernel
theorem dOr_tellsWithin_27 : decode prog_5_method_3_code 27 = .ok (.getfield 42, 3) := by decide +kernel
theorem dOr_tellsWithin_30 : decode prog_5_method_3_code 30 = .ok (.if_icmp .ne (5), 3) := by decide +kernel
theorem dOr_tellsWithin_33 : decode prog_5_method_3_code 33 = .ok (.iconst (1), 1) := by decide +kernel
theorem dOr_tellsWithin_34 : decode prog_5_method_3_code 34 = .ok (.ireturn, 1) := by decide +kernel
theorem dOr_tellsWithin_35 : decode prog_5_method_3_code 35 = .ok (.aload_n 0, 1) := by decide +kernel
theorem dOr_tellsWithin_36 : decode prog_5_method_3_code 36 = .ok (.aload_n 1, 1) := by decide +kernel
theorem dOr_tellsWithin_37 : decode prog_5_method_3_code 37 = .ok (.iload 4, 2) := by decide +kernel
theorem dOr_tellsWithin_39 : decode prog_5_method_3_code 39 = .ok (.iload_n 2, 1) := by decide +kernel
theorem dOr_tellsWithin_40 : decode prog_5_method_3_code 40 = .ok (.invokevirtual 54, 3) := by decide +kernel
theorem dOr_tellsWithin_43 : decode prog_5_method_3_code 43 = .ok (.istore 6, 2) := by decide +kernel
theorem dOr_tellsWithin_45 : decode prog_5_method_3_code 45 = .ok (.iload 6, 2) := by decide +kernel
theorem dOr_tellsWithin_47 : decode prog_5_method_3_code 47 = .ok (.iconst (-1), 1) := by decide +kernel
theorem dOr_tellsWithin_48 : decode prog_5_method_3_code 48 = .ok (.if_icmp .eq (27), 3) := by decide +kernel
theorem dOr_tellsWithin_51 : decode prog_5_method_3_code 51 = .ok (.aload_n 0, 1) := by decide +kernel
theorem dOr_tellsWithin_52 : decode prog_5_method_3_code 52 = .ok (.getfield 11, 3) := by decide +kernel
theorem dOr_tellsWithin_55 : decode prog_5_method_3_code 55 = .ok (.iload_n 3, 1) := by decide +kernel
theorem dOr_tellsWithin_56 : decode prog_5_method_3_code 56 = .ok (.iload 6, 2) := by decide +kernel
theorem dOr_tellsWithin_58 : decode prog_5_method_3_code 58 = .ok (.iastore, 1) := by decide +kernel
theorem dOr_tellsWithin_59 : decode prog_5_method_3_code 59 = .ok (.iinc 3 (1), 3) := by decide +kernel
theorem dOr_tellsWithin_62 : decode prog_5_method_3_code 62 = .ok (.iload_n 2, 1) := by decide +kernel
theorem dOr_tellsWithin_63 : decode prog_5_method_3_code 63 = .ok (.iconst (1), 1) := by decide +kernel
theorem dOr_tellsWithin_64 : decode prog_5_method_3_code 64 = .ok (.iload 6, 2) := by decide +kernel
theorem dOr_tellsWithin_66 : decode prog_5_method_3_code 66 = .ok (.ishl, 1) := by decide +kernel
theorem dOr_tellsWithin_67 : decode prog_5_method_3_code 67 = .ok (.ior, 1) := by decide +kernel
theorem dOr_tellsWithin_68 : decode prog_5_method_3_code 68 = .ok (.istore_n 2, 1) := by decide +kernel
theorem dOr_tellsWithin_69 : decode prog_5_method_3_code 69 = .ok (.iconst (0), 1) := by decide +kernel
theorem dOr_tellsWithin_70 : decode prog_5_method_3_code 70 = .ok (.istore 4, 2) := by decide +kernel
theorem dOr_tellsWithin_72 : decode prog_5_method_3_code 72 = .ok (.goto (54), 3) := by decide +kernel
theorem dOr_tellsWithin_75 : decode prog_5_method_3_code 75 = .ok (.iload_n 3, 1) := by decide +kernel
theorem dOr_tellsWithin_76 : decode prog_5_method_3_code 76 = .ok (.ifCond .ne (5), 3) := by decide +kernel
theorem dOr_tellsWithin_79 : decode prog_5_method_3_code 79 = .ok (.iconst (0), 1) := by decide +kernel
theorem dOr_tellsWithin_80 : decode prog_5_method_3_code 80 = .ok (.ireturn, 1) := by decide +kernel
theorem dOr_tellsWithin_81 : decode prog_5_method_3_code 81 = .ok (.aload_n 0, 1) := by decide +kernel
theorem dOr_tellsWithin_82 : decode prog_5_method_3_code 82 = .ok (.getfield 15, 3) := by decide +kernel
theorem dOr_tellsWithin_85 : decode prog_5_method_3_code 85 = .ok (.iload_n 2, 1) := by decide +kernel
theorem dOr_tellsWithin_86 : decode prog_5_method_3_code 86 = .ok (.bipush (6), 2) := by decide +kernel
theorem dOr_tellsWithin_88 : decode prog_5_method_3_code 88 = .ok (.ishr, 1) := by decide +kernel
theorem dOr_tellsWithin_89 : decode prog_5_method_3_code 89 = .ok (.dup2, 1) := by decide +kernel
theorem dOr_tellsWithin_90 : decode prog_5_method_3_code 90 = .ok (.laload, 1) := by decide +kernel
theorem dOr_tellsWithin_91 : decode prog_5_method_3_code 91 = .ok (.iload_n 2, 1) := by decide +kernel
theorem dOr_tellsWithin_92 : decode prog_5_method_3_code 92 = .ok (.bipush (63), 2) := by decide +kernel
theorem dOr_tellsWithin_94 : decode prog_5_method_3_code 94 = .ok (.iand, 1) := by decide +kernel
theorem dOr_tellsWithin_95 : decode prog_5_method_3_code 95 = .ok (.invokestatic 58, 3) := by decide +kernel
theorem dOr_tellsWithin_98 : decode prog_5_method_3_code 98 = .ok (.lor, 1) := by decide +kernel
theorem dOr_tellsWithin_99 : decode prog_5_method_3_code 99 = .ok (.lastore, 1) := by decide +kernel
theorem dOr_tellsWithin_100 : decode prog_5_method_3_code 100 = .ok (.iinc 3 (-1), 3) := by decide +kernel
theorem dOr_tellsWithin_103 : decode prog_5_method_3_code 103 = .ok (.iload_n 2, 1) := by decide +kernel
theorem dOr_tellsWithin_104 : decode prog_5_method_3_code 104 = .ok (.iconst (1), 1) := by decide +kernel
theorem dOr_tellsWithin_105 : decode prog_5_method_3_code 105 = .ok (.aload_n 0, 1) := by decide +kernel
theorem dOr_tellsWithin_106 : decode prog_5_method_3_code 106 = .ok (.getfield 11, 3) := by decide +kernel
theorem dOr_tellsWithin_109 : decode prog_5_method_3_code 109 = .ok (.iload_n 3, 1) := by decide +kernel
theorem dOr_tellsWithin_110 : decode prog_5_method_3_code 110 = .ok (.iaload, 1) := by decide +kernel
theorem dOr_tellsWithin_111 : decode prog_5_method_3_code 111 = .ok (.ishl, 1) := by decide +kernel
theorem dOr_tellsWithin_112 : decode prog_5_method_3_code 112 = .ok (.iconst (-1), 1) := by decide +kernel
theorem dOr_tellsWithin_113 : decode prog_5_method_3_code 113 = .ok (.ixor, 1) := by decide +kernel
theorem dOr_tellsWithin_114 : decode prog_5_method_3_code 114 = .ok (.iand, 1) := by decide +kernel
theorem dOr_tellsWithin_115 : decode prog_5_method_3_code 115 = .ok (.istore_n 2, 1) := by decide +kernel
theorem dOr_tellsWithin_116 : decode prog_5_method_3_code 116 = .ok (.aload_n 0, 1) := by decide +kernel
theorem dOr_tellsWithin_117 : decode prog_5_method_3_code 117 = .ok (.getfield 11, 3) := by decide +kernel
theorem dOr_tellsWithin_120 : decode prog_5_method_3_code 120 = .ok (.iload_n 3, 1) := by decide +kernel
theorem dOr_tellsWithin_121 : decode prog_5_method_3_code 121 = .ok (.iaload, 1) := by decide +kernel
theorem dOr_tellsWithin_122 : decode prog_5_method_3_code 122 = .ok (.iconst (1), 1) := by decide +kernel
theorem dOr_tellsWithin_123 : decode prog_5_method_3_code 123 = .ok (.iadd, 1) := by decide +kernel
theorem dOr_tellsWithin_124 : decode prog_5_method_3_code 124 = .ok (.istore 4, 2) := by decide +kernel
theorem dOr_tellsWithin_126 : decode prog_5_method_3_code 126 = .ok (.iinc 5 (1), 3) := by decide +kernel
theorem dOr_tellsWithin_129 : decode prog_5_method_3_code 129 = .ok (.goto (-111), 3) := by decide +kernel
theorem dOr_tellsWithin_132 : decode prog_5_method_3_code 132 = .ok (.iconst (0), 1) := by decide +kernel
theorem dOr_tellsWithin_133 : decode prog_5_method_3_code 133 = .ok (.ireturn, 1) := by decide +kernel
theorem dAr_fill2_0 : decode prog_18_method_101_code 0 = .ok (.iconst (0), 1) := by decide +kernel
theorem dAr_fill2_1 : decode prog_18_method_101_code 1 = .ok (.istore_n 3, 1) := by decide +kernel
theorem dAr_fill2_2 : decode prog_18_method_101_code 2 = .ok (.aload_n 0, 1) := by decide +kernel
theorem dAr_fill2_3 : decode prog_18_method_101_code 3 = .ok (.arraylength, 1) := by decide +kernel
theorem dAr_fill2_4 : decode prog_18_method_101_code 4 = .ok (.istore 4, 2) := by decide +kernel
theorem dAr_fill2_6 : decode prog_18_method_101_code 6 = .ok (.iload_n 3, 1) := by decide +kernel
theorem dAr_fill2_7 : decode prog_18_method_101_code 7 = .ok (.iload 4, 2) := by decide +kernel
theorem dAr_fill2_9 : decode prog_18_method_101_code 9 = .ok (.if_icmp .ge (13), 3) := by decide +kernel
theorem dAr_fill2_12 : decode prog_18_method_101_code 12 = .ok (.aload_n 0, 1) := by decide +kernel
theorem dAr_fill2_13 : decode prog_18_method_101_code 13 = .ok (.iload_n 3, 1) := by decide +kernel
theorem dAr_fill2_14 : decode prog_18_method_101_code 14 = .ok (.lload_n 1, 1) := by decide +kernel
theorem dAr_fill2_15 : decode prog_18_method_101_code 15 = .ok (.lastore, 1) := by decide +kernel
theorem dAr_fill2_16 : decode prog_18_method_101_code 16 = .ok (.iinc 3 (1), 3) := by decide +kernel
theorem dAr_fill2_19 : decode prog_18_method_101_code 19 = .ok (.goto (-13), 3) := by decide +kernel
theorem dAr_fill2_22 : decode prog_18_method_101_code 22 = .ok (.return_, 1) := by decide +kernel
theorem dOr_nextFrom_0 : decode prog_5_method_4_code 0 = .ok (.iload_n 2, 1) := by decide +kernel
theorem dOr_nextFrom_1 : decode prog_5_method_4_code 1 = .ok (.istore 4, 2) := by decide +kernel
theorem dOr_nextFrom_3 : decode prog_5_method_4_code 3 = .ok (.iload 4, 2) := by decide +kernel
theorem dOr_nextFrom_5 : decode prog_5_method_4_code 5 = .ok (.aload_n 1, 1) := by decide +kernel
theorem dOr_nextFrom_6 : decode prog_5_method_4_code 6 = .ok (.getfield 42, 3) := by decide +kernel
theorem dOr_nextFrom_9 : decode prog_5_method_4_code 9 = .ok (.if_icmp .ge (92), 3) := by decide +kernel
theorem dOr_nextFrom_12 : decode prog_5_method_4_code 12 = .ok (.iload_n 3, 1) := by decide +kernel
theorem dOr_nextFrom_13 : decode prog_5_method_4_code 13 = .ok (.iconst (1), 1) := by decide +kernel
theorem dOr_nextFrom_14 : decode prog_5_method_4_code 14 = .ok (.iload 4, 2) := by decide +kernel
theorem dOr_nextFrom_16 : decode prog_5_method_4_code 16 = .ok (.ishl, 1) := by decide +kernel
theorem dOr_nextFrom_17 : decode prog_5_method_4_code 17 = .ok (.ior, 1) := by decide +kernel
theorem dOr_nextFrom_18 : decode prog_5_method_4_code 18 = .ok (.istore 5, 2) := by decide +kernel
theorem dOr_nextFrom_20 : decode prog_5_method_4_code 20 = .ok (.iload 5, 2) := by decide +kernel
theorem dOr_nextFrom_22 : decode prog_5_method_4_code 22 = .ok (.iload_n 3, 1) := by decide +kernel
theorem dOr_nextFrom_23 : decode prog_5_method_4_code 23 = .ok (.if_icmp .eq (26), 3) := by decide +kernel
theorem dOr_nextFrom_26 : decode prog_5_method_4_code 26 = .ok (.aload_n 1, 1) := by decide +kernel
theorem dOr_nextFrom_27 : decode prog_5_method_4_code 27 = .ok (.getfield 62, 3) := by decide +kernel
theorem dOr_nextFrom_30 : decode prog_5_method_4_code 30 = .ok (.iload 4, 2) := by decide +kernel
theorem dOr_nextFrom_32 : decode prog_5_method_4_code 32 = .ok (.laload, 1) := by decide +kernel
theorem dOr_nextFrom_33 : decode prog_5_method_4_code 33 = .ok (.iload_n 3, 1) := by decide +kernel
theorem dOr_nextFrom_34 : decode prog_5_method_4_code 34 = .ok (.i2l, 1) := by decide +kernel
theorem dOr_nextFrom_35 : decode prog_5_method_4_code 35 = .ok (.ldc2_w 65, 3) := by decide +kernel
theorem dOr_nextFrom_38 : decode prog_5_method_4_code 38 = .ok (.lxor, 1) := by decide +kernel
theorem dOr_nextFrom_39 : decode prog_5_method_4_code 39 = .ok (.land, 1) := by decide +kernel
theorem dOr_nextFrom_40 : decode prog_5_method_4_code 40 = .ok (.lconst 0, 1) := by decide +kernel
theorem dOr_nextFrom_41 : decode prog_5_method_4_code 41 = .ok (.lcmp, 1) := by decide +kernel
theorem dOr_nextFrom_42 : decode prog_5_method_4_code 42 = .ok (.ifCond .ne (7), 3) := by decide +kernel
theorem dOr_nextFrom_45 : decode prog_5_method_4_code 45 = .ok (.iconst (1), 1) := by decide +kernel
theorem dOr_nextFrom_46 : decode prog_5_method_4_code 46 = .ok (.goto (4), 3) := by decide +kernel
theorem dOr_nextFrom_49 : decode prog_5_method_4_code 49 = .ok (.iconst (0), 1) := by decide +kernel
theorem dOr_nextFrom_50 : decode prog_5_method_4_code 50 = .ok (.istore 6, 2) := by decide +kernel
theorem dOr_nextFrom_52 : decode prog_5_method_4_code 52 = .ok (.iload 6, 2) := by decide +kernel
theorem dOr_nextFrom_54 : decode prog_5_method_4_code 54 = .ok (.ifCond .eq (41), 3) := by decide +kernel
theorem dOr_nextFrom_57 : decode prog_5_method_4_code 57 = .ok (.iload 5, 2) := by decide +kernel
theorem dOr_nextFrom_59 : decode prog_5_method_4_code 59 = .ok (.bipush (63), 2) := by decide +kernel
theorem dOr_nextFrom_61 : decode prog_5_method_4_code 61 = .ok (.iand, 1) := by decide +kernel
theorem dOr_nextFrom_62 : decode prog_5_method_4_code 62 = .ok (.aload_n 0, 1) := by decide +kernel
theorem dOr_nextFrom_63 : decode prog_5_method_4_code 63 = .ok (.getfield 15, 3) := by decide +kernel
theorem dOr_nextFrom_66 : decode prog_5_method_4_code 66 = .ok (.iload 5, 2) := by decide +kernel
theorem dOr_nextFrom_68 : decode prog_5_method_4_code 68 = .ok (.bipush (6), 2) := by decide +kernel
theorem dOr_nextFrom_70 : decode prog_5_method_4_code 70 = .ok (.ishr, 1) := by decide +kernel
theorem dOr_nextFrom_71 : decode prog_5_method_4_code 71 = .ok (.laload, 1) := by decide +kernel
theorem dOr_nextFrom_72 : decode prog_5_method_4_code 72 = .ok (.invokestatic 67, 3) := by decide +kernel
theorem dOr_nextFrom_75 : decode prog_5_method_4_code 75 = .ok (.ifCond .ne (20), 3) := by decide +kernel
theorem dOr_nextFrom_78 : decode prog_5_method_4_code 78 = .ok (.aload_n 1, 1) := by decide +kernel
theorem dOr_nextFrom_79 : decode prog_5_method_4_code 79 = .ok (.iload 5, 2) := by decide +kernel
theorem dOr_nextFrom_81 : decode prog_5_method_4_code 81 = .ok (.i2l, 1) := by decide +kernel
theorem dOr_nextFrom_82 : decode prog_5_method_4_code 82 = .ok (.invokevirtual 71, 3) := by decide +kernel
theorem dOr_nextFrom_85 : decode prog_5_method_4_code 85 = .ok (.aload_n 0, 1) := by decide +kernel
theorem dOr_nextFrom_86 : decode prog_5_method_4_code 86 = .ok (.getfield 35, 3) := by decide +kernel
theorem dOr_nextFrom_89 : decode prog_5_method_4_code 89 = .ok (.if_icmp .gt (6), 3) := by decide +kernel
theorem dOr_nextFrom_92 : decode prog_5_method_4_code 92 = .ok (.iload 4, 2) := by decide +kernel
theorem dOr_nextFrom_94 : decode prog_5_method_4_code 94 = .ok (.ireturn, 1) := by decide +kernel
theorem dOr_nextFrom_95 : decode prog_5_method_4_code 95 = .ok (.iinc 4 (1), 3) := by decide +kernel
theorem dOr_nextFrom_98 : decode prog_5_method_4_code 98 = .ok (.goto (-95), 3) := by decide +kernel
theorem dOr_nextFrom_101 : decode prog_5_method_4_code 101 = .ok (.iconst (-1), 1) := by decide +kernel
theorem dOr_nextFrom_102 : decode prog_5_method_4_code 102 = .ok (.ireturn, 1) := by decide +kernel
theorem dRe_heldWith_0 : decode prog_7_method_5_code 0 = .ok (.iconst (0), 1) := by decide +kernel
theorem dRe_heldWith_1 : decode prog_7_method_5_code 1 = .ok (.istore_n 3, 1) := by decide +kernel
theorem dRe_heldWith_2 : decode prog_7_method_5_code 2 = .ok (.iconst (0), 1) := by decide +kernel
theorem dRe_heldWith_3 : decode prog_7_method_5_code 3 = .ok (.istore 4, 2) := by decide +kernel
theorem dRe_heldWith_5 : decode prog_7_method_5_code 5 = .ok (.iload 4, 2) := by decide +kernel
theorem dRe_heldWith_7 : decode prog_7_method_5_code 7 = .ok (.aload_n 0, 1) := by decide +kernel
theorem dRe_heldWith_8 : decode prog_7_method_5_code 8 = .ok (.getfield 43, 3) := by decide +kernel
theorem dRe_heldWith_11 : decode prog_7_method_5_code 11 = .ok (.if_icmp .ge (62), 3) := by decide +kernel
theorem dRe_heldWith_14 : decode prog_7_method_5_code 14 = .ok (.iload 4, 2) := by decide +kernel
theorem dRe_heldWith_16 : decode prog_7_method_5_code 16 = .ok (.aload_n 0, 1) := by decide +kernel
theorem dRe_heldWith_17 : decode prog_7_method_5_code 17 = .ok (.getfield 43, 3) := by decide +kernel
theorem dRe_heldWith_20 : decode prog_7_method_5_code 20 = .ok (.iconst (1), 1) := by decide +kernel
theorem dRe_heldWith_21 : decode prog_7_method_5_code 21 = .ok (.isub, 1) := by decide +kernel
theorem dRe_heldWith_22 : decode prog_7_method_5_code 22 = .ok (.if_icmp .eq (21), 3) := by decide +kernel
theorem dRe_heldWith_25 : decode prog_7_method_5_code 25 = .ok (.aload_n 0, 1) := by decide +kernel
theorem dRe_heldWith_26 : decode prog_7_method_5_code 26 = .ok (.getfield 30, 3) := by decide +kernel
theorem dRe_heldWith_29 : decode prog_7_method_5_code 29 = .ok (.iload 4, 2) := by decide +kernel
theorem dRe_heldWith_31 : decode prog_7_method_5_code 31 = .ok (.laload, 1) := by decide +kernel
theorem dRe_heldWith_32 : decode prog_7_method_5_code 32 = .ok (.lload_n 1, 1) := by decide +kernel
theorem dRe_heldWith_33 : decode prog_7_method_5_code 33 = .ok (.ldc2_w 76, 3) := by decide +kernel
theorem dRe_heldWith_36 : decode prog_7_method_5_code 36 = .ok (.lxor, 1) := by decide +kernel
theorem dRe_heldWith_37 : decode prog_7_method_5_code 37 = .ok (.land, 1) := by decide +kernel
theorem dRe_heldWith_38 : decode prog_7_method_5_code 38 = .ok (.lconst 0, 1) := by decide +kernel
theorem dRe_heldWith_39 : decode prog_7_method_5_code 39 = .ok (.lcmp, 1) := by decide +kernel
theorem dRe_heldWith_40 : decode prog_7_method_5_code 40 = .ok (.ifCond .eq (7), 3) := by decide +kernel
theorem dRe_heldWith_43 : decode prog_7_method_5_code 43 = .ok (.iconst (1), 1) := by decide +kernel
theorem dRe_heldWith_44 : decode prog_7_method_5_code 44 = .ok (.goto (4), 3) := by decide +kernel
theorem dRe_heldWith_47 : decode prog_7_method_5_code 47 = .ok (.iconst (0), 1) := by decide +kernel
theorem dRe_heldWith_48 : decode prog_7_method_5_code 48 = .ok (.istore 5, 2) := by decide +kernel
theorem dRe_heldWith_50 : decode prog_7_method_5_code 50 = .ok (.iload 4, 2) := by decide +kernel
theorem dRe_heldWith_52 : decode prog_7_method_5_code 52 = .ok (.lload_n 1, 1) := by decide +kernel
theorem dRe_heldWith_53 : decode prog_7_method_5_code 53 = .ok (.invokestatic 50, 3) := by decide +kernel
theorem dRe_heldWith_56 : decode prog_7_method_5_code 56 = .ok (.ifCond .eq (11), 3) := by decide +kernel
theorem dRe_heldWith_59 : decode prog_7_method_5_code 59 = .ok (.iload 5, 2) := by decide +kernel
theorem dRe_heldWith_61 : decode prog_7_method_5_code 61 = .ok (.ifCond .eq (6), 3) := by decide +kernel
theorem dRe_heldWith_64 : decode prog_7_method_5_code 64 = .ok (.iinc 3 (1), 3) := by decide +kernel
theorem dRe_heldWith_67 : decode prog_7_method_5_code 67 = .ok (.iinc 4 (1), 3) := by decide +kernel
theorem dRe_heldWith_70 : decode prog_7_method_5_code 70 = .ok (.goto (-65), 3) := by decide +kernel
theorem dRe_heldWith_73 : decode prog_7_method_5_code 73 = .ok (.iload_n 3, 1) := by decide +kernel
theorem dRe_heldWith_74 : decode prog_7_method_5_code 74 = .ok (.ireturn, 1) := by decide +kernel
theorem dX_held_0 : decode prog_1_method_28_code 0 = .ok (.aload_n 0, 1) := by decide +kernel
theorem dX_held_1 : decode prog_1_method_28_code 1 = .ok (.getfield 38, 3) := by decide +kernel
theorem dX_held_4 : decode prog_1_method_28_code 4 = .ok (.getfield 175, 3) := by decide +kernel
theorem dX_held_7 : decode prog_1_method_28_code 7 = .ok (.getfield 179, 3) := by decide +kernel
theorem dX_held_10 : decode prog_1_method_28_code 10 = .ok (.ifCond .ne (7), 3) := by decide +kernel
theorem dX_held_13 : decode prog_1_method_28_code 13 = .ok (.iconst (-1), 1) := by decide +kernel
theorem dX_held_14 : decode prog_1_method_28_code 14 = .ok (.goto (13), 3) := by decide +kernel
theorem dX_held_17 : decode prog_1_method_28_code 17 = .ok (.aload_n 0, 1) := by decide +kernel
theorem dX_held_18 : decode prog_1_method_28_code 18 = .ok (.getfield 38, 3) := by decide +kernel
theorem dX_held_21 : decode prog_1_method_28_code 21 = .ok (.getfield 175, 3) := by decide +kernel
theorem dX_held_24 : decode prog_1_method_28_code 24 = .ok (.invokevirtual 356, 3) := by decide +kernel
theorem dX_held_27 : decode prog_1_method_28_code 27 = .ok (.ireturn, 1) := by decide +kernel
theorem dRe_mostHeld_0 : decode prog_7_method_6_code 0 = .ok (.iconst (0), 1) := by decide +kernel
theorem dRe_mostHeld_1 : decode prog_7_method_6_code 1 = .ok (.istore_n 1, 1) := by decide +kernel
theorem dRe_mostHeld_2 : decode prog_7_method_6_code 2 = .ok (.iconst (1), 1) := by decide +kernel
theorem dRe_mostHeld_3 : decode prog_7_method_6_code 3 = .ok (.istore_n 2, 1) := by decide +kernel
theorem dRe_mostHeld_4 : decode prog_7_method_6_code 4 = .ok (.iload_n 2, 1) := by decide +kernel
theorem dRe_mostHeld_5 : decode prog_7_method_6_code 5 = .ok (.aload_n 0, 1) := by decide +kernel
theorem dRe_mostHeld_6 : decode prog_7_method_6_code 6 = .ok (.getfield 43, 3) := by decide +kernel
theorem dRe_mostHeld_9 : decode prog_7_method_6_code 9 = .ok (.if_icmp .gt (24), 3) := by decide +kernel
theorem dRe_mostHeld_12 : decode prog_7_method_6_code 12 = .ok (.iload_n 1, 1) := by decide +kernel
theorem dRe_mostHeld_13 : decode prog_7_method_6_code 13 = .ok (.aload_n 0, 1) := by decide +kernel
theorem dRe_mostHeld_14 : decode prog_7_method_6_code 14 = .ok (.iload_n 2, 1) := by decide +kernel
theorem dRe_mostHeld_15 : decode prog_7_method_6_code 15 = .ok (.invokestatic 64, 3) := by decide +kernel
theorem dRe_mostHeld_18 : decode prog_7_method_6_code 18 = .ok (.lconst 1, 1) := by decide +kernel
theorem dRe_mostHeld_19 : decode prog_7_method_6_code 19 = .ok (.lsub, 1) := by decide +kernel
theorem dRe_mostHeld_20 : decode prog_7_method_6_code 20 = .ok (.invokevirtual 78, 3) := by decide +kernel
theorem dRe_mostHeld_23 : decode prog_7_method_6_code 23 = .ok (.invokestatic 82, 3) := by decide +kernel
theorem dRe_mostHeld_26 : decode prog_7_method_6_code 26 = .ok (.istore_n 1, 1) := by decide +kernel
theorem dRe_mostHeld_27 : decode prog_7_method_6_code 27 = .ok (.iinc 2 (1), 3) := by decide +kernel
theorem dRe_mostHeld_30 : decode prog_7_method_6_code 30 = .ok (.goto (-26), 3) := by decide +kernel
theorem dRe_mostHeld_33 : decode prog_7_method_6_code 33 = .ok (.iload_n 1, 1) := by decide +kernel
theorem dRe_mostHeld_34 : decode prog_7_method_6_code 34 = .ok (.ireturn, 1) := by decide +kernel
theorem dX_pages_0 : decode prog_1_method_29_code 0 = .ok (.aload_n 0, 1) := by decide +kernel
theorem dX_pages_1 : decode prog_1_method_29_code 1 = .ok (.getfield 38, 3) := by decide +kernel
theorem dX_pages_4 : decode prog_1_method_29_code 4 = .ok (.getfield 175, 3) := by decide +kernel
theorem dX_pages_7 : decode prog_1_method_29_code 7 = .ok (.getfield 179, 3) := by decide +kernel
theorem dX_pages_10 : decode prog_1_method_29_code 10 = .ok (.istore_n 3, 1) := by decide +kernel
theorem dX_pages_11 : decode prog_1_method_29_code 11 = .ok (.iload_n 3, 1) := by decide +kernel
theorem dX_pages_12 : decode prog_1_method_29_code 12 = .ok (.ifCond .eq (18), 3) := by decide +kernel
theorem dX_pages_15 : decode prog_1_method_29_code 15 = .ok (.iload_n 1, 1) := by decide +kernel
theorem dX_pages_16 : decode prog_1_method_29_code 16 = .ok (.iconst (1), 1) := by decide +kernel
theorem dX_pages_17 : decode prog_1_method_29_code 17 = .ok (.if_icmp .lt (13), 3) := by decide +kernel
theorem dX_pages_20 : decode prog_1_method_29_code 20 = .ok (.iload_n 1, 1) := by decide +kernel
theorem dX_pages_21 : decode prog_1_method_29_code 21 = .ok (.bipush (40), 2) := by decide +kernel
theorem dX_pages_23 : decode prog_1_method_29_code 23 = .ok (.if_icmp .gt (7), 3) := by decide +kernel
theorem dX_pages_26 : decode prog_1_method_29_code 26 = .ok (.iload_n 2, 1) := by decide +kernel
theorem dX_pages_27 : decode prog_1_method_29_code 27 = .ok (.ifCond .ge (5), 3) := by decide +kernel
theorem dX_pages_30 : decode prog_1_method_29_code 30 = .ok (.iconst (-1), 1) := by decide +kernel
theorem dX_pages_31 : decode prog_1_method_29_code 31 = .ok (.ireturn, 1) := by decide +kernel
theorem dX_pages_32 : decode prog_1_method_29_code 32 = .ok (.aload_n 0, 1) := by decide +kernel
theorem dX_pages_33 : decode prog_1_method_29_code 33 = .ok (.getfield 59, 3) := by decide +kernel
theorem dX_pages_36 : decode prog_1_method_29_code 36 = .ok (.aload_n 0, 1) := by decide +kernel
theorem dX_pages_37 : decode prog_1_method_29_code 37 = .ok (.getfield 38, 3) := by decide +kernel
theorem dX_pages_40 : decode prog_1_method_29_code 40 = .ok (.getfield 175, 3) := by decide +kernel
theorem dX_pages_43 : decode prog_1_method_29_code 43 = .ok (.iload_n 1, 1) := by decide +kernel
theorem dX_pages_44 : decode prog_1_method_29_code 44 = .ok (.invokevirtual 360, 3) := by decide +kernel
theorem dX_pages_47 : decode prog_1_method_29_code 47 = .ok (.iload_n 2, 1) := by decide +kernel
theorem dX_pages_48 : decode prog_1_method_29_code 48 = .ok (.lookupswitch (47) #[(0, 28), (1, 37)], 28) := by decide +kernel
theorem dX_pages_76 : decode prog_1_method_29_code 76 = .ok (.aload_n 0, 1) := by decide +kernel
theorem dX_pages_77 : decode prog_1_method_29_code 77 = .ok (.getfield 59, 3) := by decide +kernel
theorem dX_pages_80 : decode prog_1_method_29_code 80 = .ok (.iconst (0), 1) := by decide +kernel
theorem dX_pages_81 : decode prog_1_method_29_code 81 = .ok (.invokevirtual 364, 3) := by decide +kernel
theorem dX_pages_84 : decode prog_1_method_29_code 84 = .ok (.ireturn, 1) := by decide +kernel
theorem dX_pages_85 : decode prog_1_method_29_code 85 = .ok (.aload_n 0, 1) := by decide +kernel
theorem dX_pages_86 : decode prog_1_method_29_code 86 = .ok (.getfield 59, 3) := by decide +kernel
theorem dX_pages_89 : decode prog_1_method_29_code 89 = .ok (.getfield 367, 3) := by decide +kernel
theorem dX_pages_92 : decode prog_1_method_29_code 92 = .ok (.iconst (0), 1) := by decide +kernel
theorem dX_pages_93 : decode prog_1_method_29_code 93 = .ok (.iaload, 1) := by decide +kernel
theorem dX_pages_94 : decode prog_1_method_29_code 94 = .ok (.ireturn, 1) := by decide +kernel
theorem dX_pages_95 : decode prog_1_method_29_code 95 = .ok (.aload_n 0, 1) := by decide +kernel
theorem dX_pages_96 : decode prog_1_method_29_code 96 = .ok (.getfield 59, 3) := by decide +kernel
theorem dX_pages_99 : decode prog_1_method_29_code 99 = .ok (.iload_n 2, 1) := by decide +kernel
theorem dX_pages_100 : decode prog_1_method_29_code 100 = .ok (.iconst (2), 1) := by decide +kernel
theorem dX_pages_101 : decode prog_1_method_29_code 101 = .ok (.isub, 1) := by decide +kernel
theorem dX_pages_102 : decode prog_1_method_29_code 102 = .ok (.invokevirtual 370, 3) := by decide +kernel
theorem dX_pages_105 : decode prog_1_method_29_code 105 = .ok (.ireturn, 1) := by decide +kernel
theorem dOr_cut_0 : decode prog_5_method_5_code 0 = .ok (.aload_n 0, 1) := by decide +kernel
theorem dOr_cut_1 : decode prog_5_method_5_code 1 = .ok (.aload_n 1, 1) := by decide +kernel
theorem dOr_cut_2 : decode prog_5_method_5_code 2 = .ok (.getfield 42, 3) := by decide +kernel
theorem dOr_cut_5 : decode prog_5_method_5_code 5 = .ok (.putfield 75, 3) := by decide +kernel
theorem dOr_cut_8 : decode prog_5_method_5_code 8 = .ok (.aload_n 0, 1) := by decide +kernel
theorem dOr_cut_9 : decode prog_5_method_5_code 9 = .ok (.iconst (1), 1) := by decide +kernel
theorem dOr_cut_10 : decode prog_5_method_5_code 10 = .ok (.iload_n 2, 1) := by decide +kernel
theorem dOr_cut_11 : decode prog_5_method_5_code 11 = .ok (.invokestatic 76, 3) := by decide +kernel
theorem dOr_cut_14 : decode prog_5_method_5_code 14 = .ok (.putfield 27, 3) := by decide +kernel
theorem dOr_cut_17 : decode prog_5_method_5_code 17 = .ok (.aload_n 0, 1) := by decide +kernel
theorem dOr_cut_18 : decode prog_5_method_5_code 18 = .ok (.getfield 21, 3) := by decide +kernel
theorem dOr_cut_21 : decode prog_5_method_5_code 21 = .ok (.aload_n 0, 1) := by decide +kernel
theorem dOr_cut_22 : decode prog_5_method_5_code 22 = .ok (.getfield 75, 3) := by decide +kernel
theorem dOr_cut_25 : decode prog_5_method_5_code 25 = .ok (.iconst (0), 1) := by decide +kernel
theorem dOr_cut_26 : decode prog_5_method_5_code 26 = .ok (.iastore, 1) := by decide +kernel
theorem dOr_cut_27 : decode prog_5_method_5_code 27 = .ok (.aload_n 0, 1) := by decide +kernel
theorem dOr_cut_28 : decode prog_5_method_5_code 28 = .ok (.getfield 75, 3) := by decide +kernel
theorem dOr_cut_31 : decode prog_5_method_5_code 31 = .ok (.iconst (1), 1) := by decide +kernel
theorem dOr_cut_32 : decode prog_5_method_5_code 32 = .ok (.isub, 1) := by decide +kernel
theorem dOr_cut_33 : decode prog_5_method_5_code 33 = .ok (.istore_n 3, 1) := by decide +kernel
theorem dOr_cut_34 : decode prog_5_method_5_code 34 = .ok (.iload_n 3, 1) := by decide +kernel
theorem dOr_cut_35 : decode prog_5_method_5_code 35 = .ok (.ifCond .lt (15), 3) := by decide +kernel
theorem dOr_cut_38 : decode prog_5_method_5_code 38 = .ok (.aload_n 0, 1) := by decide +kernel
theorem dOr_cut_39 : decode prog_5_method_5_code 39 = .ok (.aload_n 1, 1) := by decide +kernel
theorem dOr_cut_40 : decode prog_5_method_5_code 40 = .ok (.iload_n 3, 1) := by decide +kernel
theorem dOr_cut_41 : decode prog_5_method_5_code 41 = .ok (.invokevirtual 82, 3) := by decide +kernel
theorem dOr_cut_44 : decode prog_5_method_5_code 44 = .ok (.iinc 3 (-1), 3) := by decide +kernel
theorem dOr_cut_47 : decode prog_5_method_5_code 47 = .ok (.goto (-13), 3) := by decide +kernel
theorem dOr_cut_50 : decode prog_5_method_5_code 50 = .ok (.return_, 1) := by decide +kernel
theorem dOr_cutFrom_0 : decode prog_5_method_6_code 0 = .ok (.iconst (0), 1) := by decide +kernel
theorem dOr_cutFrom_1 : decode prog_5_method_6_code 1 = .ok (.istore_n 3, 1) := by decide +kernel
theorem dOr_cutFrom_2 : decode prog_5_method_6_code 2 = .ok (.ldc 86, 2) := by decide +kernel
theorem dOr_cutFrom_4 : decode prog_5_method_6_code 4 = .ok (.istore 4, 2) := by decide +kernel
theorem dOr_cutFrom_6 : decode prog_5_method_6_code 6 = .ok (.iload_n 2, 1) := by decide +kernel
theorem dOr_cutFrom_7 : decode prog_5_method_6_code 7 = .ok (.iconst (1), 1) := by decide +kernel
theorem dOr_cutFrom_8 : decode prog_5_method_6_code 8 = .ok (.iadd, 1) := by decide +kernel
theorem dOr_cutFrom_9 : decode prog_5_method_6_code 9 = .ok (.istore 5, 2) := by decide +kernel
theorem dOr_cutFrom_11 : decode prog_5_method_6_code 11 = .ok (.iload 5, 2) := by decide +kernel
theorem dOr_cutFrom_13 : decode prog_5_method_6_code 13 = .ok (.aload_n 0, 1) := by decide +kernel
theorem dOr_cutFrom_14 : decode prog_5_method_6_code 14 = .ok (.getfield 75, 3) := by decide +kernel
theorem dOr_cutFrom_17 : decode prog_5_method_6_code 17 = .ok (.if_icmp .gt (76), 3) := by decide +kernel
theorem dOr_cutFrom_20 : decode prog_5_method_6_code 20 = .ok (.iload 5, 2) := by decide +kernel
theorem dOr_cutFrom_22 : decode prog_5_method_6_code 22 = .ok (.iload_n 2, 1) := by decide +kernel
theorem dOr_cutFrom_23 : decode prog_5_method_6_code 23 = .ok (.aload_n 0, 1) := by decide +kernel
theorem dOr_cutFrom_24 : decode prog_5_method_6_code 24 = .ok (.getfield 27, 3) := by decide +kernel
theorem dOr_cutFrom_27 : decode prog_5_method_6_code 27 = .ok (.iadd, 1) := by decide +kernel
theorem dOr_cutFrom_28 : decode prog_5_method_6_code 28 = .ok (.if_icmp .gt (65), 3) := by decide +kernel
theorem dOr_cutFrom_31 : decode prog_5_method_6_code 31 = .ok (.iload_n 3, 1) := by decide +kernel
theorem dOr_cutFrom_32 : decode prog_5_method_6_code 32 = .ok (.aload_n 1, 1) := by decide +kernel
theorem dOr_cutFrom_33 : decode prog_5_method_6_code 33 = .ok (.iload 5, 2) := by decide +kernel
theorem dOr_cutFrom_35 : decode prog_5_method_6_code 35 = .ok (.iconst (1), 1) := by decide +kernel
theorem dOr_cutFrom_36 : decode prog_5_method_6_code 36 = .ok (.isub, 1) := by decide +kernel
theorem dOr_cutFrom_37 : decode prog_5_method_6_code 37 = .ok (.iload_n 2, 1) := by decide +kernel
theorem dOr_cutFrom_38 : decode prog_5_method_6_code 38 = .ok (.invokevirtual 87, 3) := by decide +kernel
theorem dOr_cutFrom_41 : decode prog_5_method_6_code 41 = .ok (.iadd, 1) := by decide +kernel
theorem dOr_cutFrom_42 : decode prog_5_method_6_code 42 = .ok (.istore_n 3, 1) := by decide +kernel
theorem dOr_cutFrom_43 : decode prog_5_method_6_code 43 = .ok (.iload_n 3, 1) := by decide +kernel
theorem dOr_cutFrom_44 : decode prog_5_method_6_code 44 = .ok (.aload_n 0, 1) := by decide +kernel
theorem dOr_cutFrom_45 : decode prog_5_method_6_code 45 = .ok (.getfield 21, 3) := by decide +kernel
theorem dOr_cutFrom_48 : decode prog_5_method_6_code 48 = .ok (.iload 5, 2) := by decide +kernel
theorem dOr_cutFrom_50 : decode prog_5_method_6_code 50 = .ok (.iaload, 1) := by decide +kernel
theorem dOr_cutFrom_51 : decode prog_5_method_6_code 51 = .ok (.iadd, 1) := by decide +kernel
theorem dOr_cutFrom_52 : decode prog_5_method_6_code 52 = .ok (.istore 6, 2) := by decide +kernel
theorem dOr_cutFrom_54 : decode prog_5_method_6_code 54 = .ok (.aload_n 0, 1) := by decide +kernel
theorem dOr_cutFrom_55 : decode prog_5_method_6_code 55 = .ok (.iload 5, 2) := by decide +kernel
theorem dOr_cutFrom_57 : decode prog_5_method_6_code 57 = .ok (.invokevirtual 90, 3) := by decide +kernel
theorem dOr_cutFrom_60 : decode prog_5_method_6_code 60 = .ok (.aload_n 0, 1) := by decide +kernel
theorem dOr_cutFrom_61 : decode prog_5_method_6_code 61 = .ok (.iload_n 2, 1) := by decide +kernel
theorem dOr_cutFrom_62 : decode prog_5_method_6_code 62 = .ok (.invokevirtual 90, 3) := by decide +kernel
theorem dOr_cutFrom_65 : decode prog_5_method_6_code 65 = .ok (.if_icmp .ge (22), 3) := by decide +kernel
theorem dOr_cutFrom_68 : decode prog_5_method_6_code 68 = .ok (.iload 6, 2) := by decide +kernel
theorem dOr_cutFrom_70 : decode prog_5_method_6_code 70 = .ok (.iload 4, 2) := by decide +kernel
theorem dOr_cutFrom_72 : decode prog_5_method_6_code 72 = .ok (.if_icmp .ge (15), 3) := by decide +kernel
theorem dOr_cutFrom_75 : decode prog_5_method_6_code 75 = .ok (.iload 6, 2) := by decide +kernel
theorem dOr_cutFrom_77 : decode prog_5_method_6_code 77 = .ok (.istore 4, 2) := by decide +kernel
theorem dOr_cutFrom_79 : decode prog_5_method_6_code 79 = .ok (.aload_n 0, 1) := by decide +kernel
theorem dOr_cutFrom_80 : decode prog_5_method_6_code 80 = .ok (.getfield 24, 3) := by decide +kernel
theorem dOr_cutFrom_83 : decode prog_5_method_6_code 83 = .ok (.iload_n 2, 1) := by decide +kernel
theorem dOr_cutFrom_84 : decode prog_5_method_6_code 84 = .ok (.iload 5, 2) := by decide +kernel
theorem dOr_cutFrom_86 : decode prog_5_method_6_code 86 = .ok (.iastore, 1) := by decide +kernel
theorem dOr_cutFrom_87 : decode prog_5_method_6_code 87 = .ok (.iinc 5 (1), 3) := by decide +kernel
theorem dOr_cutFrom_90 : decode prog_5_method_6_code 90 = .ok (.goto (-79), 3) := by decide +kernel
theorem dOr_cutFrom_93 : decode prog_5_method_6_code 93 = .ok (.aload_n 0, 1) := by decide +kernel
theorem dOr_cutFrom_94 : decode prog_5_method_6_code 94 = .ok (.getfield 21, 3) := by decide +kernel
theorem dOr_cutFrom_97 : decode prog_5_method_6_code 97 = .ok (.iload_n 2, 1) := by decide +kernel
theorem dOr_cutFrom_98 : decode prog_5_method_6_code 98 = .ok (.iload 4, 2) := by decide +kernel
theorem dOr_cutFrom_100 : decode prog_5_method_6_code 100 = .ok (.iastore, 1) := by decide +kernel
theorem dOr_cutFrom_101 : decode prog_5_method_6_code 101 = .ok (.return_, 1) := by decide +kernel
theorem dRe_looksAhead_0 : decode prog_7_method_7_code 0 = .ok (.iconst (0), 1) := by decide +kernel
theorem dRe_looksAhead_1 : decode prog_7_method_7_code 1 = .ok (.istore_n 3, 1) := by decide +kernel
theorem dRe_looksAhead_2 : decode prog_7_method_7_code 2 = .ok (.iconst (0), 1) := by decide +kernel
theorem dRe_looksAhead_3 : decode prog_7_method_7_code 3 = .ok (.istore 4, 2) := by decide +kernel
theorem dRe_looksAhead_5 : decode prog_7_method_7_code 5 = .ok (.iload 4, 2) := by decide +kernel
theorem dRe_looksAhead_7 : decode prog_7_method_7_code 7 = .ok (.aload_n 0, 1) := by decide +kernel
theorem dRe_looksAhead_8 : decode prog_7_method_7_code 8 = .ok (.getfield 20, 3) := by decide +kernel
theorem dRe_looksAhead_11 : decode prog_7_method_7_code 11 = .ok (.iload_n 1, 1) := by decide +kernel
theorem dRe_looksAhead_12 : decode prog_7_method_7_code 12 = .ok (.iaload, 1) := by decide +kernel
theorem dRe_looksAhead_13 : decode prog_7_method_7_code 13 = .ok (.if_icmp .ge (27), 3) := by decide +kernel
theorem dRe_looksAhead_16 : decode prog_7_method_7_code 16 = .ok (.aload_n 0, 1) := by decide +kernel
theorem dRe_looksAhead_17 : decode prog_7_method_7_code 17 = .ok (.getfield 23, 3) := by decide +kernel
theorem dRe_looksAhead_20 : decode prog_7_method_7_code 20 = .ok (.iconst (3), 1) := by decide +kernel
theorem dRe_looksAhead_21 : decode prog_7_method_7_code 21 = .ok (.iload_n 1, 1) := by decide +kernel
theorem dRe_looksAhead_22 : decode prog_7_method_7_code 22 = .ok (.imul, 1) := by decide +kernel
theorem dRe_looksAhead_23 : decode prog_7_method_7_code 23 = .ok (.iload 4, 2) := by decide +kernel
theorem dRe_looksAhead_25 : decode prog_7_method_7_code 25 = .ok (.iadd, 1) := by decide +kernel
theorem dRe_looksAhead_26 : decode prog_7_method_7_code 26 = .ok (.iaload, 1) := by decide +kernel
theorem dRe_looksAhead_27 : decode prog_7_method_7_code 27 = .ok (.iload_n 2, 1) := by decide +kernel
theorem dRe_looksAhead_28 : decode prog_7_method_7_code 28 = .ok (.if_icmp .ge (6), 3) := by decide +kernel
theorem dRe_looksAhead_31 : decode prog_7_method_7_code 31 = .ok (.iinc 3 (1), 3) := by decide +kernel
theorem dRe_looksAhead_34 : decode prog_7_method_7_code 34 = .ok (.iinc 4 (1), 3) := by decide +kernel
theorem dRe_looksAhead_37 : decode prog_7_method_7_code 37 = .ok (.goto (-32), 3) := by decide +kernel
theorem dRe_looksAhead_40 : decode prog_7_method_7_code 40 = .ok (.iload_n 3, 1) := by decide +kernel
theorem dRe_looksAhead_41 : decode prog_7_method_7_code 41 = .ok (.ireturn, 1) := by decide +kernel
theorem dOr_pageCount_0 : decode prog_5_method_7_code 0 = .ok (.aload_n 0, 1) := by decide +kernel
theorem dOr_pageCount_1 : decode prog_5_method_7_code 1 = .ok (.getfield 75, 3) := by decide +kernel
theorem dOr_pageCount_4 : decode prog_5_method_7_code 4 = .ok (.iload_n 1, 1) := by decide +kernel
theorem dOr_pageCount_5 : decode prog_5_method_7_code 5 = .ok (.isub, 1) := by decide +kernel
theorem dOr_pageCount_6 : decode prog_5_method_7_code 6 = .ok (.aload_n 0, 1) := by decide +kernel
theorem dOr_pageCount_7 : decode prog_5_method_7_code 7 = .ok (.getfield 27, 3) := by decide +kernel
theorem dOr_pageCount_10 : decode prog_5_method_7_code 10 = .ok (.iadd, 1) := by decide +kernel
theorem dOr_pageCount_11 : decode prog_5_method_7_code 11 = .ok (.iconst (1), 1) := by decide +kernel
theorem dOr_pageCount_12 : decode prog_5_method_7_code 12 = .ok (.isub, 1) := by decide +kernel
theorem dOr_pageCount_13 : decode prog_5_method_7_code 13 = .ok (.aload_n 0, 1) := by decide +kernel
theorem dOr_pageCount_14 : decode prog_5_method_7_code 14 = .ok (.getfield 27, 3) := by decide +kernel
theorem dOr_pageCount_17 : decode prog_5_method_7_code 17 = .ok (.idiv, 1) := by decide +kernel
theorem dOr_pageCount_18 : decode prog_5_method_7_code 18 = .ok (.ireturn, 1) := by decide +kernel
theorem dOr_firstOn_0 : decode prog_5_method_8_code 0 = .ok (.iconst (0), 1) := by decide +kernel
theorem dOr_firstOn_1 : decode prog_5_method_8_code 1 = .ok (.istore_n 2, 1) := by decide +kernel
theorem dOr_firstOn_2 : decode prog_5_method_8_code 2 = .ok (.iconst (0), 1) := by decide +kernel
theorem dOr_firstOn_3 : decode prog_5_method_8_code 3 = .ok (.istore_n 3, 1) := by decide +kernel
theorem dOr_firstOn_4 : decode prog_5_method_8_code 4 = .ok (.iload_n 3, 1) := by decide +kernel
theorem dOr_firstOn_5 : decode prog_5_method_8_code 5 = .ok (.iload_n 1, 1) := by decide +kernel
theorem dOr_firstOn_6 : decode prog_5_method_8_code 6 = .ok (.if_icmp .ge (24), 3) := by decide +kernel
theorem dOr_firstOn_9 : decode prog_5_method_8_code 9 = .ok (.iload_n 2, 1) := by decide +kernel
theorem dOr_firstOn_10 : decode prog_5_method_8_code 10 = .ok (.aload_n 0, 1) := by decide +kernel
theorem dOr_firstOn_11 : decode prog_5_method_8_code 11 = .ok (.getfield 75, 3) := by decide +kernel
theorem dOr_firstOn_14 : decode prog_5_method_8_code 14 = .ok (.if_icmp .ge (16), 3) := by decide +kernel
theorem dOr_firstOn_17 : decode prog_5_method_8_code 17 = .ok (.aload_n 0, 1) := by decide +kernel
theorem dOr_firstOn_18 : decode prog_5_method_8_code 18 = .ok (.getfield 24, 3) := by decide +kernel
theorem dOr_firstOn_21 : decode prog_5_method_8_code 21 = .ok (.iload_n 2, 1) := by decide +kernel
theorem dOr_firstOn_22 : decode prog_5_method_8_code 22 = .ok (.iaload, 1) := by decide +kernel
theorem dOr_firstOn_23 : decode prog_5_method_8_code 23 = .ok (.istore_n 2, 1) := by decide +kernel
theorem dOr_firstOn_24 : decode prog_5_method_8_code 24 = .ok (.iinc 3 (1), 3) := by decide +kernel
theorem dOr_firstOn_27 : decode prog_5_method_8_code 27 = .ok (.goto (-23), 3) := by decide +kernel
theorem dOr_firstOn_30 : decode prog_5_method_8_code 30 = .ok (.iload_n 2, 1) := by decide +kernel
theorem dOr_firstOn_31 : decode prog_5_method_8_code 31 = .ok (.aload_n 0, 1) := by decide +kernel
theorem dOr_firstOn_32 : decode prog_5_method_8_code 32 = .ok (.getfield 75, 3) := by decide +kernel
theorem dOr_firstOn_35 : decode prog_5_method_8_code 35 = .ok (.if_icmp .ge (7), 3) := by decide +kernel
theorem dOr_firstOn_38 : decode prog_5_method_8_code 38 = .ok (.iload_n 2, 1) := by decide +kernel
theorem dOr_firstOn_39 : decode prog_5_method_8_code 39 = .ok (.goto (4), 3) := by decide +kernel
theorem dOr_firstOn_42 : decode prog_5_method_8_code 42 = .ok (.iconst (-1), 1) := by decide +kernel
theorem dOr_firstOn_43 : decode prog_5_method_8_code 43 = .ok (.ireturn, 1) := by decide +kernel
theorem dX_blame_0 : decode prog_1_method_30_code 0 = .ok (.aload_n 0, 1) := by decide +kernel
theorem dX_blame_1 : decode prog_1_method_30_code 1 = .ok (.getfield 26, 3) := by decide +kernel
theorem dX_blame_4 : decode prog_1_method_30_code 4 = .ok (.iload_n 1, 1) := by decide +kernel
theorem dX_blame_5 : decode prog_1_method_30_code 5 = .ok (.invokevirtual 203, 3) := by decide +kernel
theorem dX_blame_8 : decode prog_1_method_30_code 8 = .ok (.ifCond .ne (5), 3) := by decide +kernel
theorem dX_blame_11 : decode prog_1_method_30_code 11 = .ok (.iconst (-1), 1) := by decide +kernel
theorem dX_blame_12 : decode prog_1_method_30_code 12 = .ok (.ireturn, 1) := by decide +kernel
theorem dX_blame_13 : decode prog_1_method_30_code 13 = .ok (.aload_n 0, 1) := by decide +kernel
theorem dX_blame_14 : decode prog_1_method_30_code 14 = .ok (.iload_n 2, 1) := by decide +kernel
theorem dX_blame_15 : decode prog_1_method_30_code 15 = .ok (.ifCond .eq (14), 3) := by decide +kernel
theorem dX_blame_18 : decode prog_1_method_30_code 18 = .ok (.aload_n 0, 1) := by decide +kernel
theorem dX_blame_19 : decode prog_1_method_30_code 19 = .ok (.getfield 92, 3) := by decide +kernel
theorem dX_blame_22 : decode prog_1_method_30_code 22 = .ok (.iconst (1), 1) := by decide +kernel
theorem dX_blame_23 : decode prog_1_method_30_code 23 = .ok (.iload_n 1, 1) := by decide +kernel
theorem dX_blame_24 : decode prog_1_method_30_code 24 = .ok (.ishl, 1) := by decide +kernel
theorem dX_blame_25 : decode prog_1_method_30_code 25 = .ok (.ior, 1) := by decide +kernel
theorem dX_blame_26 : decode prog_1_method_30_code 26 = .ok (.goto (13), 3) := by decide +kernel
theorem dX_blame_29 : decode prog_1_method_30_code 29 = .ok (.aload_n 0, 1) := by decide +kernel
theorem dX_blame_30 : decode prog_1_method_30_code 30 = .ok (.getfield 92, 3) := by decide +kernel
theorem dX_blame_33 : decode prog_1_method_30_code 33 = .ok (.iconst (1), 1) := by decide +kernel
theorem dX_blame_34 : decode prog_1_method_30_code 34 = .ok (.iload_n 1, 1) := by decide +kernel
theorem dX_blame_35 : decode prog_1_method_30_code 35 = .ok (.ishl, 1) := by decide +kernel
theorem dX_blame_36 : decode prog_1_method_30_code 36 = .ok (.iconst (-1), 1) := by decide +kernel
theorem dX_blame_37 : decode prog_1_method_30_code 37 = .ok (.ixor, 1) := by decide +kernel
theorem dX_blame_38 : decode prog_1_method_30_code 38 = .ok (.iand, 1) := by decide +kernel
theorem dX_blame_39 : decode prog_1_method_30_code 39 = .ok (.invokevirtual 130, 3) := by decide +kernel
theorem dX_blame_42 : decode prog_1_method_30_code 42 = .ok (.aload_n 0, 1) := by decide +kernel
theorem dX_blame_43 : decode prog_1_method_30_code 43 = .ok (.getfield 95, 3) := by decide +kernel
theorem dX_blame_46 : decode prog_1_method_30_code 46 = .ok (.invokestatic 160, 3) := by decide +kernel
theorem dX_blame_49 : decode prog_1_method_30_code 49 = .ok (.ireturn, 1) := by decide +kernel
theorem dX_stands_0 : decode prog_1_method_31_code 0 = .ok (.aload_n 0, 1) := by decide +kernel
theorem dX_stands_1 : decode prog_1_method_31_code 1 = .ok (.getfield 26, 3) := by decide +kernel
theorem dX_stands_4 : decode prog_1_method_31_code 4 = .ok (.getfield 136, 3) := by decide +kernel
theorem dX_stands_7 : decode prog_1_method_31_code 7 = .ok (.ifCond .ne (5), 3) := by decide +kernel
theorem dX_stands_10 : decode prog_1_method_31_code 10 = .ok (.iconst (-1), 1) := by decide +kernel
theorem dX_stands_11 : decode prog_1_method_31_code 11 = .ok (.ireturn, 1) := by decide +kernel
theorem dX_stands_12 : decode prog_1_method_31_code 12 = .ok (.aload_n 0, 1) := by decide +kernel
theorem dX_stands_13 : decode prog_1_method_31_code 13 = .ok (.getfield 38, 3) := by decide +kernel
theorem dX_stands_16 : decode prog_1_method_31_code 16 = .ok (.aload_n 0, 1) := by decide +kernel
theorem dX_stands_17 : decode prog_1_method_31_code 17 = .ok (.getfield 26, 3) := by decide +kernel
theorem dX_stands_20 : decode prog_1_method_31_code 20 = .ok (.getfield 154, 3) := by decide +kernel
theorem dX_stands_23 : decode prog_1_method_31_code 23 = .ok (.invokevirtual 373, 3) := by decide +kernel
theorem dX_stands_26 : decode prog_1_method_31_code 26 = .ok (.aload_n 0, 1) := by decide +kernel
theorem dX_stands_27 : decode prog_1_method_31_code 27 = .ok (.getfield 95, 3) := by decide +kernel
theorem dX_stands_30 : decode prog_1_method_31_code 30 = .ok (.ldc2_w 267, 3) := by decide +kernel
theorem dX_stands_33 : decode prog_1_method_31_code 33 = .ok (.lxor, 1) := by decide +kernel
theorem dX_stands_34 : decode prog_1_method_31_code 34 = .ok (.land, 1) := by decide +kernel
theorem dX_stands_35 : decode prog_1_method_31_code 35 = .ok (.lconst 0, 1) := by decide +kernel
theorem dX_stands_36 : decode prog_1_method_31_code 36 = .ok (.lcmp, 1) := by decide +kernel
theorem dX_stands_37 : decode prog_1_method_31_code 37 = .ok (.ifCond .eq (7), 3) := by decide +kernel
theorem dX_stands_40 : decode prog_1_method_31_code 40 = .ok (.iconst (1), 1) := by decide +kernel
theorem dX_stands_41 : decode prog_1_method_31_code 41 = .ok (.goto (4), 3) := by decide +kernel
theorem dX_stands_44 : decode prog_1_method_31_code 44 = .ok (.iconst (0), 1) := by decide +kernel
theorem dX_stands_45 : decode prog_1_method_31_code 45 = .ok (.invokestatic 213, 3) := by decide +kernel
theorem dX_stands_48 : decode prog_1_method_31_code 48 = .ok (.ireturn, 1) := by decide +kernel
theorem dFa_sameAs_0 : decode prog_4_method_8_code 0 = .ok (.lconst 0, 1) := by decide +kernel
theorem dFa_sameAs_1 : decode prog_4_method_8_code 1 = .ok (.lstore_n 2, 1) := by decide +kernel
theorem dFa_sameAs_2 : decode prog_4_method_8_code 2 = .ok (.iconst (0), 1) := by decide +kernel
theorem dFa_sameAs_3 : decode prog_4_method_8_code 3 = .ok (.istore 4, 2) := by decide +kernel
theorem dFa_sameAs_5 : decode prog_4_method_8_code 5 = .ok (.iload 4, 2) := by decide +kernel
theorem dFa_sameAs_7 : decode prog_4_method_8_code 7 = .ok (.aload_n 0, 1) := by decide +kernel
theorem dFa_sameAs_8 : decode prog_4_method_8_code 8 = .ok (.getfield 40, 3) := by decide +kernel
theorem dFa_sameAs_11 : decode prog_4_method_8_code 11 = .ok (.getfield 57, 3) := by decide +kernel
theorem dFa_sameAs_14 : decode prog_4_method_8_code 14 = .ok (.if_icmp .ge (33), 3) := by decide +kernel
theorem dFa_sameAs_17 : decode prog_4_method_8_code 17 = .ok (.aload_n 0, 1) := by decide +kernel
theorem dFa_sameAs_18 : decode prog_4_method_8_code 18 = .ok (.getfield 11, 3) := by decide +kernel
theorem dFa_sameAs_21 : decode prog_4_method_8_code 21 = .ok (.iload 4, 2) := by decide +kernel
theorem dFa_sameAs_23 : decode prog_4_method_8_code 23 = .ok (.iaload, 1) := by decide +kernel
theorem dFa_sameAs_24 : decode prog_4_method_8_code 24 = .ok (.aload_n 0, 1) := by decide +kernel
theorem dFa_sameAs_25 : decode prog_4_method_8_code 25 = .ok (.getfield 11, 3) := by decide +kernel
theorem dFa_sameAs_28 : decode prog_4_method_8_code 28 = .ok (.iload_n 1, 1) := by decide +kernel
theorem dFa_sameAs_29 : decode prog_4_method_8_code 29 = .ok (.iaload, 1) := by decide +kernel
theorem dFa_sameAs_30 : decode prog_4_method_8_code 30 = .ok (.if_icmp .ne (11), 3) := by decide +kernel
theorem dFa_sameAs_33 : decode prog_4_method_8_code 33 = .ok (.lload_n 2, 1) := by decide +kernel
theorem dFa_sameAs_34 : decode prog_4_method_8_code 34 = .ok (.iload 4, 2) := by decide +kernel
theorem dFa_sameAs_36 : decode prog_4_method_8_code 36 = .ok (.invokestatic 72, 3) := by decide +kernel
theorem dFa_sameAs_39 : decode prog_4_method_8_code 39 = .ok (.lor, 1) := by decide +kernel
theorem dFa_sameAs_40 : decode prog_4_method_8_code 40 = .ok (.lstore_n 2, 1) := by decide +kernel
theorem dFa_sameAs_41 : decode prog_4_method_8_code 41 = .ok (.iinc 4 (1), 3) := by decide +kernel
theorem dFa_sameAs_44 : decode prog_4_method_8_code 44 = .ok (.goto (-39), 3) := by decide +kernel
theorem dFa_sameAs_47 : decode prog_4_method_8_code 47 = .ok (.lload_n 2, 1) := by decide +kernel
theorem dFa_sameAs_48 : decode prog_4_method_8_code 48 = .ok (.lreturn, 1) := by decide +kernel
theorem dX_fewest_0 : decode prog_1_method_32_code 0 = .ok (.aload_n 0, 1) := by decide +kernel
theorem dX_fewest_1 : decode prog_1_method_32_code 1 = .ok (.getfield 66, 3) := by decide +kernel
theorem dX_fewest_4 : decode prog_1_method_32_code 4 = .ok (.aload_n 0, 1) := by decide +kernel
theorem dX_fewest_5 : decode prog_1_method_32_code 5 = .ok (.getfield 38, 3) := by decide +kernel
theorem dX_fewest_8 : decode prog_1_method_32_code 8 = .ok (.aload_n 0, 1) := by decide +kernel
theorem dX_fewest_9 : decode prog_1_method_32_code 9 = .ok (.getfield 92, 3) := by decide +kernel
theorem dX_fewest_12 : decode prog_1_method_32_code 12 = .ok (.invokevirtual 376, 3) := by decide +kernel
theorem dX_fewest_15 : decode prog_1_method_32_code 15 = .ok (.aload_n 0, 1) := by decide +kernel
theorem dX_fewest_16 : decode prog_1_method_32_code 16 = .ok (.getfield 66, 3) := by decide +kernel
theorem dX_fewest_19 : decode prog_1_method_32_code 19 = .ok (.getfield 380, 3) := by decide +kernel
theorem dX_fewest_22 : decode prog_1_method_32_code 22 = .ok (.lconst 0, 1) := by decide +kernel
theorem dX_fewest_23 : decode prog_1_method_32_code 23 = .ok (.lcmp, 1) := by decide +kernel
theorem dX_fewest_24 : decode prog_1_method_32_code 24 = .ok (.ifCond .ne (5), 3) := by decide +kernel
theorem dX_fewest_27 : decode prog_1_method_32_code 27 = .ok (.iconst (-1), 1) := by decide +kernel
theorem dX_fewest_28 : decode prog_1_method_32_code 28 = .ok (.ireturn, 1) := by decide +kernel
theorem dX_fewest_29 : decode prog_1_method_32_code 29 = .ok (.iload_n 1, 1) := by decide +kernel
theorem dX_fewest_30 : decode prog_1_method_32_code 30 = .ok (.iconst (-1), 1) := by decide +kernel
theorem dX_fewest_31 : decode prog_1_method_32_code 31 = .ok (.if_icmp .ne (16), 3) := by decide +kernel
theorem dX_fewest_34 : decode prog_1_method_32_code 34 = .ok (.aload_n 0, 1) := by decide +kernel
theorem dX_fewest_35 : decode prog_1_method_32_code 35 = .ok (.getfield 66, 3) := by decide +kernel
theorem dX_fewest_38 : decode prog_1_method_32_code 38 = .ok (.getfield 380, 3) := by decide +kernel
theorem dX_fewest_41 : decode prog_1_method_32_code 41 = .ok (.invokestatic 160, 3) := by decide +kernel
theorem dX_fewest_44 : decode prog_1_method_32_code 44 = .ok (.goto (14), 3) := by decide +kernel
theorem dX_fewest_47 : decode prog_1_method_32_code 47 = .ok (.aload_n 0, 1) := by decide +kernel
theorem dX_fewest_48 : decode prog_1_method_32_code 48 = .ok (.getfield 66, 3) := by decide +kernel
theorem dX_fewest_51 : decode prog_1_method_32_code 51 = .ok (.getfield 380, 3) := by decide +kernel
theorem dX_fewest_54 : decode prog_1_method_32_code 54 = .ok (.iload_n 1, 1) := by decide +kernel
theorem dX_fewest_55 : decode prog_1_method_32_code 55 = .ok (.invokestatic 269, 3) := by decide +kernel
theorem dX_fewest_58 : decode prog_1_method_32_code 58 = .ok (.ireturn, 1) := by decide +kernel
theorem dWy_search_0 : decode prog_12_method_2_code 0 = .ok (.aload_n 0, 1) := by decide +kernel
theorem dWy_search_1 : decode prog_12_method_2_code 1 = .ok (.getfield 26, 3) := by decide +kernel
theorem dWy_search_4 : decode prog_12_method_2_code 4 = .ok (.ifCond .eq (4), 3) := by decide +kernel
theorem dWy_search_7 : decode prog_12_method_2_code 7 = .ok (.return_, 1) := by decide +kernel
theorem dWy_search_8 : decode prog_12_method_2_code 8 = .ok (.aload_n 0, 1) := by decide +kernel
theorem dWy_search_9 : decode prog_12_method_2_code 9 = .ok (.iconst (1), 1) := by decide +kernel
theorem dWy_search_10 : decode prog_12_method_2_code 10 = .ok (.putfield 26, 3) := by decide +kernel
theorem dWy_search_13 : decode prog_12_method_2_code 13 = .ok (.aload_n 0, 1) := by decide +kernel
theorem dWy_search_14 : decode prog_12_method_2_code 14 = .ok (.lconst 0, 1) := by decide +kernel
theorem dWy_search_15 : decode prog_12_method_2_code 15 = .ok (.putfield 30, 3) := by decide +kernel
theorem dWy_search_18 : decode prog_12_method_2_code 18 = .ok (.aload_n 0, 1) := by decide +kernel
theorem dWy_search_19 : decode prog_12_method_2_code 19 = .ok (.aload_n 1, 1) := by decide +kernel
theorem dWy_search_20 : decode prog_12_method_2_code 20 = .ok (.iload_n 2, 1) := by decide +kernel
theorem dWy_search_21 : decode prog_12_method_2_code 21 = .ok (.invokevirtual 34, 3) := by decide +kernel
theorem dWy_search_24 : decode prog_12_method_2_code 24 = .ok (.istore_n 3, 1) := by decide +kernel
theorem dWy_search_25 : decode prog_12_method_2_code 25 = .ok (.aload_n 1, 1) := by decide +kernel
theorem dWy_search_26 : decode prog_12_method_2_code 26 = .ok (.getfield 38, 3) := by decide +kernel
theorem dWy_search_29 : decode prog_12_method_2_code 29 = .ok (.getfield 44, 3) := by decide +kernel
theorem dWy_search_32 : decode prog_12_method_2_code 32 = .ok (.ifCond .eq (10), 3) := by decide +kernel
theorem dWy_search_35 : decode prog_12_method_2_code 35 = .ok (.iload_n 3, 1) := by decide +kernel
theorem dWy_search_36 : decode prog_12_method_2_code 36 = .ok (.sipush (4096), 3) := by decide +kernel
theorem dWy_search_39 : decode prog_12_method_2_code 39 = .ok (.if_icmp .le (4), 3) := by decide +kernel
theorem dWy_search_42 : decode prog_12_method_2_code 42 = .ok (.return_, 1) := by decide +kernel
theorem dWy_search_43 : decode prog_12_method_2_code 43 = .ok (.iconst (0), 1) := by decide +kernel
theorem dWy_search_44 : decode prog_12_method_2_code 44 = .ok (.istore 4, 2) := by decide +kernel
theorem dWy_search_46 : decode prog_12_method_2_code 46 = .ok (.iload 4, 2) := by decide +kernel
theorem dWy_search_48 : decode prog_12_method_2_code 48 = .ok (.iload_n 3, 1) := by decide +kernel
theorem dWy_search_49 : decode prog_12_method_2_code 49 = .ok (.if_icmp .ge (29), 3) := by decide +kernel
theorem dWy_search_52 : decode prog_12_method_2_code 52 = .ok (.aload_n 0, 1) := by decide +kernel
theorem dWy_search_53 : decode prog_12_method_2_code 53 = .ok (.aload_n 0, 1) := by decide +kernel
theorem dWy_search_54 : decode prog_12_method_2_code 54 = .ok (.aload_n 1, 1) := by decide +kernel
theorem dWy_search_55 : decode prog_12_method_2_code 55 = .ok (.invokevirtual 48, 3) := by decide +kernel
theorem dWy_search_58 : decode prog_12_method_2_code 58 = .ok (.invokevirtual 52, 3) := by decide +kernel
theorem dWy_search_61 : decode prog_12_method_2_code 61 = .ok (.aload_n 0, 1) := by decide +kernel
theorem dWy_search_62 : decode prog_12_method_2_code 62 = .ok (.aload_n 1, 1) := by decide +kernel
theorem dWy_search_63 : decode prog_12_method_2_code 63 = .ok (.getfield 38, 3) := by decide +kernel
theorem dWy_search_66 : decode prog_12_method_2_code 66 = .ok (.getfield 44, 3) := by decide +kernel
theorem dWy_search_69 : decode prog_12_method_2_code 69 = .ok (.invokevirtual 56, 3) := by decide +kernel
theorem dWy_search_72 : decode prog_12_method_2_code 72 = .ok (.iinc 4 (1), 3) := by decide +kernel
theorem dWy_search_75 : decode prog_12_method_2_code 75 = .ok (.goto (-29), 3) := by decide +kernel
theorem dWy_search_78 : decode prog_12_method_2_code 78 = .ok (.return_, 1) := by decide +kernel
theorem dWy_lineUp_0 : decode prog_12_method_3_code 0 = .ok (.aload_n 1, 1) := by decide +kernel
theorem dWy_lineUp_1 : decode prog_12_method_3_code 1 = .ok (.getfield 38, 3) := by decide +kernel
theorem dWy_lineUp_4 : decode prog_12_method_3_code 4 = .ok (.astore_n 3, 1) := by decide +kernel
theorem dWy_lineUp_5 : decode prog_12_method_3_code 5 = .ok (.iconst (1), 1) := by decide +kernel
theorem dWy_lineUp_6 : decode prog_12_method_3_code 6 = .ok (.istore 4, 2) := by decide +kernel
theorem dWy_lineUp_8 : decode prog_12_method_3_code 8 = .ok (.aload_n 0, 1) := by decide +kernel
theorem dWy_lineUp_9 : decode prog_12_method_3_code 9 = .ok (.getfield 11, 3) := by decide +kernel
theorem dWy_lineUp_12 : decode prog_12_method_3_code 12 = .ok (.iconst (-1), 1) := by decide +kernel
theorem dWy_lineUp_13 : decode prog_12_method_3_code 13 = .ok (.invokestatic 60, 3) := by decide +kernel
theorem dWy_lineUp_16 : decode prog_12_method_3_code 16 = .ok (.aload_n 0, 1) := by decide +kernel
theorem dWy_lineUp_17 : decode prog_12_method_3_code 17 = .ok (.getfield 17, 3) := by decide +kernel
theorem dWy_lineUp_20 : decode prog_12_method_3_code 20 = .ok (.iconst (0), 1) := by decide +kernel
theorem dWy_lineUp_21 : decode prog_12_method_3_code 21 = .ok (.invokestatic 60, 3) := by decide +kernel
theorem dWy_lineUp_24 : decode prog_12_method_3_code 24 = .ok (.aload_n 3, 1) := by decide +kernel
theorem dWy_lineUp_25 : decode prog_12_method_3_code 25 = .ok (.getfield 44, 3) := by decide +kernel
theorem dWy_lineUp_28 : decode prog_12_method_3_code 28 = .ok (.iconst (1), 1) := by decide +kernel
theorem dWy_lineUp_29 : decode prog_12_method_3_code 29 = .ok (.isub, 1) := by decide +kernel
theorem dWy_lineUp_30 : decode prog_12_method_3_code 30 = .ok (.istore 5, 2) := by decide +kernel
theorem dWy_lineUp_32 : decode prog_12_method_3_code 32 = .ok (.iload 5, 2) := by decide +kernel
theorem dWy_lineUp_34 : decode prog_12_method_3_code 34 = .ok (.ifCond .lt (66), 3) := by decide +kernel
theorem dWy_lineUp_37 : decode prog_12_method_3_code 37 = .ok (.aload_n 1, 1) := by decide +kernel
theorem dWy_lineUp_38 : decode prog_12_method_3_code 38 = .ok (.getfield 66, 3) := by decide +kernel
theorem dWy_lineUp_41 : decode prog_12_method_3_code 41 = .ok (.iload 5, 2) := by decide +kernel
theorem dWy_lineUp_43 : decode prog_12_method_3_code 43 = .ok (.iaload, 1) := by decide +kernel
theorem dWy_lineUp_44 : decode prog_12_method_3_code 44 = .ok (.istore 6, 2) := by decide +kernel
theorem dWy_lineUp_46 : decode prog_12_method_3_code 46 = .ok (.iload_n 2, 1) := by decide +kernel
theorem dWy_lineUp_47 : decode prog_12_method_3_code 47 = .ok (.aload_n 3, 1) := by decide +kernel
theorem dWy_lineUp_48 : decode prog_12_method_3_code 48 = .ok (.getfield 69, 3) := by decide +kernel
theorem dWy_lineUp_51 : decode prog_12_method_3_code 51 = .ok (.iload 5, 2) := by decide +kernel
theorem dWy_lineUp_53 : decode prog_12_method_3_code 53 = .ok (.iaload, 1) := by decide +kernel
theorem dWy_lineUp_54 : decode prog_12_method_3_code 54 = .ok (.ishr, 1) := by decide +kernel
theorem dWy_lineUp_55 : decode prog_12_method_3_code 55 = .ok (.iconst (1), 1) := by decide +kernel
theorem dWy_lineUp_56 : decode prog_12_method_3_code 56 = .ok (.iand, 1) := by decide +kernel
theorem dWy_lineUp_57 : decode prog_12_method_3_code 57 = .ok (.ifCond .ne (37), 3) := by decide +kernel
theorem dWy_lineUp_60 : decode prog_12_method_3_code 60 = .ok (.aload_n 0, 1) := by decide +kernel
theorem dWy_lineUp_61 : decode prog_12_method_3_code 61 = .ok (.getfield 23, 3) := by decide +kernel
theorem dWy_lineUp_64 : decode prog_12_method_3_code 64 = .ok (.iload 5, 2) := by decide +kernel
theorem dWy_lineUp_66 : decode prog_12_method_3_code 66 = .ok (.aload_n 0, 1) := by decide +kernel
theorem dWy_lineUp_67 : decode prog_12_method_3_code 67 = .ok (.getfield 11, 3) := by decide +kernel
theorem dWy_lineUp_70 : decode prog_12_method_3_code 70 = .ok (.iload 6, 2) := by decide +kernel
theorem dWy_lineUp_72 : decode prog_12_method_3_code 72 = .ok (.iaload, 1) := by decide +kernel
theorem dWy_lineUp_73 : decode prog_12_method_3_code 73 = .ok (.iastore, 1) := by decide +kernel
theorem dWy_lineUp_74 : decode prog_12_method_3_code 74 = .ok (.aload_n 0, 1) := by decide +kernel
theorem dWy_lineUp_75 : decode prog_12_method_3_code 75 = .ok (.getfield 11, 3) := by decide +kernel
theorem dWy_lineUp_78 : decode prog_12_method_3_code 78 = .ok (.iload 6, 2) := by decide +kernel
theorem dWy_lineUp_80 : decode prog_12_method_3_code 80 = .ok (.iload 5, 2) := by decide +kernel
theorem dWy_lineUp_82 : decode prog_12_method_3_code 82 = .ok (.iastore, 1) := by decide +kernel
theorem dWy_lineUp_83 : decode prog_12_method_3_code 83 = .ok (.aload_n 0, 1) := by decide +kernel
theorem dWy_lineUp_84 : decode prog_12_method_3_code 84 = .ok (.getfield 17, 3) := by decide +kernel
theorem dWy_lineUp_87 : decode prog_12_method_3_code 87 = .ok (.iload 6, 2) := by decide +kernel
theorem dWy_lineUp_89 : decode prog_12_method_3_code 89 = .ok (.dup2, 1) := by decide +kernel
theorem dWy_lineUp_90 : decode prog_12_method_3_code 90 = .ok (.iaload, 1) := by decide +kernel
theorem dWy_lineUp_91 : decode prog_12_method_3_code 91 = .ok (.iconst (1), 1) := by decide +kernel
theorem dWy_lineUp_92 : decode prog_12_method_3_code 92 = .ok (.iadd, 1) := by decide +kernel
theorem dWy_lineUp_93 : decode prog_12_method_3_code 93 = .ok (.iastore, 1) := by decide +kernel
theorem dWy_lineUp_94 : decode prog_12_method_3_code 94 = .ok (.iinc 5 (-1), 3) := by decide +kernel
theorem dWy_lineUp_97 : decode prog_12_method_3_code 97 = .ok (.goto (-65), 3) := by decide +kernel
theorem dWy_lineUp_100 : decode prog_12_method_3_code 100 = .ok (.iconst (0), 1) := by decide +kernel
theorem dWy_lineUp_101 : decode prog_12_method_3_code 101 = .ok (.istore 5, 2) := by decide +kernel
theorem dWy_lineUp_103 : decode prog_12_method_3_code 103 = .ok (.iload 5, 2) := by decide +kernel
theorem dWy_lineUp_105 : decode prog_12_method_3_code 105 = .ok (.aload_n 3, 1) := by decide +kernel
theorem dWy_lineUp_106 : decode prog_12_method_3_code 106 = .ok (.getfield 44, 3) := by decide +kernel
theorem dWy_lineUp_109 : decode prog_12_method_3_code 109 = .ok (.if_icmp .ge (39), 3) := by decide +kernel
theorem dWy_lineUp_112 : decode prog_12_method_3_code 112 = .ok (.aload_n 0, 1) := by decide +kernel
theorem dWy_lineUp_113 : decode prog_12_method_3_code 113 = .ok (.getfield 20, 3) := by decide +kernel
theorem dWy_lineUp_116 : decode prog_12_method_3_code 116 = .ok (.iload 5, 2) := by decide +kernel
theorem dWy_lineUp_118 : decode prog_12_method_3_code 118 = .ok (.aload_n 0, 1) := by decide +kernel
theorem dWy_lineUp_119 : decode prog_12_method_3_code 119 = .ok (.getfield 11, 3) := by decide +kernel
theorem dWy_lineUp_122 : decode prog_12_method_3_code 122 = .ok (.iload 5, 2) := by decide +kernel
theorem dWy_lineUp_124 : decode prog_12_method_3_code 124 = .ok (.iaload, 1) := by decide +kernel
theorem dWy_lineUp_125 : decode prog_12_method_3_code 125 = .ok (.iastore, 1) := by decide +kernel
theorem dWy_lineUp_126 : decode prog_12_method_3_code 126 = .ok (.iload 4, 2) := by decide +kernel
theorem dWy_lineUp_128 : decode prog_12_method_3_code 128 = .ok (.iconst (1), 1) := by decide +kernel
theorem dWy_lineUp_129 : decode prog_12_method_3_code 129 = .ok (.aload_n 0, 1) := by decide +kernel
theorem dWy_lineUp_130 : decode prog_12_method_3_code 130 = .ok (.getfield 17, 3) := by decide +kernel
theorem dWy_lineUp_133 : decode prog_12_method_3_code 133 = .ok (.iload 5, 2) := by decide +kernel
theorem dWy_lineUp_135 : decode prog_12_method_3_code 135 = .ok (.iaload, 1) := by decide +kernel
theorem dWy_lineUp_136 : decode prog_12_method_3_code 136 = .ok (.invokestatic 72, 3) := by decide +kernel
theorem dWy_lineUp_139 : decode prog_12_method_3_code 139 = .ok (.imul, 1) := by decide +kernel
theorem dWy_lineUp_140 : decode prog_12_method_3_code 140 = .ok (.istore 4, 2) := by decide +kernel
theorem dWy_lineUp_142 : decode prog_12_method_3_code 142 = .ok (.iinc 5 (1), 3) := by decide +kernel
theorem dWy_lineUp_145 : decode prog_12_method_3_code 145 = .ok (.goto (-42), 3) := by decide +kernel
theorem dWy_lineUp_148 : decode prog_12_method_3_code 148 = .ok (.iload 4, 2) := by decide +kernel
theorem dWy_lineUp_150 : decode prog_12_method_3_code 150 = .ok (.ireturn, 1) := by decide +kernel
theorem dWy_setOf_0 : decode prog_12_method_5_code 0 = .ok (.aload_n 1, 1) := by decide +kernel
theorem dWy_setOf_1 : decode prog_12_method_5_code 1 = .ok (.getfield 38, 3) := by decide +kernel
theorem dWy_setOf_4 : decode prog_12_method_5_code 4 = .ok (.astore_n 2, 1) := by decide +kernel
theorem dWy_setOf_5 : decode prog_12_method_5_code 5 = .ok (.aload_n 0, 1) := by decide +kernel
theorem dWy_setOf_6 : decode prog_12_method_5_code 6 = .ok (.getfield 20, 3) := by decide +kernel
theorem dWy_setOf_9 : decode prog_12_method_5_code 9 = .ok (.aload_n 1, 1) := by decide +kernel
theorem dWy_setOf_10 : decode prog_12_method_5_code 10 = .ok (.getfield 66, 3) := by decide +kernel
theorem dWy_setOf_13 : decode prog_12_method_5_code 13 = .ok (.aload_n 2, 1) := by decide +kernel
theorem dWy_setOf_14 : decode prog_12_method_5_code 14 = .ok (.getfield 78, 3) := by decide +kernel
theorem dWy_setOf_17 : decode prog_12_method_5_code 17 = .ok (.iaload, 1) := by decide +kernel
theorem dWy_setOf_18 : decode prog_12_method_5_code 18 = .ok (.iaload, 1) := by decide +kernel
theorem dWy_setOf_19 : decode prog_12_method_5_code 19 = .ok (.istore_n 3, 1) := by decide +kernel
theorem dWy_setOf_20 : decode prog_12_method_5_code 20 = .ok (.iload_n 3, 1) := by decide +kernel
theorem dWy_setOf_21 : decode prog_12_method_5_code 21 = .ok (.iconst (-1), 1) := by decide +kernel
theorem dWy_setOf_22 : decode prog_12_method_5_code 22 = .ok (.if_icmp .ne (5), 3) := by decide +kernel
theorem dWy_setOf_25 : decode prog_12_method_5_code 25 = .ok (.lconst 0, 1) := by decide +kernel
theorem dWy_setOf_26 : decode prog_12_method_5_code 26 = .ok (.lreturn, 1) := by decide +kernel
theorem dWy_setOf_27 : decode prog_12_method_5_code 27 = .ok (.iload_n 3, 1) := by decide +kernel
theorem dWy_setOf_28 : decode prog_12_method_5_code 28 = .ok (.invokestatic 81, 3) := by decide +kernel
theorem dWy_setOf_31 : decode prog_12_method_5_code 31 = .ok (.lstore 4, 2) := by decide +kernel
theorem dWy_setOf_33 : decode prog_12_method_5_code 33 = .ok (.iload_n 3, 1) := by decide +kernel
theorem dWy_setOf_34 : decode prog_12_method_5_code 34 = .ok (.istore 6, 2) := by decide +kernel
theorem dWy_setOf_36 : decode prog_12_method_5_code 36 = .ok (.iload 6, 2) := by decide +kernel
theorem dWy_setOf_38 : decode prog_12_method_5_code 38 = .ok (.ifCond .lt (84), 3) := by decide +kernel
theorem dWy_setOf_41 : decode prog_12_method_5_code 41 = .ok (.iconst (0), 1) := by decide +kernel
theorem dWy_setOf_42 : decode prog_12_method_5_code 42 = .ok (.istore 7, 2) := by decide +kernel
theorem dWy_setOf_44 : decode prog_12_method_5_code 44 = .ok (.iload 6, 2) := by decide +kernel
theorem dWy_setOf_46 : decode prog_12_method_5_code 46 = .ok (.lload 4, 2) := by decide +kernel
theorem dWy_setOf_48 : decode prog_12_method_5_code 48 = .ok (.invokestatic 85, 3) := by decide +kernel
theorem dWy_setOf_51 : decode prog_12_method_5_code 51 = .ok (.ifCond .eq (65), 3) := by decide +kernel
theorem dWy_setOf_54 : decode prog_12_method_5_code 54 = .ok (.iload 7, 2) := by decide +kernel
theorem dWy_setOf_56 : decode prog_12_method_5_code 56 = .ok (.aload_n 2, 1) := by decide +kernel
theorem dWy_setOf_57 : decode prog_12_method_5_code 57 = .ok (.iload 6, 2) := by decide +kernel
theorem dWy_setOf_59 : decode prog_12_method_5_code 59 = .ok (.invokevirtual 89, 3) := by decide +kernel
theorem dWy_setOf_62 : decode prog_12_method_5_code 62 = .ok (.if_icmp .ge (54), 3) := by decide +kernel
theorem dWy_setOf_65 : decode prog_12_method_5_code 65 = .ok (.aload_n 0, 1) := by decide +kernel
theorem dWy_setOf_66 : decode prog_12_method_5_code 66 = .ok (.getfield 20, 3) := by decide +kernel
theorem dWy_setOf_69 : decode prog_12_method_5_code 69 = .ok (.aload_n 1, 1) := by decide +kernel
theorem dWy_setOf_70 : decode prog_12_method_5_code 70 = .ok (.getfield 66, 3) := by decide +kernel
theorem dWy_setOf_73 : decode prog_12_method_5_code 73 = .ok (.aload_n 2, 1) := by decide +kernel
theorem dWy_setOf_74 : decode prog_12_method_5_code 74 = .ok (.iload 6, 2) := by decide +kernel
theorem dWy_setOf_76 : decode prog_12_method_5_code 76 = .ok (.iload 7, 2) := by decide +kernel
theorem dWy_setOf_78 : decode prog_12_method_5_code 78 = .ok (.invokevirtual 93, 3) := by decide +kernel
theorem dWy_setOf_81 : decode prog_12_method_5_code 81 = .ok (.iaload, 1) := by decide +kernel
theorem dWy_setOf_82 : decode prog_12_method_5_code 82 = .ok (.iaload, 1) := by decide +kernel
theorem dWy_setOf_83 : decode prog_12_method_5_code 83 = .ok (.istore 8, 2) := by decide +kernel
theorem dWy_setOf_85 : decode prog_12_method_5_code 85 = .ok (.iload 8, 2) := by decide +kernel
theorem dWy_setOf_87 : decode prog_12_method_5_code 87 = .ok (.iconst (-1), 1) := by decide +kernel
theorem dWy_setOf_88 : decode prog_12_method_5_code 88 = .ok (.if_icmp .eq (10), 3) := by decide +kernel
theorem dWy_setOf_91 : decode prog_12_method_5_code 91 = .ok (.iload 8, 2) := by decide +kernel
theorem dWy_setOf_93 : decode prog_12_method_5_code 93 = .ok (.iload 6, 2) := by decide +kernel
theorem dWy_setOf_95 : decode prog_12_method_5_code 95 = .ok (.if_icmp .lt (5), 3) := by decide +kernel
theorem dWy_setOf_98 : decode prog_12_method_5_code 98 = .ok (.lconst 0, 1) := by decide +kernel
theorem dWy_setOf_99 : decode prog_12_method_5_code 99 = .ok (.lreturn, 1) := by decide +kernel
theorem dWy_setOf_100 : decode prog_12_method_5_code 100 = .ok (.lload 4, 2) := by decide +kernel
theorem dWy_setOf_102 : decode prog_12_method_5_code 102 = .ok (.iload 8, 2) := by decide +kernel
theorem dWy_setOf_104 : decode prog_12_method_5_code 104 = .ok (.invokestatic 81, 3) := by decide +kernel
theorem dWy_setOf_107 : decode prog_12_method_5_code 107 = .ok (.lor, 1) := by decide +kernel
theorem dWy_setOf_108 : decode prog_12_method_5_code 108 = .ok (.lstore 4, 2) := by decide +kernel
theorem dWy_setOf_110 : decode prog_12_method_5_code 110 = .ok (.iinc 7 (1), 3) := by decide +kernel
theorem dWy_setOf_113 : decode prog_12_method_5_code 113 = .ok (.goto (-69), 3) := by decide +kernel
theorem dWy_setOf_116 : decode prog_12_method_5_code 116 = .ok (.iinc 6 (-1), 3) := by decide +kernel
theorem dWy_setOf_119 : decode prog_12_method_5_code 119 = .ok (.goto (-83), 3) := by decide +kernel
theorem dWy_setOf_122 : decode prog_12_method_5_code 122 = .ok (.lload 4, 2) := by decide +kernel
theorem dWy_setOf_124 : decode prog_12_method_5_code 124 = .ok (.lreturn, 1) := by decide +kernel
theorem dWy_keepIfFewer_0 : decode prog_12_method_6_code 0 = .ok (.lload_n 1, 1) := by decide +kernel
theorem dWy_keepIfFewer_1 : decode prog_12_method_6_code 1 = .ok (.invokestatic 96, 3) := by decide +kernel
theorem dWy_keepIfFewer_4 : decode prog_12_method_6_code 4 = .ok (.aload_n 0, 1) := by decide +kernel
theorem dWy_keepIfFewer_5 : decode prog_12_method_6_code 5 = .ok (.getfield 30, 3) := by decide +kernel
theorem dWy_keepIfFewer_8 : decode prog_12_method_6_code 8 = .ok (.invokestatic 96, 3) := by decide +kernel
theorem dWy_keepIfFewer_11 : decode prog_12_method_6_code 11 = .ok (.isub, 1) := by decide +kernel
theorem dWy_keepIfFewer_12 : decode prog_12_method_6_code 12 = .ok (.istore_n 3, 1) := by decide +kernel
theorem dWy_keepIfFewer_13 : decode prog_12_method_6_code 13 = .ok (.lload_n 1, 1) := by decide +kernel
theorem dWy_keepIfFewer_14 : decode prog_12_method_6_code 14 = .ok (.lconst 0, 1) := by decide +kernel
theorem dWy_keepIfFewer_15 : decode prog_12_method_6_code 15 = .ok (.lcmp, 1) := by decide +kernel
theorem dWy_keepIfFewer_16 : decode prog_12_method_6_code 16 = .ok (.ifCond .eq (34), 3) := by decide +kernel
theorem dWy_keepIfFewer_19 : decode prog_12_method_6_code 19 = .ok (.aload_n 0, 1) := by decide +kernel
theorem dWy_keepIfFewer_20 : decode prog_12_method_6_code 20 = .ok (.getfield 30, 3) := by decide +kernel
theorem dWy_keepIfFewer_23 : decode prog_12_method_6_code 23 = .ok (.lconst 0, 1) := by decide +kernel
theorem dWy_keepIfFewer_24 : decode prog_12_method_6_code 24 = .ok (.lcmp, 1) := by decide +kernel
theorem dWy_keepIfFewer_25 : decode prog_12_method_6_code 25 = .ok (.ifCond .eq (20), 3) := by decide +kernel
theorem dWy_keepIfFewer_28 : decode prog_12_method_6_code 28 = .ok (.iload_n 3, 1) := by decide +kernel
theorem dWy_keepIfFewer_29 : decode prog_12_method_6_code 29 = .ok (.ifCond .lt (16), 3) := by decide +kernel
theorem dWy_keepIfFewer_32 : decode prog_12_method_6_code 32 = .ok (.iload_n 3, 1) := by decide +kernel
theorem dWy_keepIfFewer_33 : decode prog_12_method_6_code 33 = .ok (.ifCond .ne (17), 3) := by decide +kernel
theorem dWy_keepIfFewer_36 : decode prog_12_method_6_code 36 = .ok (.lload_n 1, 1) := by decide +kernel
theorem dWy_keepIfFewer_37 : decode prog_12_method_6_code 37 = .ok (.aload_n 0, 1) := by decide +kernel
theorem dWy_keepIfFewer_38 : decode prog_12_method_6_code 38 = .ok (.getfield 30, 3) := by decide +kernel
theorem dWy_keepIfFewer_41 : decode prog_12_method_6_code 41 = .ok (.lcmp, 1) := by decide +kernel
theorem dWy_keepIfFewer_42 : decode prog_12_method_6_code 42 = .ok (.ifCond .ge (8), 3) := by decide +kernel
theorem dWy_keepIfFewer_45 : decode prog_12_method_6_code 45 = .ok (.aload_n 0, 1) := by decide +kernel
theorem dWy_keepIfFewer_46 : decode prog_12_method_6_code 46 = .ok (.lload_n 1, 1) := by decide +kernel
theorem dWy_keepIfFewer_47 : decode prog_12_method_6_code 47 = .ok (.putfield 30, 3) := by decide +kernel
theorem dWy_keepIfFewer_50 : decode prog_12_method_6_code 50 = .ok (.return_, 1) := by decide +kernel
theorem dWy_advance_0 : decode prog_12_method_4_code 0 = .ok (.iconst (0), 1) := by decide +kernel
theorem dWy_advance_1 : decode prog_12_method_4_code 1 = .ok (.istore_n 2, 1) := by decide +kernel
theorem dWy_advance_2 : decode prog_12_method_4_code 2 = .ok (.iload_n 2, 1) := by decide +kernel
theorem dWy_advance_3 : decode prog_12_method_4_code 3 = .ok (.iload_n 1, 1) := by decide +kernel
theorem dWy_advance_4 : decode prog_12_method_4_code 4 = .ok (.if_icmp .ge (59), 3) := by decide +kernel
theorem dWy_advance_7 : decode prog_12_method_4_code 7 = .ok (.aload_n 0, 1) := by decide +kernel
theorem dWy_advance_8 : decode prog_12_method_4_code 8 = .ok (.getfield 20, 3) := by decide +kernel
theorem dWy_advance_11 : decode prog_12_method_4_code 11 = .ok (.iload_n 2, 1) := by decide +kernel
theorem dWy_advance_12 : decode prog_12_method_4_code 12 = .ok (.iaload, 1) := by decide +kernel
theorem dWy_advance_13 : decode prog_12_method_4_code 13 = .ok (.iconst (-1), 1) := by decide +kernel
theorem dWy_advance_14 : decode prog_12_method_4_code 14 = .ok (.if_icmp .eq (43), 3) := by decide +kernel
theorem dWy_advance_17 : decode prog_12_method_4_code 17 = .ok (.aload_n 0, 1) := by decide +kernel
theorem dWy_advance_18 : decode prog_12_method_4_code 18 = .ok (.getfield 20, 3) := by decide +kernel
theorem dWy_advance_21 : decode prog_12_method_4_code 21 = .ok (.iload_n 2, 1) := by decide +kernel
theorem dWy_advance_22 : decode prog_12_method_4_code 22 = .ok (.aload_n 0, 1) := by decide +kernel
theorem dWy_advance_23 : decode prog_12_method_4_code 23 = .ok (.getfield 23, 3) := by decide +kernel
theorem dWy_advance_26 : decode prog_12_method_4_code 26 = .ok (.aload_n 0, 1) := by decide +kernel
theorem dWy_advance_27 : decode prog_12_method_4_code 27 = .ok (.getfield 20, 3) := by decide +kernel
theorem dWy_advance_30 : decode prog_12_method_4_code 30 = .ok (.iload_n 2, 1) := by decide +kernel
theorem dWy_advance_31 : decode prog_12_method_4_code 31 = .ok (.iaload, 1) := by decide +kernel
theorem dWy_advance_32 : decode prog_12_method_4_code 32 = .ok (.iaload, 1) := by decide +kernel
theorem dWy_advance_33 : decode prog_12_method_4_code 33 = .ok (.iastore, 1) := by decide +kernel
theorem dWy_advance_34 : decode prog_12_method_4_code 34 = .ok (.aload_n 0, 1) := by decide +kernel
theorem dWy_advance_35 : decode prog_12_method_4_code 35 = .ok (.getfield 20, 3) := by decide +kernel
theorem dWy_advance_38 : decode prog_12_method_4_code 38 = .ok (.iload_n 2, 1) := by decide +kernel
theorem dWy_advance_39 : decode prog_12_method_4_code 39 = .ok (.iaload, 1) := by decide +kernel
theorem dWy_advance_40 : decode prog_12_method_4_code 40 = .ok (.iconst (-1), 1) := by decide +kernel
theorem dWy_advance_41 : decode prog_12_method_4_code 41 = .ok (.if_icmp .eq (4), 3) := by decide +kernel
theorem dWy_advance_44 : decode prog_12_method_4_code 44 = .ok (.return_, 1) := by decide +kernel
theorem dWy_advance_45 : decode prog_12_method_4_code 45 = .ok (.aload_n 0, 1) := by decide +kernel
theorem dWy_advance_46 : decode prog_12_method_4_code 46 = .ok (.getfield 20, 3) := by decide +kernel
theorem dWy_advance_49 : decode prog_12_method_4_code 49 = .ok (.iload_n 2, 1) := by decide +kernel
theorem dWy_advance_50 : decode prog_12_method_4_code 50 = .ok (.aload_n 0, 1) := by decide +kernel
theorem dWy_advance_51 : decode prog_12_method_4_code 51 = .ok (.getfield 11, 3) := by decide +kernel
theorem dWy_advance_54 : decode prog_12_method_4_code 54 = .ok (.iload_n 2, 1) := by decide +kernel
theorem dWy_advance_55 : decode prog_12_method_4_code 55 = .ok (.iaload, 1) := by decide +kernel
theorem dWy_advance_56 : decode prog_12_method_4_code 56 = .ok (.iastore, 1) := by decide +kernel
theorem dWy_advance_57 : decode prog_12_method_4_code 57 = .ok (.iinc 2 (1), 3) := by decide +kernel
theorem dWy_advance_60 : decode prog_12_method_4_code 60 = .ok (.goto (-58), 3) := by decide +kernel
theorem dWy_advance_63 : decode prog_12_method_4_code 63 = .ok (.return_, 1) := by decide +kernel
theorem dX_ask_0 : decode prog_1_method_33_code 0 = .ok (.iload_n 1, 1) := by decide +kernel
theorem dX_ask_1 : decode prog_1_method_33_code 1 = .ok (.ifCond .lt (14), 3) := by decide +kernel
theorem dX_ask_4 : decode prog_1_method_33_code 4 = .ok (.iload_n 1, 1) := by decide +kernel
theorem dX_ask_5 : decode prog_1_method_33_code 5 = .ok (.aload_n 0, 1) := by decide +kernel
theorem dX_ask_6 : decode prog_1_method_33_code 6 = .ok (.getfield 26, 3) := by decide +kernel
theorem dX_ask_9 : decode prog_1_method_33_code 9 = .ok (.getfield 139, 3) := by decide +kernel
theorem dX_ask_12 : decode prog_1_method_33_code 12 = .ok (.if_icmp .lt (5), 3) := by decide +kernel
theorem dX_ask_15 : decode prog_1_method_33_code 15 = .ok (.iconst (-1), 1) := by decide +kernel
theorem dX_ask_16 : decode prog_1_method_33_code 16 = .ok (.ireturn, 1) := by decide +kernel
theorem dX_ask_17 : decode prog_1_method_33_code 17 = .ok (.aload_n 0, 1) := by decide +kernel
theorem dX_ask_18 : decode prog_1_method_33_code 18 = .ok (.getfield 73, 3) := by decide +kernel
theorem dX_ask_21 : decode prog_1_method_33_code 21 = .ok (.iload_n 2, 1) := by decide +kernel
theorem dX_ask_22 : decode prog_1_method_33_code 22 = .ok (.ifCond .eq (17), 3) := by decide +kernel
theorem dX_ask_25 : decode prog_1_method_33_code 25 = .ok (.aload_n 0, 1) := by decide +kernel
theorem dX_ask_26 : decode prog_1_method_33_code 26 = .ok (.getfield 73, 3) := by decide +kernel
theorem dX_ask_29 : decode prog_1_method_33_code 29 = .ok (.getfield 127, 3) := by decide +kernel
theorem dX_ask_32 : decode prog_1_method_33_code 32 = .ok (.iconst (1), 1) := by decide +kernel
theorem dX_ask_33 : decode prog_1_method_33_code 33 = .ok (.iload_n 1, 1) := by decide +kernel
theorem dX_ask_34 : decode prog_1_method_33_code 34 = .ok (.ishl, 1) := by decide +kernel
theorem dX_ask_35 : decode prog_1_method_33_code 35 = .ok (.ior, 1) := by decide +kernel
theorem dX_ask_36 : decode prog_1_method_33_code 36 = .ok (.goto (16), 3) := by decide +kernel
theorem dX_ask_39 : decode prog_1_method_33_code 39 = .ok (.aload_n 0, 1) := by decide +kernel
theorem dX_ask_40 : decode prog_1_method_33_code 40 = .ok (.getfield 73, 3) := by decide +kernel
theorem dX_ask_43 : decode prog_1_method_33_code 43 = .ok (.getfield 127, 3) := by decide +kernel
theorem dX_ask_46 : decode prog_1_method_33_code 46 = .ok (.iconst (1), 1) := by decide +kernel
theorem dX_ask_47 : decode prog_1_method_33_code 47 = .ok (.iload_n 1, 1) := by decide +kernel
theorem dX_ask_48 : decode prog_1_method_33_code 48 = .ok (.ishl, 1) := by decide +kernel
theorem dX_ask_49 : decode prog_1_method_33_code 49 = .ok (.iconst (-1), 1) := by decide +kernel
theorem dX_ask_50 : decode prog_1_method_33_code 50 = .ok (.ixor, 1) := by decide +kernel
theorem dX_ask_51 : decode prog_1_method_33_code 51 = .ok (.iand, 1) := by decide +kernel
theorem dX_ask_52 : decode prog_1_method_33_code 52 = .ok (.putfield 127, 3) := by decide +kernel
theorem dX_ask_55 : decode prog_1_method_33_code 55 = .ok (.aload_n 0, 1) := by decide +kernel
theorem dX_ask_56 : decode prog_1_method_33_code 56 = .ok (.getfield 73, 3) := by decide +kernel
theorem dX_ask_59 : decode prog_1_method_33_code 59 = .ok (.getfield 127, 3) := by decide +kernel
theorem dX_ask_62 : decode prog_1_method_33_code 62 = .ok (.invokestatic 182, 3) := by decide +kernel
theorem dX_ask_65 : decode prog_1_method_33_code 65 = .ok (.ireturn, 1) := by decide +kernel
theorem dX_least_0 : decode prog_1_method_34_code 0 = .ok (.aload_n 0, 1) := by decide +kernel
theorem dX_least_1 : decode prog_1_method_34_code 1 = .ok (.getfield 26, 3) := by decide +kernel
theorem dX_least_4 : decode prog_1_method_34_code 4 = .ok (.getfield 136, 3) := by decide +kernel
theorem dX_least_7 : decode prog_1_method_34_code 7 = .ok (.ifCond .ne (5), 3) := by decide +kernel
theorem dX_least_10 : decode prog_1_method_34_code 10 = .ok (.iconst (-1), 1) := by decide +kernel
theorem dX_least_11 : decode prog_1_method_34_code 11 = .ok (.ireturn, 1) := by decide +kernel
theorem dX_least_12 : decode prog_1_method_34_code 12 = .ok (.aload_n 0, 1) := by decide +kernel
theorem dX_least_13 : decode prog_1_method_34_code 13 = .ok (.getfield 73, 3) := by decide +kernel
theorem dX_least_16 : decode prog_1_method_34_code 16 = .ok (.aload_n 0, 1) := by decide +kernel
theorem dX_least_17 : decode prog_1_method_34_code 17 = .ok (.getfield 38, 3) := by decide +kernel
theorem dX_least_20 : decode prog_1_method_34_code 20 = .ok (.aload_n 0, 1) := by decide +kernel
theorem dX_least_21 : decode prog_1_method_34_code 21 = .ok (.getfield 73, 3) := by decide +kernel
theorem dX_least_24 : decode prog_1_method_34_code 24 = .ok (.getfield 127, 3) := by decide +kernel
theorem dX_least_27 : decode prog_1_method_34_code 27 = .ok (.invokevirtual 383, 3) := by decide +kernel
theorem dX_least_30 : decode prog_1_method_34_code 30 = .ok (.istore_n 2, 1) := by decide +kernel
theorem dX_least_31 : decode prog_1_method_34_code 31 = .ok (.iload_n 1, 1) := by decide +kernel
theorem dX_least_32 : decode prog_1_method_34_code 32 = .ok (.lookupswitch (50) #[(0, 28), (1, 48)], 28) := by decide +kernel
theorem dX_least_60 : decode prog_1_method_34_code 60 = .ok (.aload_n 0, 1) := by decide +kernel
theorem dX_least_61 : decode prog_1_method_34_code 61 = .ok (.getfield 73, 3) := by decide +kernel
theorem dX_least_64 : decode prog_1_method_34_code 64 = .ok (.aload_n 0, 1) := by decide +kernel
theorem dX_least_65 : decode prog_1_method_34_code 65 = .ok (.getfield 26, 3) := by decide +kernel
theorem dX_least_68 : decode prog_1_method_34_code 68 = .ok (.iload_n 2, 1) := by decide +kernel
theorem dX_least_69 : decode prog_1_method_34_code 69 = .ok (.aload_n 0, 1) := by decide +kernel
theorem dX_least_70 : decode prog_1_method_34_code 70 = .ok (.getfield 73, 3) := by decide +kernel
theorem dX_least_73 : decode prog_1_method_34_code 73 = .ok (.getfield 127, 3) := by decide +kernel
theorem dX_least_76 : decode prog_1_method_34_code 76 = .ok (.invokevirtual 253, 3) := by decide +kernel
theorem dX_least_79 : decode prog_1_method_34_code 79 = .ok (.ireturn, 1) := by decide +kernel
theorem dX_least_80 : decode prog_1_method_34_code 80 = .ok (.iload_n 2, 1) := by decide +kernel
theorem dX_least_81 : decode prog_1_method_34_code 81 = .ok (.ireturn, 1) := by decide +kernel
theorem dX_least_82 : decode prog_1_method_34_code 82 = .ok (.iconst (-1), 1) := by decide +kernel
theorem dX_least_83 : decode prog_1_method_34_code 83 = .ok (.ireturn, 1) := by decide +kernel
theorem dWa_leastSeen_0 : decode prog_11_method_4_code 0 = .ok (.iconst (-1), 1) := by decide +kernel
theorem dWa_leastSeen_1 : decode prog_11_method_4_code 1 = .ok (.istore_n 3, 1) := by decide +kernel
theorem dWa_leastSeen_2 : decode prog_11_method_4_code 2 = .ok (.ldc 34, 2) := by decide +kernel
theorem dWa_leastSeen_4 : decode prog_11_method_4_code 4 = .ok (.istore 4, 2) := by decide +kernel
theorem dWa_leastSeen_6 : decode prog_11_method_4_code 6 = .ok (.iconst (0), 1) := by decide +kernel
theorem dWa_leastSeen_7 : decode prog_11_method_4_code 7 = .ok (.istore 5, 2) := by decide +kernel
theorem dWa_leastSeen_9 : decode prog_11_method_4_code 9 = .ok (.iload 5, 2) := by decide +kernel
theorem dWa_leastSeen_11 : decode prog_11_method_4_code 11 = .ok (.aload_n 1, 1) := by decide +kernel
theorem dWa_leastSeen_12 : decode prog_11_method_4_code 12 = .ok (.getfield 35, 3) := by decide +kernel
theorem dWa_leastSeen_15 : decode prog_11_method_4_code 15 = .ok (.getfield 41, 3) := by decide +kernel
theorem dWa_leastSeen_18 : decode prog_11_method_4_code 18 = .ok (.if_icmp .ge (48), 3) := by decide +kernel
theorem dWa_leastSeen_21 : decode prog_11_method_4_code 21 = .ok (.iload 5, 2) := by decide +kernel
theorem dWa_leastSeen_23 : decode prog_11_method_4_code 23 = .ok (.aload_n 1, 1) := by decide +kernel
theorem dWa_leastSeen_24 : decode prog_11_method_4_code 24 = .ok (.getfield 44, 3) := by decide +kernel
theorem dWa_leastSeen_27 : decode prog_11_method_4_code 27 = .ok (.invokestatic 48, 3) := by decide +kernel
theorem dWa_leastSeen_30 : decode prog_11_method_4_code 30 = .ok (.ifCond .eq (30), 3) := by decide +kernel
theorem dWa_leastSeen_33 : decode prog_11_method_4_code 33 = .ok (.aload_n 0, 1) := by decide +kernel
theorem dWa_leastSeen_34 : decode prog_11_method_4_code 34 = .ok (.aload_n 1, 1) := by decide +kernel
theorem dWa_leastSeen_35 : decode prog_11_method_4_code 35 = .ok (.getfield 35, 3) := by decide +kernel
theorem dWa_leastSeen_38 : decode prog_11_method_4_code 38 = .ok (.iload 5, 2) := by decide +kernel
theorem dWa_leastSeen_40 : decode prog_11_method_4_code 40 = .ok (.iload_n 2, 1) := by decide +kernel
theorem dWa_leastSeen_41 : decode prog_11_method_4_code 41 = .ok (.invokevirtual 52, 3) := by decide +kernel
theorem dWa_leastSeen_44 : decode prog_11_method_4_code 44 = .ok (.istore 6, 2) := by decide +kernel
theorem dWa_leastSeen_46 : decode prog_11_method_4_code 46 = .ok (.iload 6, 2) := by decide +kernel
theorem dWa_leastSeen_48 : decode prog_11_method_4_code 48 = .ok (.iload 4, 2) := by decide +kernel
theorem dWa_leastSeen_50 : decode prog_11_method_4_code 50 = .ok (.if_icmp .ge (10), 3) := by decide +kernel
theorem dWa_leastSeen_53 : decode prog_11_method_4_code 53 = .ok (.iload 6, 2) := by decide +kernel
theorem dWa_leastSeen_55 : decode prog_11_method_4_code 55 = .ok (.istore 4, 2) := by decide +kernel
theorem dWa_leastSeen_57 : decode prog_11_method_4_code 57 = .ok (.iload 5, 2) := by decide +kernel
theorem dWa_leastSeen_59 : decode prog_11_method_4_code 59 = .ok (.istore_n 3, 1) := by decide +kernel
theorem dWa_leastSeen_60 : decode prog_11_method_4_code 60 = .ok (.iinc 5 (1), 3) := by decide +kernel
theorem dWa_leastSeen_63 : decode prog_11_method_4_code 63 = .ok (.goto (-54), 3) := by decide +kernel
theorem dWa_leastSeen_66 : decode prog_11_method_4_code 66 = .ok (.iload_n 3, 1) := by decide +kernel
theorem dWa_leastSeen_67 : decode prog_11_method_4_code 67 = .ok (.ireturn, 1) := by decide +kernel
theorem dX_whom_0 : decode prog_1_method_35_code 0 = .ok (.aload_n 0, 1) := by decide +kernel
theorem dX_whom_1 : decode prog_1_method_35_code 1 = .ok (.getfield 26, 3) := by decide +kernel
theorem dX_whom_4 : decode prog_1_method_35_code 4 = .ok (.getfield 136, 3) := by decide +kernel
theorem dX_whom_7 : decode prog_1_method_35_code 7 = .ok (.ifCond .ne (7), 3) := by decide +kernel
theorem dX_whom_10 : decode prog_1_method_35_code 10 = .ok (.iconst (-1), 1) := by decide +kernel
theorem dX_whom_11 : decode prog_1_method_35_code 11 = .ok (.goto (14), 3) := by decide +kernel
theorem dX_whom_14 : decode prog_1_method_35_code 14 = .ok (.aload_n 0, 1) := by decide +kernel
theorem dX_whom_15 : decode prog_1_method_35_code 15 = .ok (.getfield 73, 3) := by decide +kernel
theorem dX_whom_18 : decode prog_1_method_35_code 18 = .ok (.aload_n 0, 1) := by decide +kernel
theorem dX_whom_19 : decode prog_1_method_35_code 19 = .ok (.getfield 38, 3) := by decide +kernel
theorem dX_whom_22 : decode prog_1_method_35_code 22 = .ok (.invokevirtual 387, 3) := by decide +kernel
theorem dX_whom_25 : decode prog_1_method_35_code 25 = .ok (.ireturn, 1) := by decide +kernel
theorem dWa_nextToAsk_0 : decode prog_11_method_5_code 0 = .ok (.iconst (-1), 1) := by decide +kernel
theorem dWa_nextToAsk_1 : decode prog_11_method_5_code 1 = .ok (.istore_n 2, 1) := by decide +kernel
theorem dWa_nextToAsk_2 : decode prog_11_method_5_code 2 = .ok (.iconst (-1), 1) := by decide +kernel
theorem dWa_nextToAsk_3 : decode prog_11_method_5_code 3 = .ok (.istore_n 3, 1) := by decide +kernel
theorem dWa_nextToAsk_4 : decode prog_11_method_5_code 4 = .ok (.iconst (0), 1) := by decide +kernel
theorem dWa_nextToAsk_5 : decode prog_11_method_5_code 5 = .ok (.istore 4, 2) := by decide +kernel
theorem dWa_nextToAsk_7 : decode prog_11_method_5_code 7 = .ok (.iload 4, 2) := by decide +kernel
theorem dWa_nextToAsk_9 : decode prog_11_method_5_code 9 = .ok (.aload_n 1, 1) := by decide +kernel
theorem dWa_nextToAsk_10 : decode prog_11_method_5_code 10 = .ok (.getfield 35, 3) := by decide +kernel
theorem dWa_nextToAsk_13 : decode prog_11_method_5_code 13 = .ok (.getfield 24, 3) := by decide +kernel
theorem dWa_nextToAsk_16 : decode prog_11_method_5_code 16 = .ok (.if_icmp .ge (60), 3) := by decide +kernel
theorem dWa_nextToAsk_19 : decode prog_11_method_5_code 19 = .ok (.aload_n 0, 1) := by decide +kernel
theorem dWa_nextToAsk_20 : decode prog_11_method_5_code 20 = .ok (.getfield 56, 3) := by decide +kernel
theorem dWa_nextToAsk_23 : decode prog_11_method_5_code 23 = .ok (.iconst (1), 1) := by decide +kernel
theorem dWa_nextToAsk_24 : decode prog_11_method_5_code 24 = .ok (.iload 4, 2) := by decide +kernel
theorem dWa_nextToAsk_26 : decode prog_11_method_5_code 26 = .ok (.ishl, 1) := by decide +kernel
theorem dWa_nextToAsk_27 : decode prog_11_method_5_code 27 = .ok (.ior, 1) := by decide +kernel
theorem dWa_nextToAsk_28 : decode prog_11_method_5_code 28 = .ok (.istore 5, 2) := by decide +kernel
theorem dWa_nextToAsk_30 : decode prog_11_method_5_code 30 = .ok (.iload 5, 2) := by decide +kernel
theorem dWa_nextToAsk_32 : decode prog_11_method_5_code 32 = .ok (.aload_n 0, 1) := by decide +kernel
theorem dWa_nextToAsk_33 : decode prog_11_method_5_code 33 = .ok (.getfield 56, 3) := by decide +kernel
theorem dWa_nextToAsk_36 : decode prog_11_method_5_code 36 = .ok (.if_icmp .eq (34), 3) := by decide +kernel
theorem dWa_nextToAsk_39 : decode prog_11_method_5_code 39 = .ok (.aload_n 0, 1) := by decide +kernel
theorem dWa_nextToAsk_40 : decode prog_11_method_5_code 40 = .ok (.aload_n 1, 1) := by decide +kernel
theorem dWa_nextToAsk_41 : decode prog_11_method_5_code 41 = .ok (.getfield 35, 3) := by decide +kernel
theorem dWa_nextToAsk_44 : decode prog_11_method_5_code 44 = .ok (.aload_n 0, 1) := by decide +kernel
theorem dWa_nextToAsk_45 : decode prog_11_method_5_code 45 = .ok (.aload_n 1, 1) := by decide +kernel
theorem dWa_nextToAsk_46 : decode prog_11_method_5_code 46 = .ok (.iload 5, 2) := by decide +kernel
theorem dWa_nextToAsk_48 : decode prog_11_method_5_code 48 = .ok (.invokevirtual 59, 3) := by decide +kernel
theorem dWa_nextToAsk_51 : decode prog_11_method_5_code 51 = .ok (.iload 5, 2) := by decide +kernel
theorem dWa_nextToAsk_53 : decode prog_11_method_5_code 53 = .ok (.invokevirtual 52, 3) := by decide +kernel
theorem dWa_nextToAsk_56 : decode prog_11_method_5_code 56 = .ok (.istore 6, 2) := by decide +kernel
theorem dWa_nextToAsk_58 : decode prog_11_method_5_code 58 = .ok (.iload 6, 2) := by decide +kernel
theorem dWa_nextToAsk_60 : decode prog_11_method_5_code 60 = .ok (.iload_n 3, 1) := by decide +kernel
theorem dWa_nextToAsk_61 : decode prog_11_method_5_code 61 = .ok (.if_icmp .le (9), 3) := by decide +kernel
theorem dWa_nextToAsk_64 : decode prog_11_method_5_code 64 = .ok (.iload 6, 2) := by decide +kernel
theorem dWa_nextToAsk_66 : decode prog_11_method_5_code 66 = .ok (.istore_n 3, 1) := by decide +kernel
theorem dWa_nextToAsk_67 : decode prog_11_method_5_code 67 = .ok (.iload 4, 2) := by decide +kernel
theorem dWa_nextToAsk_69 : decode prog_11_method_5_code 69 = .ok (.istore_n 2, 1) := by decide +kernel
theorem dWa_nextToAsk_70 : decode prog_11_method_5_code 70 = .ok (.iinc 4 (1), 3) := by decide +kernel
theorem dWa_nextToAsk_73 : decode prog_11_method_5_code 73 = .ok (.goto (-66), 3) := by decide +kernel
theorem dWa_nextToAsk_76 : decode prog_11_method_5_code 76 = .ok (.iload_n 2, 1) := by decide +kernel
theorem dWa_nextToAsk_77 : decode prog_11_method_5_code 77 = .ok (.ireturn, 1) := by decide +kernel
theorem dX_seed_0 : decode prog_1_method_36_code 0 = .ok (.iload_n 1, 1) := by decide +kernel
theorem dX_seed_1 : decode prog_1_method_36_code 1 = .ok (.ifCond .ge (5), 3) := by decide +kernel
theorem dX_seed_4 : decode prog_1_method_36_code 4 = .ok (.iconst (0), 1) := by decide +kernel
theorem dX_seed_5 : decode prog_1_method_36_code 5 = .ok (.ireturn, 1) := by decide +kernel
theorem dX_seed_6 : decode prog_1_method_36_code 6 = .ok (.aload_n 0, 1) := by decide +kernel
theorem dX_seed_7 : decode prog_1_method_36_code 7 = .ok (.getfield 73, 3) := by decide +kernel
theorem dX_seed_10 : decode prog_1_method_36_code 10 = .ok (.iload_n 1, 1) := by decide +kernel
theorem dX_seed_11 : decode prog_1_method_36_code 11 = .ok (.putfield 391, 3) := by decide +kernel
theorem dX_seed_14 : decode prog_1_method_36_code 14 = .ok (.iconst (1), 1) := by decide +kernel
theorem dX_seed_15 : decode prog_1_method_36_code 15 = .ok (.ireturn, 1) := by decide +kernel
theorem dX_trials_0 : decode prog_1_method_37_code 0 = .ok (.aload_n 0, 1) := by decide +kernel
theorem dX_trials_1 : decode prog_1_method_37_code 1 = .ok (.getfield 26, 3) := by decide +kernel
theorem dX_trials_4 : decode prog_1_method_37_code 4 = .ok (.iload_n 1, 1) := by decide +kernel
theorem dX_trials_5 : decode prog_1_method_37_code 5 = .ok (.invokevirtual 221, 3) := by decide +kernel
theorem dX_trials_8 : decode prog_1_method_37_code 8 = .ok (.ifCond .eq (15), 3) := by decide +kernel
theorem dX_trials_11 : decode prog_1_method_37_code 11 = .ok (.iload_n 2, 1) := by decide +kernel
theorem dX_trials_12 : decode prog_1_method_37_code 12 = .ok (.iconst (1), 1) := by decide +kernel
theorem dX_trials_13 : decode prog_1_method_37_code 13 = .ok (.if_icmp .lt (10), 3) := by decide +kernel
theorem dX_trials_16 : decode prog_1_method_37_code 16 = .ok (.iload_n 2, 1) := by decide +kernel
theorem dX_trials_17 : decode prog_1_method_37_code 17 = .ok (.sipush (1000), 3) := by decide +kernel
theorem dX_trials_20 : decode prog_1_method_37_code 20 = .ok (.if_icmp .le (5), 3) := by decide +kernel
theorem dX_trials_23 : decode prog_1_method_37_code 23 = .ok (.iconst (-1), 1) := by decide +kernel
theorem dX_trials_24 : decode prog_1_method_37_code 24 = .ok (.ireturn, 1) := by decide +kernel
theorem dX_trials_25 : decode prog_1_method_37_code 25 = .ok (.iconst (0), 1) := by decide +kernel
theorem dX_trials_26 : decode prog_1_method_37_code 26 = .ok (.istore_n 3, 1) := by decide +kernel
theorem dX_trials_27 : decode prog_1_method_37_code 27 = .ok (.iconst (0), 1) := by decide +kernel
theorem dX_trials_28 : decode prog_1_method_37_code 28 = .ok (.istore 4, 2) := by decide +kernel
theorem dX_trials_30 : decode prog_1_method_37_code 30 = .ok (.iload 4, 2) := by decide +kernel
theorem dX_trials_32 : decode prog_1_method_37_code 32 = .ok (.iload_n 2, 1) := by decide +kernel
theorem dX_trials_33 : decode prog_1_method_37_code 33 = .ok (.if_icmp .ge (27), 3) := by decide +kernel
theorem dX_trials_36 : decode prog_1_method_37_code 36 = .ok (.aload_n 0, 1) := by decide +kernel
theorem dX_trials_37 : decode prog_1_method_37_code 37 = .ok (.getfield 73, 3) := by decide +kernel
theorem dX_trials_40 : decode prog_1_method_37_code 40 = .ok (.aload_n 0, 1) := by decide +kernel
theorem dX_trials_41 : decode prog_1_method_37_code 41 = .ok (.getfield 26, 3) := by decide +kernel
theorem dX_trials_44 : decode prog_1_method_37_code 44 = .ok (.iload_n 1, 1) := by decide +kernel
theorem dX_trials_45 : decode prog_1_method_37_code 45 = .ok (.invokevirtual 394, 3) := by decide +kernel
theorem dX_trials_48 : decode prog_1_method_37_code 48 = .ok (.ifCond .eq (6), 3) := by decide +kernel
theorem dX_trials_51 : decode prog_1_method_37_code 51 = .ok (.iinc 3 (1), 3) := by decide +kernel
theorem dX_trials_54 : decode prog_1_method_37_code 54 = .ok (.iinc 4 (1), 3) := by decide +kernel
theorem dX_trials_57 : decode prog_1_method_37_code 57 = .ok (.goto (-27), 3) := by decide +kernel
theorem dX_trials_60 : decode prog_1_method_37_code 60 = .ok (.iload_n 3, 1) := by decide +kernel
theorem dX_trials_61 : decode prog_1_method_37_code 61 = .ok (.ireturn, 1) := by decide +kernel
theorem dWa_isSeenOnce_0 : decode prog_11_method_6_code 0 = .ok (.iconst (0), 1) := by decide +kernel
theorem dWa_isSeenOnce_1 : decode prog_11_method_6_code 1 = .ok (.istore_n 3, 1) := by decide +kernel
theorem dWa_isSeenOnce_2 : decode prog_11_method_6_code 2 = .ok (.iconst (0), 1) := by decide +kernel
theorem dWa_isSeenOnce_3 : decode prog_11_method_6_code 3 = .ok (.istore 4, 2) := by decide +kernel
theorem dWa_isSeenOnce_5 : decode prog_11_method_6_code 5 = .ok (.iload 4, 2) := by decide +kernel
theorem dWa_isSeenOnce_7 : decode prog_11_method_6_code 7 = .ok (.aload_n 1, 1) := by decide +kernel
theorem dWa_isSeenOnce_8 : decode prog_11_method_6_code 8 = .ok (.getfield 24, 3) := by decide +kernel
theorem dWa_isSeenOnce_11 : decode prog_11_method_6_code 11 = .ok (.if_icmp .ge (71), 3) := by decide +kernel
theorem dWa_isSeenOnce_14 : decode prog_11_method_6_code 14 = .ok (.aload_n 0, 1) := by decide +kernel
theorem dWa_isSeenOnce_15 : decode prog_11_method_6_code 15 = .ok (.getfield 56, 3) := by decide +kernel
theorem dWa_isSeenOnce_18 : decode prog_11_method_6_code 18 = .ok (.iload 4, 2) := by decide +kernel
theorem dWa_isSeenOnce_20 : decode prog_11_method_6_code 20 = .ok (.ishr, 1) := by decide +kernel
theorem dWa_isSeenOnce_21 : decode prog_11_method_6_code 21 = .ok (.iconst (1), 1) := by decide +kernel
theorem dWa_isSeenOnce_22 : decode prog_11_method_6_code 22 = .ok (.iand, 1) := by decide +kernel
theorem dWa_isSeenOnce_23 : decode prog_11_method_6_code 23 = .ok (.ifCond .eq (53), 3) := by decide +kernel
theorem dWa_isSeenOnce_26 : decode prog_11_method_6_code 26 = .ok (.aload_n 1, 1) := by decide +kernel
theorem dWa_isSeenOnce_27 : decode prog_11_method_6_code 27 = .ok (.iload 4, 2) := by decide +kernel
theorem dWa_isSeenOnce_29 : decode prog_11_method_6_code 29 = .ok (.iload_n 2, 1) := by decide +kernel
theorem dWa_isSeenOnce_30 : decode prog_11_method_6_code 30 = .ok (.invokestatic 27, 3) := by decide +kernel
theorem dWa_isSeenOnce_33 : decode prog_11_method_6_code 33 = .ok (.ifCond .eq (43), 3) := by decide +kernel
theorem dWa_isSeenOnce_36 : decode prog_11_method_6_code 36 = .ok (.aload_n 0, 1) := by decide +kernel
theorem dWa_isSeenOnce_37 : decode prog_11_method_6_code 37 = .ok (.ldc 63, 2) := by decide +kernel
theorem dWa_isSeenOnce_39 : decode prog_11_method_6_code 39 = .ok (.aload_n 0, 1) := by decide +kernel
theorem dWa_isSeenOnce_40 : decode prog_11_method_6_code 40 = .ok (.getfield 9, 3) := by decide +kernel
theorem dWa_isSeenOnce_43 : decode prog_11_method_6_code 43 = .ok (.imul, 1) := by decide +kernel
theorem dWa_isSeenOnce_44 : decode prog_11_method_6_code 44 = .ok (.sipush (12345), 3) := by decide +kernel
theorem dWa_isSeenOnce_47 : decode prog_11_method_6_code 47 = .ok (.iadd, 1) := by decide +kernel
theorem dWa_isSeenOnce_48 : decode prog_11_method_6_code 48 = .ok (.ldc 34, 2) := by decide +kernel
theorem dWa_isSeenOnce_50 : decode prog_11_method_6_code 50 = .ok (.iand, 1) := by decide +kernel
theorem dWa_isSeenOnce_51 : decode prog_11_method_6_code 51 = .ok (.putfield 9, 3) := by decide +kernel
theorem dWa_isSeenOnce_54 : decode prog_11_method_6_code 54 = .ok (.aload_n 0, 1) := by decide +kernel
theorem dWa_isSeenOnce_55 : decode prog_11_method_6_code 55 = .ok (.getfield 9, 3) := by decide +kernel
theorem dWa_isSeenOnce_58 : decode prog_11_method_6_code 58 = .ok (.bipush (6), 2) := by decide +kernel
theorem dWa_isSeenOnce_60 : decode prog_11_method_6_code 60 = .ok (.ishr, 1) := by decide +kernel
theorem dWa_isSeenOnce_61 : decode prog_11_method_6_code 61 = .ok (.bipush (100), 2) := by decide +kernel
theorem dWa_isSeenOnce_63 : decode prog_11_method_6_code 63 = .ok (.irem, 1) := by decide +kernel
theorem dWa_isSeenOnce_64 : decode prog_11_method_6_code 64 = .ok (.aload_n 1, 1) := by decide +kernel
theorem dWa_isSeenOnce_65 : decode prog_11_method_6_code 65 = .ok (.getfield 31, 3) := by decide +kernel
theorem dWa_isSeenOnce_68 : decode prog_11_method_6_code 68 = .ok (.iload 4, 2) := by decide +kernel
theorem dWa_isSeenOnce_70 : decode prog_11_method_6_code 70 = .ok (.iaload, 1) := by decide +kernel
theorem dWa_isSeenOnce_71 : decode prog_11_method_6_code 71 = .ok (.if_icmp .ge (5), 3) := by decide +kernel
theorem dWa_isSeenOnce_74 : decode prog_11_method_6_code 74 = .ok (.iconst (1), 1) := by decide +kernel
theorem dWa_isSeenOnce_75 : decode prog_11_method_6_code 75 = .ok (.istore_n 3, 1) := by decide +kernel
theorem dWa_isSeenOnce_76 : decode prog_11_method_6_code 76 = .ok (.iinc 4 (1), 3) := by decide +kernel
theorem dWa_isSeenOnce_79 : decode prog_11_method_6_code 79 = .ok (.goto (-74), 3) := by decide +kernel
theorem dWa_isSeenOnce_82 : decode prog_11_method_6_code 82 = .ok (.iload_n 3, 1) := by decide +kernel
theorem dWa_isSeenOnce_83 : decode prog_11_method_6_code 83 = .ok (.ireturn, 1) := by decide +kernel
theorem dX_image_0 : decode prog_1_method_38_code 0 = .ok (.aload_n 0, 1) := by decide +kernel
theorem dX_image_1 : decode prog_1_method_38_code 1 = .ok (.getfield 77, 3) := by decide +kernel
theorem dX_image_4 : decode prog_1_method_38_code 4 = .ok (.iconst (0), 1) := by decide +kernel
theorem dX_image_5 : decode prog_1_method_38_code 5 = .ok (.aload_n 0, 1) := by decide +kernel
theorem dX_image_6 : decode prog_1_method_38_code 6 = .ok (.getfield 92, 3) := by decide +kernel
theorem dX_image_9 : decode prog_1_method_38_code 9 = .ok (.bipush (8), 2) := by decide +kernel
theorem dX_image_11 : decode prog_1_method_38_code 11 = .ok (.ishr, 1) := by decide +kernel
theorem dX_image_12 : decode prog_1_method_38_code 12 = .ok (.sipush (255), 3) := by decide +kernel
theorem dX_image_15 : decode prog_1_method_38_code 15 = .ok (.iand, 1) := by decide +kernel
theorem dX_image_16 : decode prog_1_method_38_code 16 = .ok (.iastore, 1) := by decide +kernel
theorem dX_image_17 : decode prog_1_method_38_code 17 = .ok (.aload_n 0, 1) := by decide +kernel
theorem dX_image_18 : decode prog_1_method_38_code 18 = .ok (.getfield 77, 3) := by decide +kernel
theorem dX_image_21 : decode prog_1_method_38_code 21 = .ok (.iconst (1), 1) := by decide +kernel
theorem dX_image_22 : decode prog_1_method_38_code 22 = .ok (.aload_n 0, 1) := by decide +kernel
theorem dX_image_23 : decode prog_1_method_38_code 23 = .ok (.getfield 92, 3) := by decide +kernel
theorem dX_image_26 : decode prog_1_method_38_code 26 = .ok (.sipush (255), 3) := by decide +kernel
theorem dX_image_29 : decode prog_1_method_38_code 29 = .ok (.iand, 1) := by decide +kernel
theorem dX_image_30 : decode prog_1_method_38_code 30 = .ok (.iastore, 1) := by decide +kernel
theorem dX_image_31 : decode prog_1_method_38_code 31 = .ok (.aload_n 0, 1) := by decide +kernel
theorem dX_image_32 : decode prog_1_method_38_code 32 = .ok (.getfield 77, 3) := by decide +kernel
theorem dX_image_35 : decode prog_1_method_38_code 35 = .ok (.iconst (2), 1) := by decide +kernel
theorem dX_image_36 : decode prog_1_method_38_code 36 = .ok (.aload_n 0, 1) := by decide +kernel
theorem dX_image_37 : decode prog_1_method_38_code 37 = .ok (.getfield 73, 3) := by decide +kernel
theorem dX_image_40 : decode prog_1_method_38_code 40 = .ok (.getfield 127, 3) := by decide +kernel
theorem dX_image_43 : decode prog_1_method_38_code 43 = .ok (.iastore, 1) := by decide +kernel
theorem dX_image_44 : decode prog_1_method_38_code 44 = .ok (.aload_n 0, 1) := by decide +kernel
theorem dX_image_45 : decode prog_1_method_38_code 45 = .ok (.getfield 77, 3) := by decide +kernel
theorem dX_image_48 : decode prog_1_method_38_code 48 = .ok (.iconst (3), 1) := by decide +kernel
theorem dX_image_49 : decode prog_1_method_38_code 49 = .ok (.aload_n 0, 1) := by decide +kernel
theorem dX_image_50 : decode prog_1_method_38_code 50 = .ok (.getfield 77, 3) := by decide +kernel
theorem dX_image_53 : decode prog_1_method_38_code 53 = .ok (.iconst (0), 1) := by decide +kernel
theorem dX_image_54 : decode prog_1_method_38_code 54 = .ok (.iaload, 1) := by decide +kernel
theorem dX_image_55 : decode prog_1_method_38_code 55 = .ok (.aload_n 0, 1) := by decide +kernel
theorem dX_image_56 : decode prog_1_method_38_code 56 = .ok (.getfield 77, 3) := by decide +kernel
theorem dX_image_59 : decode prog_1_method_38_code 59 = .ok (.iconst (1), 1) := by decide +kernel
theorem dX_image_60 : decode prog_1_method_38_code 60 = .ok (.iaload, 1) := by decide +kernel
theorem dX_image_61 : decode prog_1_method_38_code 61 = .ok (.aload_n 0, 1) := by decide +kernel
theorem dX_image_62 : decode prog_1_method_38_code 62 = .ok (.getfield 77, 3) := by decide +kernel
theorem dX_image_65 : decode prog_1_method_38_code 65 = .ok (.iconst (2), 1) := by decide +kernel
theorem dX_image_66 : decode prog_1_method_38_code 66 = .ok (.iaload, 1) := by decide +kernel
theorem dX_image_67 : decode prog_1_method_38_code 67 = .ok (.invokestatic 398, 3) := by decide +kernel
theorem dX_image_70 : decode prog_1_method_38_code 70 = .ok (.iastore, 1) := by decide +kernel
theorem dX_image_71 : decode prog_1_method_38_code 71 = .ok (.aload_n 0, 1) := by decide +kernel
theorem dX_image_72 : decode prog_1_method_38_code 72 = .ok (.iconst (1), 1) := by decide +kernel
theorem dX_image_73 : decode prog_1_method_38_code 73 = .ok (.putfield 81, 3) := by decide +kernel
theorem dX_image_76 : decode prog_1_method_38_code 76 = .ok (.iconst (4), 1) := by decide +kernel
theorem dX_image_77 : decode prog_1_method_38_code 77 = .ok (.ireturn, 1) := by decide +kernel
theorem dX_check_0 : decode prog_1_method_41_code 0 = .ok (.sipush (427), 3) := by decide +kernel
theorem dX_check_3 : decode prog_1_method_41_code 3 = .ok (.iload_n 0, 1) := by decide +kernel
theorem dX_check_4 : decode prog_1_method_41_code 4 = .ok (.iadd, 1) := by decide +kernel
theorem dX_check_5 : decode prog_1_method_41_code 5 = .ok (.sipush (247), 3) := by decide +kernel
theorem dX_check_8 : decode prog_1_method_41_code 8 = .ok (.irem, 1) := by decide +kernel
theorem dX_check_9 : decode prog_1_method_41_code 9 = .ok (.istore_n 3, 1) := by decide +kernel
theorem dX_check_10 : decode prog_1_method_41_code 10 = .ok (.bipush (7), 2) := by decide +kernel
theorem dX_check_12 : decode prog_1_method_41_code 12 = .ok (.iload_n 3, 1) := by decide +kernel
theorem dX_check_13 : decode prog_1_method_41_code 13 = .ok (.imul, 1) := by decide +kernel
theorem dX_check_14 : decode prog_1_method_41_code 14 = .ok (.iload_n 1, 1) := by decide +kernel
theorem dX_check_15 : decode prog_1_method_41_code 15 = .ok (.iadd, 1) := by decide +kernel
theorem dX_check_16 : decode prog_1_method_41_code 16 = .ok (.sipush (247), 3) := by decide +kernel
theorem dX_check_19 : decode prog_1_method_41_code 19 = .ok (.irem, 1) := by decide +kernel
theorem dX_check_20 : decode prog_1_method_41_code 20 = .ok (.istore_n 3, 1) := by decide +kernel
theorem dX_check_21 : decode prog_1_method_41_code 21 = .ok (.bipush (7), 2) := by decide +kernel
theorem dX_check_23 : decode prog_1_method_41_code 23 = .ok (.iload_n 3, 1) := by decide +kernel
theorem dX_check_24 : decode prog_1_method_41_code 24 = .ok (.imul, 1) := by decide +kernel
theorem dX_check_25 : decode prog_1_method_41_code 25 = .ok (.iload_n 2, 1) := by decide +kernel
theorem dX_check_26 : decode prog_1_method_41_code 26 = .ok (.iadd, 1) := by decide +kernel
theorem dX_check_27 : decode prog_1_method_41_code 27 = .ok (.sipush (247), 3) := by decide +kernel
theorem dX_check_30 : decode prog_1_method_41_code 30 = .ok (.irem, 1) := by decide +kernel
theorem dX_check_31 : decode prog_1_method_41_code 31 = .ok (.ireturn, 1) := by decide +kernel
theorem dX_octet_0 : decode prog_1_method_39_code 0 = .ok (.aload_n 0, 1) := by decide +kernel
theorem dX_octet_1 : decode prog_1_method_39_code 1 = .ok (.getfield 81, 3) := by decide +kernel
theorem dX_octet_4 : decode prog_1_method_39_code 4 = .ok (.ifCond .eq (21), 3) := by decide +kernel
theorem dX_octet_7 : decode prog_1_method_39_code 7 = .ok (.iload_n 1, 1) := by decide +kernel
theorem dX_octet_8 : decode prog_1_method_39_code 8 = .ok (.ifCond .lt (17), 3) := by decide +kernel
theorem dX_octet_11 : decode prog_1_method_39_code 11 = .ok (.iload_n 1, 1) := by decide +kernel
theorem dX_octet_12 : decode prog_1_method_39_code 12 = .ok (.iconst (4), 1) := by decide +kernel
theorem dX_octet_13 : decode prog_1_method_39_code 13 = .ok (.if_icmp .ge (12), 3) := by decide +kernel
theorem dX_octet_16 : decode prog_1_method_39_code 16 = .ok (.aload_n 0, 1) := by decide +kernel
theorem dX_octet_17 : decode prog_1_method_39_code 17 = .ok (.getfield 77, 3) := by decide +kernel
theorem dX_octet_20 : decode prog_1_method_39_code 20 = .ok (.iload_n 1, 1) := by decide +kernel
theorem dX_octet_21 : decode prog_1_method_39_code 21 = .ok (.iaload, 1) := by decide +kernel
theorem dX_octet_22 : decode prog_1_method_39_code 22 = .ok (.goto (4), 3) := by decide +kernel
theorem dX_octet_25 : decode prog_1_method_39_code 25 = .ok (.iconst (-1), 1) := by decide +kernel
theorem dX_octet_26 : decode prog_1_method_39_code 26 = .ok (.ireturn, 1) := by decide +kernel
theorem dX_on_0 : decode prog_1_method_40_code 0 = .ok (.aload_n 0, 1) := by decide +kernel
theorem dX_on_1 : decode prog_1_method_40_code 1 = .ok (.getfield 10, 3) := by decide +kernel
theorem dX_on_4 : decode prog_1_method_40_code 4 = .ok (.iconst (0), 1) := by decide +kernel
theorem dX_on_5 : decode prog_1_method_40_code 5 = .ok (.invokevirtual 402, 3) := by decide +kernel
theorem dX_on_8 : decode prog_1_method_40_code 8 = .ok (.bipush (8), 2) := by decide +kernel
theorem dX_on_10 : decode prog_1_method_40_code 10 = .ok (.ishl, 1) := by decide +kernel
theorem dX_on_11 : decode prog_1_method_40_code 11 = .ok (.aload_n 0, 1) := by decide +kernel
theorem dX_on_12 : decode prog_1_method_40_code 12 = .ok (.getfield 10, 3) := by decide +kernel
theorem dX_on_15 : decode prog_1_method_40_code 15 = .ok (.iconst (1), 1) := by decide +kernel
theorem dX_on_16 : decode prog_1_method_40_code 16 = .ok (.invokevirtual 402, 3) := by decide +kernel
theorem dX_on_19 : decode prog_1_method_40_code 19 = .ok (.ior, 1) := by decide +kernel
theorem dX_on_20 : decode prog_1_method_40_code 20 = .ok (.istore_n 1, 1) := by decide +kernel
theorem dX_on_21 : decode prog_1_method_40_code 21 = .ok (.aload_n 0, 1) := by decide +kernel
theorem dX_on_22 : decode prog_1_method_40_code 22 = .ok (.getfield 10, 3) := by decide +kernel
theorem dX_on_25 : decode prog_1_method_40_code 25 = .ok (.iconst (2), 1) := by decide +kernel
theorem dX_on_26 : decode prog_1_method_40_code 26 = .ok (.invokevirtual 402, 3) := by decide +kernel
theorem dX_on_29 : decode prog_1_method_40_code 29 = .ok (.istore_n 2, 1) := by decide +kernel
theorem dX_on_30 : decode prog_1_method_40_code 30 = .ok (.aload_n 0, 1) := by decide +kernel
theorem dX_on_31 : decode prog_1_method_40_code 31 = .ok (.getfield 10, 3) := by decide +kernel
theorem dX_on_34 : decode prog_1_method_40_code 34 = .ok (.getfield 107, 3) := by decide +kernel
theorem dX_on_37 : decode prog_1_method_40_code 37 = .ok (.iconst (4), 1) := by decide +kernel
theorem dX_on_38 : decode prog_1_method_40_code 38 = .ok (.if_icmp .ne (62), 3) := by decide +kernel
theorem dX_on_41 : decode prog_1_method_40_code 41 = .ok (.aload_n 0, 1) := by decide +kernel
theorem dX_on_42 : decode prog_1_method_40_code 42 = .ok (.getfield 10, 3) := by decide +kernel
theorem dX_on_45 : decode prog_1_method_40_code 45 = .ok (.iconst (3), 1) := by decide +kernel
theorem dX_on_46 : decode prog_1_method_40_code 46 = .ok (.invokevirtual 402, 3) := by decide +kernel
theorem dX_on_49 : decode prog_1_method_40_code 49 = .ok (.aload_n 0, 1) := by decide +kernel
theorem dX_on_50 : decode prog_1_method_40_code 50 = .ok (.getfield 10, 3) := by decide +kernel
theorem dX_on_53 : decode prog_1_method_40_code 53 = .ok (.iconst (0), 1) := by decide +kernel
theorem dX_on_54 : decode prog_1_method_40_code 54 = .ok (.invokevirtual 402, 3) := by decide +kernel
theorem dX_on_57 : decode prog_1_method_40_code 57 = .ok (.aload_n 0, 1) := by decide +kernel
theorem dX_on_58 : decode prog_1_method_40_code 58 = .ok (.getfield 10, 3) := by decide +kernel
theorem dX_on_61 : decode prog_1_method_40_code 61 = .ok (.iconst (1), 1) := by decide +kernel
theorem dX_on_62 : decode prog_1_method_40_code 62 = .ok (.invokevirtual 402, 3) := by decide +kernel
theorem dX_on_65 : decode prog_1_method_40_code 65 = .ok (.iload_n 2, 1) := by decide +kernel
theorem dX_on_66 : decode prog_1_method_40_code 66 = .ok (.invokestatic 398, 3) := by decide +kernel
theorem dX_on_69 : decode prog_1_method_40_code 69 = .ok (.if_icmp .ne (31), 3) := by decide +kernel
theorem dX_on_72 : decode prog_1_method_40_code 72 = .ok (.iload_n 1, 1) := by decide +kernel
theorem dX_on_73 : decode prog_1_method_40_code 73 = .ok (.aload_n 0, 1) := by decide +kernel
theorem dX_on_74 : decode prog_1_method_40_code 74 = .ok (.getfield 26, 3) := by decide +kernel
theorem dX_on_77 : decode prog_1_method_40_code 77 = .ok (.getfield 133, 3) := by decide +kernel
theorem dX_on_80 : decode prog_1_method_40_code 80 = .ok (.ishr, 1) := by decide +kernel
theorem dX_on_81 : decode prog_1_method_40_code 81 = .ok (.ifCond .ne (19), 3) := by decide +kernel
theorem dX_on_84 : decode prog_1_method_40_code 84 = .ok (.iload_n 2, 1) := by decide +kernel
theorem dX_on_85 : decode prog_1_method_40_code 85 = .ok (.aload_n 0, 1) := by decide +kernel
theorem dX_on_86 : decode prog_1_method_40_code 86 = .ok (.getfield 26, 3) := by decide +kernel
theorem dX_on_89 : decode prog_1_method_40_code 89 = .ok (.getfield 139, 3) := by decide +kernel
theorem dX_on_92 : decode prog_1_method_40_code 92 = .ok (.ishr, 1) := by decide +kernel
theorem dX_on_93 : decode prog_1_method_40_code 93 = .ok (.ifCond .ne (7), 3) := by decide +kernel
theorem dX_on_96 : decode prog_1_method_40_code 96 = .ok (.iconst (1), 1) := by decide +kernel
theorem dX_on_97 : decode prog_1_method_40_code 97 = .ok (.goto (4), 3) := by decide +kernel
theorem dX_on_100 : decode prog_1_method_40_code 100 = .ok (.iconst (0), 1) := by decide +kernel
theorem dX_on_101 : decode prog_1_method_40_code 101 = .ok (.istore_n 3, 1) := by decide +kernel
theorem dX_on_102 : decode prog_1_method_40_code 102 = .ok (.aload_n 0, 1) := by decide +kernel
theorem dX_on_103 : decode prog_1_method_40_code 103 = .ok (.getfield 10, 3) := by decide +kernel
theorem dX_on_106 : decode prog_1_method_40_code 106 = .ok (.iconst (0), 1) := by decide +kernel
theorem dX_on_107 : decode prog_1_method_40_code 107 = .ok (.putfield 107, 3) := by decide +kernel
theorem dX_on_110 : decode prog_1_method_40_code 110 = .ok (.iload_n 3, 1) := by decide +kernel
theorem dX_on_111 : decode prog_1_method_40_code 111 = .ok (.ifCond .eq (16), 3) := by decide +kernel
theorem dX_on_114 : decode prog_1_method_40_code 114 = .ok (.aload_n 0, 1) := by decide +kernel
theorem dX_on_115 : decode prog_1_method_40_code 115 = .ok (.getfield 73, 3) := by decide +kernel
theorem dX_on_118 : decode prog_1_method_40_code 118 = .ok (.iload_n 2, 1) := by decide +kernel
theorem dX_on_119 : decode prog_1_method_40_code 119 = .ok (.putfield 127, 3) := by decide +kernel
theorem dX_on_122 : decode prog_1_method_40_code 122 = .ok (.aload_n 0, 1) := by decide +kernel
theorem dX_on_123 : decode prog_1_method_40_code 123 = .ok (.iload_n 1, 1) := by decide +kernel
theorem dX_on_124 : decode prog_1_method_40_code 124 = .ok (.invokevirtual 130, 3) := by decide +kernel
theorem dX_on_127 : decode prog_1_method_40_code 127 = .ok (.iload_n 3, 1) := by decide +kernel
theorem dX_on_128 : decode prog_1_method_40_code 128 = .ok (.ireturn, 1) := by decide +kernel
theorem dTa_byteAt_0 : decode prog_9_method_4_code 0 = .ok (.iload_n 1, 1) := by decide +kernel
theorem dTa_byteAt_1 : decode prog_9_method_4_code 1 = .ok (.ifCond .lt (24), 3) := by decide +kernel
theorem dTa_byteAt_4 : decode prog_9_method_4_code 4 = .ok (.iload_n 1, 1) := by decide +kernel
theorem dTa_byteAt_5 : decode prog_9_method_4_code 5 = .ok (.aload_n 0, 1) := by decide +kernel
theorem dTa_byteAt_6 : decode prog_9_method_4_code 6 = .ok (.getfield 15, 3) := by decide +kernel
theorem dTa_byteAt_9 : decode prog_9_method_4_code 9 = .ok (.if_icmp .ge (16), 3) := by decide +kernel
theorem dTa_byteAt_12 : decode prog_9_method_4_code 12 = .ok (.aload_n 0, 1) := by decide +kernel
theorem dTa_byteAt_13 : decode prog_9_method_4_code 13 = .ok (.getfield 11, 3) := by decide +kernel
theorem dTa_byteAt_16 : decode prog_9_method_4_code 16 = .ok (.iload_n 1, 1) := by decide +kernel
theorem dTa_byteAt_17 : decode prog_9_method_4_code 17 = .ok (.baload, 1) := by decide +kernel
theorem dTa_byteAt_18 : decode prog_9_method_4_code 18 = .ok (.sipush (255), 3) := by decide +kernel
theorem dTa_byteAt_21 : decode prog_9_method_4_code 21 = .ok (.iand, 1) := by decide +kernel
theorem dTa_byteAt_22 : decode prog_9_method_4_code 22 = .ok (.goto (4), 3) := by decide +kernel
theorem dTa_byteAt_25 : decode prog_9_method_4_code 25 = .ok (.iconst (-1), 1) := by decide +kernel
theorem dTa_byteAt_26 : decode prog_9_method_4_code 26 = .ok (.ireturn, 1) := by decide +kernel
theorem dLaw_0 : decode code 0 = .ok (.new 7, 3) := by decide +kernel
theorem dLaw_3 : decode code 3 = .ok (.dup, 1) := by decide +kernel
theorem dLaw_4 : decode code 4 = .ok (.invokespecial 9, 3) := by decide +kernel
theorem dLaw_7 : decode code 7 = .ok (.astore_n 1, 1) := by decide +kernel
theorem dLaw_8 : decode code 8 = .ok (.new 10, 3) := by decide +kernel
theorem dLaw_11 : decode code 11 = .ok (.dup, 1) := by decide +kernel
theorem dLaw_12 : decode code 12 = .ok (.invokespecial 12, 3) := by decide +kernel
theorem dLaw_15 : decode code 15 = .ok (.astore_n 2, 1) := by decide +kernel
theorem dLaw_16 : decode code 16 = .ok (.iconst (0), 1) := by decide +kernel
theorem dLaw_17 : decode code 17 = .ok (.istore_n 3, 1) := by decide +kernel
theorem dLaw_18 : decode code 18 = .ok (.iload_n 3, 1) := by decide +kernel
theorem dLaw_19 : decode code 19 = .ok (.aload_n 0, 1) := by decide +kernel
theorem dLaw_20 : decode code 20 = .ok (.arraylength, 1) := by decide +kernel
theorem dLaw_21 : decode code 21 = .ok (.bipush (6), 2) := by decide +kernel
theorem dLaw_23 : decode code 23 = .ok (.isub, 1) := by decide +kernel
theorem dLaw_24 : decode code 24 = .ok (.if_icmp .gt (1285), 3) := by decide +kernel
theorem dLaw_27 : decode code 27 = .ok (.aload_n 0, 1) := by decide +kernel
theorem dLaw_28 : decode code 28 = .ok (.iload_n 3, 1) := by decide +kernel
theorem dLaw_29 : decode code 29 = .ok (.iaload, 1) := by decide +kernel
theorem dLaw_30 : decode code 30 = .ok (.bipush (63), 2) := by decide +kernel
theorem dLaw_32 : decode code 32 = .ok (.iand, 1) := by decide +kernel
theorem dLaw_33 : decode code 33 = .ok (.tableswitch (1270) (0) (38) #[171, 234, 257, 270, 293, 316, 359, 392, 425, 458, 491, 504, 527, 560, 593, 616, 639, 662, 685, 708, 751, 794, 827, 870, 903, 926, 949, 962, 995, 1044, 1057, 1080, 1129, 1152, 1165, 1188, 1221, 1234, 1257], 171) := by decide +kernel
theorem dLaw_204 : decode code 204 = .ok (.aload_n 1, 1) := by decide +kernel
theorem dLaw_205 : decode code 205 = .ok (.aload_n 0, 1) := by decide +kernel
theorem dLaw_206 : decode code 206 = .ok (.iload_n 3, 1) := by decide +kernel
theorem dLaw_207 : decode code 207 = .ok (.iconst (1), 1) := by decide +kernel
theorem dLaw_208 : decode code 208 = .ok (.iadd, 1) := by decide +kernel
theorem dLaw_209 : decode code 209 = .ok (.iaload, 1) := by decide +kernel
theorem dLaw_210 : decode code 210 = .ok (.aload_n 0, 1) := by decide +kernel
theorem dLaw_211 : decode code 211 = .ok (.iload_n 3, 1) := by decide +kernel
theorem dLaw_212 : decode code 212 = .ok (.iconst (2), 1) := by decide +kernel
theorem dLaw_213 : decode code 213 = .ok (.iadd, 1) := by decide +kernel
theorem dLaw_214 : decode code 214 = .ok (.iaload, 1) := by decide +kernel
theorem dLaw_215 : decode code 215 = .ok (.aload_n 0, 1) := by decide +kernel
theorem dLaw_216 : decode code 216 = .ok (.iload_n 3, 1) := by decide +kernel
theorem dLaw_217 : decode code 217 = .ok (.iconst (3), 1) := by decide +kernel
theorem dLaw_218 : decode code 218 = .ok (.iadd, 1) := by decide +kernel
theorem dLaw_219 : decode code 219 = .ok (.iaload, 1) := by decide +kernel
theorem dLaw_220 : decode code 220 = .ok (.aload_n 0, 1) := by decide +kernel
theorem dLaw_221 : decode code 221 = .ok (.iload_n 3, 1) := by decide +kernel
theorem dLaw_222 : decode code 222 = .ok (.iconst (4), 1) := by decide +kernel
theorem dLaw_223 : decode code 223 = .ok (.iadd, 1) := by decide +kernel
theorem dLaw_224 : decode code 224 = .ok (.iaload, 1) := by decide +kernel
theorem dLaw_225 : decode code 225 = .ok (.aload_n 0, 1) := by decide +kernel
theorem dLaw_226 : decode code 226 = .ok (.iload_n 3, 1) := by decide +kernel
theorem dLaw_227 : decode code 227 = .ok (.iconst (5), 1) := by decide +kernel
theorem dLaw_228 : decode code 228 = .ok (.iadd, 1) := by decide +kernel
theorem dLaw_229 : decode code 229 = .ok (.iaload, 1) := by decide +kernel
theorem dLaw_230 : decode code 230 = .ok (.invokevirtual 13, 3) := by decide +kernel
theorem dLaw_233 : decode code 233 = .ok (.aload_n 2, 1) := by decide +kernel
theorem dLaw_234 : decode code 234 = .ok (.aload_n 0, 1) := by decide +kernel
theorem dLaw_235 : decode code 235 = .ok (.iload_n 3, 1) := by decide +kernel
theorem dLaw_236 : decode code 236 = .ok (.iconst (1), 1) := by decide +kernel
theorem dLaw_237 : decode code 237 = .ok (.iadd, 1) := by decide +kernel
theorem dLaw_238 : decode code 238 = .ok (.iaload, 1) := by decide +kernel
theorem dLaw_239 : decode code 239 = .ok (.aload_n 0, 1) := by decide +kernel
theorem dLaw_240 : decode code 240 = .ok (.iload_n 3, 1) := by decide +kernel
theorem dLaw_241 : decode code 241 = .ok (.iconst (2), 1) := by decide +kernel
theorem dLaw_242 : decode code 242 = .ok (.iadd, 1) := by decide +kernel
theorem dLaw_243 : decode code 243 = .ok (.iaload, 1) := by decide +kernel
theorem dLaw_244 : decode code 244 = .ok (.aload_n 0, 1) := by decide +kernel
theorem dLaw_245 : decode code 245 = .ok (.iload_n 3, 1) := by decide +kernel
theorem dLaw_246 : decode code 246 = .ok (.iconst (3), 1) := by decide +kernel
theorem dLaw_247 : decode code 247 = .ok (.iadd, 1) := by decide +kernel
theorem dLaw_248 : decode code 248 = .ok (.iaload, 1) := by decide +kernel
theorem dLaw_249 : decode code 249 = .ok (.aload_n 0, 1) := by decide +kernel
theorem dLaw_250 : decode code 250 = .ok (.iload_n 3, 1) := by decide +kernel
theorem dLaw_251 : decode code 251 = .ok (.iconst (4), 1) := by decide +kernel
theorem dLaw_252 : decode code 252 = .ok (.iadd, 1) := by decide +kernel
theorem dLaw_253 : decode code 253 = .ok (.iaload, 1) := by decide +kernel
theorem dLaw_254 : decode code 254 = .ok (.aload_n 0, 1) := by decide +kernel
theorem dLaw_255 : decode code 255 = .ok (.iload_n 3, 1) := by decide +kernel
theorem dLaw_256 : decode code 256 = .ok (.iconst (5), 1) := by decide +kernel
theorem dLaw_257 : decode code 257 = .ok (.iadd, 1) := by decide +kernel
theorem dLaw_258 : decode code 258 = .ok (.iaload, 1) := by decide +kernel
theorem dLaw_259 : decode code 259 = .ok (.invokevirtual 17, 3) := by decide +kernel
theorem dLaw_262 : decode code 262 = .ok (.if_icmp .eq (1041), 3) := by decide +kernel
theorem dLaw_265 : decode code 265 = .ok (.iconst (0), 1) := by decide +kernel
theorem dLaw_266 : decode code 266 = .ok (.ireturn, 1) := by decide +kernel
theorem dLaw_267 : decode code 267 = .ok (.aload_n 1, 1) := by decide +kernel
theorem dLaw_268 : decode code 268 = .ok (.aload_n 0, 1) := by decide +kernel
theorem dLaw_269 : decode code 269 = .ok (.iload_n 3, 1) := by decide +kernel
theorem dLaw_270 : decode code 270 = .ok (.iconst (1), 1) := by decide +kernel
theorem dLaw_271 : decode code 271 = .ok (.iadd, 1) := by decide +kernel
theorem dLaw_272 : decode code 272 = .ok (.iaload, 1) := by decide +kernel
theorem dLaw_273 : decode code 273 = .ok (.invokevirtual 18, 3) := by decide +kernel
theorem dLaw_276 : decode code 276 = .ok (.aload_n 2, 1) := by decide +kernel
theorem dLaw_277 : decode code 277 = .ok (.aload_n 0, 1) := by decide +kernel
theorem dLaw_278 : decode code 278 = .ok (.iload_n 3, 1) := by decide +kernel
theorem dLaw_279 : decode code 279 = .ok (.iconst (1), 1) := by decide +kernel
theorem dLaw_280 : decode code 280 = .ok (.iadd, 1) := by decide +kernel
theorem dLaw_281 : decode code 281 = .ok (.iaload, 1) := by decide +kernel
theorem dLaw_282 : decode code 282 = .ok (.invokevirtual 22, 3) := by decide +kernel
theorem dLaw_285 : decode code 285 = .ok (.if_icmp .eq (1018), 3) := by decide +kernel
theorem dLaw_288 : decode code 288 = .ok (.iconst (0), 1) := by decide +kernel
theorem dLaw_289 : decode code 289 = .ok (.ireturn, 1) := by decide +kernel
theorem dLaw_290 : decode code 290 = .ok (.aload_n 1, 1) := by decide +kernel
theorem dLaw_291 : decode code 291 = .ok (.invokevirtual 23, 3) := by decide +kernel
theorem dLaw_294 : decode code 294 = .ok (.aload_n 2, 1) := by decide +kernel
theorem dLaw_295 : decode code 295 = .ok (.invokevirtual 27, 3) := by decide +kernel
theorem dLaw_298 : decode code 298 = .ok (.if_icmp .eq (1005), 3) := by decide +kernel
theorem dLaw_301 : decode code 301 = .ok (.iconst (0), 1) := by decide +kernel
theorem dLaw_302 : decode code 302 = .ok (.ireturn, 1) := by decide +kernel
theorem dLaw_303 : decode code 303 = .ok (.aload_n 1, 1) := by decide +kernel
theorem dLaw_304 : decode code 304 = .ok (.aload_n 0, 1) := by decide +kernel
theorem dLaw_305 : decode code 305 = .ok (.iload_n 3, 1) := by decide +kernel
theorem dLaw_306 : decode code 306 = .ok (.iconst (1), 1) := by decide +kernel
theorem dLaw_307 : decode code 307 = .ok (.iadd, 1) := by decide +kernel
theorem dLaw_308 : decode code 308 = .ok (.iaload, 1) := by decide +kernel
theorem dLaw_309 : decode code 309 = .ok (.invokevirtual 28, 3) := by decide +kernel
theorem dLaw_312 : decode code 312 = .ok (.aload_n 2, 1) := by decide +kernel
theorem dLaw_313 : decode code 313 = .ok (.aload_n 0, 1) := by decide +kernel
theorem dLaw_314 : decode code 314 = .ok (.iload_n 3, 1) := by decide +kernel
theorem dLaw_315 : decode code 315 = .ok (.iconst (1), 1) := by decide +kernel
theorem dLaw_316 : decode code 316 = .ok (.iadd, 1) := by decide +kernel
theorem dLaw_317 : decode code 317 = .ok (.iaload, 1) := by decide +kernel
theorem dLaw_318 : decode code 318 = .ok (.invokevirtual 32, 3) := by decide +kernel
theorem dLaw_321 : decode code 321 = .ok (.if_icmp .eq (982), 3) := by decide +kernel
theorem dLaw_324 : decode code 324 = .ok (.iconst (0), 1) := by decide +kernel
theorem dLaw_325 : decode code 325 = .ok (.ireturn, 1) := by decide +kernel
theorem dLaw_326 : decode code 326 = .ok (.aload_n 1, 1) := by decide +kernel
theorem dLaw_327 : decode code 327 = .ok (.aload_n 0, 1) := by decide +kernel
theorem dLaw_328 : decode code 328 = .ok (.iload_n 3, 1) := by decide +kernel
theorem dLaw_329 : decode code 329 = .ok (.iconst (1), 1) := by decide +kernel
theorem dLaw_330 : decode code 330 = .ok (.iadd, 1) := by decide +kernel
theorem dLaw_331 : decode code 331 = .ok (.iaload, 1) := by decide +kernel
theorem dLaw_332 : decode code 332 = .ok (.invokevirtual 33, 3) := by decide +kernel
theorem dLaw_335 : decode code 335 = .ok (.aload_n 2, 1) := by decide +kernel
theorem dLaw_336 : decode code 336 = .ok (.aload_n 0, 1) := by decide +kernel
theorem dLaw_337 : decode code 337 = .ok (.iload_n 3, 1) := by decide +kernel
theorem dLaw_338 : decode code 338 = .ok (.iconst (1), 1) := by decide +kernel
theorem dLaw_339 : decode code 339 = .ok (.iadd, 1) := by decide +kernel
theorem dLaw_340 : decode code 340 = .ok (.iaload, 1) := by decide +kernel
theorem dLaw_341 : decode code 341 = .ok (.invokevirtual 36, 3) := by decide +kernel
theorem dLaw_344 : decode code 344 = .ok (.if_icmp .eq (959), 3) := by decide +kernel
theorem dLaw_347 : decode code 347 = .ok (.iconst (0), 1) := by decide +kernel
theorem dLaw_348 : decode code 348 = .ok (.ireturn, 1) := by decide +kernel
theorem dLaw_349 : decode code 349 = .ok (.aload_n 1, 1) := by decide +kernel
theorem dLaw_350 : decode code 350 = .ok (.aload_n 0, 1) := by decide +kernel
theorem dLaw_351 : decode code 351 = .ok (.iload_n 3, 1) := by decide +kernel
theorem dLaw_352 : decode code 352 = .ok (.iconst (1), 1) := by decide +kernel
theorem dLaw_353 : decode code 353 = .ok (.iadd, 1) := by decide +kernel
theorem dLaw_354 : decode code 354 = .ok (.iaload, 1) := by decide +kernel
theorem dLaw_355 : decode code 355 = .ok (.aload_n 0, 1) := by decide +kernel
theorem dLaw_356 : decode code 356 = .ok (.iload_n 3, 1) := by decide +kernel
theorem dLaw_357 : decode code 357 = .ok (.iconst (2), 1) := by decide +kernel
theorem dLaw_358 : decode code 358 = .ok (.iadd, 1) := by decide +kernel
theorem dLaw_359 : decode code 359 = .ok (.iaload, 1) := by decide +kernel
theorem dLaw_360 : decode code 360 = .ok (.aload_n 0, 1) := by decide +kernel
theorem dLaw_361 : decode code 361 = .ok (.iload_n 3, 1) := by decide +kernel
theorem dLaw_362 : decode code 362 = .ok (.iconst (3), 1) := by decide +kernel
theorem dLaw_363 : decode code 363 = .ok (.iadd, 1) := by decide +kernel
theorem dLaw_364 : decode code 364 = .ok (.iaload, 1) := by decide +kernel
theorem dLaw_365 : decode code 365 = .ok (.invokevirtual 37, 3) := by decide +kernel
theorem dLaw_368 : decode code 368 = .ok (.aload_n 2, 1) := by decide +kernel
theorem dLaw_369 : decode code 369 = .ok (.aload_n 0, 1) := by decide +kernel
theorem dLaw_370 : decode code 370 = .ok (.iload_n 3, 1) := by decide +kernel
theorem dLaw_371 : decode code 371 = .ok (.iconst (1), 1) := by decide +kernel
theorem dLaw_372 : decode code 372 = .ok (.iadd, 1) := by decide +kernel
theorem dLaw_373 : decode code 373 = .ok (.iaload, 1) := by decide +kernel
theorem dLaw_374 : decode code 374 = .ok (.aload_n 0, 1) := by decide +kernel
theorem dLaw_375 : decode code 375 = .ok (.iload_n 3, 1) := by decide +kernel
theorem dLaw_376 : decode code 376 = .ok (.iconst (2), 1) := by decide +kernel
theorem dLaw_377 : decode code 377 = .ok (.iadd, 1) := by decide +kernel
theorem dLaw_378 : decode code 378 = .ok (.iaload, 1) := by decide +kernel
theorem dLaw_379 : decode code 379 = .ok (.aload_n 0, 1) := by decide +kernel
theorem dLaw_380 : decode code 380 = .ok (.iload_n 3, 1) := by decide +kernel
theorem dLaw_381 : decode code 381 = .ok (.iconst (3), 1) := by decide +kernel
theorem dLaw_382 : decode code 382 = .ok (.iadd, 1) := by decide +kernel
theorem dLaw_383 : decode code 383 = .ok (.iaload, 1) := by decide +kernel
theorem dLaw_384 : decode code 384 = .ok (.invokevirtual 41, 3) := by decide +kernel
theorem dLaw_387 : decode code 387 = .ok (.if_icmp .eq (916), 3) := by decide +kernel
theorem dLaw_390 : decode code 390 = .ok (.iconst (0), 1) := by decide +kernel
theorem dLaw_391 : decode code 391 = .ok (.ireturn, 1) := by decide +kernel
theorem dLaw_392 : decode code 392 = .ok (.aload_n 1, 1) := by decide +kernel
theorem dLaw_393 : decode code 393 = .ok (.aload_n 0, 1) := by decide +kernel
theorem dLaw_394 : decode code 394 = .ok (.iload_n 3, 1) := by decide +kernel
theorem dLaw_395 : decode code 395 = .ok (.iconst (1), 1) := by decide +kernel
theorem dLaw_396 : decode code 396 = .ok (.iadd, 1) := by decide +kernel
theorem dLaw_397 : decode code 397 = .ok (.iaload, 1) := by decide +kernel
theorem dLaw_398 : decode code 398 = .ok (.aload_n 0, 1) := by decide +kernel
theorem dLaw_399 : decode code 399 = .ok (.iload_n 3, 1) := by decide +kernel
theorem dLaw_400 : decode code 400 = .ok (.iconst (2), 1) := by decide +kernel
theorem dLaw_401 : decode code 401 = .ok (.iadd, 1) := by decide +kernel
theorem dLaw_402 : decode code 402 = .ok (.iaload, 1) := by decide +kernel
theorem dLaw_403 : decode code 403 = .ok (.invokevirtual 42, 3) := by decide +kernel
theorem dLaw_406 : decode code 406 = .ok (.aload_n 2, 1) := by decide +kernel
theorem dLaw_407 : decode code 407 = .ok (.aload_n 0, 1) := by decide +kernel
theorem dLaw_408 : decode code 408 = .ok (.iload_n 3, 1) := by decide +kernel
theorem dLaw_409 : decode code 409 = .ok (.iconst (1), 1) := by decide +kernel
theorem dLaw_410 : decode code 410 = .ok (.iadd, 1) := by decide +kernel
theorem dLaw_411 : decode code 411 = .ok (.iaload, 1) := by decide +kernel
theorem dLaw_412 : decode code 412 = .ok (.aload_n 0, 1) := by decide +kernel
theorem dLaw_413 : decode code 413 = .ok (.iload_n 3, 1) := by decide +kernel
theorem dLaw_414 : decode code 414 = .ok (.iconst (2), 1) := by decide +kernel
theorem dLaw_415 : decode code 415 = .ok (.iadd, 1) := by decide +kernel
theorem dLaw_416 : decode code 416 = .ok (.iaload, 1) := by decide +kernel
theorem dLaw_417 : decode code 417 = .ok (.invokevirtual 46, 3) := by decide +kernel
theorem dLaw_420 : decode code 420 = .ok (.if_icmp .eq (883), 3) := by decide +kernel
theorem dLaw_423 : decode code 423 = .ok (.iconst (0), 1) := by decide +kernel
theorem dLaw_424 : decode code 424 = .ok (.ireturn, 1) := by decide +kernel
theorem dLaw_425 : decode code 425 = .ok (.aload_n 1, 1) := by decide +kernel
theorem dLaw_426 : decode code 426 = .ok (.aload_n 0, 1) := by decide +kernel
theorem dLaw_427 : decode code 427 = .ok (.iload_n 3, 1) := by decide +kernel
theorem dLaw_428 : decode code 428 = .ok (.iconst (1), 1) := by decide +kernel
theorem dLaw_429 : decode code 429 = .ok (.iadd, 1) := by decide +kernel
theorem dLaw_430 : decode code 430 = .ok (.iaload, 1) := by decide +kernel
theorem dLaw_431 : decode code 431 = .ok (.aload_n 0, 1) := by decide +kernel
theorem dLaw_432 : decode code 432 = .ok (.iload_n 3, 1) := by decide +kernel
theorem dLaw_433 : decode code 433 = .ok (.iconst (2), 1) := by decide +kernel
theorem dLaw_434 : decode code 434 = .ok (.iadd, 1) := by decide +kernel
theorem dLaw_435 : decode code 435 = .ok (.iaload, 1) := by decide +kernel
theorem dLaw_436 : decode code 436 = .ok (.invokevirtual 47, 3) := by decide +kernel
theorem dLaw_439 : decode code 439 = .ok (.aload_n 2, 1) := by decide +kernel
theorem dLaw_440 : decode code 440 = .ok (.aload_n 0, 1) := by decide +kernel
theorem dLaw_441 : decode code 441 = .ok (.iload_n 3, 1) := by decide +kernel
theorem dLaw_442 : decode code 442 = .ok (.iconst (1), 1) := by decide +kernel
theorem dLaw_443 : decode code 443 = .ok (.iadd, 1) := by decide +kernel
theorem dLaw_444 : decode code 444 = .ok (.iaload, 1) := by decide +kernel
theorem dLaw_445 : decode code 445 = .ok (.aload_n 0, 1) := by decide +kernel
theorem dLaw_446 : decode code 446 = .ok (.iload_n 3, 1) := by decide +kernel
theorem dLaw_447 : decode code 447 = .ok (.iconst (2), 1) := by decide +kernel
theorem dLaw_448 : decode code 448 = .ok (.iadd, 1) := by decide +kernel
theorem dLaw_449 : decode code 449 = .ok (.iaload, 1) := by decide +kernel
theorem dLaw_450 : decode code 450 = .ok (.invokevirtual 50, 3) := by decide +kernel
theorem dLaw_453 : decode code 453 = .ok (.if_icmp .eq (850), 3) := by decide +kernel
theorem dLaw_456 : decode code 456 = .ok (.iconst (0), 1) := by decide +kernel
theorem dLaw_457 : decode code 457 = .ok (.ireturn, 1) := by decide +kernel
theorem dLaw_458 : decode code 458 = .ok (.aload_n 1, 1) := by decide +kernel
theorem dLaw_459 : decode code 459 = .ok (.aload_n 0, 1) := by decide +kernel
theorem dLaw_460 : decode code 460 = .ok (.iload_n 3, 1) := by decide +kernel
theorem dLaw_461 : decode code 461 = .ok (.iconst (1), 1) := by decide +kernel
theorem dLaw_462 : decode code 462 = .ok (.iadd, 1) := by decide +kernel
theorem dLaw_463 : decode code 463 = .ok (.iaload, 1) := by decide +kernel
theorem dLaw_464 : decode code 464 = .ok (.aload_n 0, 1) := by decide +kernel
theorem dLaw_465 : decode code 465 = .ok (.iload_n 3, 1) := by decide +kernel
theorem dLaw_466 : decode code 466 = .ok (.iconst (2), 1) := by decide +kernel
theorem dLaw_467 : decode code 467 = .ok (.iadd, 1) := by decide +kernel
theorem dLaw_468 : decode code 468 = .ok (.iaload, 1) := by decide +kernel
theorem dLaw_469 : decode code 469 = .ok (.invokevirtual 51, 3) := by decide +kernel
theorem dLaw_472 : decode code 472 = .ok (.aload_n 2, 1) := by decide +kernel
theorem dLaw_473 : decode code 473 = .ok (.aload_n 0, 1) := by decide +kernel
theorem dLaw_474 : decode code 474 = .ok (.iload_n 3, 1) := by decide +kernel
theorem dLaw_475 : decode code 475 = .ok (.iconst (1), 1) := by decide +kernel
theorem dLaw_476 : decode code 476 = .ok (.iadd, 1) := by decide +kernel
theorem dLaw_477 : decode code 477 = .ok (.iaload, 1) := by decide +kernel
theorem dLaw_478 : decode code 478 = .ok (.aload_n 0, 1) := by decide +kernel
theorem dLaw_479 : decode code 479 = .ok (.iload_n 3, 1) := by decide +kernel
theorem dLaw_480 : decode code 480 = .ok (.iconst (2), 1) := by decide +kernel
theorem dLaw_481 : decode code 481 = .ok (.iadd, 1) := by decide +kernel
theorem dLaw_482 : decode code 482 = .ok (.iaload, 1) := by decide +kernel
theorem dLaw_483 : decode code 483 = .ok (.invokevirtual 54, 3) := by decide +kernel
theorem dLaw_486 : decode code 486 = .ok (.if_icmp .eq (817), 3) := by decide +kernel
theorem dLaw_489 : decode code 489 = .ok (.iconst (0), 1) := by decide +kernel
theorem dLaw_490 : decode code 490 = .ok (.ireturn, 1) := by decide +kernel
theorem dLaw_491 : decode code 491 = .ok (.aload_n 1, 1) := by decide +kernel
theorem dLaw_492 : decode code 492 = .ok (.aload_n 0, 1) := by decide +kernel
theorem dLaw_493 : decode code 493 = .ok (.iload_n 3, 1) := by decide +kernel
theorem dLaw_494 : decode code 494 = .ok (.iconst (1), 1) := by decide +kernel
theorem dLaw_495 : decode code 495 = .ok (.iadd, 1) := by decide +kernel
theorem dLaw_496 : decode code 496 = .ok (.iaload, 1) := by decide +kernel
theorem dLaw_497 : decode code 497 = .ok (.aload_n 0, 1) := by decide +kernel
theorem dLaw_498 : decode code 498 = .ok (.iload_n 3, 1) := by decide +kernel
theorem dLaw_499 : decode code 499 = .ok (.iconst (2), 1) := by decide +kernel
theorem dLaw_500 : decode code 500 = .ok (.iadd, 1) := by decide +kernel
theorem dLaw_501 : decode code 501 = .ok (.iaload, 1) := by decide +kernel
theorem dLaw_502 : decode code 502 = .ok (.invokevirtual 55, 3) := by decide +kernel
theorem dLaw_505 : decode code 505 = .ok (.aload_n 2, 1) := by decide +kernel
theorem dLaw_506 : decode code 506 = .ok (.aload_n 0, 1) := by decide +kernel
theorem dLaw_507 : decode code 507 = .ok (.iload_n 3, 1) := by decide +kernel
theorem dLaw_508 : decode code 508 = .ok (.iconst (1), 1) := by decide +kernel
theorem dLaw_509 : decode code 509 = .ok (.iadd, 1) := by decide +kernel
theorem dLaw_510 : decode code 510 = .ok (.iaload, 1) := by decide +kernel
theorem dLaw_511 : decode code 511 = .ok (.aload_n 0, 1) := by decide +kernel
theorem dLaw_512 : decode code 512 = .ok (.iload_n 3, 1) := by decide +kernel
theorem dLaw_513 : decode code 513 = .ok (.iconst (2), 1) := by decide +kernel
theorem dLaw_514 : decode code 514 = .ok (.iadd, 1) := by decide +kernel
theorem dLaw_515 : decode code 515 = .ok (.iaload, 1) := by decide +kernel
theorem dLaw_516 : decode code 516 = .ok (.invokevirtual 58, 3) := by decide +kernel
theorem dLaw_519 : decode code 519 = .ok (.if_icmp .eq (784), 3) := by decide +kernel
theorem dLaw_522 : decode code 522 = .ok (.iconst (0), 1) := by decide +kernel
theorem dLaw_523 : decode code 523 = .ok (.ireturn, 1) := by decide +kernel
theorem dLaw_524 : decode code 524 = .ok (.aload_n 1, 1) := by decide +kernel
theorem dLaw_525 : decode code 525 = .ok (.invokevirtual 59, 3) := by decide +kernel
theorem dLaw_528 : decode code 528 = .ok (.aload_n 2, 1) := by decide +kernel
theorem dLaw_529 : decode code 529 = .ok (.invokevirtual 62, 3) := by decide +kernel
theorem dLaw_532 : decode code 532 = .ok (.if_icmp .eq (771), 3) := by decide +kernel
theorem dLaw_535 : decode code 535 = .ok (.iconst (0), 1) := by decide +kernel
theorem dLaw_536 : decode code 536 = .ok (.ireturn, 1) := by decide +kernel
theorem dLaw_537 : decode code 537 = .ok (.aload_n 1, 1) := by decide +kernel
theorem dLaw_538 : decode code 538 = .ok (.aload_n 0, 1) := by decide +kernel
theorem dLaw_539 : decode code 539 = .ok (.iload_n 3, 1) := by decide +kernel
theorem dLaw_540 : decode code 540 = .ok (.iconst (1), 1) := by decide +kernel
theorem dLaw_541 : decode code 541 = .ok (.iadd, 1) := by decide +kernel
theorem dLaw_542 : decode code 542 = .ok (.iaload, 1) := by decide +kernel
theorem dLaw_543 : decode code 543 = .ok (.invokevirtual 63, 3) := by decide +kernel
theorem dLaw_546 : decode code 546 = .ok (.aload_n 2, 1) := by decide +kernel
theorem dLaw_547 : decode code 547 = .ok (.aload_n 0, 1) := by decide +kernel
theorem dLaw_548 : decode code 548 = .ok (.iload_n 3, 1) := by decide +kernel
theorem dLaw_549 : decode code 549 = .ok (.iconst (1), 1) := by decide +kernel
theorem dLaw_550 : decode code 550 = .ok (.iadd, 1) := by decide +kernel
theorem dLaw_551 : decode code 551 = .ok (.iaload, 1) := by decide +kernel
theorem dLaw_552 : decode code 552 = .ok (.invokevirtual 66, 3) := by decide +kernel
theorem dLaw_555 : decode code 555 = .ok (.if_icmp .eq (748), 3) := by decide +kernel
theorem dLaw_558 : decode code 558 = .ok (.iconst (0), 1) := by decide +kernel
theorem dLaw_559 : decode code 559 = .ok (.ireturn, 1) := by decide +kernel
theorem dLaw_560 : decode code 560 = .ok (.aload_n 1, 1) := by decide +kernel
theorem dLaw_561 : decode code 561 = .ok (.aload_n 0, 1) := by decide +kernel
theorem dLaw_562 : decode code 562 = .ok (.iload_n 3, 1) := by decide +kernel
theorem dLaw_563 : decode code 563 = .ok (.iconst (1), 1) := by decide +kernel
theorem dLaw_564 : decode code 564 = .ok (.iadd, 1) := by decide +kernel
theorem dLaw_565 : decode code 565 = .ok (.iaload, 1) := by decide +kernel
theorem dLaw_566 : decode code 566 = .ok (.aload_n 0, 1) := by decide +kernel
theorem dLaw_567 : decode code 567 = .ok (.iload_n 3, 1) := by decide +kernel
theorem dLaw_568 : decode code 568 = .ok (.iconst (2), 1) := by decide +kernel
theorem dLaw_569 : decode code 569 = .ok (.iadd, 1) := by decide +kernel
theorem dLaw_570 : decode code 570 = .ok (.iaload, 1) := by decide +kernel
theorem dLaw_571 : decode code 571 = .ok (.invokevirtual 67, 3) := by decide +kernel
theorem dLaw_574 : decode code 574 = .ok (.aload_n 2, 1) := by decide +kernel
theorem dLaw_575 : decode code 575 = .ok (.aload_n 0, 1) := by decide +kernel
theorem dLaw_576 : decode code 576 = .ok (.iload_n 3, 1) := by decide +kernel
theorem dLaw_577 : decode code 577 = .ok (.iconst (1), 1) := by decide +kernel
theorem dLaw_578 : decode code 578 = .ok (.iadd, 1) := by decide +kernel
theorem dLaw_579 : decode code 579 = .ok (.iaload, 1) := by decide +kernel
theorem dLaw_580 : decode code 580 = .ok (.aload_n 0, 1) := by decide +kernel
theorem dLaw_581 : decode code 581 = .ok (.iload_n 3, 1) := by decide +kernel
theorem dLaw_582 : decode code 582 = .ok (.iconst (2), 1) := by decide +kernel
theorem dLaw_583 : decode code 583 = .ok (.iadd, 1) := by decide +kernel
theorem dLaw_584 : decode code 584 = .ok (.iaload, 1) := by decide +kernel
theorem dLaw_585 : decode code 585 = .ok (.invokevirtual 70, 3) := by decide +kernel
theorem dLaw_588 : decode code 588 = .ok (.if_icmp .eq (715), 3) := by decide +kernel
theorem dLaw_591 : decode code 591 = .ok (.iconst (0), 1) := by decide +kernel
theorem dLaw_592 : decode code 592 = .ok (.ireturn, 1) := by decide +kernel
theorem dLaw_593 : decode code 593 = .ok (.aload_n 1, 1) := by decide +kernel
theorem dLaw_594 : decode code 594 = .ok (.aload_n 0, 1) := by decide +kernel
theorem dLaw_595 : decode code 595 = .ok (.iload_n 3, 1) := by decide +kernel
theorem dLaw_596 : decode code 596 = .ok (.iconst (1), 1) := by decide +kernel
theorem dLaw_597 : decode code 597 = .ok (.iadd, 1) := by decide +kernel
theorem dLaw_598 : decode code 598 = .ok (.iaload, 1) := by decide +kernel
theorem dLaw_599 : decode code 599 = .ok (.aload_n 0, 1) := by decide +kernel
theorem dLaw_600 : decode code 600 = .ok (.iload_n 3, 1) := by decide +kernel
theorem dLaw_601 : decode code 601 = .ok (.iconst (2), 1) := by decide +kernel
theorem dLaw_602 : decode code 602 = .ok (.iadd, 1) := by decide +kernel
theorem dLaw_603 : decode code 603 = .ok (.iaload, 1) := by decide +kernel
theorem dLaw_604 : decode code 604 = .ok (.invokevirtual 71, 3) := by decide +kernel
theorem dLaw_607 : decode code 607 = .ok (.aload_n 2, 1) := by decide +kernel
theorem dLaw_608 : decode code 608 = .ok (.aload_n 0, 1) := by decide +kernel
theorem dLaw_609 : decode code 609 = .ok (.iload_n 3, 1) := by decide +kernel
theorem dLaw_610 : decode code 610 = .ok (.iconst (1), 1) := by decide +kernel
theorem dLaw_611 : decode code 611 = .ok (.iadd, 1) := by decide +kernel
theorem dLaw_612 : decode code 612 = .ok (.iaload, 1) := by decide +kernel
theorem dLaw_613 : decode code 613 = .ok (.aload_n 0, 1) := by decide +kernel
theorem dLaw_614 : decode code 614 = .ok (.iload_n 3, 1) := by decide +kernel
theorem dLaw_615 : decode code 615 = .ok (.iconst (2), 1) := by decide +kernel
theorem dLaw_616 : decode code 616 = .ok (.iadd, 1) := by decide +kernel
theorem dLaw_617 : decode code 617 = .ok (.iaload, 1) := by decide +kernel
theorem dLaw_618 : decode code 618 = .ok (.invokevirtual 74, 3) := by decide +kernel
theorem dLaw_621 : decode code 621 = .ok (.if_icmp .eq (682), 3) := by decide +kernel
theorem dLaw_624 : decode code 624 = .ok (.iconst (0), 1) := by decide +kernel
theorem dLaw_625 : decode code 625 = .ok (.ireturn, 1) := by decide +kernel
theorem dLaw_626 : decode code 626 = .ok (.aload_n 1, 1) := by decide +kernel
theorem dLaw_627 : decode code 627 = .ok (.aload_n 0, 1) := by decide +kernel
theorem dLaw_628 : decode code 628 = .ok (.iload_n 3, 1) := by decide +kernel
theorem dLaw_629 : decode code 629 = .ok (.iconst (1), 1) := by decide +kernel
theorem dLaw_630 : decode code 630 = .ok (.iadd, 1) := by decide +kernel
theorem dLaw_631 : decode code 631 = .ok (.iaload, 1) := by decide +kernel
theorem dLaw_632 : decode code 632 = .ok (.invokevirtual 75, 3) := by decide +kernel
theorem dLaw_635 : decode code 635 = .ok (.aload_n 2, 1) := by decide +kernel
theorem dLaw_636 : decode code 636 = .ok (.aload_n 0, 1) := by decide +kernel
theorem dLaw_637 : decode code 637 = .ok (.iload_n 3, 1) := by decide +kernel
theorem dLaw_638 : decode code 638 = .ok (.iconst (1), 1) := by decide +kernel
theorem dLaw_639 : decode code 639 = .ok (.iadd, 1) := by decide +kernel
theorem dLaw_640 : decode code 640 = .ok (.iaload, 1) := by decide +kernel
theorem dLaw_641 : decode code 641 = .ok (.invokevirtual 78, 3) := by decide +kernel
theorem dLaw_644 : decode code 644 = .ok (.if_icmp .eq (659), 3) := by decide +kernel
theorem dLaw_647 : decode code 647 = .ok (.iconst (0), 1) := by decide +kernel
theorem dLaw_648 : decode code 648 = .ok (.ireturn, 1) := by decide +kernel
theorem dLaw_649 : decode code 649 = .ok (.aload_n 1, 1) := by decide +kernel
theorem dLaw_650 : decode code 650 = .ok (.aload_n 0, 1) := by decide +kernel
theorem dLaw_651 : decode code 651 = .ok (.iload_n 3, 1) := by decide +kernel
theorem dLaw_652 : decode code 652 = .ok (.iconst (1), 1) := by decide +kernel
theorem dLaw_653 : decode code 653 = .ok (.iadd, 1) := by decide +kernel
theorem dLaw_654 : decode code 654 = .ok (.iaload, 1) := by decide +kernel
theorem dLaw_655 : decode code 655 = .ok (.invokevirtual 79, 3) := by decide +kernel
theorem dLaw_658 : decode code 658 = .ok (.aload_n 2, 1) := by decide +kernel
theorem dLaw_659 : decode code 659 = .ok (.aload_n 0, 1) := by decide +kernel
theorem dLaw_660 : decode code 660 = .ok (.iload_n 3, 1) := by decide +kernel
theorem dLaw_661 : decode code 661 = .ok (.iconst (1), 1) := by decide +kernel
theorem dLaw_662 : decode code 662 = .ok (.iadd, 1) := by decide +kernel
theorem dLaw_663 : decode code 663 = .ok (.iaload, 1) := by decide +kernel
theorem dLaw_664 : decode code 664 = .ok (.invokevirtual 82, 3) := by decide +kernel
theorem dLaw_667 : decode code 667 = .ok (.if_icmp .eq (636), 3) := by decide +kernel
theorem dLaw_670 : decode code 670 = .ok (.iconst (0), 1) := by decide +kernel
theorem dLaw_671 : decode code 671 = .ok (.ireturn, 1) := by decide +kernel
theorem dLaw_672 : decode code 672 = .ok (.aload_n 1, 1) := by decide +kernel
theorem dLaw_673 : decode code 673 = .ok (.aload_n 0, 1) := by decide +kernel
theorem dLaw_674 : decode code 674 = .ok (.iload_n 3, 1) := by decide +kernel
theorem dLaw_675 : decode code 675 = .ok (.iconst (1), 1) := by decide +kernel
theorem dLaw_676 : decode code 676 = .ok (.iadd, 1) := by decide +kernel
theorem dLaw_677 : decode code 677 = .ok (.iaload, 1) := by decide +kernel
theorem dLaw_678 : decode code 678 = .ok (.invokevirtual 83, 3) := by decide +kernel
theorem dLaw_681 : decode code 681 = .ok (.aload_n 2, 1) := by decide +kernel
theorem dLaw_682 : decode code 682 = .ok (.aload_n 0, 1) := by decide +kernel
theorem dLaw_683 : decode code 683 = .ok (.iload_n 3, 1) := by decide +kernel
theorem dLaw_684 : decode code 684 = .ok (.iconst (1), 1) := by decide +kernel
theorem dLaw_685 : decode code 685 = .ok (.iadd, 1) := by decide +kernel
theorem dLaw_686 : decode code 686 = .ok (.iaload, 1) := by decide +kernel
theorem dLaw_687 : decode code 687 = .ok (.invokevirtual 86, 3) := by decide +kernel
theorem dLaw_690 : decode code 690 = .ok (.if_icmp .eq (613), 3) := by decide +kernel
theorem dLaw_693 : decode code 693 = .ok (.iconst (0), 1) := by decide +kernel
theorem dLaw_694 : decode code 694 = .ok (.ireturn, 1) := by decide +kernel
theorem dLaw_695 : decode code 695 = .ok (.aload_n 1, 1) := by decide +kernel
theorem dLaw_696 : decode code 696 = .ok (.aload_n 0, 1) := by decide +kernel
theorem dLaw_697 : decode code 697 = .ok (.iload_n 3, 1) := by decide +kernel
theorem dLaw_698 : decode code 698 = .ok (.iconst (1), 1) := by decide +kernel
theorem dLaw_699 : decode code 699 = .ok (.iadd, 1) := by decide +kernel
theorem dLaw_700 : decode code 700 = .ok (.iaload, 1) := by decide +kernel
theorem dLaw_701 : decode code 701 = .ok (.invokevirtual 87, 3) := by decide +kernel
theorem dLaw_704 : decode code 704 = .ok (.aload_n 2, 1) := by decide +kernel
theorem dLaw_705 : decode code 705 = .ok (.aload_n 0, 1) := by decide +kernel
theorem dLaw_706 : decode code 706 = .ok (.iload_n 3, 1) := by decide +kernel
theorem dLaw_707 : decode code 707 = .ok (.iconst (1), 1) := by decide +kernel
theorem dLaw_708 : decode code 708 = .ok (.iadd, 1) := by decide +kernel
theorem dLaw_709 : decode code 709 = .ok (.iaload, 1) := by decide +kernel
theorem dLaw_710 : decode code 710 = .ok (.invokevirtual 90, 3) := by decide +kernel
theorem dLaw_713 : decode code 713 = .ok (.if_icmp .eq (590), 3) := by decide +kernel
theorem dLaw_716 : decode code 716 = .ok (.iconst (0), 1) := by decide +kernel
theorem dLaw_717 : decode code 717 = .ok (.ireturn, 1) := by decide +kernel
theorem dLaw_718 : decode code 718 = .ok (.aload_n 1, 1) := by decide +kernel
theorem dLaw_719 : decode code 719 = .ok (.aload_n 0, 1) := by decide +kernel
theorem dLaw_720 : decode code 720 = .ok (.iload_n 3, 1) := by decide +kernel
theorem dLaw_721 : decode code 721 = .ok (.iconst (1), 1) := by decide +kernel
theorem dLaw_722 : decode code 722 = .ok (.iadd, 1) := by decide +kernel
theorem dLaw_723 : decode code 723 = .ok (.iaload, 1) := by decide +kernel
theorem dLaw_724 : decode code 724 = .ok (.invokevirtual 91, 3) := by decide +kernel
theorem dLaw_727 : decode code 727 = .ok (.aload_n 2, 1) := by decide +kernel
theorem dLaw_728 : decode code 728 = .ok (.aload_n 0, 1) := by decide +kernel
theorem dLaw_729 : decode code 729 = .ok (.iload_n 3, 1) := by decide +kernel
theorem dLaw_730 : decode code 730 = .ok (.iconst (1), 1) := by decide +kernel
theorem dLaw_731 : decode code 731 = .ok (.iadd, 1) := by decide +kernel
theorem dLaw_732 : decode code 732 = .ok (.iaload, 1) := by decide +kernel
theorem dLaw_733 : decode code 733 = .ok (.invokevirtual 94, 3) := by decide +kernel
theorem dLaw_736 : decode code 736 = .ok (.if_icmp .eq (567), 3) := by decide +kernel
theorem dLaw_739 : decode code 739 = .ok (.iconst (0), 1) := by decide +kernel
theorem dLaw_740 : decode code 740 = .ok (.ireturn, 1) := by decide +kernel
theorem dLaw_741 : decode code 741 = .ok (.aload_n 1, 1) := by decide +kernel
theorem dLaw_742 : decode code 742 = .ok (.aload_n 0, 1) := by decide +kernel
theorem dLaw_743 : decode code 743 = .ok (.iload_n 3, 1) := by decide +kernel
theorem dLaw_744 : decode code 744 = .ok (.iconst (1), 1) := by decide +kernel
theorem dLaw_745 : decode code 745 = .ok (.iadd, 1) := by decide +kernel
theorem dLaw_746 : decode code 746 = .ok (.iaload, 1) := by decide +kernel
theorem dLaw_747 : decode code 747 = .ok (.aload_n 0, 1) := by decide +kernel
theorem dLaw_748 : decode code 748 = .ok (.iload_n 3, 1) := by decide +kernel
theorem dLaw_749 : decode code 749 = .ok (.iconst (2), 1) := by decide +kernel
theorem dLaw_750 : decode code 750 = .ok (.iadd, 1) := by decide +kernel
theorem dLaw_751 : decode code 751 = .ok (.iaload, 1) := by decide +kernel
theorem dLaw_752 : decode code 752 = .ok (.aload_n 0, 1) := by decide +kernel
theorem dLaw_753 : decode code 753 = .ok (.iload_n 3, 1) := by decide +kernel
theorem dLaw_754 : decode code 754 = .ok (.iconst (3), 1) := by decide +kernel
theorem dLaw_755 : decode code 755 = .ok (.iadd, 1) := by decide +kernel
theorem dLaw_756 : decode code 756 = .ok (.iaload, 1) := by decide +kernel
theorem dLaw_757 : decode code 757 = .ok (.invokevirtual 95, 3) := by decide +kernel
theorem dLaw_760 : decode code 760 = .ok (.aload_n 2, 1) := by decide +kernel
theorem dLaw_761 : decode code 761 = .ok (.aload_n 0, 1) := by decide +kernel
theorem dLaw_762 : decode code 762 = .ok (.iload_n 3, 1) := by decide +kernel
theorem dLaw_763 : decode code 763 = .ok (.iconst (1), 1) := by decide +kernel
theorem dLaw_764 : decode code 764 = .ok (.iadd, 1) := by decide +kernel
theorem dLaw_765 : decode code 765 = .ok (.iaload, 1) := by decide +kernel
theorem dLaw_766 : decode code 766 = .ok (.aload_n 0, 1) := by decide +kernel
theorem dLaw_767 : decode code 767 = .ok (.iload_n 3, 1) := by decide +kernel
theorem dLaw_768 : decode code 768 = .ok (.iconst (2), 1) := by decide +kernel
theorem dLaw_769 : decode code 769 = .ok (.iadd, 1) := by decide +kernel
theorem dLaw_770 : decode code 770 = .ok (.iaload, 1) := by decide +kernel
theorem dLaw_771 : decode code 771 = .ok (.aload_n 0, 1) := by decide +kernel
theorem dLaw_772 : decode code 772 = .ok (.iload_n 3, 1) := by decide +kernel
theorem dLaw_773 : decode code 773 = .ok (.iconst (3), 1) := by decide +kernel
theorem dLaw_774 : decode code 774 = .ok (.iadd, 1) := by decide +kernel
theorem dLaw_775 : decode code 775 = .ok (.iaload, 1) := by decide +kernel
theorem dLaw_776 : decode code 776 = .ok (.invokevirtual 98, 3) := by decide +kernel
theorem dLaw_779 : decode code 779 = .ok (.if_icmp .eq (524), 3) := by decide +kernel
theorem dLaw_782 : decode code 782 = .ok (.iconst (0), 1) := by decide +kernel
theorem dLaw_783 : decode code 783 = .ok (.ireturn, 1) := by decide +kernel
theorem dLaw_784 : decode code 784 = .ok (.aload_n 1, 1) := by decide +kernel
theorem dLaw_785 : decode code 785 = .ok (.aload_n 0, 1) := by decide +kernel
theorem dLaw_786 : decode code 786 = .ok (.iload_n 3, 1) := by decide +kernel
theorem dLaw_787 : decode code 787 = .ok (.iconst (1), 1) := by decide +kernel
theorem dLaw_788 : decode code 788 = .ok (.iadd, 1) := by decide +kernel
theorem dLaw_789 : decode code 789 = .ok (.iaload, 1) := by decide +kernel
theorem dLaw_790 : decode code 790 = .ok (.aload_n 0, 1) := by decide +kernel
theorem dLaw_791 : decode code 791 = .ok (.iload_n 3, 1) := by decide +kernel
theorem dLaw_792 : decode code 792 = .ok (.iconst (2), 1) := by decide +kernel
theorem dLaw_793 : decode code 793 = .ok (.iadd, 1) := by decide +kernel
theorem dLaw_794 : decode code 794 = .ok (.iaload, 1) := by decide +kernel
theorem dLaw_795 : decode code 795 = .ok (.aload_n 0, 1) := by decide +kernel
theorem dLaw_796 : decode code 796 = .ok (.iload_n 3, 1) := by decide +kernel
theorem dLaw_797 : decode code 797 = .ok (.iconst (3), 1) := by decide +kernel
theorem dLaw_798 : decode code 798 = .ok (.iadd, 1) := by decide +kernel
theorem dLaw_799 : decode code 799 = .ok (.iaload, 1) := by decide +kernel
theorem dLaw_800 : decode code 800 = .ok (.invokevirtual 99, 3) := by decide +kernel
theorem dLaw_803 : decode code 803 = .ok (.aload_n 2, 1) := by decide +kernel
theorem dLaw_804 : decode code 804 = .ok (.aload_n 0, 1) := by decide +kernel
theorem dLaw_805 : decode code 805 = .ok (.iload_n 3, 1) := by decide +kernel
theorem dLaw_806 : decode code 806 = .ok (.iconst (1), 1) := by decide +kernel
theorem dLaw_807 : decode code 807 = .ok (.iadd, 1) := by decide +kernel
theorem dLaw_808 : decode code 808 = .ok (.iaload, 1) := by decide +kernel
theorem dLaw_809 : decode code 809 = .ok (.aload_n 0, 1) := by decide +kernel
theorem dLaw_810 : decode code 810 = .ok (.iload_n 3, 1) := by decide +kernel
theorem dLaw_811 : decode code 811 = .ok (.iconst (2), 1) := by decide +kernel
theorem dLaw_812 : decode code 812 = .ok (.iadd, 1) := by decide +kernel
theorem dLaw_813 : decode code 813 = .ok (.iaload, 1) := by decide +kernel
theorem dLaw_814 : decode code 814 = .ok (.aload_n 0, 1) := by decide +kernel
theorem dLaw_815 : decode code 815 = .ok (.iload_n 3, 1) := by decide +kernel
theorem dLaw_816 : decode code 816 = .ok (.iconst (3), 1) := by decide +kernel
theorem dLaw_817 : decode code 817 = .ok (.iadd, 1) := by decide +kernel
theorem dLaw_818 : decode code 818 = .ok (.iaload, 1) := by decide +kernel
theorem dLaw_819 : decode code 819 = .ok (.invokevirtual 102, 3) := by decide +kernel
theorem dLaw_822 : decode code 822 = .ok (.if_icmp .eq (481), 3) := by decide +kernel
theorem dLaw_825 : decode code 825 = .ok (.iconst (0), 1) := by decide +kernel
theorem dLaw_826 : decode code 826 = .ok (.ireturn, 1) := by decide +kernel
theorem dLaw_827 : decode code 827 = .ok (.aload_n 1, 1) := by decide +kernel
theorem dLaw_828 : decode code 828 = .ok (.aload_n 0, 1) := by decide +kernel
theorem dLaw_829 : decode code 829 = .ok (.iload_n 3, 1) := by decide +kernel
theorem dLaw_830 : decode code 830 = .ok (.iconst (1), 1) := by decide +kernel
theorem dLaw_831 : decode code 831 = .ok (.iadd, 1) := by decide +kernel
theorem dLaw_832 : decode code 832 = .ok (.iaload, 1) := by decide +kernel
theorem dLaw_833 : decode code 833 = .ok (.aload_n 0, 1) := by decide +kernel
theorem dLaw_834 : decode code 834 = .ok (.iload_n 3, 1) := by decide +kernel
theorem dLaw_835 : decode code 835 = .ok (.iconst (2), 1) := by decide +kernel
theorem dLaw_836 : decode code 836 = .ok (.iadd, 1) := by decide +kernel
theorem dLaw_837 : decode code 837 = .ok (.iaload, 1) := by decide +kernel
theorem dLaw_838 : decode code 838 = .ok (.invokevirtual 103, 3) := by decide +kernel
theorem dLaw_841 : decode code 841 = .ok (.aload_n 2, 1) := by decide +kernel
theorem dLaw_842 : decode code 842 = .ok (.aload_n 0, 1) := by decide +kernel
theorem dLaw_843 : decode code 843 = .ok (.iload_n 3, 1) := by decide +kernel
theorem dLaw_844 : decode code 844 = .ok (.iconst (1), 1) := by decide +kernel
theorem dLaw_845 : decode code 845 = .ok (.iadd, 1) := by decide +kernel
theorem dLaw_846 : decode code 846 = .ok (.iaload, 1) := by decide +kernel
theorem dLaw_847 : decode code 847 = .ok (.aload_n 0, 1) := by decide +kernel
theorem dLaw_848 : decode code 848 = .ok (.iload_n 3, 1) := by decide +kernel
theorem dLaw_849 : decode code 849 = .ok (.iconst (2), 1) := by decide +kernel
theorem dLaw_850 : decode code 850 = .ok (.iadd, 1) := by decide +kernel
theorem dLaw_851 : decode code 851 = .ok (.iaload, 1) := by decide +kernel
theorem dLaw_852 : decode code 852 = .ok (.invokevirtual 106, 3) := by decide +kernel
theorem dLaw_855 : decode code 855 = .ok (.if_icmp .eq (448), 3) := by decide +kernel
theorem dLaw_858 : decode code 858 = .ok (.iconst (0), 1) := by decide +kernel
theorem dLaw_859 : decode code 859 = .ok (.ireturn, 1) := by decide +kernel
theorem dLaw_860 : decode code 860 = .ok (.aload_n 1, 1) := by decide +kernel
theorem dLaw_861 : decode code 861 = .ok (.aload_n 0, 1) := by decide +kernel
theorem dLaw_862 : decode code 862 = .ok (.iload_n 3, 1) := by decide +kernel
theorem dLaw_863 : decode code 863 = .ok (.iconst (1), 1) := by decide +kernel
theorem dLaw_864 : decode code 864 = .ok (.iadd, 1) := by decide +kernel
theorem dLaw_865 : decode code 865 = .ok (.iaload, 1) := by decide +kernel
theorem dLaw_866 : decode code 866 = .ok (.aload_n 0, 1) := by decide +kernel
theorem dLaw_867 : decode code 867 = .ok (.iload_n 3, 1) := by decide +kernel
theorem dLaw_868 : decode code 868 = .ok (.iconst (2), 1) := by decide +kernel
theorem dLaw_869 : decode code 869 = .ok (.iadd, 1) := by decide +kernel
theorem dLaw_870 : decode code 870 = .ok (.iaload, 1) := by decide +kernel
theorem dLaw_871 : decode code 871 = .ok (.aload_n 0, 1) := by decide +kernel
theorem dLaw_872 : decode code 872 = .ok (.iload_n 3, 1) := by decide +kernel
theorem dLaw_873 : decode code 873 = .ok (.iconst (3), 1) := by decide +kernel
theorem dLaw_874 : decode code 874 = .ok (.iadd, 1) := by decide +kernel
theorem dLaw_875 : decode code 875 = .ok (.iaload, 1) := by decide +kernel
theorem dLaw_876 : decode code 876 = .ok (.invokevirtual 107, 3) := by decide +kernel
theorem dLaw_879 : decode code 879 = .ok (.aload_n 2, 1) := by decide +kernel
theorem dLaw_880 : decode code 880 = .ok (.aload_n 0, 1) := by decide +kernel
theorem dLaw_881 : decode code 881 = .ok (.iload_n 3, 1) := by decide +kernel
theorem dLaw_882 : decode code 882 = .ok (.iconst (1), 1) := by decide +kernel
theorem dLaw_883 : decode code 883 = .ok (.iadd, 1) := by decide +kernel
theorem dLaw_884 : decode code 884 = .ok (.iaload, 1) := by decide +kernel
theorem dLaw_885 : decode code 885 = .ok (.aload_n 0, 1) := by decide +kernel
theorem dLaw_886 : decode code 886 = .ok (.iload_n 3, 1) := by decide +kernel
theorem dLaw_887 : decode code 887 = .ok (.iconst (2), 1) := by decide +kernel
theorem dLaw_888 : decode code 888 = .ok (.iadd, 1) := by decide +kernel
theorem dLaw_889 : decode code 889 = .ok (.iaload, 1) := by decide +kernel
theorem dLaw_890 : decode code 890 = .ok (.aload_n 0, 1) := by decide +kernel
theorem dLaw_891 : decode code 891 = .ok (.iload_n 3, 1) := by decide +kernel
theorem dLaw_892 : decode code 892 = .ok (.iconst (3), 1) := by decide +kernel
theorem dLaw_893 : decode code 893 = .ok (.iadd, 1) := by decide +kernel
theorem dLaw_894 : decode code 894 = .ok (.iaload, 1) := by decide +kernel
theorem dLaw_895 : decode code 895 = .ok (.invokevirtual 110, 3) := by decide +kernel
theorem dLaw_898 : decode code 898 = .ok (.if_icmp .eq (405), 3) := by decide +kernel
theorem dLaw_901 : decode code 901 = .ok (.iconst (0), 1) := by decide +kernel
theorem dLaw_902 : decode code 902 = .ok (.ireturn, 1) := by decide +kernel
theorem dLaw_903 : decode code 903 = .ok (.aload_n 1, 1) := by decide +kernel
theorem dLaw_904 : decode code 904 = .ok (.aload_n 0, 1) := by decide +kernel
theorem dLaw_905 : decode code 905 = .ok (.iload_n 3, 1) := by decide +kernel
theorem dLaw_906 : decode code 906 = .ok (.iconst (1), 1) := by decide +kernel
theorem dLaw_907 : decode code 907 = .ok (.iadd, 1) := by decide +kernel
theorem dLaw_908 : decode code 908 = .ok (.iaload, 1) := by decide +kernel
theorem dLaw_909 : decode code 909 = .ok (.aload_n 0, 1) := by decide +kernel
theorem dLaw_910 : decode code 910 = .ok (.iload_n 3, 1) := by decide +kernel
theorem dLaw_911 : decode code 911 = .ok (.iconst (2), 1) := by decide +kernel
theorem dLaw_912 : decode code 912 = .ok (.iadd, 1) := by decide +kernel
theorem dLaw_913 : decode code 913 = .ok (.iaload, 1) := by decide +kernel
theorem dLaw_914 : decode code 914 = .ok (.invokevirtual 111, 3) := by decide +kernel
theorem dLaw_917 : decode code 917 = .ok (.aload_n 2, 1) := by decide +kernel
theorem dLaw_918 : decode code 918 = .ok (.aload_n 0, 1) := by decide +kernel
theorem dLaw_919 : decode code 919 = .ok (.iload_n 3, 1) := by decide +kernel
theorem dLaw_920 : decode code 920 = .ok (.iconst (1), 1) := by decide +kernel
theorem dLaw_921 : decode code 921 = .ok (.iadd, 1) := by decide +kernel
theorem dLaw_922 : decode code 922 = .ok (.iaload, 1) := by decide +kernel
theorem dLaw_923 : decode code 923 = .ok (.aload_n 0, 1) := by decide +kernel
theorem dLaw_924 : decode code 924 = .ok (.iload_n 3, 1) := by decide +kernel
theorem dLaw_925 : decode code 925 = .ok (.iconst (2), 1) := by decide +kernel
theorem dLaw_926 : decode code 926 = .ok (.iadd, 1) := by decide +kernel
theorem dLaw_927 : decode code 927 = .ok (.iaload, 1) := by decide +kernel
theorem dLaw_928 : decode code 928 = .ok (.invokevirtual 114, 3) := by decide +kernel
theorem dLaw_931 : decode code 931 = .ok (.if_icmp .eq (372), 3) := by decide +kernel
theorem dLaw_934 : decode code 934 = .ok (.iconst (0), 1) := by decide +kernel
theorem dLaw_935 : decode code 935 = .ok (.ireturn, 1) := by decide +kernel
theorem dLaw_936 : decode code 936 = .ok (.aload_n 1, 1) := by decide +kernel
theorem dLaw_937 : decode code 937 = .ok (.aload_n 0, 1) := by decide +kernel
theorem dLaw_938 : decode code 938 = .ok (.iload_n 3, 1) := by decide +kernel
theorem dLaw_939 : decode code 939 = .ok (.iconst (1), 1) := by decide +kernel
theorem dLaw_940 : decode code 940 = .ok (.iadd, 1) := by decide +kernel
theorem dLaw_941 : decode code 941 = .ok (.iaload, 1) := by decide +kernel
theorem dLaw_942 : decode code 942 = .ok (.invokevirtual 115, 3) := by decide +kernel
theorem dLaw_945 : decode code 945 = .ok (.aload_n 2, 1) := by decide +kernel
theorem dLaw_946 : decode code 946 = .ok (.aload_n 0, 1) := by decide +kernel
theorem dLaw_947 : decode code 947 = .ok (.iload_n 3, 1) := by decide +kernel
theorem dLaw_948 : decode code 948 = .ok (.iconst (1), 1) := by decide +kernel
theorem dLaw_949 : decode code 949 = .ok (.iadd, 1) := by decide +kernel
theorem dLaw_950 : decode code 950 = .ok (.iaload, 1) := by decide +kernel
theorem dLaw_951 : decode code 951 = .ok (.invokevirtual 118, 3) := by decide +kernel
theorem dLaw_954 : decode code 954 = .ok (.if_icmp .eq (349), 3) := by decide +kernel
theorem dLaw_957 : decode code 957 = .ok (.iconst (0), 1) := by decide +kernel
theorem dLaw_958 : decode code 958 = .ok (.ireturn, 1) := by decide +kernel
theorem dLaw_959 : decode code 959 = .ok (.aload_n 1, 1) := by decide +kernel
theorem dLaw_960 : decode code 960 = .ok (.aload_n 0, 1) := by decide +kernel
theorem dLaw_961 : decode code 961 = .ok (.iload_n 3, 1) := by decide +kernel
theorem dLaw_962 : decode code 962 = .ok (.iconst (1), 1) := by decide +kernel
theorem dLaw_963 : decode code 963 = .ok (.iadd, 1) := by decide +kernel
theorem dLaw_964 : decode code 964 = .ok (.iaload, 1) := by decide +kernel
theorem dLaw_965 : decode code 965 = .ok (.invokevirtual 119, 3) := by decide +kernel
theorem dLaw_968 : decode code 968 = .ok (.aload_n 2, 1) := by decide +kernel
theorem dLaw_969 : decode code 969 = .ok (.aload_n 0, 1) := by decide +kernel
theorem dLaw_970 : decode code 970 = .ok (.iload_n 3, 1) := by decide +kernel
theorem dLaw_971 : decode code 971 = .ok (.iconst (1), 1) := by decide +kernel
theorem dLaw_972 : decode code 972 = .ok (.iadd, 1) := by decide +kernel
theorem dLaw_973 : decode code 973 = .ok (.iaload, 1) := by decide +kernel
theorem dLaw_974 : decode code 974 = .ok (.invokevirtual 122, 3) := by decide +kernel
theorem dLaw_977 : decode code 977 = .ok (.if_icmp .eq (326), 3) := by decide +kernel
theorem dLaw_980 : decode code 980 = .ok (.iconst (0), 1) := by decide +kernel
theorem dLaw_981 : decode code 981 = .ok (.ireturn, 1) := by decide +kernel
theorem dLaw_982 : decode code 982 = .ok (.aload_n 1, 1) := by decide +kernel
theorem dLaw_983 : decode code 983 = .ok (.invokevirtual 123, 3) := by decide +kernel
theorem dLaw_986 : decode code 986 = .ok (.aload_n 2, 1) := by decide +kernel
theorem dLaw_987 : decode code 987 = .ok (.invokevirtual 126, 3) := by decide +kernel
theorem dLaw_990 : decode code 990 = .ok (.if_icmp .eq (313), 3) := by decide +kernel
theorem dLaw_993 : decode code 993 = .ok (.iconst (0), 1) := by decide +kernel
theorem dLaw_994 : decode code 994 = .ok (.ireturn, 1) := by decide +kernel
theorem dLaw_995 : decode code 995 = .ok (.aload_n 1, 1) := by decide +kernel
theorem dLaw_996 : decode code 996 = .ok (.aload_n 0, 1) := by decide +kernel
theorem dLaw_997 : decode code 997 = .ok (.iload_n 3, 1) := by decide +kernel
theorem dLaw_998 : decode code 998 = .ok (.iconst (1), 1) := by decide +kernel
theorem dLaw_999 : decode code 999 = .ok (.iadd, 1) := by decide +kernel
theorem dLaw_1000 : decode code 1000 = .ok (.iaload, 1) := by decide +kernel
theorem dLaw_1001 : decode code 1001 = .ok (.aload_n 0, 1) := by decide +kernel
theorem dLaw_1002 : decode code 1002 = .ok (.iload_n 3, 1) := by decide +kernel
theorem dLaw_1003 : decode code 1003 = .ok (.iconst (2), 1) := by decide +kernel
theorem dLaw_1004 : decode code 1004 = .ok (.iadd, 1) := by decide +kernel
theorem dLaw_1005 : decode code 1005 = .ok (.iaload, 1) := by decide +kernel
theorem dLaw_1006 : decode code 1006 = .ok (.invokevirtual 127, 3) := by decide +kernel
theorem dLaw_1009 : decode code 1009 = .ok (.aload_n 2, 1) := by decide +kernel
theorem dLaw_1010 : decode code 1010 = .ok (.aload_n 0, 1) := by decide +kernel
theorem dLaw_1011 : decode code 1011 = .ok (.iload_n 3, 1) := by decide +kernel
theorem dLaw_1012 : decode code 1012 = .ok (.iconst (1), 1) := by decide +kernel
theorem dLaw_1013 : decode code 1013 = .ok (.iadd, 1) := by decide +kernel
theorem dLaw_1014 : decode code 1014 = .ok (.iaload, 1) := by decide +kernel
theorem dLaw_1015 : decode code 1015 = .ok (.aload_n 0, 1) := by decide +kernel
theorem dLaw_1016 : decode code 1016 = .ok (.iload_n 3, 1) := by decide +kernel
theorem dLaw_1017 : decode code 1017 = .ok (.iconst (2), 1) := by decide +kernel
theorem dLaw_1018 : decode code 1018 = .ok (.iadd, 1) := by decide +kernel
theorem dLaw_1019 : decode code 1019 = .ok (.iaload, 1) := by decide +kernel
theorem dLaw_1020 : decode code 1020 = .ok (.invokevirtual 130, 3) := by decide +kernel
theorem dLaw_1023 : decode code 1023 = .ok (.if_icmp .eq (280), 3) := by decide +kernel
theorem dLaw_1026 : decode code 1026 = .ok (.iconst (0), 1) := by decide +kernel
theorem dLaw_1027 : decode code 1027 = .ok (.ireturn, 1) := by decide +kernel
theorem dLaw_1028 : decode code 1028 = .ok (.aload_n 1, 1) := by decide +kernel
theorem dLaw_1029 : decode code 1029 = .ok (.aload_n 0, 1) := by decide +kernel
theorem dLaw_1030 : decode code 1030 = .ok (.iload_n 3, 1) := by decide +kernel
theorem dLaw_1031 : decode code 1031 = .ok (.iconst (1), 1) := by decide +kernel
theorem dLaw_1032 : decode code 1032 = .ok (.iadd, 1) := by decide +kernel
theorem dLaw_1033 : decode code 1033 = .ok (.iaload, 1) := by decide +kernel
theorem dLaw_1034 : decode code 1034 = .ok (.aload_n 0, 1) := by decide +kernel
theorem dLaw_1035 : decode code 1035 = .ok (.iload_n 3, 1) := by decide +kernel
theorem dLaw_1036 : decode code 1036 = .ok (.iconst (2), 1) := by decide +kernel
theorem dLaw_1037 : decode code 1037 = .ok (.iadd, 1) := by decide +kernel
theorem dLaw_1038 : decode code 1038 = .ok (.iaload, 1) := by decide +kernel
theorem dLaw_1039 : decode code 1039 = .ok (.ifCond .eq (7), 3) := by decide +kernel
theorem dLaw_1042 : decode code 1042 = .ok (.iconst (1), 1) := by decide +kernel
theorem dLaw_1043 : decode code 1043 = .ok (.goto (4), 3) := by decide +kernel
theorem dLaw_1046 : decode code 1046 = .ok (.iconst (0), 1) := by decide +kernel
theorem dLaw_1047 : decode code 1047 = .ok (.invokevirtual 131, 3) := by decide +kernel
theorem dLaw_1050 : decode code 1050 = .ok (.aload_n 2, 1) := by decide +kernel
theorem dLaw_1051 : decode code 1051 = .ok (.aload_n 0, 1) := by decide +kernel
theorem dLaw_1052 : decode code 1052 = .ok (.iload_n 3, 1) := by decide +kernel
theorem dLaw_1053 : decode code 1053 = .ok (.iconst (1), 1) := by decide +kernel
theorem dLaw_1054 : decode code 1054 = .ok (.iadd, 1) := by decide +kernel
theorem dLaw_1055 : decode code 1055 = .ok (.iaload, 1) := by decide +kernel
theorem dLaw_1056 : decode code 1056 = .ok (.aload_n 0, 1) := by decide +kernel
theorem dLaw_1057 : decode code 1057 = .ok (.iload_n 3, 1) := by decide +kernel
theorem dLaw_1058 : decode code 1058 = .ok (.iconst (2), 1) := by decide +kernel
theorem dLaw_1059 : decode code 1059 = .ok (.iadd, 1) := by decide +kernel
theorem dLaw_1060 : decode code 1060 = .ok (.iaload, 1) := by decide +kernel
theorem dLaw_1061 : decode code 1061 = .ok (.ifCond .eq (7), 3) := by decide +kernel
theorem dLaw_1064 : decode code 1064 = .ok (.iconst (1), 1) := by decide +kernel
theorem dLaw_1065 : decode code 1065 = .ok (.goto (4), 3) := by decide +kernel
theorem dLaw_1068 : decode code 1068 = .ok (.iconst (0), 1) := by decide +kernel
theorem dLaw_1069 : decode code 1069 = .ok (.invokevirtual 135, 3) := by decide +kernel
theorem dLaw_1072 : decode code 1072 = .ok (.if_icmp .eq (231), 3) := by decide +kernel
theorem dLaw_1075 : decode code 1075 = .ok (.iconst (0), 1) := by decide +kernel
theorem dLaw_1076 : decode code 1076 = .ok (.ireturn, 1) := by decide +kernel
theorem dLaw_1077 : decode code 1077 = .ok (.aload_n 1, 1) := by decide +kernel
theorem dLaw_1078 : decode code 1078 = .ok (.invokevirtual 136, 3) := by decide +kernel
theorem dLaw_1081 : decode code 1081 = .ok (.aload_n 2, 1) := by decide +kernel
theorem dLaw_1082 : decode code 1082 = .ok (.invokevirtual 139, 3) := by decide +kernel
theorem dLaw_1085 : decode code 1085 = .ok (.if_icmp .eq (218), 3) := by decide +kernel
theorem dLaw_1088 : decode code 1088 = .ok (.iconst (0), 1) := by decide +kernel
theorem dLaw_1089 : decode code 1089 = .ok (.ireturn, 1) := by decide +kernel
theorem dLaw_1090 : decode code 1090 = .ok (.aload_n 1, 1) := by decide +kernel
theorem dLaw_1091 : decode code 1091 = .ok (.aload_n 0, 1) := by decide +kernel
theorem dLaw_1092 : decode code 1092 = .ok (.iload_n 3, 1) := by decide +kernel
theorem dLaw_1093 : decode code 1093 = .ok (.iconst (1), 1) := by decide +kernel
theorem dLaw_1094 : decode code 1094 = .ok (.iadd, 1) := by decide +kernel
theorem dLaw_1095 : decode code 1095 = .ok (.iaload, 1) := by decide +kernel
theorem dLaw_1096 : decode code 1096 = .ok (.invokevirtual 140, 3) := by decide +kernel
theorem dLaw_1099 : decode code 1099 = .ok (.aload_n 2, 1) := by decide +kernel
theorem dLaw_1100 : decode code 1100 = .ok (.aload_n 0, 1) := by decide +kernel
theorem dLaw_1101 : decode code 1101 = .ok (.iload_n 3, 1) := by decide +kernel
theorem dLaw_1102 : decode code 1102 = .ok (.iconst (1), 1) := by decide +kernel
theorem dLaw_1103 : decode code 1103 = .ok (.iadd, 1) := by decide +kernel
theorem dLaw_1104 : decode code 1104 = .ok (.iaload, 1) := by decide +kernel
theorem dLaw_1105 : decode code 1105 = .ok (.invokevirtual 143, 3) := by decide +kernel
theorem dLaw_1108 : decode code 1108 = .ok (.if_icmp .eq (195), 3) := by decide +kernel
theorem dLaw_1111 : decode code 1111 = .ok (.iconst (0), 1) := by decide +kernel
theorem dLaw_1112 : decode code 1112 = .ok (.ireturn, 1) := by decide +kernel
theorem dLaw_1113 : decode code 1113 = .ok (.aload_n 1, 1) := by decide +kernel
theorem dLaw_1114 : decode code 1114 = .ok (.aload_n 0, 1) := by decide +kernel
theorem dLaw_1115 : decode code 1115 = .ok (.iload_n 3, 1) := by decide +kernel
theorem dLaw_1116 : decode code 1116 = .ok (.iconst (1), 1) := by decide +kernel
theorem dLaw_1117 : decode code 1117 = .ok (.iadd, 1) := by decide +kernel
theorem dLaw_1118 : decode code 1118 = .ok (.iaload, 1) := by decide +kernel
theorem dLaw_1119 : decode code 1119 = .ok (.aload_n 0, 1) := by decide +kernel
theorem dLaw_1120 : decode code 1120 = .ok (.iload_n 3, 1) := by decide +kernel
theorem dLaw_1121 : decode code 1121 = .ok (.iconst (2), 1) := by decide +kernel
theorem dLaw_1122 : decode code 1122 = .ok (.iadd, 1) := by decide +kernel
theorem dLaw_1123 : decode code 1123 = .ok (.iaload, 1) := by decide +kernel
theorem dLaw_1124 : decode code 1124 = .ok (.ifCond .eq (7), 3) := by decide +kernel
theorem dLaw_1127 : decode code 1127 = .ok (.iconst (1), 1) := by decide +kernel
theorem dLaw_1128 : decode code 1128 = .ok (.goto (4), 3) := by decide +kernel
theorem dLaw_1131 : decode code 1131 = .ok (.iconst (0), 1) := by decide +kernel
theorem dLaw_1132 : decode code 1132 = .ok (.invokevirtual 144, 3) := by decide +kernel
theorem dLaw_1135 : decode code 1135 = .ok (.aload_n 2, 1) := by decide +kernel
theorem dLaw_1136 : decode code 1136 = .ok (.aload_n 0, 1) := by decide +kernel
theorem dLaw_1137 : decode code 1137 = .ok (.iload_n 3, 1) := by decide +kernel
theorem dLaw_1138 : decode code 1138 = .ok (.iconst (1), 1) := by decide +kernel
theorem dLaw_1139 : decode code 1139 = .ok (.iadd, 1) := by decide +kernel
theorem dLaw_1140 : decode code 1140 = .ok (.iaload, 1) := by decide +kernel
theorem dLaw_1141 : decode code 1141 = .ok (.aload_n 0, 1) := by decide +kernel
theorem dLaw_1142 : decode code 1142 = .ok (.iload_n 3, 1) := by decide +kernel
theorem dLaw_1143 : decode code 1143 = .ok (.iconst (2), 1) := by decide +kernel
theorem dLaw_1144 : decode code 1144 = .ok (.iadd, 1) := by decide +kernel
theorem dLaw_1145 : decode code 1145 = .ok (.iaload, 1) := by decide +kernel
theorem dLaw_1146 : decode code 1146 = .ok (.ifCond .eq (7), 3) := by decide +kernel
theorem dLaw_1149 : decode code 1149 = .ok (.iconst (1), 1) := by decide +kernel
theorem dLaw_1150 : decode code 1150 = .ok (.goto (4), 3) := by decide +kernel
theorem dLaw_1153 : decode code 1153 = .ok (.iconst (0), 1) := by decide +kernel
theorem dLaw_1154 : decode code 1154 = .ok (.invokevirtual 147, 3) := by decide +kernel
theorem dLaw_1157 : decode code 1157 = .ok (.if_icmp .eq (146), 3) := by decide +kernel
theorem dLaw_1160 : decode code 1160 = .ok (.iconst (0), 1) := by decide +kernel
theorem dLaw_1161 : decode code 1161 = .ok (.ireturn, 1) := by decide +kernel
theorem dLaw_1162 : decode code 1162 = .ok (.aload_n 1, 1) := by decide +kernel
theorem dLaw_1163 : decode code 1163 = .ok (.aload_n 0, 1) := by decide +kernel
theorem dLaw_1164 : decode code 1164 = .ok (.iload_n 3, 1) := by decide +kernel
theorem dLaw_1165 : decode code 1165 = .ok (.iconst (1), 1) := by decide +kernel
theorem dLaw_1166 : decode code 1166 = .ok (.iadd, 1) := by decide +kernel
theorem dLaw_1167 : decode code 1167 = .ok (.iaload, 1) := by decide +kernel
theorem dLaw_1168 : decode code 1168 = .ok (.invokevirtual 148, 3) := by decide +kernel
theorem dLaw_1171 : decode code 1171 = .ok (.aload_n 2, 1) := by decide +kernel
theorem dLaw_1172 : decode code 1172 = .ok (.aload_n 0, 1) := by decide +kernel
theorem dLaw_1173 : decode code 1173 = .ok (.iload_n 3, 1) := by decide +kernel
theorem dLaw_1174 : decode code 1174 = .ok (.iconst (1), 1) := by decide +kernel
theorem dLaw_1175 : decode code 1175 = .ok (.iadd, 1) := by decide +kernel
theorem dLaw_1176 : decode code 1176 = .ok (.iaload, 1) := by decide +kernel
theorem dLaw_1177 : decode code 1177 = .ok (.invokevirtual 151, 3) := by decide +kernel
theorem dLaw_1180 : decode code 1180 = .ok (.if_icmp .eq (123), 3) := by decide +kernel
theorem dLaw_1183 : decode code 1183 = .ok (.iconst (0), 1) := by decide +kernel
theorem dLaw_1184 : decode code 1184 = .ok (.ireturn, 1) := by decide +kernel
theorem dLaw_1185 : decode code 1185 = .ok (.aload_n 1, 1) := by decide +kernel
theorem dLaw_1186 : decode code 1186 = .ok (.invokevirtual 152, 3) := by decide +kernel
theorem dLaw_1189 : decode code 1189 = .ok (.aload_n 2, 1) := by decide +kernel
theorem dLaw_1190 : decode code 1190 = .ok (.invokevirtual 155, 3) := by decide +kernel
theorem dLaw_1193 : decode code 1193 = .ok (.if_icmp .eq (110), 3) := by decide +kernel
theorem dLaw_1196 : decode code 1196 = .ok (.iconst (0), 1) := by decide +kernel
theorem dLaw_1197 : decode code 1197 = .ok (.ireturn, 1) := by decide +kernel
theorem dLaw_1198 : decode code 1198 = .ok (.aload_n 1, 1) := by decide +kernel
theorem dLaw_1199 : decode code 1199 = .ok (.aload_n 0, 1) := by decide +kernel
theorem dLaw_1200 : decode code 1200 = .ok (.iload_n 3, 1) := by decide +kernel
theorem dLaw_1201 : decode code 1201 = .ok (.iconst (1), 1) := by decide +kernel
theorem dLaw_1202 : decode code 1202 = .ok (.iadd, 1) := by decide +kernel
theorem dLaw_1203 : decode code 1203 = .ok (.iaload, 1) := by decide +kernel
theorem dLaw_1204 : decode code 1204 = .ok (.invokevirtual 156, 3) := by decide +kernel
theorem dLaw_1207 : decode code 1207 = .ok (.aload_n 2, 1) := by decide +kernel
theorem dLaw_1208 : decode code 1208 = .ok (.aload_n 0, 1) := by decide +kernel
theorem dLaw_1209 : decode code 1209 = .ok (.iload_n 3, 1) := by decide +kernel
theorem dLaw_1210 : decode code 1210 = .ok (.iconst (1), 1) := by decide +kernel
theorem dLaw_1211 : decode code 1211 = .ok (.iadd, 1) := by decide +kernel
theorem dLaw_1212 : decode code 1212 = .ok (.iaload, 1) := by decide +kernel
theorem dLaw_1213 : decode code 1213 = .ok (.invokevirtual 159, 3) := by decide +kernel
theorem dLaw_1216 : decode code 1216 = .ok (.if_icmp .eq (87), 3) := by decide +kernel
theorem dLaw_1219 : decode code 1219 = .ok (.iconst (0), 1) := by decide +kernel
theorem dLaw_1220 : decode code 1220 = .ok (.ireturn, 1) := by decide +kernel
theorem dLaw_1221 : decode code 1221 = .ok (.aload_n 1, 1) := by decide +kernel
theorem dLaw_1222 : decode code 1222 = .ok (.aload_n 0, 1) := by decide +kernel
theorem dLaw_1223 : decode code 1223 = .ok (.iload_n 3, 1) := by decide +kernel
theorem dLaw_1224 : decode code 1224 = .ok (.iconst (1), 1) := by decide +kernel
theorem dLaw_1225 : decode code 1225 = .ok (.iadd, 1) := by decide +kernel
theorem dLaw_1226 : decode code 1226 = .ok (.iaload, 1) := by decide +kernel
theorem dLaw_1227 : decode code 1227 = .ok (.aload_n 0, 1) := by decide +kernel
theorem dLaw_1228 : decode code 1228 = .ok (.iload_n 3, 1) := by decide +kernel
theorem dLaw_1229 : decode code 1229 = .ok (.iconst (2), 1) := by decide +kernel
theorem dLaw_1230 : decode code 1230 = .ok (.iadd, 1) := by decide +kernel
theorem dLaw_1231 : decode code 1231 = .ok (.iaload, 1) := by decide +kernel
theorem dLaw_1232 : decode code 1232 = .ok (.invokevirtual 160, 3) := by decide +kernel
theorem dLaw_1235 : decode code 1235 = .ok (.aload_n 2, 1) := by decide +kernel
theorem dLaw_1236 : decode code 1236 = .ok (.aload_n 0, 1) := by decide +kernel
theorem dLaw_1237 : decode code 1237 = .ok (.iload_n 3, 1) := by decide +kernel
theorem dLaw_1238 : decode code 1238 = .ok (.iconst (1), 1) := by decide +kernel
theorem dLaw_1239 : decode code 1239 = .ok (.iadd, 1) := by decide +kernel
theorem dLaw_1240 : decode code 1240 = .ok (.iaload, 1) := by decide +kernel
theorem dLaw_1241 : decode code 1241 = .ok (.aload_n 0, 1) := by decide +kernel
theorem dLaw_1242 : decode code 1242 = .ok (.iload_n 3, 1) := by decide +kernel
theorem dLaw_1243 : decode code 1243 = .ok (.iconst (2), 1) := by decide +kernel
theorem dLaw_1244 : decode code 1244 = .ok (.iadd, 1) := by decide +kernel
theorem dLaw_1245 : decode code 1245 = .ok (.iaload, 1) := by decide +kernel
theorem dLaw_1246 : decode code 1246 = .ok (.invokevirtual 163, 3) := by decide +kernel
theorem dLaw_1249 : decode code 1249 = .ok (.if_icmp .eq (54), 3) := by decide +kernel
theorem dLaw_1252 : decode code 1252 = .ok (.iconst (0), 1) := by decide +kernel
theorem dLaw_1253 : decode code 1253 = .ok (.ireturn, 1) := by decide +kernel
theorem dLaw_1254 : decode code 1254 = .ok (.aload_n 1, 1) := by decide +kernel
theorem dLaw_1255 : decode code 1255 = .ok (.invokevirtual 164, 3) := by decide +kernel
theorem dLaw_1258 : decode code 1258 = .ok (.aload_n 2, 1) := by decide +kernel
theorem dLaw_1259 : decode code 1259 = .ok (.invokevirtual 167, 3) := by decide +kernel
theorem dLaw_1262 : decode code 1262 = .ok (.if_icmp .eq (41), 3) := by decide +kernel
theorem dLaw_1265 : decode code 1265 = .ok (.iconst (0), 1) := by decide +kernel
theorem dLaw_1266 : decode code 1266 = .ok (.ireturn, 1) := by decide +kernel
theorem dLaw_1267 : decode code 1267 = .ok (.aload_n 1, 1) := by decide +kernel
theorem dLaw_1268 : decode code 1268 = .ok (.aload_n 0, 1) := by decide +kernel
theorem dLaw_1269 : decode code 1269 = .ok (.iload_n 3, 1) := by decide +kernel
theorem dLaw_1270 : decode code 1270 = .ok (.iconst (1), 1) := by decide +kernel
theorem dLaw_1271 : decode code 1271 = .ok (.iadd, 1) := by decide +kernel
theorem dLaw_1272 : decode code 1272 = .ok (.iaload, 1) := by decide +kernel
theorem dLaw_1273 : decode code 1273 = .ok (.invokevirtual 168, 3) := by decide +kernel
theorem dLaw_1276 : decode code 1276 = .ok (.aload_n 2, 1) := by decide +kernel
theorem dLaw_1277 : decode code 1277 = .ok (.aload_n 0, 1) := by decide +kernel
theorem dLaw_1278 : decode code 1278 = .ok (.iload_n 3, 1) := by decide +kernel
theorem dLaw_1279 : decode code 1279 = .ok (.iconst (1), 1) := by decide +kernel
theorem dLaw_1280 : decode code 1280 = .ok (.iadd, 1) := by decide +kernel
theorem dLaw_1281 : decode code 1281 = .ok (.iaload, 1) := by decide +kernel
theorem dLaw_1282 : decode code 1282 = .ok (.invokevirtual 171, 3) := by decide +kernel
theorem dLaw_1285 : decode code 1285 = .ok (.if_icmp .eq (18), 3) := by decide +kernel
theorem dLaw_1288 : decode code 1288 = .ok (.iconst (0), 1) := by decide +kernel
theorem dLaw_1289 : decode code 1289 = .ok (.ireturn, 1) := by decide +kernel
theorem dLaw_1290 : decode code 1290 = .ok (.aload_n 1, 1) := by decide +kernel
theorem dLaw_1291 : decode code 1291 = .ok (.invokevirtual 172, 3) := by decide +kernel
theorem dLaw_1294 : decode code 1294 = .ok (.aload_n 2, 1) := by decide +kernel
theorem dLaw_1295 : decode code 1295 = .ok (.invokevirtual 176, 3) := by decide +kernel
theorem dLaw_1298 : decode code 1298 = .ok (.if_icmp .eq (5), 3) := by decide +kernel
theorem dLaw_1301 : decode code 1301 = .ok (.iconst (0), 1) := by decide +kernel
theorem dLaw_1302 : decode code 1302 = .ok (.ireturn, 1) := by decide +kernel
theorem dLaw_1303 : decode code 1303 = .ok (.iinc 3 (6), 3) := by decide +kernel
theorem dLaw_1306 : decode code 1306 = .ok (.goto (-1288), 3) := by decide +kernel
theorem dLaw_1309 : decode code 1309 = .ok (.iconst (1), 1) := by decide +kernel
theorem dLaw_1310 : decode code 1310 = .ok (.ireturn, 1) := by decide +kernel
