theorem dM_init_0 : decode prog_14_method_1_code 0 = .ok (.aload_n 0, 1) := by decide +kernel
theorem dM_init_1 : decode prog_14_method_1_code 1 = .ok (.invokespecial 1, 3) := by decide +kernel
theorem dM_init_4 : decode prog_14_method_1_code 4 = .ok (.aload_n 0, 1) := by decide +kernel
theorem dM_init_5 : decode prog_14_method_1_code 5 = .ok (.sipush (1600), 3) := by decide +kernel
theorem dM_init_8 : decode prog_14_method_1_code 8 = .ok (.newarray .int, 2) := by decide +kernel
theorem dM_init_10 : decode prog_14_method_1_code 10 = .ok (.putfield 7, 3) := by decide +kernel
theorem dM_init_13 : decode prog_14_method_1_code 13 = .ok (.aload_n 0, 1) := by decide +kernel
theorem dM_init_14 : decode prog_14_method_1_code 14 = .ok (.iconst (-1), 1) := by decide +kernel
theorem dM_init_15 : decode prog_14_method_1_code 15 = .ok (.putfield 13, 3) := by decide +kernel
theorem dM_init_18 : decode prog_14_method_1_code 18 = .ok (.aload_n 0, 1) := by decide +kernel
theorem dM_init_19 : decode prog_14_method_1_code 19 = .ok (.iconst (4), 1) := by decide +kernel
theorem dM_init_20 : decode prog_14_method_1_code 20 = .ok (.newarray .char, 2) := by decide +kernel
theorem dM_init_22 : decode prog_14_method_1_code 22 = .ok (.dup, 1) := by decide +kernel
theorem dM_init_23 : decode prog_14_method_1_code 23 = .ok (.iconst (0), 1) := by decide +kernel
theorem dM_init_24 : decode prog_14_method_1_code 24 = .ok (.bipush (114), 2) := by decide +kernel
theorem dM_init_26 : decode prog_14_method_1_code 26 = .ok (.castore, 1) := by decide +kernel
theorem dM_init_27 : decode prog_14_method_1_code 27 = .ok (.dup, 1) := by decide +kernel
theorem dM_init_28 : decode prog_14_method_1_code 28 = .ok (.iconst (1), 1) := by decide +kernel
theorem dM_init_29 : decode prog_14_method_1_code 29 = .ok (.bipush (117), 2) := by decide +kernel
theorem dM_init_31 : decode prog_14_method_1_code 31 = .ok (.castore, 1) := by decide +kernel
theorem dM_init_32 : decode prog_14_method_1_code 32 = .ok (.dup, 1) := by decide +kernel
theorem dM_init_33 : decode prog_14_method_1_code 33 = .ok (.iconst (2), 1) := by decide +kernel
theorem dM_init_34 : decode prog_14_method_1_code 34 = .ok (.bipush (108), 2) := by decide +kernel
theorem dM_init_36 : decode prog_14_method_1_code 36 = .ok (.castore, 1) := by decide +kernel
theorem dM_init_37 : decode prog_14_method_1_code 37 = .ok (.dup, 1) := by decide +kernel
theorem dM_init_38 : decode prog_14_method_1_code 38 = .ok (.iconst (3), 1) := by decide +kernel
theorem dM_init_39 : decode prog_14_method_1_code 39 = .ok (.bipush (101), 2) := by decide +kernel
theorem dM_init_41 : decode prog_14_method_1_code 41 = .ok (.castore, 1) := by decide +kernel
theorem dM_init_42 : decode prog_14_method_1_code 42 = .ok (.putfield 17, 3) := by decide +kernel
theorem dM_init_45 : decode prog_14_method_1_code 45 = .ok (.aload_n 0, 1) := by decide +kernel
theorem dM_init_46 : decode prog_14_method_1_code 46 = .ok (.iconst (5), 1) := by decide +kernel
theorem dM_init_47 : decode prog_14_method_1_code 47 = .ok (.newarray .char, 2) := by decide +kernel
theorem dM_init_49 : decode prog_14_method_1_code 49 = .ok (.dup, 1) := by decide +kernel
theorem dM_init_50 : decode prog_14_method_1_code 50 = .ok (.iconst (0), 1) := by decide +kernel
theorem dM_init_51 : decode prog_14_method_1_code 51 = .ok (.bipush (103), 2) := by decide +kernel
theorem dM_init_53 : decode prog_14_method_1_code 53 = .ok (.castore, 1) := by decide +kernel
theorem dM_init_54 : decode prog_14_method_1_code 54 = .ok (.dup, 1) := by decide +kernel
theorem dM_init_55 : decode prog_14_method_1_code 55 = .ok (.iconst (1), 1) := by decide +kernel
theorem dM_init_56 : decode prog_14_method_1_code 56 = .ok (.bipush (105), 2) := by decide +kernel
theorem dM_init_58 : decode prog_14_method_1_code 58 = .ok (.castore, 1) := by decide +kernel
theorem dM_init_59 : decode prog_14_method_1_code 59 = .ok (.dup, 1) := by decide +kernel
theorem dM_init_60 : decode prog_14_method_1_code 60 = .ok (.iconst (2), 1) := by decide +kernel
theorem dM_init_61 : decode prog_14_method_1_code 61 = .ok (.bipush (118), 2) := by decide +kernel
theorem dM_init_63 : decode prog_14_method_1_code 63 = .ok (.castore, 1) := by decide +kernel
theorem dM_init_64 : decode prog_14_method_1_code 64 = .ok (.dup, 1) := by decide +kernel
theorem dM_init_65 : decode prog_14_method_1_code 65 = .ok (.iconst (3), 1) := by decide +kernel
theorem dM_init_66 : decode prog_14_method_1_code 66 = .ok (.bipush (101), 2) := by decide +kernel
theorem dM_init_68 : decode prog_14_method_1_code 68 = .ok (.castore, 1) := by decide +kernel
theorem dM_init_69 : decode prog_14_method_1_code 69 = .ok (.dup, 1) := by decide +kernel
theorem dM_init_70 : decode prog_14_method_1_code 70 = .ok (.iconst (4), 1) := by decide +kernel
theorem dM_init_71 : decode prog_14_method_1_code 71 = .ok (.bipush (115), 2) := by decide +kernel
theorem dM_init_73 : decode prog_14_method_1_code 73 = .ok (.castore, 1) := by decide +kernel
theorem dM_init_74 : decode prog_14_method_1_code 74 = .ok (.putfield 21, 3) := by decide +kernel
theorem dM_init_77 : decode prog_14_method_1_code 77 = .ok (.aload_n 0, 1) := by decide +kernel
theorem dM_init_78 : decode prog_14_method_1_code 78 = .ok (.iconst (4), 1) := by decide +kernel
theorem dM_init_79 : decode prog_14_method_1_code 79 = .ok (.newarray .char, 2) := by decide +kernel
theorem dM_init_81 : decode prog_14_method_1_code 81 = .ok (.dup, 1) := by decide +kernel
theorem dM_init_82 : decode prog_14_method_1_code 82 = .ok (.iconst (0), 1) := by decide +kernel
theorem dM_init_83 : decode prog_14_method_1_code 83 = .ok (.bipush (115), 2) := by decide +kernel
theorem dM_init_85 : decode prog_14_method_1_code 85 = .ok (.castore, 1) := by decide +kernel
theorem dM_init_86 : decode prog_14_method_1_code 86 = .ok (.dup, 1) := by decide +kernel
theorem dM_init_87 : decode prog_14_method_1_code 87 = .ok (.iconst (1), 1) := by decide +kernel
theorem dM_init_88 : decode prog_14_method_1_code 88 = .ok (.bipush (116), 2) := by decide +kernel
theorem dM_init_90 : decode prog_14_method_1_code 90 = .ok (.castore, 1) := by decide +kernel
theorem dM_init_91 : decode prog_14_method_1_code 91 = .ok (.dup, 1) := by decide +kernel
theorem dM_init_92 : decode prog_14_method_1_code 92 = .ok (.iconst (2), 1) := by decide +kernel
theorem dM_init_93 : decode prog_14_method_1_code 93 = .ok (.bipush (101), 2) := by decide +kernel
theorem dM_init_95 : decode prog_14_method_1_code 95 = .ok (.castore, 1) := by decide +kernel
theorem dM_init_96 : decode prog_14_method_1_code 96 = .ok (.dup, 1) := by decide +kernel
theorem dM_init_97 : decode prog_14_method_1_code 97 = .ok (.iconst (3), 1) := by decide +kernel
theorem dM_init_98 : decode prog_14_method_1_code 98 = .ok (.bipush (112), 2) := by decide +kernel
theorem dM_init_100 : decode prog_14_method_1_code 100 = .ok (.castore, 1) := by decide +kernel
theorem dM_init_101 : decode prog_14_method_1_code 101 = .ok (.putfield 24, 3) := by decide +kernel
theorem dM_init_104 : decode prog_14_method_1_code 104 = .ok (.aload_n 0, 1) := by decide +kernel
theorem dM_init_105 : decode prog_14_method_1_code 105 = .ok (.iconst (2), 1) := by decide +kernel
theorem dM_init_106 : decode prog_14_method_1_code 106 = .ok (.newarray .char, 2) := by decide +kernel
theorem dM_init_108 : decode prog_14_method_1_code 108 = .ok (.dup, 1) := by decide +kernel
theorem dM_init_109 : decode prog_14_method_1_code 109 = .ok (.iconst (0), 1) := by decide +kernel
theorem dM_init_110 : decode prog_14_method_1_code 110 = .ok (.bipush (98), 2) := by decide +kernel
theorem dM_init_112 : decode prog_14_method_1_code 112 = .ok (.castore, 1) := by decide +kernel
theorem dM_init_113 : decode prog_14_method_1_code 113 = .ok (.dup, 1) := by decide +kernel
theorem dM_init_114 : decode prog_14_method_1_code 114 = .ok (.iconst (1), 1) := by decide +kernel
theorem dM_init_115 : decode prog_14_method_1_code 115 = .ok (.bipush (121), 2) := by decide +kernel
theorem dM_init_117 : decode prog_14_method_1_code 117 = .ok (.castore, 1) := by decide +kernel
theorem dM_init_118 : decode prog_14_method_1_code 118 = .ok (.putfield 27, 3) := by decide +kernel
theorem dM_init_121 : decode prog_14_method_1_code 121 = .ok (.aload_n 0, 1) := by decide +kernel
theorem dM_init_122 : decode prog_14_method_1_code 122 = .ok (.iconst (4), 1) := by decide +kernel
theorem dM_init_123 : decode prog_14_method_1_code 123 = .ok (.newarray .char, 2) := by decide +kernel
theorem dM_init_125 : decode prog_14_method_1_code 125 = .ok (.dup, 1) := by decide +kernel
theorem dM_init_126 : decode prog_14_method_1_code 126 = .ok (.iconst (0), 1) := by decide +kernel
theorem dM_init_127 : decode prog_14_method_1_code 127 = .ok (.bipush (103), 2) := by decide +kernel
theorem dM_init_129 : decode prog_14_method_1_code 129 = .ok (.castore, 1) := by decide +kernel
theorem dM_init_130 : decode prog_14_method_1_code 130 = .ok (.dup, 1) := by decide +kernel
theorem dM_init_131 : decode prog_14_method_1_code 131 = .ok (.iconst (1), 1) := by decide +kernel
theorem dM_init_132 : decode prog_14_method_1_code 132 = .ok (.bipush (111), 2) := by decide +kernel
theorem dM_init_134 : decode prog_14_method_1_code 134 = .ok (.castore, 1) := by decide +kernel
theorem dM_init_135 : decode prog_14_method_1_code 135 = .ok (.dup, 1) := by decide +kernel
theorem dM_init_136 : decode prog_14_method_1_code 136 = .ok (.iconst (2), 1) := by decide +kernel
theorem dM_init_137 : decode prog_14_method_1_code 137 = .ok (.bipush (97), 2) := by decide +kernel
theorem dM_init_139 : decode prog_14_method_1_code 139 = .ok (.castore, 1) := by decide +kernel
theorem dM_init_140 : decode prog_14_method_1_code 140 = .ok (.dup, 1) := by decide +kernel
theorem dM_init_141 : decode prog_14_method_1_code 141 = .ok (.iconst (3), 1) := by decide +kernel
theorem dM_init_142 : decode prog_14_method_1_code 142 = .ok (.bipush (108), 2) := by decide +kernel
theorem dM_init_144 : decode prog_14_method_1_code 144 = .ok (.castore, 1) := by decide +kernel
theorem dM_init_145 : decode prog_14_method_1_code 145 = .ok (.putfield 30, 3) := by decide +kernel
theorem dM_init_148 : decode prog_14_method_1_code 148 = .ok (.aload_n 0, 1) := by decide +kernel
theorem dM_init_149 : decode prog_14_method_1_code 149 = .ok (.bipush (6), 2) := by decide +kernel
theorem dM_init_151 : decode prog_14_method_1_code 151 = .ok (.newarray .char, 2) := by decide +kernel
theorem dM_init_153 : decode prog_14_method_1_code 153 = .ok (.dup, 1) := by decide +kernel
theorem dM_init_154 : decode prog_14_method_1_code 154 = .ok (.iconst (0), 1) := by decide +kernel
theorem dM_init_155 : decode prog_14_method_1_code 155 = .ok (.bipush (114), 2) := by decide +kernel
theorem dM_init_157 : decode prog_14_method_1_code 157 = .ok (.castore, 1) := by decide +kernel
theorem dM_init_158 : decode prog_14_method_1_code 158 = .ok (.dup, 1) := by decide +kernel
theorem dM_init_159 : decode prog_14_method_1_code 159 = .ok (.iconst (1), 1) := by decide +kernel
theorem dM_init_160 : decode prog_14_method_1_code 160 = .ok (.bipush (101), 2) := by decide +kernel
theorem dM_init_162 : decode prog_14_method_1_code 162 = .ok (.castore, 1) := by decide +kernel
theorem dM_init_163 : decode prog_14_method_1_code 163 = .ok (.dup, 1) := by decide +kernel
theorem dM_init_164 : decode prog_14_method_1_code 164 = .ok (.iconst (2), 1) := by decide +kernel
theorem dM_init_165 : decode prog_14_method_1_code 165 = .ok (.bipush (97), 2) := by decide +kernel
theorem dM_init_167 : decode prog_14_method_1_code 167 = .ok (.castore, 1) := by decide +kernel
theorem dM_init_168 : decode prog_14_method_1_code 168 = .ok (.dup, 1) := by decide +kernel
theorem dM_init_169 : decode prog_14_method_1_code 169 = .ok (.iconst (3), 1) := by decide +kernel
theorem dM_init_170 : decode prog_14_method_1_code 170 = .ok (.bipush (100), 2) := by decide +kernel
theorem dM_init_172 : decode prog_14_method_1_code 172 = .ok (.castore, 1) := by decide +kernel
theorem dM_init_173 : decode prog_14_method_1_code 173 = .ok (.dup, 1) := by decide +kernel
theorem dM_init_174 : decode prog_14_method_1_code 174 = .ok (.iconst (4), 1) := by decide +kernel
theorem dM_init_175 : decode prog_14_method_1_code 175 = .ok (.bipush (101), 2) := by decide +kernel
theorem dM_init_177 : decode prog_14_method_1_code 177 = .ok (.castore, 1) := by decide +kernel
theorem dM_init_178 : decode prog_14_method_1_code 178 = .ok (.dup, 1) := by decide +kernel
theorem dM_init_179 : decode prog_14_method_1_code 179 = .ok (.iconst (5), 1) := by decide +kernel
theorem dM_init_180 : decode prog_14_method_1_code 180 = .ok (.bipush (114), 2) := by decide +kernel
theorem dM_init_182 : decode prog_14_method_1_code 182 = .ok (.castore, 1) := by decide +kernel
theorem dM_init_183 : decode prog_14_method_1_code 183 = .ok (.putfield 33, 3) := by decide +kernel
theorem dM_init_186 : decode prog_14_method_1_code 186 = .ok (.aload_n 0, 1) := by decide +kernel
theorem dM_init_187 : decode prog_14_method_1_code 187 = .ok (.iconst (4), 1) := by decide +kernel
theorem dM_init_188 : decode prog_14_method_1_code 188 = .ok (.newarray .char, 2) := by decide +kernel
theorem dM_init_190 : decode prog_14_method_1_code 190 = .ok (.dup, 1) := by decide +kernel
theorem dM_init_191 : decode prog_14_method_1_code 191 = .ok (.iconst (0), 1) := by decide +kernel
theorem dM_init_192 : decode prog_14_method_1_code 192 = .ok (.bipush (111), 2) := by decide +kernel
theorem dM_init_194 : decode prog_14_method_1_code 194 = .ok (.castore, 1) := by decide +kernel
theorem dM_init_195 : decode prog_14_method_1_code 195 = .ok (.dup, 1) := by decide +kernel
theorem dM_init_196 : decode prog_14_method_1_code 196 = .ok (.iconst (1), 1) := by decide +kernel
theorem dM_init_197 : decode prog_14_method_1_code 197 = .ok (.bipush (100), 2) := by decide +kernel
theorem dM_init_199 : decode prog_14_method_1_code 199 = .ok (.castore, 1) := by decide +kernel
theorem dM_init_200 : decode prog_14_method_1_code 200 = .ok (.dup, 1) := by decide +kernel
theorem dM_init_201 : decode prog_14_method_1_code 201 = .ok (.iconst (2), 1) := by decide +kernel
theorem dM_init_202 : decode prog_14_method_1_code 202 = .ok (.bipush (100), 2) := by decide +kernel
theorem dM_init_204 : decode prog_14_method_1_code 204 = .ok (.castore, 1) := by decide +kernel
theorem dM_init_205 : decode prog_14_method_1_code 205 = .ok (.dup, 1) := by decide +kernel
theorem dM_init_206 : decode prog_14_method_1_code 206 = .ok (.iconst (3), 1) := by decide +kernel
theorem dM_init_207 : decode prog_14_method_1_code 207 = .ok (.bipush (115), 2) := by decide +kernel
theorem dM_init_209 : decode prog_14_method_1_code 209 = .ok (.castore, 1) := by decide +kernel
theorem dM_init_210 : decode prog_14_method_1_code 210 = .ok (.putfield 36, 3) := by decide +kernel
theorem dM_init_213 : decode prog_14_method_1_code 213 = .ok (.aload_n 0, 1) := by decide +kernel
theorem dM_init_214 : decode prog_14_method_1_code 214 = .ok (.iconst (4), 1) := by decide +kernel
theorem dM_init_215 : decode prog_14_method_1_code 215 = .ok (.newarray .char, 2) := by decide +kernel
theorem dM_init_217 : decode prog_14_method_1_code 217 = .ok (.dup, 1) := by decide +kernel
theorem dM_init_218 : decode prog_14_method_1_code 218 = .ok (.iconst (0), 1) := by decide +kernel
theorem dM_init_219 : decode prog_14_method_1_code 219 = .ok (.bipush (102), 2) := by decide +kernel
theorem dM_init_221 : decode prog_14_method_1_code 221 = .ok (.castore, 1) := by decide +kernel
theorem dM_init_222 : decode prog_14_method_1_code 222 = .ok (.dup, 1) := by decide +kernel
theorem dM_init_223 : decode prog_14_method_1_code 223 = .ok (.iconst (1), 1) := by decide +kernel
theorem dM_init_224 : decode prog_14_method_1_code 224 = .ok (.bipush (114), 2) := by decide +kernel
theorem dM_init_226 : decode prog_14_method_1_code 226 = .ok (.castore, 1) := by decide +kernel
theorem dM_init_227 : decode prog_14_method_1_code 227 = .ok (.dup, 1) := by decide +kernel
theorem dM_init_228 : decode prog_14_method_1_code 228 = .ok (.iconst (2), 1) := by decide +kernel
theorem dM_init_229 : decode prog_14_method_1_code 229 = .ok (.bipush (111), 2) := by decide +kernel
theorem dM_init_231 : decode prog_14_method_1_code 231 = .ok (.castore, 1) := by decide +kernel
theorem dM_init_232 : decode prog_14_method_1_code 232 = .ok (.dup, 1) := by decide +kernel
theorem dM_init_233 : decode prog_14_method_1_code 233 = .ok (.iconst (3), 1) := by decide +kernel
theorem dM_init_234 : decode prog_14_method_1_code 234 = .ok (.bipush (109), 2) := by decide +kernel
theorem dM_init_236 : decode prog_14_method_1_code 236 = .ok (.castore, 1) := by decide +kernel
theorem dM_init_237 : decode prog_14_method_1_code 237 = .ok (.putfield 39, 3) := by decide +kernel
theorem dM_init_240 : decode prog_14_method_1_code 240 = .ok (.aload_n 0, 1) := by decide +kernel
theorem dM_init_241 : decode prog_14_method_1_code 241 = .ok (.iconst (2), 1) := by decide +kernel
theorem dM_init_242 : decode prog_14_method_1_code 242 = .ok (.newarray .char, 2) := by decide +kernel
theorem dM_init_244 : decode prog_14_method_1_code 244 = .ok (.dup, 1) := by decide +kernel
theorem dM_init_245 : decode prog_14_method_1_code 245 = .ok (.iconst (0), 1) := by decide +kernel
theorem dM_init_246 : decode prog_14_method_1_code 246 = .ok (.bipush (116), 2) := by decide +kernel
theorem dM_init_248 : decode prog_14_method_1_code 248 = .ok (.castore, 1) := by decide +kernel
theorem dM_init_249 : decode prog_14_method_1_code 249 = .ok (.dup, 1) := by decide +kernel
theorem dM_init_250 : decode prog_14_method_1_code 250 = .ok (.iconst (1), 1) := by decide +kernel
theorem dM_init_251 : decode prog_14_method_1_code 251 = .ok (.bipush (111), 2) := by decide +kernel
theorem dM_init_253 : decode prog_14_method_1_code 253 = .ok (.castore, 1) := by decide +kernel
theorem dM_init_254 : decode prog_14_method_1_code 254 = .ok (.putfield 42, 3) := by decide +kernel
theorem dM_init_257 : decode prog_14_method_1_code 257 = .ok (.aload_n 0, 1) := by decide +kernel
theorem dM_init_258 : decode prog_14_method_1_code 258 = .ok (.bipush (10), 2) := by decide +kernel
theorem dM_init_260 : decode prog_14_method_1_code 260 = .ok (.newarray .int, 2) := by decide +kernel
theorem dM_init_262 : decode prog_14_method_1_code 262 = .ok (.putfield 45, 3) := by decide +kernel
theorem dM_init_265 : decode prog_14_method_1_code 265 = .ok (.aload_n 0, 1) := by decide +kernel
theorem dM_init_266 : decode prog_14_method_1_code 266 = .ok (.sipush (192), 3) := by decide +kernel
theorem dM_init_269 : decode prog_14_method_1_code 269 = .ok (.newarray .long, 2) := by decide +kernel
theorem dM_init_271 : decode prog_14_method_1_code 271 = .ok (.putfield 48, 3) := by decide +kernel
theorem dM_init_274 : decode prog_14_method_1_code 274 = .ok (.aload_n 0, 1) := by decide +kernel
theorem dM_init_275 : decode prog_14_method_1_code 275 = .ok (.bipush (48), 2) := by decide +kernel
theorem dM_init_277 : decode prog_14_method_1_code 277 = .ok (.newarray .int, 2) := by decide +kernel
theorem dM_init_279 : decode prog_14_method_1_code 279 = .ok (.putfield 52, 3) := by decide +kernel
theorem dM_init_282 : decode prog_14_method_1_code 282 = .ok (.aload_n 0, 1) := by decide +kernel
theorem dM_init_283 : decode prog_14_method_1_code 283 = .ok (.sipush (800), 3) := by decide +kernel
theorem dM_init_286 : decode prog_14_method_1_code 286 = .ok (.newarray .int, 2) := by decide +kernel
theorem dM_init_288 : decode prog_14_method_1_code 288 = .ok (.putfield 55, 3) := by decide +kernel
theorem dM_init_291 : decode prog_14_method_1_code 291 = .ok (.aload_n 0, 1) := by decide +kernel
theorem dM_init_292 : decode prog_14_method_1_code 292 = .ok (.sipush (176), 3) := by decide +kernel
theorem dM_init_295 : decode prog_14_method_1_code 295 = .ok (.newarray .int, 2) := by decide +kernel
theorem dM_init_297 : decode prog_14_method_1_code 297 = .ok (.putfield 58, 3) := by decide +kernel
theorem dM_init_300 : decode prog_14_method_1_code 300 = .ok (.aload_n 0, 1) := by decide +kernel
theorem dM_init_301 : decode prog_14_method_1_code 301 = .ok (.sipush (176), 3) := by decide +kernel
theorem dM_init_304 : decode prog_14_method_1_code 304 = .ok (.newarray .int, 2) := by decide +kernel
theorem dM_init_306 : decode prog_14_method_1_code 306 = .ok (.putfield 61, 3) := by decide +kernel
theorem dM_init_309 : decode prog_14_method_1_code 309 = .ok (.aload_n 0, 1) := by decide +kernel
theorem dM_init_310 : decode prog_14_method_1_code 310 = .ok (.bipush (24), 2) := by decide +kernel
theorem dM_init_312 : decode prog_14_method_1_code 312 = .ok (.newarray .int, 2) := by decide +kernel
theorem dM_init_314 : decode prog_14_method_1_code 314 = .ok (.putfield 64, 3) := by decide +kernel
theorem dM_init_317 : decode prog_14_method_1_code 317 = .ok (.aload_n 0, 1) := by decide +kernel
theorem dM_init_318 : decode prog_14_method_1_code 318 = .ok (.bipush (80), 2) := by decide +kernel
theorem dM_init_320 : decode prog_14_method_1_code 320 = .ok (.newarray .int, 2) := by decide +kernel
theorem dM_init_322 : decode prog_14_method_1_code 322 = .ok (.putfield 67, 3) := by decide +kernel
theorem dM_init_325 : decode prog_14_method_1_code 325 = .ok (.aload_n 0, 1) := by decide +kernel
theorem dM_init_326 : decode prog_14_method_1_code 326 = .ok (.sipush (240), 3) := by decide +kernel
theorem dM_init_329 : decode prog_14_method_1_code 329 = .ok (.newarray .int, 2) := by decide +kernel
theorem dM_init_331 : decode prog_14_method_1_code 331 = .ok (.putfield 70, 3) := by decide +kernel
theorem dM_init_334 : decode prog_14_method_1_code 334 = .ok (.aload_n 0, 1) := by decide +kernel
theorem dM_init_335 : decode prog_14_method_1_code 335 = .ok (.bipush (12), 2) := by decide +kernel
theorem dM_init_337 : decode prog_14_method_1_code 337 = .ok (.newarray .int, 2) := by decide +kernel
theorem dM_init_339 : decode prog_14_method_1_code 339 = .ok (.putfield 73, 3) := by decide +kernel
theorem dM_init_342 : decode prog_14_method_1_code 342 = .ok (.aload_n 0, 1) := by decide +kernel
theorem dM_init_343 : decode prog_14_method_1_code 343 = .ok (.bipush (12), 2) := by decide +kernel
theorem dM_init_345 : decode prog_14_method_1_code 345 = .ok (.newarray .int, 2) := by decide +kernel
theorem dM_init_347 : decode prog_14_method_1_code 347 = .ok (.putfield 76, 3) := by decide +kernel
theorem dM_init_350 : decode prog_14_method_1_code 350 = .ok (.aload_n 0, 1) := by decide +kernel
theorem dM_init_351 : decode prog_14_method_1_code 351 = .ok (.bipush (12), 2) := by decide +kernel
theorem dM_init_353 : decode prog_14_method_1_code 353 = .ok (.newarray .int, 2) := by decide +kernel
theorem dM_init_355 : decode prog_14_method_1_code 355 = .ok (.putfield 79, 3) := by decide +kernel
theorem dM_init_358 : decode prog_14_method_1_code 358 = .ok (.aload_n 0, 1) := by decide +kernel
theorem dM_init_359 : decode prog_14_method_1_code 359 = .ok (.bipush (7), 2) := by decide +kernel
theorem dM_init_361 : decode prog_14_method_1_code 361 = .ok (.newarray .int, 2) := by decide +kernel
theorem dM_init_363 : decode prog_14_method_1_code 363 = .ok (.putfield 82, 3) := by decide +kernel
theorem dM_init_366 : decode prog_14_method_1_code 366 = .ok (.aload_n 0, 1) := by decide +kernel
theorem dM_init_367 : decode prog_14_method_1_code 367 = .ok (.bipush (7), 2) := by decide +kernel
theorem dM_init_369 : decode prog_14_method_1_code 369 = .ok (.newarray .int, 2) := by decide +kernel
theorem dM_init_371 : decode prog_14_method_1_code 371 = .ok (.putfield 85, 3) := by decide +kernel
theorem dM_init_374 : decode prog_14_method_1_code 374 = .ok (.aload_n 0, 1) := by decide +kernel
theorem dM_init_375 : decode prog_14_method_1_code 375 = .ok (.bipush (7), 2) := by decide +kernel
theorem dM_init_377 : decode prog_14_method_1_code 377 = .ok (.newarray .int, 2) := by decide +kernel
theorem dM_init_379 : decode prog_14_method_1_code 379 = .ok (.putfield 88, 3) := by decide +kernel
theorem dM_init_382 : decode prog_14_method_1_code 382 = .ok (.aload_n 0, 1) := by decide +kernel
theorem dM_init_383 : decode prog_14_method_1_code 383 = .ok (.bipush (12), 2) := by decide +kernel
theorem dM_init_385 : decode prog_14_method_1_code 385 = .ok (.newarray .int, 2) := by decide +kernel
theorem dM_init_387 : decode prog_14_method_1_code 387 = .ok (.putfield 91, 3) := by decide +kernel
theorem dM_init_390 : decode prog_14_method_1_code 390 = .ok (.aload_n 0, 1) := by decide +kernel
theorem dM_init_391 : decode prog_14_method_1_code 391 = .ok (.bipush (40), 2) := by decide +kernel
theorem dM_init_393 : decode prog_14_method_1_code 393 = .ok (.newarray .int, 2) := by decide +kernel
theorem dM_init_395 : decode prog_14_method_1_code 395 = .ok (.putfield 94, 3) := by decide +kernel
theorem dM_init_398 : decode prog_14_method_1_code 398 = .ok (.aload_n 0, 1) := by decide +kernel
theorem dM_init_399 : decode prog_14_method_1_code 399 = .ok (.bipush (40), 2) := by decide +kernel
theorem dM_init_401 : decode prog_14_method_1_code 401 = .ok (.newarray .long, 2) := by decide +kernel
theorem dM_init_403 : decode prog_14_method_1_code 403 = .ok (.putfield 97, 3) := by decide +kernel
theorem dM_init_406 : decode prog_14_method_1_code 406 = .ok (.aload_n 0, 1) := by decide +kernel
theorem dM_init_407 : decode prog_14_method_1_code 407 = .ok (.bipush (40), 2) := by decide +kernel
theorem dM_init_409 : decode prog_14_method_1_code 409 = .ok (.newarray .int, 2) := by decide +kernel
theorem dM_init_411 : decode prog_14_method_1_code 411 = .ok (.putfield 100, 3) := by decide +kernel
theorem dM_init_414 : decode prog_14_method_1_code 414 = .ok (.aload_n 0, 1) := by decide +kernel
theorem dM_init_415 : decode prog_14_method_1_code 415 = .ok (.bipush (40), 2) := by decide +kernel
theorem dM_init_417 : decode prog_14_method_1_code 417 = .ok (.newarray .int, 2) := by decide +kernel
theorem dM_init_419 : decode prog_14_method_1_code 419 = .ok (.putfield 103, 3) := by decide +kernel
theorem dM_init_422 : decode prog_14_method_1_code 422 = .ok (.aload_n 0, 1) := by decide +kernel
theorem dM_init_423 : decode prog_14_method_1_code 423 = .ok (.bipush (12), 2) := by decide +kernel
theorem dM_init_425 : decode prog_14_method_1_code 425 = .ok (.newarray .boolean, 2) := by decide +kernel
theorem dM_init_427 : decode prog_14_method_1_code 427 = .ok (.putfield 106, 3) := by decide +kernel
theorem dM_init_430 : decode prog_14_method_1_code 430 = .ok (.aload_n 0, 1) := by decide +kernel
theorem dM_init_431 : decode prog_14_method_1_code 431 = .ok (.bipush (40), 2) := by decide +kernel
theorem dM_init_433 : decode prog_14_method_1_code 433 = .ok (.newarray .boolean, 2) := by decide +kernel
theorem dM_init_435 : decode prog_14_method_1_code 435 = .ok (.putfield 110, 3) := by decide +kernel
theorem dM_init_438 : decode prog_14_method_1_code 438 = .ok (.aload_n 0, 1) := by decide +kernel
theorem dM_init_439 : decode prog_14_method_1_code 439 = .ok (.bipush (6), 2) := by decide +kernel
theorem dM_init_441 : decode prog_14_method_1_code 441 = .ok (.newarray .boolean, 2) := by decide +kernel
theorem dM_init_443 : decode prog_14_method_1_code 443 = .ok (.putfield 113, 3) := by decide +kernel
theorem dM_init_446 : decode prog_14_method_1_code 446 = .ok (.aload_n 0, 1) := by decide +kernel
theorem dM_init_447 : decode prog_14_method_1_code 447 = .ok (.bipush (40), 2) := by decide +kernel
theorem dM_init_449 : decode prog_14_method_1_code 449 = .ok (.newarray .int, 2) := by decide +kernel
theorem dM_init_451 : decode prog_14_method_1_code 451 = .ok (.putfield 116, 3) := by decide +kernel
theorem dM_init_454 : decode prog_14_method_1_code 454 = .ok (.aload_n 0, 1) := by decide +kernel
theorem dM_init_455 : decode prog_14_method_1_code 455 = .ok (.bipush (40), 2) := by decide +kernel
theorem dM_init_457 : decode prog_14_method_1_code 457 = .ok (.newarray .boolean, 2) := by decide +kernel
theorem dM_init_459 : decode prog_14_method_1_code 459 = .ok (.putfield 119, 3) := by decide +kernel
theorem dM_init_462 : decode prog_14_method_1_code 462 = .ok (.aload_n 0, 1) := by decide +kernel
theorem dM_init_463 : decode prog_14_method_1_code 463 = .ok (.bipush (24), 2) := by decide +kernel
theorem dM_init_465 : decode prog_14_method_1_code 465 = .ok (.newarray .int, 2) := by decide +kernel
theorem dM_init_467 : decode prog_14_method_1_code 467 = .ok (.putfield 122, 3) := by decide +kernel
theorem dM_init_470 : decode prog_14_method_1_code 470 = .ok (.aload_n 0, 1) := by decide +kernel
theorem dM_init_471 : decode prog_14_method_1_code 471 = .ok (.bipush (24), 2) := by decide +kernel
theorem dM_init_473 : decode prog_14_method_1_code 473 = .ok (.newarray .int, 2) := by decide +kernel
theorem dM_init_475 : decode prog_14_method_1_code 475 = .ok (.putfield 125, 3) := by decide +kernel
theorem dM_init_478 : decode prog_14_method_1_code 478 = .ok (.aload_n 0, 1) := by decide +kernel
theorem dM_init_479 : decode prog_14_method_1_code 479 = .ok (.bipush (24), 2) := by decide +kernel
theorem dM_init_481 : decode prog_14_method_1_code 481 = .ok (.newarray .int, 2) := by decide +kernel
theorem dM_init_483 : decode prog_14_method_1_code 483 = .ok (.putfield 128, 3) := by decide +kernel
theorem dM_init_486 : decode prog_14_method_1_code 486 = .ok (.aload_n 0, 1) := by decide +kernel
theorem dM_init_487 : decode prog_14_method_1_code 487 = .ok (.sipush (16384), 3) := by decide +kernel
theorem dM_init_490 : decode prog_14_method_1_code 490 = .ok (.newarray .int, 2) := by decide +kernel
theorem dM_init_492 : decode prog_14_method_1_code 492 = .ok (.putfield 131, 3) := by decide +kernel
theorem dM_init_495 : decode prog_14_method_1_code 495 = .ok (.aload_n 0, 1) := by decide +kernel
theorem dM_init_496 : decode prog_14_method_1_code 496 = .ok (.bipush (40), 2) := by decide +kernel
theorem dM_init_498 : decode prog_14_method_1_code 498 = .ok (.newarray .int, 2) := by decide +kernel
theorem dM_init_500 : decode prog_14_method_1_code 500 = .ok (.putfield 134, 3) := by decide +kernel
theorem dM_init_503 : decode prog_14_method_1_code 503 = .ok (.aload_n 0, 1) := by decide +kernel
theorem dM_init_504 : decode prog_14_method_1_code 504 = .ok (.bipush (40), 2) := by decide +kernel
theorem dM_init_506 : decode prog_14_method_1_code 506 = .ok (.newarray .int, 2) := by decide +kernel
theorem dM_init_508 : decode prog_14_method_1_code 508 = .ok (.putfield 137, 3) := by decide +kernel
theorem dM_init_511 : decode prog_14_method_1_code 511 = .ok (.aload_n 0, 1) := by decide +kernel
theorem dM_init_512 : decode prog_14_method_1_code 512 = .ok (.sipush (1722), 3) := by decide +kernel
theorem dM_init_515 : decode prog_14_method_1_code 515 = .ok (.newarray .int, 2) := by decide +kernel
theorem dM_init_517 : decode prog_14_method_1_code 517 = .ok (.putfield 140, 3) := by decide +kernel
theorem dM_init_520 : decode prog_14_method_1_code 520 = .ok (.aload_n 0, 1) := by decide +kernel
theorem dM_init_521 : decode prog_14_method_1_code 521 = .ok (.bipush (40), 2) := by decide +kernel
theorem dM_init_523 : decode prog_14_method_1_code 523 = .ok (.newarray .int, 2) := by decide +kernel
theorem dM_init_525 : decode prog_14_method_1_code 525 = .ok (.putfield 143, 3) := by decide +kernel
theorem dM_init_528 : decode prog_14_method_1_code 528 = .ok (.aload_n 0, 1) := by decide +kernel
theorem dM_init_529 : decode prog_14_method_1_code 529 = .ok (.lconst 1, 1) := by decide +kernel
theorem dM_init_530 : decode prog_14_method_1_code 530 = .ok (.putfield 146, 3) := by decide +kernel
theorem dM_init_533 : decode prog_14_method_1_code 533 = .ok (.aload_n 0, 1) := by decide +kernel
theorem dM_init_534 : decode prog_14_method_1_code 534 = .ok (.iconst (4), 1) := by decide +kernel
theorem dM_init_535 : decode prog_14_method_1_code 535 = .ok (.newarray .int, 2) := by decide +kernel
theorem dM_init_537 : decode prog_14_method_1_code 537 = .ok (.putfield 150, 3) := by decide +kernel
theorem dM_init_540 : decode prog_14_method_1_code 540 = .ok (.return_, 1) := by decide +kernel
theorem dM_feed_0 : decode prog_14_method_3_code 0 = .ok (.aload_n 0, 1) := by decide +kernel
theorem dM_feed_1 : decode prog_14_method_3_code 1 = .ok (.getfield 153, 3) := by decide +kernel
theorem dM_feed_4 : decode prog_14_method_3_code 4 = .ok (.bipush (20), 2) := by decide +kernel
theorem dM_feed_6 : decode prog_14_method_3_code 6 = .ok (.iadd, 1) := by decide +kernel
theorem dM_feed_7 : decode prog_14_method_3_code 7 = .ok (.sipush (1600), 3) := by decide +kernel
theorem dM_feed_10 : decode prog_14_method_3_code 10 = .ok (.if_icmp .le (5), 3) := by decide +kernel
theorem dM_feed_13 : decode prog_14_method_3_code 13 = .ok (.iconst (-1), 1) := by decide +kernel
theorem dM_feed_14 : decode prog_14_method_3_code 14 = .ok (.ireturn, 1) := by decide +kernel
theorem dM_feed_15 : decode prog_14_method_3_code 15 = .ok (.iconst (0), 1) := by decide +kernel
theorem dM_feed_16 : decode prog_14_method_3_code 16 = .ok (.istore 6, 2) := by decide +kernel
theorem dM_feed_18 : decode prog_14_method_3_code 18 = .ok (.iload 6, 2) := by decide +kernel
theorem dM_feed_20 : decode prog_14_method_3_code 20 = .ok (.bipush (20), 2) := by decide +kernel
theorem dM_feed_22 : decode prog_14_method_3_code 22 = .ok (.if_icmp .ge (92), 3) := by decide +kernel
theorem dM_feed_25 : decode prog_14_method_3_code 25 = .ok (.iload 6, 2) := by decide +kernel
theorem dM_feed_27 : decode prog_14_method_3_code 27 = .ok (.iconst (4), 1) := by decide +kernel
theorem dM_feed_28 : decode prog_14_method_3_code 28 = .ok (.if_icmp .ge (7), 3) := by decide +kernel
theorem dM_feed_31 : decode prog_14_method_3_code 31 = .ok (.iload_n 1, 1) := by decide +kernel
theorem dM_feed_32 : decode prog_14_method_3_code 32 = .ok (.goto (39), 3) := by decide +kernel
theorem dM_feed_35 : decode prog_14_method_3_code 35 = .ok (.iload 6, 2) := by decide +kernel
theorem dM_feed_37 : decode prog_14_method_3_code 37 = .ok (.bipush (8), 2) := by decide +kernel
theorem dM_feed_39 : decode prog_14_method_3_code 39 = .ok (.if_icmp .ge (7), 3) := by decide +kernel
theorem dM_feed_42 : decode prog_14_method_3_code 42 = .ok (.iload_n 2, 1) := by decide +kernel
theorem dM_feed_43 : decode prog_14_method_3_code 43 = .ok (.goto (28), 3) := by decide +kernel
theorem dM_feed_46 : decode prog_14_method_3_code 46 = .ok (.iload 6, 2) := by decide +kernel
theorem dM_feed_48 : decode prog_14_method_3_code 48 = .ok (.bipush (12), 2) := by decide +kernel
theorem dM_feed_50 : decode prog_14_method_3_code 50 = .ok (.if_icmp .ge (7), 3) := by decide +kernel
theorem dM_feed_53 : decode prog_14_method_3_code 53 = .ok (.iload_n 3, 1) := by decide +kernel
theorem dM_feed_54 : decode prog_14_method_3_code 54 = .ok (.goto (17), 3) := by decide +kernel
theorem dM_feed_57 : decode prog_14_method_3_code 57 = .ok (.iload 6, 2) := by decide +kernel
theorem dM_feed_59 : decode prog_14_method_3_code 59 = .ok (.bipush (16), 2) := by decide +kernel
theorem dM_feed_61 : decode prog_14_method_3_code 61 = .ok (.if_icmp .ge (8), 3) := by decide +kernel
theorem dM_feed_64 : decode prog_14_method_3_code 64 = .ok (.iload 4, 2) := by decide +kernel
theorem dM_feed_66 : decode prog_14_method_3_code 66 = .ok (.goto (5), 3) := by decide +kernel
theorem dM_feed_69 : decode prog_14_method_3_code 69 = .ok (.iload 5, 2) := by decide +kernel
theorem dM_feed_71 : decode prog_14_method_3_code 71 = .ok (.istore 7, 2) := by decide +kernel
theorem dM_feed_73 : decode prog_14_method_3_code 73 = .ok (.aload_n 0, 1) := by decide +kernel
theorem dM_feed_74 : decode prog_14_method_3_code 74 = .ok (.getfield 7, 3) := by decide +kernel
theorem dM_feed_77 : decode prog_14_method_3_code 77 = .ok (.aload_n 0, 1) := by decide +kernel
theorem dM_feed_78 : decode prog_14_method_3_code 78 = .ok (.getfield 153, 3) := by decide +kernel
theorem dM_feed_81 : decode prog_14_method_3_code 81 = .ok (.iload 7, 2) := by decide +kernel
theorem dM_feed_83 : decode prog_14_method_3_code 83 = .ok (.bipush (8), 2) := by decide +kernel
theorem dM_feed_85 : decode prog_14_method_3_code 85 = .ok (.iconst (3), 1) := by decide +kernel
theorem dM_feed_86 : decode prog_14_method_3_code 86 = .ok (.iload 6, 2) := by decide +kernel
theorem dM_feed_88 : decode prog_14_method_3_code 88 = .ok (.iconst (4), 1) := by decide +kernel
theorem dM_feed_89 : decode prog_14_method_3_code 89 = .ok (.irem, 1) := by decide +kernel
theorem dM_feed_90 : decode prog_14_method_3_code 90 = .ok (.isub, 1) := by decide +kernel
theorem dM_feed_91 : decode prog_14_method_3_code 91 = .ok (.imul, 1) := by decide +kernel
theorem dM_feed_92 : decode prog_14_method_3_code 92 = .ok (.ishr, 1) := by decide +kernel
theorem dM_feed_93 : decode prog_14_method_3_code 93 = .ok (.sipush (255), 3) := by decide +kernel
theorem dM_feed_96 : decode prog_14_method_3_code 96 = .ok (.iand, 1) := by decide +kernel
theorem dM_feed_97 : decode prog_14_method_3_code 97 = .ok (.iastore, 1) := by decide +kernel
theorem dM_feed_98 : decode prog_14_method_3_code 98 = .ok (.aload_n 0, 1) := by decide +kernel
theorem dM_feed_99 : decode prog_14_method_3_code 99 = .ok (.dup, 1) := by decide +kernel
theorem dM_feed_100 : decode prog_14_method_3_code 100 = .ok (.getfield 153, 3) := by decide +kernel
theorem dM_feed_103 : decode prog_14_method_3_code 103 = .ok (.iconst (1), 1) := by decide +kernel
theorem dM_feed_104 : decode prog_14_method_3_code 104 = .ok (.iadd, 1) := by decide +kernel
theorem dM_feed_105 : decode prog_14_method_3_code 105 = .ok (.putfield 153, 3) := by decide +kernel
theorem dM_feed_108 : decode prog_14_method_3_code 108 = .ok (.iinc 6 (1), 3) := by decide +kernel
theorem dM_feed_111 : decode prog_14_method_3_code 111 = .ok (.goto (-93), 3) := by decide +kernel
theorem dM_feed_114 : decode prog_14_method_3_code 114 = .ok (.aload_n 0, 1) := by decide +kernel
theorem dM_feed_115 : decode prog_14_method_3_code 115 = .ok (.getfield 153, 3) := by decide +kernel
theorem dM_feed_118 : decode prog_14_method_3_code 118 = .ok (.ireturn, 1) := by decide +kernel
theorem dM_end_0 : decode prog_14_method_4_code 0 = .ok (.iload_n 1, 1) := by decide +kernel
theorem dM_end_1 : decode prog_14_method_4_code 1 = .ok (.ifCond .lt (11), 3) := by decide +kernel
theorem dM_end_4 : decode prog_14_method_4_code 4 = .ok (.iload_n 1, 1) := by decide +kernel
theorem dM_end_5 : decode prog_14_method_4_code 5 = .ok (.aload_n 0, 1) := by decide +kernel
theorem dM_end_6 : decode prog_14_method_4_code 6 = .ok (.getfield 153, 3) := by decide +kernel
theorem dM_end_9 : decode prog_14_method_4_code 9 = .ok (.if_icmp .le (5), 3) := by decide +kernel
theorem dM_end_12 : decode prog_14_method_4_code 12 = .ok (.iconst (0), 1) := by decide +kernel
theorem dM_end_13 : decode prog_14_method_4_code 13 = .ok (.ireturn, 1) := by decide +kernel
theorem dM_end_14 : decode prog_14_method_4_code 14 = .ok (.aload_n 0, 1) := by decide +kernel
theorem dM_end_15 : decode prog_14_method_4_code 15 = .ok (.iload_n 1, 1) := by decide +kernel
theorem dM_end_16 : decode prog_14_method_4_code 16 = .ok (.putfield 153, 3) := by decide +kernel
theorem dM_end_19 : decode prog_14_method_4_code 19 = .ok (.iconst (1), 1) := by decide +kernel
theorem dM_end_20 : decode prog_14_method_4_code 20 = .ok (.ireturn, 1) := by decide +kernel
theorem dM_proof_0 : decode prog_14_method_30_code 0 = .ok (.aload_n 0, 1) := by decide +kernel
theorem dM_proof_1 : decode prog_14_method_30_code 1 = .ok (.aload_n 0, 1) := by decide +kernel
theorem dM_proof_2 : decode prog_14_method_30_code 2 = .ok (.getfield 153, 3) := by decide +kernel
theorem dM_proof_5 : decode prog_14_method_30_code 5 = .ok (.putfield 165, 3) := by decide +kernel
theorem dM_proof_8 : decode prog_14_method_30_code 8 = .ok (.aload_n 0, 1) := by decide +kernel
theorem dM_proof_9 : decode prog_14_method_30_code 9 = .ok (.iconst (0), 1) := by decide +kernel
theorem dM_proof_10 : decode prog_14_method_30_code 10 = .ok (.putfield 153, 3) := by decide +kernel
theorem dM_proof_13 : decode prog_14_method_30_code 13 = .ok (.aload_n 0, 1) := by decide +kernel
theorem dM_proof_14 : decode prog_14_method_30_code 14 = .ok (.iconst (0), 1) := by decide +kernel
theorem dM_proof_15 : decode prog_14_method_30_code 15 = .ok (.putfield 162, 3) := by decide +kernel
theorem dM_proof_18 : decode prog_14_method_30_code 18 = .ok (.aload_n 0, 1) := by decide +kernel
theorem dM_proof_19 : decode prog_14_method_30_code 19 = .ok (.iconst (-1), 1) := by decide +kernel
theorem dM_proof_20 : decode prog_14_method_30_code 20 = .ok (.putfield 176, 3) := by decide +kernel
theorem dM_proof_23 : decode prog_14_method_30_code 23 = .ok (.aload_n 0, 1) := by decide +kernel
theorem dM_proof_24 : decode prog_14_method_30_code 24 = .ok (.iconst (0), 1) := by decide +kernel
theorem dM_proof_25 : decode prog_14_method_30_code 25 = .ok (.putfield 156, 3) := by decide +kernel
theorem dM_proof_28 : decode prog_14_method_30_code 28 = .ok (.aload_n 0, 1) := by decide +kernel
theorem dM_proof_29 : decode prog_14_method_30_code 29 = .ok (.iconst (-1), 1) := by decide +kernel
theorem dM_proof_30 : decode prog_14_method_30_code 30 = .ok (.putfield 159, 3) := by decide +kernel
theorem dM_proof_33 : decode prog_14_method_30_code 33 = .ok (.aload_n 0, 1) := by decide +kernel
theorem dM_proof_34 : decode prog_14_method_30_code 34 = .ok (.iconst (0), 1) := by decide +kernel
theorem dM_proof_35 : decode prog_14_method_30_code 35 = .ok (.putfield 264, 3) := by decide +kernel
theorem dM_proof_38 : decode prog_14_method_30_code 38 = .ok (.aload_n 0, 1) := by decide +kernel
theorem dM_proof_39 : decode prog_14_method_30_code 39 = .ok (.iconst (0), 1) := by decide +kernel
theorem dM_proof_40 : decode prog_14_method_30_code 40 = .ok (.putfield 219, 3) := by decide +kernel
theorem dM_proof_43 : decode prog_14_method_30_code 43 = .ok (.aload_n 0, 1) := by decide +kernel
theorem dM_proof_44 : decode prog_14_method_30_code 44 = .ok (.iconst (-1), 1) := by decide +kernel
theorem dM_proof_45 : decode prog_14_method_30_code 45 = .ok (.putfield 276, 3) := by decide +kernel
theorem dM_proof_48 : decode prog_14_method_30_code 48 = .ok (.iconst (0), 1) := by decide +kernel
theorem dM_proof_49 : decode prog_14_method_30_code 49 = .ok (.istore_n 1, 1) := by decide +kernel
theorem dM_proof_50 : decode prog_14_method_30_code 50 = .ok (.iload_n 1, 1) := by decide +kernel
theorem dM_proof_51 : decode prog_14_method_30_code 51 = .ok (.iconst (5), 1) := by decide +kernel
theorem dM_proof_52 : decode prog_14_method_30_code 52 = .ok (.if_icmp .ge (16), 3) := by decide +kernel
theorem dM_proof_55 : decode prog_14_method_30_code 55 = .ok (.aload_n 0, 1) := by decide +kernel
theorem dM_proof_56 : decode prog_14_method_30_code 56 = .ok (.getfield 45, 3) := by decide +kernel
theorem dM_proof_59 : decode prog_14_method_30_code 59 = .ok (.iload_n 1, 1) := by decide +kernel
theorem dM_proof_60 : decode prog_14_method_30_code 60 = .ok (.iconst (0), 1) := by decide +kernel
theorem dM_proof_61 : decode prog_14_method_30_code 61 = .ok (.iastore, 1) := by decide +kernel
theorem dM_proof_62 : decode prog_14_method_30_code 62 = .ok (.iinc 1 (1), 3) := by decide +kernel
theorem dM_proof_65 : decode prog_14_method_30_code 65 = .ok (.goto (-15), 3) := by decide +kernel
theorem dM_proof_68 : decode prog_14_method_30_code 68 = .ok (.aload_n 0, 1) := by decide +kernel
theorem dM_proof_69 : decode prog_14_method_30_code 69 = .ok (.getfield 156, 3) := by decide +kernel
theorem dM_proof_72 : decode prog_14_method_30_code 72 = .ok (.ifCond .ne (18), 3) := by decide +kernel
theorem dM_proof_75 : decode prog_14_method_30_code 75 = .ok (.aload_n 0, 1) := by decide +kernel
theorem dM_proof_76 : decode prog_14_method_30_code 76 = .ok (.invokevirtual 168, 3) := by decide +kernel
theorem dM_proof_79 : decode prog_14_method_30_code 79 = .ok (.iconst (-1), 1) := by decide +kernel
theorem dM_proof_80 : decode prog_14_method_30_code 80 = .ok (.if_icmp .eq (10), 3) := by decide +kernel
theorem dM_proof_83 : decode prog_14_method_30_code 83 = .ok (.aload_n 0, 1) := by decide +kernel
theorem dM_proof_84 : decode prog_14_method_30_code 84 = .ok (.invokevirtual 279, 3) := by decide +kernel
theorem dM_proof_87 : decode prog_14_method_30_code 87 = .ok (.goto (-19), 3) := by decide +kernel
theorem dM_proof_90 : decode prog_14_method_30_code 90 = .ok (.aload_n 0, 1) := by decide +kernel
theorem dM_proof_91 : decode prog_14_method_30_code 91 = .ok (.aload_n 0, 1) := by decide +kernel
theorem dM_proof_92 : decode prog_14_method_30_code 92 = .ok (.getfield 156, 3) := by decide +kernel
theorem dM_proof_95 : decode prog_14_method_30_code 95 = .ok (.putfield 282, 3) := by decide +kernel
theorem dM_proof_98 : decode prog_14_method_30_code 98 = .ok (.aload_n 0, 1) := by decide +kernel
theorem dM_proof_99 : decode prog_14_method_30_code 99 = .ok (.aload_n 0, 1) := by decide +kernel
theorem dM_proof_100 : decode prog_14_method_30_code 100 = .ok (.getfield 159, 3) := by decide +kernel
theorem dM_proof_103 : decode prog_14_method_30_code 103 = .ok (.putfield 13, 3) := by decide +kernel
theorem dM_proof_106 : decode prog_14_method_30_code 106 = .ok (.aload_n 0, 1) := by decide +kernel
theorem dM_proof_107 : decode prog_14_method_30_code 107 = .ok (.getfield 156, 3) := by decide +kernel
theorem dM_proof_110 : decode prog_14_method_30_code 110 = .ok (.ifCond .eq (5), 3) := by decide +kernel
theorem dM_proof_113 : decode prog_14_method_30_code 113 = .ok (.iconst (-1), 1) := by decide +kernel
theorem dM_proof_114 : decode prog_14_method_30_code 114 = .ok (.ireturn, 1) := by decide +kernel
theorem dM_proof_115 : decode prog_14_method_30_code 115 = .ok (.aload_n 0, 1) := by decide +kernel
theorem dM_proof_116 : decode prog_14_method_30_code 116 = .ok (.invokevirtual 285, 3) := by decide +kernel
theorem dM_proof_119 : decode prog_14_method_30_code 119 = .ok (.aload_n 0, 1) := by decide +kernel
theorem dM_proof_120 : decode prog_14_method_30_code 120 = .ok (.getfield 264, 3) := by decide +kernel
theorem dM_proof_123 : decode prog_14_method_30_code 123 = .ok (.ireturn, 1) := by decide +kernel
theorem dM_look_0 : decode prog_14_method_8_code 0 = .ok (.aload_n 0, 1) := by decide +kernel
theorem dM_look_1 : decode prog_14_method_8_code 1 = .ok (.getfield 162, 3) := by decide +kernel
theorem dM_look_4 : decode prog_14_method_8_code 4 = .ok (.aload_n 0, 1) := by decide +kernel
theorem dM_look_5 : decode prog_14_method_8_code 5 = .ok (.getfield 165, 3) := by decide +kernel
theorem dM_look_8 : decode prog_14_method_8_code 8 = .ok (.if_icmp .ge (44), 3) := by decide +kernel
theorem dM_look_11 : decode prog_14_method_8_code 11 = .ok (.aload_n 0, 1) := by decide +kernel
theorem dM_look_12 : decode prog_14_method_8_code 12 = .ok (.getfield 7, 3) := by decide +kernel
theorem dM_look_15 : decode prog_14_method_8_code 15 = .ok (.aload_n 0, 1) := by decide +kernel
theorem dM_look_16 : decode prog_14_method_8_code 16 = .ok (.getfield 162, 3) := by decide +kernel
theorem dM_look_19 : decode prog_14_method_8_code 19 = .ok (.iaload, 1) := by decide +kernel
theorem dM_look_20 : decode prog_14_method_8_code 20 = .ok (.bipush (10), 2) := by decide +kernel
theorem dM_look_22 : decode prog_14_method_8_code 22 = .ok (.if_icmp .eq (17), 3) := by decide +kernel
theorem dM_look_25 : decode prog_14_method_8_code 25 = .ok (.aload_n 0, 1) := by decide +kernel
theorem dM_look_26 : decode prog_14_method_8_code 26 = .ok (.getfield 7, 3) := by decide +kernel
theorem dM_look_29 : decode prog_14_method_8_code 29 = .ok (.aload_n 0, 1) := by decide +kernel
theorem dM_look_30 : decode prog_14_method_8_code 30 = .ok (.getfield 162, 3) := by decide +kernel
theorem dM_look_33 : decode prog_14_method_8_code 33 = .ok (.iaload, 1) := by decide +kernel
theorem dM_look_34 : decode prog_14_method_8_code 34 = .ok (.bipush (32), 2) := by decide +kernel
theorem dM_look_36 : decode prog_14_method_8_code 36 = .ok (.if_icmp .ne (16), 3) := by decide +kernel
theorem dM_look_39 : decode prog_14_method_8_code 39 = .ok (.aload_n 0, 1) := by decide +kernel
theorem dM_look_40 : decode prog_14_method_8_code 40 = .ok (.dup, 1) := by decide +kernel
theorem dM_look_41 : decode prog_14_method_8_code 41 = .ok (.getfield 162, 3) := by decide +kernel
theorem dM_look_44 : decode prog_14_method_8_code 44 = .ok (.iconst (1), 1) := by decide +kernel
theorem dM_look_45 : decode prog_14_method_8_code 45 = .ok (.iadd, 1) := by decide +kernel
theorem dM_look_46 : decode prog_14_method_8_code 46 = .ok (.putfield 162, 3) := by decide +kernel
theorem dM_look_49 : decode prog_14_method_8_code 49 = .ok (.goto (-49), 3) := by decide +kernel
theorem dM_look_52 : decode prog_14_method_8_code 52 = .ok (.aload_n 0, 1) := by decide +kernel
theorem dM_look_53 : decode prog_14_method_8_code 53 = .ok (.getfield 162, 3) := by decide +kernel
theorem dM_look_56 : decode prog_14_method_8_code 56 = .ok (.aload_n 0, 1) := by decide +kernel
theorem dM_look_57 : decode prog_14_method_8_code 57 = .ok (.getfield 165, 3) := by decide +kernel
theorem dM_look_60 : decode prog_14_method_8_code 60 = .ok (.if_icmp .ge (15), 3) := by decide +kernel
theorem dM_look_63 : decode prog_14_method_8_code 63 = .ok (.aload_n 0, 1) := by decide +kernel
theorem dM_look_64 : decode prog_14_method_8_code 64 = .ok (.getfield 7, 3) := by decide +kernel
theorem dM_look_67 : decode prog_14_method_8_code 67 = .ok (.aload_n 0, 1) := by decide +kernel
theorem dM_look_68 : decode prog_14_method_8_code 68 = .ok (.getfield 162, 3) := by decide +kernel
theorem dM_look_71 : decode prog_14_method_8_code 71 = .ok (.iaload, 1) := by decide +kernel
theorem dM_look_72 : decode prog_14_method_8_code 72 = .ok (.goto (4), 3) := by decide +kernel
theorem dM_look_75 : decode prog_14_method_8_code 75 = .ok (.iconst (-1), 1) := by decide +kernel
theorem dM_look_76 : decode prog_14_method_8_code 76 = .ok (.ireturn, 1) := by decide +kernel
theorem dM_proofTold_0 : decode prog_14_method_29_code 0 = .ok (.aload_n 0, 1) := by decide +kernel
theorem dM_proofTold_1 : decode prog_14_method_29_code 1 = .ok (.getfield 162, 3) := by decide +kernel
theorem dM_proofTold_4 : decode prog_14_method_29_code 4 = .ok (.istore_n 1, 1) := by decide +kernel
theorem dM_proofTold_5 : decode prog_14_method_29_code 5 = .ok (.aload_n 0, 1) := by decide +kernel
theorem dM_proofTold_6 : decode prog_14_method_29_code 6 = .ok (.getfield 264, 3) := by decide +kernel
theorem dM_proofTold_9 : decode prog_14_method_29_code 9 = .ok (.bipush (80), 2) := by decide +kernel
theorem dM_proofTold_11 : decode prog_14_method_29_code 11 = .ok (.if_icmp .ne (10), 3) := by decide +kernel
theorem dM_proofTold_14 : decode prog_14_method_29_code 14 = .ok (.aload_n 0, 1) := by decide +kernel
theorem dM_proofTold_15 : decode prog_14_method_29_code 15 = .ok (.iconst (5), 1) := by decide +kernel
theorem dM_proofTold_16 : decode prog_14_method_29_code 16 = .ok (.iload_n 1, 1) := by decide +kernel
theorem dM_proofTold_17 : decode prog_14_method_29_code 17 = .ok (.invokevirtual 186, 3) := by decide +kernel
theorem dM_proofTold_20 : decode prog_14_method_29_code 20 = .ok (.return_, 1) := by decide +kernel
theorem dM_proofTold_21 : decode prog_14_method_29_code 21 = .ok (.aload_n 0, 1) := by decide +kernel
theorem dM_proofTold_22 : decode prog_14_method_29_code 22 = .ok (.aload_n 0, 1) := by decide +kernel
theorem dM_proofTold_23 : decode prog_14_method_29_code 23 = .ok (.getfield 17, 3) := by decide +kernel
theorem dM_proofTold_26 : decode prog_14_method_29_code 26 = .ok (.invokevirtual 183, 3) := by decide +kernel
theorem dM_proofTold_29 : decode prog_14_method_29_code 29 = .ok (.ifCond .eq (11), 3) := by decide +kernel
theorem dM_proofTold_32 : decode prog_14_method_29_code 32 = .ok (.aload_n 0, 1) := by decide +kernel
theorem dM_proofTold_33 : decode prog_14_method_29_code 33 = .ok (.iload_n 1, 1) := by decide +kernel
theorem dM_proofTold_34 : decode prog_14_method_29_code 34 = .ok (.invokevirtual 267, 3) := by decide +kernel
theorem dM_proofTold_37 : decode prog_14_method_29_code 37 = .ok (.goto (66), 3) := by decide +kernel
theorem dM_proofTold_40 : decode prog_14_method_29_code 40 = .ok (.aload_n 0, 1) := by decide +kernel
theorem dM_proofTold_41 : decode prog_14_method_29_code 41 = .ok (.aload_n 0, 1) := by decide +kernel
theorem dM_proofTold_42 : decode prog_14_method_29_code 42 = .ok (.getfield 24, 3) := by decide +kernel
theorem dM_proofTold_45 : decode prog_14_method_29_code 45 = .ok (.invokevirtual 183, 3) := by decide +kernel
theorem dM_proofTold_48 : decode prog_14_method_29_code 48 = .ok (.ifCond .eq (11), 3) := by decide +kernel
theorem dM_proofTold_51 : decode prog_14_method_29_code 51 = .ok (.aload_n 0, 1) := by decide +kernel
theorem dM_proofTold_52 : decode prog_14_method_29_code 52 = .ok (.iload_n 1, 1) := by decide +kernel
theorem dM_proofTold_53 : decode prog_14_method_29_code 53 = .ok (.invokevirtual 270, 3) := by decide +kernel
theorem dM_proofTold_56 : decode prog_14_method_29_code 56 = .ok (.goto (47), 3) := by decide +kernel
theorem dM_proofTold_59 : decode prog_14_method_29_code 59 = .ok (.aload_n 0, 1) := by decide +kernel
theorem dM_proofTold_60 : decode prog_14_method_29_code 60 = .ok (.aload_n 0, 1) := by decide +kernel
theorem dM_proofTold_61 : decode prog_14_method_29_code 61 = .ok (.getfield 33, 3) := by decide +kernel
theorem dM_proofTold_64 : decode prog_14_method_29_code 64 = .ok (.invokevirtual 183, 3) := by decide +kernel
theorem dM_proofTold_67 : decode prog_14_method_29_code 67 = .ok (.ifCond .eq (11), 3) := by decide +kernel
theorem dM_proofTold_70 : decode prog_14_method_29_code 70 = .ok (.aload_n 0, 1) := by decide +kernel
theorem dM_proofTold_71 : decode prog_14_method_29_code 71 = .ok (.iload_n 1, 1) := by decide +kernel
theorem dM_proofTold_72 : decode prog_14_method_29_code 72 = .ok (.invokevirtual 273, 3) := by decide +kernel
theorem dM_proofTold_75 : decode prog_14_method_29_code 75 = .ok (.goto (28), 3) := by decide +kernel
theorem dM_proofTold_78 : decode prog_14_method_29_code 78 = .ok (.aload_n 0, 1) := by decide +kernel
theorem dM_proofTold_79 : decode prog_14_method_29_code 79 = .ok (.aload_n 0, 1) := by decide +kernel
theorem dM_proofTold_80 : decode prog_14_method_29_code 80 = .ok (.getfield 30, 3) := by decide +kernel
theorem dM_proofTold_83 : decode prog_14_method_29_code 83 = .ok (.invokevirtual 257, 3) := by decide +kernel
theorem dM_proofTold_86 : decode prog_14_method_29_code 86 = .ok (.aload_n 0, 1) := by decide +kernel
theorem dM_proofTold_87 : decode prog_14_method_29_code 87 = .ok (.aload_n 0, 1) := by decide +kernel
theorem dM_proofTold_88 : decode prog_14_method_29_code 88 = .ok (.iconst (0), 1) := by decide +kernel
theorem dM_proofTold_89 : decode prog_14_method_29_code 89 = .ok (.aload_n 0, 1) := by decide +kernel
theorem dM_proofTold_90 : decode prog_14_method_29_code 90 = .ok (.getfield 45, 3) := by decide +kernel
theorem dM_proofTold_93 : decode prog_14_method_29_code 93 = .ok (.iconst (4), 1) := by decide +kernel
theorem dM_proofTold_94 : decode prog_14_method_29_code 94 = .ok (.iaload, 1) := by decide +kernel
theorem dM_proofTold_95 : decode prog_14_method_29_code 95 = .ok (.iconst (1), 1) := by decide +kernel
theorem dM_proofTold_96 : decode prog_14_method_29_code 96 = .ok (.isub, 1) := by decide +kernel
theorem dM_proofTold_97 : decode prog_14_method_29_code 97 = .ok (.invokevirtual 261, 3) := by decide +kernel
theorem dM_proofTold_100 : decode prog_14_method_29_code 100 = .ok (.putfield 276, 3) := by decide +kernel
theorem dM_proofTold_103 : decode prog_14_method_29_code 103 = .ok (.aload_n 0, 1) := by decide +kernel
theorem dM_proofTold_104 : decode prog_14_method_29_code 104 = .ok (.bipush (59), 2) := by decide +kernel
theorem dM_proofTold_106 : decode prog_14_method_29_code 106 = .ok (.invokevirtual 236, 3) := by decide +kernel
theorem dM_proofTold_109 : decode prog_14_method_29_code 109 = .ok (.aload_n 0, 1) := by decide +kernel
theorem dM_proofTold_110 : decode prog_14_method_29_code 110 = .ok (.dup, 1) := by decide +kernel
theorem dM_proofTold_111 : decode prog_14_method_29_code 111 = .ok (.getfield 264, 3) := by decide +kernel
theorem dM_proofTold_114 : decode prog_14_method_29_code 114 = .ok (.iconst (1), 1) := by decide +kernel
theorem dM_proofTold_115 : decode prog_14_method_29_code 115 = .ok (.iadd, 1) := by decide +kernel
theorem dM_proofTold_116 : decode prog_14_method_29_code 116 = .ok (.putfield 264, 3) := by decide +kernel
theorem dM_proofTold_119 : decode prog_14_method_29_code 119 = .ok (.return_, 1) := by decide +kernel
theorem dM_fail_0 : decode prog_14_method_5_code 0 = .ok (.aload_n 0, 1) := by decide +kernel
theorem dM_fail_1 : decode prog_14_method_5_code 1 = .ok (.getfield 156, 3) := by decide +kernel
theorem dM_fail_4 : decode prog_14_method_5_code 4 = .ok (.ifCond .eq (4), 3) := by decide +kernel
theorem dM_fail_7 : decode prog_14_method_5_code 7 = .ok (.return_, 1) := by decide +kernel
theorem dM_fail_8 : decode prog_14_method_5_code 8 = .ok (.aload_n 0, 1) := by decide +kernel
theorem dM_fail_9 : decode prog_14_method_5_code 9 = .ok (.iload_n 1, 1) := by decide +kernel
theorem dM_fail_10 : decode prog_14_method_5_code 10 = .ok (.putfield 156, 3) := by decide +kernel
theorem dM_fail_13 : decode prog_14_method_5_code 13 = .ok (.aload_n 0, 1) := by decide +kernel
theorem dM_fail_14 : decode prog_14_method_5_code 14 = .ok (.iload_n 2, 1) := by decide +kernel
theorem dM_fail_15 : decode prog_14_method_5_code 15 = .ok (.putfield 159, 3) := by decide +kernel
theorem dM_fail_18 : decode prog_14_method_5_code 18 = .ok (.return_, 1) := by decide +kernel
theorem dM_takes_0 : decode prog_14_method_10_code 0 = .ok (.aload_n 0, 1) := by decide +kernel
theorem dM_takes_1 : decode prog_14_method_10_code 1 = .ok (.aload_n 1, 1) := by decide +kernel
theorem dM_takes_2 : decode prog_14_method_10_code 2 = .ok (.invokevirtual 179, 3) := by decide +kernel
theorem dM_takes_5 : decode prog_14_method_10_code 5 = .ok (.ifCond .ne (5), 3) := by decide +kernel
theorem dM_takes_8 : decode prog_14_method_10_code 8 = .ok (.iconst (0), 1) := by decide +kernel
theorem dM_takes_9 : decode prog_14_method_10_code 9 = .ok (.ireturn, 1) := by decide +kernel
theorem dM_takes_10 : decode prog_14_method_10_code 10 = .ok (.aload_n 0, 1) := by decide +kernel
theorem dM_takes_11 : decode prog_14_method_10_code 11 = .ok (.dup, 1) := by decide +kernel
theorem dM_takes_12 : decode prog_14_method_10_code 12 = .ok (.getfield 162, 3) := by decide +kernel
theorem dM_takes_15 : decode prog_14_method_10_code 15 = .ok (.aload_n 1, 1) := by decide +kernel
theorem dM_takes_16 : decode prog_14_method_10_code 16 = .ok (.arraylength, 1) := by decide +kernel
theorem dM_takes_17 : decode prog_14_method_10_code 17 = .ok (.iadd, 1) := by decide +kernel
theorem dM_takes_18 : decode prog_14_method_10_code 18 = .ok (.putfield 162, 3) := by decide +kernel
theorem dM_takes_21 : decode prog_14_method_10_code 21 = .ok (.aload_n 0, 1) := by decide +kernel
theorem dM_takes_22 : decode prog_14_method_10_code 22 = .ok (.aload_n 0, 1) := by decide +kernel
theorem dM_takes_23 : decode prog_14_method_10_code 23 = .ok (.getfield 162, 3) := by decide +kernel
theorem dM_takes_26 : decode prog_14_method_10_code 26 = .ok (.putfield 176, 3) := by decide +kernel
theorem dM_takes_29 : decode prog_14_method_10_code 29 = .ok (.iconst (1), 1) := by decide +kernel
theorem dM_takes_30 : decode prog_14_method_10_code 30 = .ok (.ireturn, 1) := by decide +kernel
theorem dM_isHere_0 : decode prog_14_method_9_code 0 = .ok (.aload_n 0, 1) := by decide +kernel
theorem dM_isHere_1 : decode prog_14_method_9_code 1 = .ok (.getfield 156, 3) := by decide +kernel
theorem dM_isHere_4 : decode prog_14_method_9_code 4 = .ok (.ifCond .ne (24), 3) := by decide +kernel
theorem dM_isHere_7 : decode prog_14_method_9_code 7 = .ok (.aload_n 0, 1) := by decide +kernel
theorem dM_isHere_8 : decode prog_14_method_9_code 8 = .ok (.invokevirtual 168, 3) := by decide +kernel
theorem dM_isHere_11 : decode prog_14_method_9_code 11 = .ok (.invokestatic 172, 3) := by decide +kernel
theorem dM_isHere_14 : decode prog_14_method_9_code 14 = .ok (.ifCond .eq (14), 3) := by decide +kernel
theorem dM_isHere_17 : decode prog_14_method_9_code 17 = .ok (.aload_n 0, 1) := by decide +kernel
theorem dM_isHere_18 : decode prog_14_method_9_code 18 = .ok (.getfield 162, 3) := by decide +kernel
theorem dM_isHere_21 : decode prog_14_method_9_code 21 = .ok (.aload_n 0, 1) := by decide +kernel
theorem dM_isHere_22 : decode prog_14_method_9_code 22 = .ok (.getfield 176, 3) := by decide +kernel
theorem dM_isHere_25 : decode prog_14_method_9_code 25 = .ok (.if_icmp .ne (5), 3) := by decide +kernel
theorem dM_isHere_28 : decode prog_14_method_9_code 28 = .ok (.iconst (0), 1) := by decide +kernel
theorem dM_isHere_29 : decode prog_14_method_9_code 29 = .ok (.ireturn, 1) := by decide +kernel
theorem dM_isHere_30 : decode prog_14_method_9_code 30 = .ok (.aload_n 0, 1) := by decide +kernel
theorem dM_isHere_31 : decode prog_14_method_9_code 31 = .ok (.getfield 162, 3) := by decide +kernel
theorem dM_isHere_34 : decode prog_14_method_9_code 34 = .ok (.istore_n 2, 1) := by decide +kernel
theorem dM_isHere_35 : decode prog_14_method_9_code 35 = .ok (.iload_n 2, 1) := by decide +kernel
theorem dM_isHere_36 : decode prog_14_method_9_code 36 = .ok (.aload_n 0, 1) := by decide +kernel
theorem dM_isHere_37 : decode prog_14_method_9_code 37 = .ok (.getfield 165, 3) := by decide +kernel
theorem dM_isHere_40 : decode prog_14_method_9_code 40 = .ok (.if_icmp .ge (21), 3) := by decide +kernel
theorem dM_isHere_43 : decode prog_14_method_9_code 43 = .ok (.aload_n 0, 1) := by decide +kernel
theorem dM_isHere_44 : decode prog_14_method_9_code 44 = .ok (.getfield 7, 3) := by decide +kernel
theorem dM_isHere_47 : decode prog_14_method_9_code 47 = .ok (.iload_n 2, 1) := by decide +kernel
theorem dM_isHere_48 : decode prog_14_method_9_code 48 = .ok (.iaload, 1) := by decide +kernel
theorem dM_isHere_49 : decode prog_14_method_9_code 49 = .ok (.invokestatic 172, 3) := by decide +kernel
theorem dM_isHere_52 : decode prog_14_method_9_code 52 = .ok (.ifCond .eq (9), 3) := by decide +kernel
theorem dM_isHere_55 : decode prog_14_method_9_code 55 = .ok (.iinc 2 (1), 3) := by decide +kernel
theorem dM_isHere_58 : decode prog_14_method_9_code 58 = .ok (.goto (-23), 3) := by decide +kernel
theorem dM_isHere_61 : decode prog_14_method_9_code 61 = .ok (.iload_n 2, 1) := by decide +kernel
theorem dM_isHere_62 : decode prog_14_method_9_code 62 = .ok (.aload_n 0, 1) := by decide +kernel
theorem dM_isHere_63 : decode prog_14_method_9_code 63 = .ok (.getfield 162, 3) := by decide +kernel
theorem dM_isHere_66 : decode prog_14_method_9_code 66 = .ok (.isub, 1) := by decide +kernel
theorem dM_isHere_67 : decode prog_14_method_9_code 67 = .ok (.aload_n 1, 1) := by decide +kernel
theorem dM_isHere_68 : decode prog_14_method_9_code 68 = .ok (.arraylength, 1) := by decide +kernel
theorem dM_isHere_69 : decode prog_14_method_9_code 69 = .ok (.if_icmp .eq (5), 3) := by decide +kernel
theorem dM_isHere_72 : decode prog_14_method_9_code 72 = .ok (.iconst (0), 1) := by decide +kernel
theorem dM_isHere_73 : decode prog_14_method_9_code 73 = .ok (.ireturn, 1) := by decide +kernel
theorem dM_isHere_74 : decode prog_14_method_9_code 74 = .ok (.iconst (0), 1) := by decide +kernel
theorem dM_isHere_75 : decode prog_14_method_9_code 75 = .ok (.istore_n 3, 1) := by decide +kernel
theorem dM_isHere_76 : decode prog_14_method_9_code 76 = .ok (.iload_n 3, 1) := by decide +kernel
theorem dM_isHere_77 : decode prog_14_method_9_code 77 = .ok (.aload_n 1, 1) := by decide +kernel
theorem dM_isHere_78 : decode prog_14_method_9_code 78 = .ok (.arraylength, 1) := by decide +kernel
theorem dM_isHere_79 : decode prog_14_method_9_code 79 = .ok (.if_icmp .ge (28), 3) := by decide +kernel
theorem dM_isHere_82 : decode prog_14_method_9_code 82 = .ok (.aload_n 0, 1) := by decide +kernel
theorem dM_isHere_83 : decode prog_14_method_9_code 83 = .ok (.getfield 7, 3) := by decide +kernel
theorem dM_isHere_86 : decode prog_14_method_9_code 86 = .ok (.aload_n 0, 1) := by decide +kernel
theorem dM_isHere_87 : decode prog_14_method_9_code 87 = .ok (.getfield 162, 3) := by decide +kernel
theorem dM_isHere_90 : decode prog_14_method_9_code 90 = .ok (.iload_n 3, 1) := by decide +kernel
theorem dM_isHere_91 : decode prog_14_method_9_code 91 = .ok (.iadd, 1) := by decide +kernel
theorem dM_isHere_92 : decode prog_14_method_9_code 92 = .ok (.iaload, 1) := by decide +kernel
theorem dM_isHere_93 : decode prog_14_method_9_code 93 = .ok (.aload_n 1, 1) := by decide +kernel
theorem dM_isHere_94 : decode prog_14_method_9_code 94 = .ok (.iload_n 3, 1) := by decide +kernel
theorem dM_isHere_95 : decode prog_14_method_9_code 95 = .ok (.caload, 1) := by decide +kernel
theorem dM_isHere_96 : decode prog_14_method_9_code 96 = .ok (.if_icmp .eq (5), 3) := by decide +kernel
theorem dM_isHere_99 : decode prog_14_method_9_code 99 = .ok (.iconst (0), 1) := by decide +kernel
theorem dM_isHere_100 : decode prog_14_method_9_code 100 = .ok (.ireturn, 1) := by decide +kernel
theorem dM_isHere_101 : decode prog_14_method_9_code 101 = .ok (.iinc 3 (1), 3) := by decide +kernel
theorem dM_isHere_104 : decode prog_14_method_9_code 104 = .ok (.goto (-28), 3) := by decide +kernel
theorem dM_isHere_107 : decode prog_14_method_9_code 107 = .ok (.iconst (1), 1) := by decide +kernel
theorem dM_isHere_108 : decode prog_14_method_9_code 108 = .ok (.ireturn, 1) := by decide +kernel
theorem dM_isLetter_0 : decode prog_14_method_6_code 0 = .ok (.iload_n 0, 1) := by decide +kernel
theorem dM_isLetter_1 : decode prog_14_method_6_code 1 = .ok (.bipush (97), 2) := by decide +kernel
theorem dM_isLetter_3 : decode prog_14_method_6_code 3 = .ok (.if_icmp .lt (13), 3) := by decide +kernel
theorem dM_isLetter_6 : decode prog_14_method_6_code 6 = .ok (.iload_n 0, 1) := by decide +kernel
theorem dM_isLetter_7 : decode prog_14_method_6_code 7 = .ok (.bipush (122), 2) := by decide +kernel
theorem dM_isLetter_9 : decode prog_14_method_6_code 9 = .ok (.if_icmp .gt (7), 3) := by decide +kernel
theorem dM_isLetter_12 : decode prog_14_method_6_code 12 = .ok (.iconst (1), 1) := by decide +kernel
theorem dM_isLetter_13 : decode prog_14_method_6_code 13 = .ok (.goto (4), 3) := by decide +kernel
theorem dM_isLetter_16 : decode prog_14_method_6_code 16 = .ok (.iconst (0), 1) := by decide +kernel
theorem dM_isLetter_17 : decode prog_14_method_6_code 17 = .ok (.ireturn, 1) := by decide +kernel
theorem dM_ruleTold_0 : decode prog_14_method_26_code 0 = .ok (.aload_n 0, 1) := by decide +kernel
theorem dM_ruleTold_1 : decode prog_14_method_26_code 1 = .ok (.iconst (0), 1) := by decide +kernel
theorem dM_ruleTold_2 : decode prog_14_method_26_code 2 = .ok (.bipush (12), 2) := by decide +kernel
theorem dM_ruleTold_4 : decode prog_14_method_26_code 4 = .ok (.iload_n 1, 1) := by decide +kernel
theorem dM_ruleTold_5 : decode prog_14_method_26_code 5 = .ok (.invokevirtual 246, 3) := by decide +kernel
theorem dM_ruleTold_8 : decode prog_14_method_26_code 8 = .ok (.ifCond .eq (4), 3) := by decide +kernel
theorem dM_ruleTold_11 : decode prog_14_method_26_code 11 = .ok (.return_, 1) := by decide +kernel
theorem dM_ruleTold_12 : decode prog_14_method_26_code 12 = .ok (.aload_n 0, 1) := by decide +kernel
theorem dM_ruleTold_13 : decode prog_14_method_26_code 13 = .ok (.iconst (0), 1) := by decide +kernel
theorem dM_ruleTold_14 : decode prog_14_method_26_code 14 = .ok (.invokevirtual 250, 3) := by decide +kernel
theorem dM_ruleTold_17 : decode prog_14_method_26_code 17 = .ok (.istore_n 2, 1) := by decide +kernel
theorem dM_ruleTold_18 : decode prog_14_method_26_code 18 = .ok (.iconst (0), 1) := by decide +kernel
theorem dM_ruleTold_19 : decode prog_14_method_26_code 19 = .ok (.istore_n 3, 1) := by decide +kernel
theorem dM_ruleTold_20 : decode prog_14_method_26_code 20 = .ok (.aload_n 0, 1) := by decide +kernel
theorem dM_ruleTold_21 : decode prog_14_method_26_code 21 = .ok (.getfield 156, 3) := by decide +kernel
theorem dM_ruleTold_24 : decode prog_14_method_26_code 24 = .ok (.ifCond .ne (65), 3) := by decide +kernel
theorem dM_ruleTold_27 : decode prog_14_method_26_code 27 = .ok (.aload_n 0, 1) := by decide +kernel
theorem dM_ruleTold_28 : decode prog_14_method_26_code 28 = .ok (.aload_n 0, 1) := by decide +kernel
theorem dM_ruleTold_29 : decode prog_14_method_26_code 29 = .ok (.getfield 21, 3) := by decide +kernel
theorem dM_ruleTold_32 : decode prog_14_method_26_code 32 = .ok (.invokevirtual 179, 3) := by decide +kernel
theorem dM_ruleTold_35 : decode prog_14_method_26_code 35 = .ok (.ifCond .ne (54), 3) := by decide +kernel
theorem dM_ruleTold_38 : decode prog_14_method_26_code 38 = .ok (.iconst (1), 1) := by decide +kernel
theorem dM_ruleTold_39 : decode prog_14_method_26_code 39 = .ok (.istore 4, 2) := by decide +kernel
theorem dM_ruleTold_41 : decode prog_14_method_26_code 41 = .ok (.aload_n 0, 1) := by decide +kernel
theorem dM_ruleTold_42 : decode prog_14_method_26_code 42 = .ok (.getfield 156, 3) := by decide +kernel
theorem dM_ruleTold_45 : decode prog_14_method_26_code 45 = .ok (.ifCond .ne (44), 3) := by decide +kernel
theorem dM_ruleTold_48 : decode prog_14_method_26_code 48 = .ok (.iload 4, 2) := by decide +kernel
theorem dM_ruleTold_50 : decode prog_14_method_26_code 50 = .ok (.ifCond .eq (39), 3) := by decide +kernel
theorem dM_ruleTold_53 : decode prog_14_method_26_code 53 = .ok (.aload_n 0, 1) := by decide +kernel
theorem dM_ruleTold_54 : decode prog_14_method_26_code 54 = .ok (.iconst (4), 1) := by decide +kernel
theorem dM_ruleTold_55 : decode prog_14_method_26_code 55 = .ok (.iload_n 2, 1) := by decide +kernel
theorem dM_ruleTold_56 : decode prog_14_method_26_code 56 = .ok (.imul, 1) := by decide +kernel
theorem dM_ruleTold_57 : decode prog_14_method_26_code 57 = .ok (.iload_n 3, 1) := by decide +kernel
theorem dM_ruleTold_58 : decode prog_14_method_26_code 58 = .ok (.iadd, 1) := by decide +kernel
theorem dM_ruleTold_59 : decode prog_14_method_26_code 59 = .ok (.invokevirtual 254, 3) := by decide +kernel
theorem dM_ruleTold_62 : decode prog_14_method_26_code 62 = .ok (.iinc 3 (1), 3) := by decide +kernel
theorem dM_ruleTold_65 : decode prog_14_method_26_code 65 = .ok (.iload_n 3, 1) := by decide +kernel
theorem dM_ruleTold_66 : decode prog_14_method_26_code 66 = .ok (.iconst (3), 1) := by decide +kernel
theorem dM_ruleTold_67 : decode prog_14_method_26_code 67 = .ok (.if_icmp .ge (16), 3) := by decide +kernel
theorem dM_ruleTold_70 : decode prog_14_method_26_code 70 = .ok (.aload_n 0, 1) := by decide +kernel
theorem dM_ruleTold_71 : decode prog_14_method_26_code 71 = .ok (.bipush (44), 2) := by decide +kernel
theorem dM_ruleTold_73 : decode prog_14_method_26_code 73 = .ok (.invokevirtual 190, 3) := by decide +kernel
theorem dM_ruleTold_76 : decode prog_14_method_26_code 76 = .ok (.ifCond .eq (7), 3) := by decide +kernel
theorem dM_ruleTold_79 : decode prog_14_method_26_code 79 = .ok (.iconst (1), 1) := by decide +kernel
theorem dM_ruleTold_80 : decode prog_14_method_26_code 80 = .ok (.goto (4), 3) := by decide +kernel
theorem dM_ruleTold_83 : decode prog_14_method_26_code 83 = .ok (.iconst (0), 1) := by decide +kernel
theorem dM_ruleTold_84 : decode prog_14_method_26_code 84 = .ok (.istore 4, 2) := by decide +kernel
theorem dM_ruleTold_86 : decode prog_14_method_26_code 86 = .ok (.goto (-45), 3) := by decide +kernel
theorem dM_ruleTold_89 : decode prog_14_method_26_code 89 = .ok (.aload_n 0, 1) := by decide +kernel
theorem dM_ruleTold_90 : decode prog_14_method_26_code 90 = .ok (.aload_n 0, 1) := by decide +kernel
theorem dM_ruleTold_91 : decode prog_14_method_26_code 91 = .ok (.getfield 21, 3) := by decide +kernel
theorem dM_ruleTold_94 : decode prog_14_method_26_code 94 = .ok (.invokevirtual 257, 3) := by decide +kernel
theorem dM_ruleTold_97 : decode prog_14_method_26_code 97 = .ok (.aload_n 0, 1) := by decide +kernel
theorem dM_ruleTold_98 : decode prog_14_method_26_code 98 = .ok (.iconst (4), 1) := by decide +kernel
theorem dM_ruleTold_99 : decode prog_14_method_26_code 99 = .ok (.iload_n 2, 1) := by decide +kernel
theorem dM_ruleTold_100 : decode prog_14_method_26_code 100 = .ok (.imul, 1) := by decide +kernel
theorem dM_ruleTold_101 : decode prog_14_method_26_code 101 = .ok (.iconst (3), 1) := by decide +kernel
theorem dM_ruleTold_102 : decode prog_14_method_26_code 102 = .ok (.iadd, 1) := by decide +kernel
theorem dM_ruleTold_103 : decode prog_14_method_26_code 103 = .ok (.invokevirtual 254, 3) := by decide +kernel
theorem dM_ruleTold_106 : decode prog_14_method_26_code 106 = .ok (.aload_n 0, 1) := by decide +kernel
theorem dM_ruleTold_107 : decode prog_14_method_26_code 107 = .ok (.getfield 156, 3) := by decide +kernel
theorem dM_ruleTold_110 : decode prog_14_method_26_code 110 = .ok (.ifCond .eq (4), 3) := by decide +kernel
theorem dM_ruleTold_113 : decode prog_14_method_26_code 113 = .ok (.return_, 1) := by decide +kernel
theorem dM_ruleTold_114 : decode prog_14_method_26_code 114 = .ok (.aload_n 0, 1) := by decide +kernel
theorem dM_ruleTold_115 : decode prog_14_method_26_code 115 = .ok (.getfield 64, 3) := by decide +kernel
theorem dM_ruleTold_118 : decode prog_14_method_26_code 118 = .ok (.iload_n 2, 1) := by decide +kernel
theorem dM_ruleTold_119 : decode prog_14_method_26_code 119 = .ok (.iload_n 3, 1) := by decide +kernel
theorem dM_ruleTold_120 : decode prog_14_method_26_code 120 = .ok (.iastore, 1) := by decide +kernel
theorem dM_ruleTold_121 : decode prog_14_method_26_code 121 = .ok (.aload_n 0, 1) := by decide +kernel
theorem dM_ruleTold_122 : decode prog_14_method_26_code 122 = .ok (.getfield 45, 3) := by decide +kernel
theorem dM_ruleTold_125 : decode prog_14_method_26_code 125 = .ok (.iconst (0), 1) := by decide +kernel
theorem dM_ruleTold_126 : decode prog_14_method_26_code 126 = .ok (.dup2, 1) := by decide +kernel
theorem dM_ruleTold_127 : decode prog_14_method_26_code 127 = .ok (.iaload, 1) := by decide +kernel
theorem dM_ruleTold_128 : decode prog_14_method_26_code 128 = .ok (.iconst (1), 1) := by decide +kernel
theorem dM_ruleTold_129 : decode prog_14_method_26_code 129 = .ok (.iadd, 1) := by decide +kernel
theorem dM_ruleTold_130 : decode prog_14_method_26_code 130 = .ok (.iastore, 1) := by decide +kernel
theorem dM_ruleTold_131 : decode prog_14_method_26_code 131 = .ok (.return_, 1) := by decide +kernel
theorem dM_isFull_0 : decode prog_14_method_17_code 0 = .ok (.aload_n 0, 1) := by decide +kernel
theorem dM_isFull_1 : decode prog_14_method_17_code 1 = .ok (.getfield 156, 3) := by decide +kernel
theorem dM_isFull_4 : decode prog_14_method_17_code 4 = .ok (.ifCond .ne (19), 3) := by decide +kernel
theorem dM_isFull_7 : decode prog_14_method_17_code 7 = .ok (.aload_n 0, 1) := by decide +kernel
theorem dM_isFull_8 : decode prog_14_method_17_code 8 = .ok (.getfield 45, 3) := by decide +kernel
theorem dM_isFull_11 : decode prog_14_method_17_code 11 = .ok (.iload_n 1, 1) := by decide +kernel
theorem dM_isFull_12 : decode prog_14_method_17_code 12 = .ok (.iaload, 1) := by decide +kernel
theorem dM_isFull_13 : decode prog_14_method_17_code 13 = .ok (.iload_n 2, 1) := by decide +kernel
theorem dM_isFull_14 : decode prog_14_method_17_code 14 = .ok (.if_icmp .ne (9), 3) := by decide +kernel
theorem dM_isFull_17 : decode prog_14_method_17_code 17 = .ok (.aload_n 0, 1) := by decide +kernel
theorem dM_isFull_18 : decode prog_14_method_17_code 18 = .ok (.iconst (5), 1) := by decide +kernel
theorem dM_isFull_19 : decode prog_14_method_17_code 19 = .ok (.iload_n 3, 1) := by decide +kernel
theorem dM_isFull_20 : decode prog_14_method_17_code 20 = .ok (.invokevirtual 186, 3) := by decide +kernel
theorem dM_isFull_23 : decode prog_14_method_17_code 23 = .ok (.aload_n 0, 1) := by decide +kernel
theorem dM_isFull_24 : decode prog_14_method_17_code 24 = .ok (.getfield 156, 3) := by decide +kernel
theorem dM_isFull_27 : decode prog_14_method_17_code 27 = .ok (.ifCond .eq (7), 3) := by decide +kernel
theorem dM_isFull_30 : decode prog_14_method_17_code 30 = .ok (.iconst (1), 1) := by decide +kernel
theorem dM_isFull_31 : decode prog_14_method_17_code 31 = .ok (.goto (4), 3) := by decide +kernel
theorem dM_isFull_34 : decode prog_14_method_17_code 34 = .ok (.iconst (0), 1) := by decide +kernel
theorem dM_isFull_35 : decode prog_14_method_17_code 35 = .ok (.ireturn, 1) := by decide +kernel
theorem dM_newName_0 : decode prog_14_method_19_code 0 = .ok (.aload_n 0, 1) := by decide +kernel
theorem dM_newName_1 : decode prog_14_method_19_code 1 = .ok (.invokevirtual 211, 3) := by decide +kernel
theorem dM_newName_4 : decode prog_14_method_19_code 4 = .ok (.lstore_n 2, 1) := by decide +kernel
theorem dM_newName_5 : decode prog_14_method_19_code 5 = .ok (.aload_n 0, 1) := by decide +kernel
theorem dM_newName_6 : decode prog_14_method_19_code 6 = .ok (.getfield 156, 3) := by decide +kernel
theorem dM_newName_9 : decode prog_14_method_19_code 9 = .ok (.ifCond .ne (32), 3) := by decide +kernel
theorem dM_newName_12 : decode prog_14_method_19_code 12 = .ok (.aload_n 0, 1) := by decide +kernel
theorem dM_newName_13 : decode prog_14_method_19_code 13 = .ok (.iconst (0), 1) := by decide +kernel
theorem dM_newName_14 : decode prog_14_method_19_code 14 = .ok (.lload_n 2, 1) := by decide +kernel
theorem dM_newName_15 : decode prog_14_method_19_code 15 = .ok (.invokevirtual 215, 3) := by decide +kernel
theorem dM_newName_18 : decode prog_14_method_19_code 18 = .ok (.iconst (-1), 1) := by decide +kernel
theorem dM_newName_19 : decode prog_14_method_19_code 19 = .ok (.if_icmp .ne (13), 3) := by decide +kernel
theorem dM_newName_22 : decode prog_14_method_19_code 22 = .ok (.aload_n 0, 1) := by decide +kernel
theorem dM_newName_23 : decode prog_14_method_19_code 23 = .ok (.iconst (1), 1) := by decide +kernel
theorem dM_newName_24 : decode prog_14_method_19_code 24 = .ok (.lload_n 2, 1) := by decide +kernel
theorem dM_newName_25 : decode prog_14_method_19_code 25 = .ok (.invokevirtual 215, 3) := by decide +kernel
theorem dM_newName_28 : decode prog_14_method_19_code 28 = .ok (.iconst (-1), 1) := by decide +kernel
theorem dM_newName_29 : decode prog_14_method_19_code 29 = .ok (.if_icmp .eq (12), 3) := by decide +kernel
theorem dM_newName_32 : decode prog_14_method_19_code 32 = .ok (.aload_n 0, 1) := by decide +kernel
theorem dM_newName_33 : decode prog_14_method_19_code 33 = .ok (.iconst (3), 1) := by decide +kernel
theorem dM_newName_34 : decode prog_14_method_19_code 34 = .ok (.aload_n 0, 1) := by decide +kernel
theorem dM_newName_35 : decode prog_14_method_19_code 35 = .ok (.getfield 204, 3) := by decide +kernel
theorem dM_newName_38 : decode prog_14_method_19_code 38 = .ok (.invokevirtual 186, 3) := by decide +kernel
theorem dM_newName_41 : decode prog_14_method_19_code 41 = .ok (.aload_n 0, 1) := by decide +kernel
theorem dM_newName_42 : decode prog_14_method_19_code 42 = .ok (.getfield 45, 3) := by decide +kernel
theorem dM_newName_45 : decode prog_14_method_19_code 45 = .ok (.iload_n 1, 1) := by decide +kernel
theorem dM_newName_46 : decode prog_14_method_19_code 46 = .ok (.iaload, 1) := by decide +kernel
theorem dM_newName_47 : decode prog_14_method_19_code 47 = .ok (.istore 4, 2) := by decide +kernel
theorem dM_newName_49 : decode prog_14_method_19_code 49 = .ok (.aload_n 0, 1) := by decide +kernel
theorem dM_newName_50 : decode prog_14_method_19_code 50 = .ok (.getfield 156, 3) := by decide +kernel
theorem dM_newName_53 : decode prog_14_method_19_code 53 = .ok (.ifCond .ne (16), 3) := by decide +kernel
theorem dM_newName_56 : decode prog_14_method_19_code 56 = .ok (.aload_n 0, 1) := by decide +kernel
theorem dM_newName_57 : decode prog_14_method_19_code 57 = .ok (.getfield 48, 3) := by decide +kernel
theorem dM_newName_60 : decode prog_14_method_19_code 60 = .ok (.bipush (24), 2) := by decide +kernel
theorem dM_newName_62 : decode prog_14_method_19_code 62 = .ok (.iload_n 1, 1) := by decide +kernel
theorem dM_newName_63 : decode prog_14_method_19_code 63 = .ok (.imul, 1) := by decide +kernel
theorem dM_newName_64 : decode prog_14_method_19_code 64 = .ok (.iload 4, 2) := by decide +kernel
theorem dM_newName_66 : decode prog_14_method_19_code 66 = .ok (.iadd, 1) := by decide +kernel
theorem dM_newName_67 : decode prog_14_method_19_code 67 = .ok (.lload_n 2, 1) := by decide +kernel
theorem dM_newName_68 : decode prog_14_method_19_code 68 = .ok (.lastore, 1) := by decide +kernel
theorem dM_newName_69 : decode prog_14_method_19_code 69 = .ok (.iload 4, 2) := by decide +kernel
theorem dM_newName_71 : decode prog_14_method_19_code 71 = .ok (.ireturn, 1) := by decide +kernel
theorem dM_name_0 : decode prog_14_method_16_code 0 = .ok (.aload_n 0, 1) := by decide +kernel
theorem dM_name_1 : decode prog_14_method_16_code 1 = .ok (.getfield 156, 3) := by decide +kernel
theorem dM_name_4 : decode prog_14_method_16_code 4 = .ok (.ifCond .eq (5), 3) := by decide +kernel
theorem dM_name_7 : decode prog_14_method_16_code 7 = .ok (.lconst 0, 1) := by decide +kernel
theorem dM_name_8 : decode prog_14_method_16_code 8 = .ok (.lreturn, 1) := by decide +kernel
theorem dM_name_9 : decode prog_14_method_16_code 9 = .ok (.aload_n 0, 1) := by decide +kernel
theorem dM_name_10 : decode prog_14_method_16_code 10 = .ok (.invokevirtual 168, 3) := by decide +kernel
theorem dM_name_13 : decode prog_14_method_16_code 13 = .ok (.invokestatic 172, 3) := by decide +kernel
theorem dM_name_16 : decode prog_14_method_16_code 16 = .ok (.ifCond .eq (21), 3) := by decide +kernel
theorem dM_name_19 : decode prog_14_method_16_code 19 = .ok (.aload_n 0, 1) := by decide +kernel
theorem dM_name_20 : decode prog_14_method_16_code 20 = .ok (.getfield 162, 3) := by decide +kernel
theorem dM_name_23 : decode prog_14_method_16_code 23 = .ok (.aload_n 0, 1) := by decide +kernel
theorem dM_name_24 : decode prog_14_method_16_code 24 = .ok (.getfield 176, 3) := by decide +kernel
theorem dM_name_27 : decode prog_14_method_16_code 27 = .ok (.if_icmp .eq (10), 3) := by decide +kernel
theorem dM_name_30 : decode prog_14_method_16_code 30 = .ok (.aload_n 0, 1) := by decide +kernel
theorem dM_name_31 : decode prog_14_method_16_code 31 = .ok (.invokevirtual 200, 3) := by decide +kernel
theorem dM_name_34 : decode prog_14_method_16_code 34 = .ok (.ifCond .eq (14), 3) := by decide +kernel
theorem dM_name_37 : decode prog_14_method_16_code 37 = .ok (.aload_n 0, 1) := by decide +kernel
theorem dM_name_38 : decode prog_14_method_16_code 38 = .ok (.iconst (1), 1) := by decide +kernel
theorem dM_name_39 : decode prog_14_method_16_code 39 = .ok (.aload_n 0, 1) := by decide +kernel
theorem dM_name_40 : decode prog_14_method_16_code 40 = .ok (.getfield 162, 3) := by decide +kernel
theorem dM_name_43 : decode prog_14_method_16_code 43 = .ok (.invokevirtual 186, 3) := by decide +kernel
theorem dM_name_46 : decode prog_14_method_16_code 46 = .ok (.lconst 0, 1) := by decide +kernel
theorem dM_name_47 : decode prog_14_method_16_code 47 = .ok (.lreturn, 1) := by decide +kernel
theorem dM_name_48 : decode prog_14_method_16_code 48 = .ok (.aload_n 0, 1) := by decide +kernel
theorem dM_name_49 : decode prog_14_method_16_code 49 = .ok (.aload_n 0, 1) := by decide +kernel
theorem dM_name_50 : decode prog_14_method_16_code 50 = .ok (.getfield 162, 3) := by decide +kernel
theorem dM_name_53 : decode prog_14_method_16_code 53 = .ok (.putfield 204, 3) := by decide +kernel
theorem dM_name_56 : decode prog_14_method_16_code 56 = .ok (.lconst 0, 1) := by decide +kernel
theorem dM_name_57 : decode prog_14_method_16_code 57 = .ok (.lstore_n 1, 1) := by decide +kernel
theorem dM_name_58 : decode prog_14_method_16_code 58 = .ok (.aload_n 0, 1) := by decide +kernel
theorem dM_name_59 : decode prog_14_method_16_code 59 = .ok (.getfield 162, 3) := by decide +kernel
theorem dM_name_62 : decode prog_14_method_16_code 62 = .ok (.aload_n 0, 1) := by decide +kernel
theorem dM_name_63 : decode prog_14_method_16_code 63 = .ok (.getfield 165, 3) := by decide +kernel
theorem dM_name_66 : decode prog_14_method_16_code 66 = .ok (.if_icmp .ge (79), 3) := by decide +kernel
theorem dM_name_69 : decode prog_14_method_16_code 69 = .ok (.aload_n 0, 1) := by decide +kernel
theorem dM_name_70 : decode prog_14_method_16_code 70 = .ok (.getfield 7, 3) := by decide +kernel
theorem dM_name_73 : decode prog_14_method_16_code 73 = .ok (.aload_n 0, 1) := by decide +kernel
theorem dM_name_74 : decode prog_14_method_16_code 74 = .ok (.getfield 162, 3) := by decide +kernel
theorem dM_name_77 : decode prog_14_method_16_code 77 = .ok (.iaload, 1) := by decide +kernel
theorem dM_name_78 : decode prog_14_method_16_code 78 = .ok (.invokestatic 172, 3) := by decide +kernel
theorem dM_name_81 : decode prog_14_method_16_code 81 = .ok (.ifCond .eq (64), 3) := by decide +kernel
theorem dM_name_84 : decode prog_14_method_16_code 84 = .ok (.aload_n 0, 1) := by decide +kernel
theorem dM_name_85 : decode prog_14_method_16_code 85 = .ok (.getfield 162, 3) := by decide +kernel
theorem dM_name_88 : decode prog_14_method_16_code 88 = .ok (.aload_n 0, 1) := by decide +kernel
theorem dM_name_89 : decode prog_14_method_16_code 89 = .ok (.getfield 204, 3) := by decide +kernel
theorem dM_name_92 : decode prog_14_method_16_code 92 = .ok (.isub, 1) := by decide +kernel
theorem dM_name_93 : decode prog_14_method_16_code 93 = .ok (.bipush (6), 2) := by decide +kernel
theorem dM_name_95 : decode prog_14_method_16_code 95 = .ok (.if_icmp .ne (14), 3) := by decide +kernel
theorem dM_name_98 : decode prog_14_method_16_code 98 = .ok (.aload_n 0, 1) := by decide +kernel
theorem dM_name_99 : decode prog_14_method_16_code 99 = .ok (.iconst (1), 1) := by decide +kernel
theorem dM_name_100 : decode prog_14_method_16_code 100 = .ok (.aload_n 0, 1) := by decide +kernel
theorem dM_name_101 : decode prog_14_method_16_code 101 = .ok (.getfield 162, 3) := by decide +kernel
theorem dM_name_104 : decode prog_14_method_16_code 104 = .ok (.invokevirtual 186, 3) := by decide +kernel
theorem dM_name_107 : decode prog_14_method_16_code 107 = .ok (.lconst 0, 1) := by decide +kernel
theorem dM_name_108 : decode prog_14_method_16_code 108 = .ok (.lreturn, 1) := by decide +kernel
theorem dM_name_109 : decode prog_14_method_16_code 109 = .ok (.ldc2_w 207, 3) := by decide +kernel
theorem dM_name_112 : decode prog_14_method_16_code 112 = .ok (.lload_n 1, 1) := by decide +kernel
theorem dM_name_113 : decode prog_14_method_16_code 113 = .ok (.lmul, 1) := by decide +kernel
theorem dM_name_114 : decode prog_14_method_16_code 114 = .ok (.aload_n 0, 1) := by decide +kernel
theorem dM_name_115 : decode prog_14_method_16_code 115 = .ok (.getfield 7, 3) := by decide +kernel
theorem dM_name_118 : decode prog_14_method_16_code 118 = .ok (.aload_n 0, 1) := by decide +kernel
theorem dM_name_119 : decode prog_14_method_16_code 119 = .ok (.getfield 162, 3) := by decide +kernel
theorem dM_name_122 : decode prog_14_method_16_code 122 = .ok (.iaload, 1) := by decide +kernel
theorem dM_name_123 : decode prog_14_method_16_code 123 = .ok (.i2l, 1) := by decide +kernel
theorem dM_name_124 : decode prog_14_method_16_code 124 = .ok (.ladd, 1) := by decide +kernel
theorem dM_name_125 : decode prog_14_method_16_code 125 = .ok (.ldc2_w 209, 3) := by decide +kernel
theorem dM_name_128 : decode prog_14_method_16_code 128 = .ok (.lsub, 1) := by decide +kernel
theorem dM_name_129 : decode prog_14_method_16_code 129 = .ok (.lconst 1, 1) := by decide +kernel
theorem dM_name_130 : decode prog_14_method_16_code 130 = .ok (.ladd, 1) := by decide +kernel
theorem dM_name_131 : decode prog_14_method_16_code 131 = .ok (.lstore_n 1, 1) := by decide +kernel
theorem dM_name_132 : decode prog_14_method_16_code 132 = .ok (.aload_n 0, 1) := by decide +kernel
theorem dM_name_133 : decode prog_14_method_16_code 133 = .ok (.dup, 1) := by decide +kernel
theorem dM_name_134 : decode prog_14_method_16_code 134 = .ok (.getfield 162, 3) := by decide +kernel
theorem dM_name_137 : decode prog_14_method_16_code 137 = .ok (.iconst (1), 1) := by decide +kernel
theorem dM_name_138 : decode prog_14_method_16_code 138 = .ok (.iadd, 1) := by decide +kernel
theorem dM_name_139 : decode prog_14_method_16_code 139 = .ok (.putfield 162, 3) := by decide +kernel
theorem dM_name_142 : decode prog_14_method_16_code 142 = .ok (.goto (-84), 3) := by decide +kernel
theorem dM_name_145 : decode prog_14_method_16_code 145 = .ok (.aload_n 0, 1) := by decide +kernel
theorem dM_name_146 : decode prog_14_method_16_code 146 = .ok (.aload_n 0, 1) := by decide +kernel
theorem dM_name_147 : decode prog_14_method_16_code 147 = .ok (.getfield 162, 3) := by decide +kernel
theorem dM_name_150 : decode prog_14_method_16_code 150 = .ok (.putfield 176, 3) := by decide +kernel
theorem dM_name_153 : decode prog_14_method_16_code 153 = .ok (.lload_n 1, 1) := by decide +kernel
theorem dM_name_154 : decode prog_14_method_16_code 154 = .ok (.lreturn, 1) := by decide +kernel
theorem dM_isOwnHere_0 : decode prog_14_method_15_code 0 = .ok (.aload_n 0, 1) := by decide +kernel
theorem dM_isOwnHere_1 : decode prog_14_method_15_code 1 = .ok (.aload_n 0, 1) := by decide +kernel
theorem dM_isOwnHere_2 : decode prog_14_method_15_code 2 = .ok (.getfield 17, 3) := by decide +kernel
theorem dM_isOwnHere_5 : decode prog_14_method_15_code 5 = .ok (.invokevirtual 179, 3) := by decide +kernel
theorem dM_isOwnHere_8 : decode prog_14_method_15_code 8 = .ok (.ifCond .ne (47), 3) := by decide +kernel
theorem dM_isOwnHere_11 : decode prog_14_method_15_code 11 = .ok (.aload_n 0, 1) := by decide +kernel
theorem dM_isOwnHere_12 : decode prog_14_method_15_code 12 = .ok (.aload_n 0, 1) := by decide +kernel
theorem dM_isOwnHere_13 : decode prog_14_method_15_code 13 = .ok (.getfield 21, 3) := by decide +kernel
theorem dM_isOwnHere_16 : decode prog_14_method_15_code 16 = .ok (.invokevirtual 179, 3) := by decide +kernel
theorem dM_isOwnHere_19 : decode prog_14_method_15_code 19 = .ok (.ifCond .ne (36), 3) := by decide +kernel
theorem dM_isOwnHere_22 : decode prog_14_method_15_code 22 = .ok (.aload_n 0, 1) := by decide +kernel
theorem dM_isOwnHere_23 : decode prog_14_method_15_code 23 = .ok (.aload_n 0, 1) := by decide +kernel
theorem dM_isOwnHere_24 : decode prog_14_method_15_code 24 = .ok (.getfield 24, 3) := by decide +kernel
theorem dM_isOwnHere_27 : decode prog_14_method_15_code 27 = .ok (.invokevirtual 179, 3) := by decide +kernel
theorem dM_isOwnHere_30 : decode prog_14_method_15_code 30 = .ok (.ifCond .ne (25), 3) := by decide +kernel
theorem dM_isOwnHere_33 : decode prog_14_method_15_code 33 = .ok (.aload_n 0, 1) := by decide +kernel
theorem dM_isOwnHere_34 : decode prog_14_method_15_code 34 = .ok (.aload_n 0, 1) := by decide +kernel
theorem dM_isOwnHere_35 : decode prog_14_method_15_code 35 = .ok (.getfield 27, 3) := by decide +kernel
theorem dM_isOwnHere_38 : decode prog_14_method_15_code 38 = .ok (.invokevirtual 179, 3) := by decide +kernel
theorem dM_isOwnHere_41 : decode prog_14_method_15_code 41 = .ok (.ifCond .ne (14), 3) := by decide +kernel
theorem dM_isOwnHere_44 : decode prog_14_method_15_code 44 = .ok (.aload_n 0, 1) := by decide +kernel
theorem dM_isOwnHere_45 : decode prog_14_method_15_code 45 = .ok (.aload_n 0, 1) := by decide +kernel
theorem dM_isOwnHere_46 : decode prog_14_method_15_code 46 = .ok (.getfield 30, 3) := by decide +kernel
theorem dM_isOwnHere_49 : decode prog_14_method_15_code 49 = .ok (.invokevirtual 179, 3) := by decide +kernel
theorem dM_isOwnHere_52 : decode prog_14_method_15_code 52 = .ok (.ifCond .eq (7), 3) := by decide +kernel
theorem dM_isOwnHere_55 : decode prog_14_method_15_code 55 = .ok (.iconst (1), 1) := by decide +kernel
theorem dM_isOwnHere_56 : decode prog_14_method_15_code 56 = .ok (.goto (4), 3) := by decide +kernel
theorem dM_isOwnHere_59 : decode prog_14_method_15_code 59 = .ok (.iconst (0), 1) := by decide +kernel
theorem dM_isOwnHere_60 : decode prog_14_method_15_code 60 = .ok (.istore_n 1, 1) := by decide +kernel
theorem dM_isOwnHere_61 : decode prog_14_method_15_code 61 = .ok (.iload_n 1, 1) := by decide +kernel
theorem dM_isOwnHere_62 : decode prog_14_method_15_code 62 = .ok (.ifCond .ne (47), 3) := by decide +kernel
theorem dM_isOwnHere_65 : decode prog_14_method_15_code 65 = .ok (.aload_n 0, 1) := by decide +kernel
theorem dM_isOwnHere_66 : decode prog_14_method_15_code 66 = .ok (.aload_n 0, 1) := by decide +kernel
theorem dM_isOwnHere_67 : decode prog_14_method_15_code 67 = .ok (.getfield 33, 3) := by decide +kernel
theorem dM_isOwnHere_70 : decode prog_14_method_15_code 70 = .ok (.invokevirtual 179, 3) := by decide +kernel
theorem dM_isOwnHere_73 : decode prog_14_method_15_code 73 = .ok (.ifCond .ne (36), 3) := by decide +kernel
theorem dM_isOwnHere_76 : decode prog_14_method_15_code 76 = .ok (.aload_n 0, 1) := by decide +kernel
theorem dM_isOwnHere_77 : decode prog_14_method_15_code 77 = .ok (.aload_n 0, 1) := by decide +kernel
theorem dM_isOwnHere_78 : decode prog_14_method_15_code 78 = .ok (.getfield 36, 3) := by decide +kernel
theorem dM_isOwnHere_81 : decode prog_14_method_15_code 81 = .ok (.invokevirtual 179, 3) := by decide +kernel
theorem dM_isOwnHere_84 : decode prog_14_method_15_code 84 = .ok (.ifCond .ne (25), 3) := by decide +kernel
theorem dM_isOwnHere_87 : decode prog_14_method_15_code 87 = .ok (.aload_n 0, 1) := by decide +kernel
theorem dM_isOwnHere_88 : decode prog_14_method_15_code 88 = .ok (.aload_n 0, 1) := by decide +kernel
theorem dM_isOwnHere_89 : decode prog_14_method_15_code 89 = .ok (.getfield 39, 3) := by decide +kernel
theorem dM_isOwnHere_92 : decode prog_14_method_15_code 92 = .ok (.invokevirtual 179, 3) := by decide +kernel
theorem dM_isOwnHere_95 : decode prog_14_method_15_code 95 = .ok (.ifCond .ne (14), 3) := by decide +kernel
theorem dM_isOwnHere_98 : decode prog_14_method_15_code 98 = .ok (.aload_n 0, 1) := by decide +kernel
theorem dM_isOwnHere_99 : decode prog_14_method_15_code 99 = .ok (.aload_n 0, 1) := by decide +kernel
theorem dM_isOwnHere_100 : decode prog_14_method_15_code 100 = .ok (.getfield 42, 3) := by decide +kernel
theorem dM_isOwnHere_103 : decode prog_14_method_15_code 103 = .ok (.invokevirtual 179, 3) := by decide +kernel
theorem dM_isOwnHere_106 : decode prog_14_method_15_code 106 = .ok (.ifCond .eq (7), 3) := by decide +kernel
theorem dM_isOwnHere_109 : decode prog_14_method_15_code 109 = .ok (.iconst (1), 1) := by decide +kernel
theorem dM_isOwnHere_110 : decode prog_14_method_15_code 110 = .ok (.goto (4), 3) := by decide +kernel
theorem dM_isOwnHere_113 : decode prog_14_method_15_code 113 = .ok (.iconst (0), 1) := by decide +kernel
theorem dM_isOwnHere_114 : decode prog_14_method_15_code 114 = .ok (.ireturn, 1) := by decide +kernel
theorem dM_nameOf_0 : decode prog_14_method_18_code 0 = .ok (.iconst (0), 1) := by decide +kernel
theorem dM_nameOf_1 : decode prog_14_method_18_code 1 = .ok (.istore 4, 2) := by decide +kernel
theorem dM_nameOf_3 : decode prog_14_method_18_code 3 = .ok (.iload 4, 2) := by decide +kernel
theorem dM_nameOf_5 : decode prog_14_method_18_code 5 = .ok (.aload_n 0, 1) := by decide +kernel
theorem dM_nameOf_6 : decode prog_14_method_18_code 6 = .ok (.getfield 45, 3) := by decide +kernel
theorem dM_nameOf_9 : decode prog_14_method_18_code 9 = .ok (.iload_n 1, 1) := by decide +kernel
theorem dM_nameOf_10 : decode prog_14_method_18_code 10 = .ok (.iaload, 1) := by decide +kernel
theorem dM_nameOf_11 : decode prog_14_method_18_code 11 = .ok (.if_icmp .ge (29), 3) := by decide +kernel
theorem dM_nameOf_14 : decode prog_14_method_18_code 14 = .ok (.aload_n 0, 1) := by decide +kernel
theorem dM_nameOf_15 : decode prog_14_method_18_code 15 = .ok (.getfield 48, 3) := by decide +kernel
theorem dM_nameOf_18 : decode prog_14_method_18_code 18 = .ok (.bipush (24), 2) := by decide +kernel
theorem dM_nameOf_20 : decode prog_14_method_18_code 20 = .ok (.iload_n 1, 1) := by decide +kernel
theorem dM_nameOf_21 : decode prog_14_method_18_code 21 = .ok (.imul, 1) := by decide +kernel
theorem dM_nameOf_22 : decode prog_14_method_18_code 22 = .ok (.iload 4, 2) := by decide +kernel
theorem dM_nameOf_24 : decode prog_14_method_18_code 24 = .ok (.iadd, 1) := by decide +kernel
theorem dM_nameOf_25 : decode prog_14_method_18_code 25 = .ok (.laload, 1) := by decide +kernel
theorem dM_nameOf_26 : decode prog_14_method_18_code 26 = .ok (.lload_n 2, 1) := by decide +kernel
theorem dM_nameOf_27 : decode prog_14_method_18_code 27 = .ok (.lcmp, 1) := by decide +kernel
theorem dM_nameOf_28 : decode prog_14_method_18_code 28 = .ok (.ifCond .ne (6), 3) := by decide +kernel
theorem dM_nameOf_31 : decode prog_14_method_18_code 31 = .ok (.iload 4, 2) := by decide +kernel
theorem dM_nameOf_33 : decode prog_14_method_18_code 33 = .ok (.ireturn, 1) := by decide +kernel
theorem dM_nameOf_34 : decode prog_14_method_18_code 34 = .ok (.iinc 4 (1), 3) := by decide +kernel
theorem dM_nameOf_37 : decode prog_14_method_18_code 37 = .ok (.goto (-34), 3) := by decide +kernel
theorem dM_nameOf_40 : decode prog_14_method_18_code 40 = .ok (.iconst (-1), 1) := by decide +kernel
theorem dM_nameOf_41 : decode prog_14_method_18_code 41 = .ok (.ireturn, 1) := by decide +kernel
theorem dM_termTold_0 : decode prog_14_method_25_code 0 = .ok (.aload_n 0, 1) := by decide +kernel
theorem dM_termTold_1 : decode prog_14_method_25_code 1 = .ok (.getfield 156, 3) := by decide +kernel
theorem dM_termTold_4 : decode prog_14_method_25_code 4 = .ok (.ifCond .eq (4), 3) := by decide +kernel
theorem dM_termTold_7 : decode prog_14_method_25_code 7 = .ok (.return_, 1) := by decide +kernel
theorem dM_termTold_8 : decode prog_14_method_25_code 8 = .ok (.aload_n 0, 1) := by decide +kernel
theorem dM_termTold_9 : decode prog_14_method_25_code 9 = .ok (.getfield 219, 3) := by decide +kernel
theorem dM_termTold_12 : decode prog_14_method_25_code 12 = .ok (.istore_n 2, 1) := by decide +kernel
theorem dM_termTold_13 : decode prog_14_method_25_code 13 = .ok (.aload_n 0, 1) := by decide +kernel
theorem dM_termTold_14 : decode prog_14_method_25_code 14 = .ok (.getfield 58, 3) := by decide +kernel
theorem dM_termTold_17 : decode prog_14_method_25_code 17 = .ok (.iload_n 1, 1) := by decide +kernel
theorem dM_termTold_18 : decode prog_14_method_25_code 18 = .ok (.iload_n 2, 1) := by decide +kernel
theorem dM_termTold_19 : decode prog_14_method_25_code 19 = .ok (.iastore, 1) := by decide +kernel
theorem dM_termTold_20 : decode prog_14_method_25_code 20 = .ok (.aload_n 0, 1) := by decide +kernel
theorem dM_termTold_21 : decode prog_14_method_25_code 21 = .ok (.iconst (0), 1) := by decide +kernel
theorem dM_termTold_22 : decode prog_14_method_25_code 22 = .ok (.putfield 233, 3) := by decide +kernel
theorem dM_termTold_25 : decode prog_14_method_25_code 25 = .ok (.iconst (1), 1) := by decide +kernel
theorem dM_termTold_26 : decode prog_14_method_25_code 26 = .ok (.istore_n 3, 1) := by decide +kernel
theorem dM_termTold_27 : decode prog_14_method_25_code 27 = .ok (.aload_n 0, 1) := by decide +kernel
theorem dM_termTold_28 : decode prog_14_method_25_code 28 = .ok (.getfield 156, 3) := by decide +kernel
theorem dM_termTold_31 : decode prog_14_method_25_code 31 = .ok (.ifCond .ne (31), 3) := by decide +kernel
theorem dM_termTold_34 : decode prog_14_method_25_code 34 = .ok (.iload_n 3, 1) := by decide +kernel
theorem dM_termTold_35 : decode prog_14_method_25_code 35 = .ok (.ifCond .eq (27), 3) := by decide +kernel
theorem dM_termTold_38 : decode prog_14_method_25_code 38 = .ok (.aload_n 0, 1) := by decide +kernel
theorem dM_termTold_39 : decode prog_14_method_25_code 39 = .ok (.iload_n 2, 1) := by decide +kernel
theorem dM_termTold_40 : decode prog_14_method_25_code 40 = .ok (.invokevirtual 240, 3) := by decide +kernel
theorem dM_termTold_43 : decode prog_14_method_25_code 43 = .ok (.ifCond .eq (10), 3) := by decide +kernel
theorem dM_termTold_46 : decode prog_14_method_25_code 46 = .ok (.aload_n 0, 1) := by decide +kernel
theorem dM_termTold_47 : decode prog_14_method_25_code 47 = .ok (.invokevirtual 243, 3) := by decide +kernel
theorem dM_termTold_50 : decode prog_14_method_25_code 50 = .ok (.ifCond .eq (7), 3) := by decide +kernel
theorem dM_termTold_53 : decode prog_14_method_25_code 53 = .ok (.iconst (1), 1) := by decide +kernel
theorem dM_termTold_54 : decode prog_14_method_25_code 54 = .ok (.goto (4), 3) := by decide +kernel
theorem dM_termTold_57 : decode prog_14_method_25_code 57 = .ok (.iconst (0), 1) := by decide +kernel
theorem dM_termTold_58 : decode prog_14_method_25_code 58 = .ok (.istore_n 3, 1) := by decide +kernel
theorem dM_termTold_59 : decode prog_14_method_25_code 59 = .ok (.goto (-32), 3) := by decide +kernel
theorem dM_termTold_62 : decode prog_14_method_25_code 62 = .ok (.aload_n 0, 1) := by decide +kernel
theorem dM_termTold_63 : decode prog_14_method_25_code 63 = .ok (.getfield 61, 3) := by decide +kernel
theorem dM_termTold_66 : decode prog_14_method_25_code 66 = .ok (.iload_n 1, 1) := by decide +kernel
theorem dM_termTold_67 : decode prog_14_method_25_code 67 = .ok (.aload_n 0, 1) := by decide +kernel
theorem dM_termTold_68 : decode prog_14_method_25_code 68 = .ok (.getfield 219, 3) := by decide +kernel
theorem dM_termTold_71 : decode prog_14_method_25_code 71 = .ok (.iload_n 2, 1) := by decide +kernel
theorem dM_termTold_72 : decode prog_14_method_25_code 72 = .ok (.isub, 1) := by decide +kernel
theorem dM_termTold_73 : decode prog_14_method_25_code 73 = .ok (.iastore, 1) := by decide +kernel
theorem dM_termTold_74 : decode prog_14_method_25_code 74 = .ok (.return_, 1) := by decide +kernel
theorem dM_isEnded_0 : decode prog_14_method_23_code 0 = .ok (.aload_n 0, 1) := by decide +kernel
theorem dM_isEnded_1 : decode prog_14_method_23_code 1 = .ok (.bipush (63), 2) := by decide +kernel
theorem dM_isEnded_3 : decode prog_14_method_23_code 3 = .ok (.invokevirtual 190, 3) := by decide +kernel
theorem dM_isEnded_6 : decode prog_14_method_23_code 6 = .ok (.ifCond .eq (22), 3) := by decide +kernel
theorem dM_isEnded_9 : decode prog_14_method_23_code 9 = .ok (.aload_n 0, 1) := by decide +kernel
theorem dM_isEnded_10 : decode prog_14_method_23_code 10 = .ok (.iconst (3), 1) := by decide +kernel
theorem dM_isEnded_11 : decode prog_14_method_23_code 11 = .ok (.bipush (12), 2) := by decide +kernel
theorem dM_isEnded_13 : decode prog_14_method_23_code 13 = .ok (.invokevirtual 222, 3) := by decide +kernel
theorem dM_isEnded_16 : decode prog_14_method_23_code 16 = .ok (.istore_n 2, 1) := by decide +kernel
theorem dM_isEnded_17 : decode prog_14_method_23_code 17 = .ok (.aload_n 0, 1) := by decide +kernel
theorem dM_isEnded_18 : decode prog_14_method_23_code 18 = .ok (.bipush (100), 2) := by decide +kernel
theorem dM_isEnded_20 : decode prog_14_method_23_code 20 = .ok (.iload_n 2, 1) := by decide +kernel
theorem dM_isEnded_21 : decode prog_14_method_23_code 21 = .ok (.iadd, 1) := by decide +kernel
theorem dM_isEnded_22 : decode prog_14_method_23_code 22 = .ok (.iload_n 1, 1) := by decide +kernel
theorem dM_isEnded_23 : decode prog_14_method_23_code 23 = .ok (.invokevirtual 226, 3) := by decide +kernel
theorem dM_isEnded_26 : decode prog_14_method_23_code 26 = .ok (.iconst (1), 1) := by decide +kernel
theorem dM_isEnded_27 : decode prog_14_method_23_code 27 = .ok (.ireturn, 1) := by decide +kernel
theorem dM_isEnded_28 : decode prog_14_method_23_code 28 = .ok (.aload_n 0, 1) := by decide +kernel
theorem dM_isEnded_29 : decode prog_14_method_23_code 29 = .ok (.iconst (2), 1) := by decide +kernel
theorem dM_isEnded_30 : decode prog_14_method_23_code 30 = .ok (.bipush (24), 2) := by decide +kernel
theorem dM_isEnded_32 : decode prog_14_method_23_code 32 = .ok (.invokevirtual 222, 3) := by decide +kernel
theorem dM_isEnded_35 : decode prog_14_method_23_code 35 = .ok (.istore_n 2, 1) := by decide +kernel
theorem dM_isEnded_36 : decode prog_14_method_23_code 36 = .ok (.aload_n 0, 1) := by decide +kernel
theorem dM_isEnded_37 : decode prog_14_method_23_code 37 = .ok (.getfield 204, 3) := by decide +kernel
theorem dM_isEnded_40 : decode prog_14_method_23_code 40 = .ok (.istore_n 3, 1) := by decide +kernel
theorem dM_isEnded_41 : decode prog_14_method_23_code 41 = .ok (.aload_n 0, 1) := by decide +kernel
theorem dM_isEnded_42 : decode prog_14_method_23_code 42 = .ok (.iload_n 2, 1) := by decide +kernel
theorem dM_isEnded_43 : decode prog_14_method_23_code 43 = .ok (.iload_n 1, 1) := by decide +kernel
theorem dM_isEnded_44 : decode prog_14_method_23_code 44 = .ok (.invokevirtual 226, 3) := by decide +kernel
theorem dM_isEnded_47 : decode prog_14_method_23_code 47 = .ok (.aload_n 0, 1) := by decide +kernel
theorem dM_isEnded_48 : decode prog_14_method_23_code 48 = .ok (.getfield 156, 3) := by decide +kernel
theorem dM_isEnded_51 : decode prog_14_method_23_code 51 = .ok (.ifCond .eq (5), 3) := by decide +kernel
theorem dM_isEnded_54 : decode prog_14_method_23_code 54 = .ok (.iconst (1), 1) := by decide +kernel
theorem dM_isEnded_55 : decode prog_14_method_23_code 55 = .ok (.ireturn, 1) := by decide +kernel
theorem dM_isEnded_56 : decode prog_14_method_23_code 56 = .ok (.aload_n 0, 1) := by decide +kernel
theorem dM_isEnded_57 : decode prog_14_method_23_code 57 = .ok (.invokevirtual 168, 3) := by decide +kernel
theorem dM_isEnded_60 : decode prog_14_method_23_code 60 = .ok (.bipush (40), 2) := by decide +kernel
theorem dM_isEnded_62 : decode prog_14_method_23_code 62 = .ok (.if_icmp .eq (12), 3) := by decide +kernel
theorem dM_isEnded_65 : decode prog_14_method_23_code 65 = .ok (.aload_n 0, 1) := by decide +kernel
theorem dM_isEnded_66 : decode prog_14_method_23_code 66 = .ok (.iload_n 2, 1) := by decide +kernel
theorem dM_isEnded_67 : decode prog_14_method_23_code 67 = .ok (.iconst (0), 1) := by decide +kernel
theorem dM_isEnded_68 : decode prog_14_method_23_code 68 = .ok (.iload_n 3, 1) := by decide +kernel
theorem dM_isEnded_69 : decode prog_14_method_23_code 69 = .ok (.invokevirtual 229, 3) := by decide +kernel
theorem dM_isEnded_72 : decode prog_14_method_23_code 72 = .ok (.iconst (1), 1) := by decide +kernel
theorem dM_isEnded_73 : decode prog_14_method_23_code 73 = .ok (.ireturn, 1) := by decide +kernel
theorem dM_isEnded_74 : decode prog_14_method_23_code 74 = .ok (.aload_n 0, 1) := by decide +kernel
theorem dM_isEnded_75 : decode prog_14_method_23_code 75 = .ok (.getfield 233, 3) := by decide +kernel
theorem dM_isEnded_78 : decode prog_14_method_23_code 78 = .ok (.bipush (6), 2) := by decide +kernel
theorem dM_isEnded_80 : decode prog_14_method_23_code 80 = .ok (.if_icmp .ne (14), 3) := by decide +kernel
theorem dM_isEnded_83 : decode prog_14_method_23_code 83 = .ok (.aload_n 0, 1) := by decide +kernel
theorem dM_isEnded_84 : decode prog_14_method_23_code 84 = .ok (.iconst (4), 1) := by decide +kernel
theorem dM_isEnded_85 : decode prog_14_method_23_code 85 = .ok (.aload_n 0, 1) := by decide +kernel
theorem dM_isEnded_86 : decode prog_14_method_23_code 86 = .ok (.getfield 162, 3) := by decide +kernel
theorem dM_isEnded_89 : decode prog_14_method_23_code 89 = .ok (.invokevirtual 186, 3) := by decide +kernel
theorem dM_isEnded_92 : decode prog_14_method_23_code 92 = .ok (.iconst (1), 1) := by decide +kernel
theorem dM_isEnded_93 : decode prog_14_method_23_code 93 = .ok (.ireturn, 1) := by decide +kernel
theorem dM_isEnded_94 : decode prog_14_method_23_code 94 = .ok (.aload_n 0, 1) := by decide +kernel
theorem dM_isEnded_95 : decode prog_14_method_23_code 95 = .ok (.dup, 1) := by decide +kernel
theorem dM_isEnded_96 : decode prog_14_method_23_code 96 = .ok (.getfield 162, 3) := by decide +kernel
theorem dM_isEnded_99 : decode prog_14_method_23_code 99 = .ok (.iconst (1), 1) := by decide +kernel
theorem dM_isEnded_100 : decode prog_14_method_23_code 100 = .ok (.iadd, 1) := by decide +kernel
theorem dM_isEnded_101 : decode prog_14_method_23_code 101 = .ok (.putfield 162, 3) := by decide +kernel
theorem dM_isEnded_104 : decode prog_14_method_23_code 104 = .ok (.aload_n 0, 1) := by decide +kernel
theorem dM_isEnded_105 : decode prog_14_method_23_code 105 = .ok (.getfield 82, 3) := by decide +kernel
theorem dM_isEnded_108 : decode prog_14_method_23_code 108 = .ok (.aload_n 0, 1) := by decide +kernel
theorem dM_isEnded_109 : decode prog_14_method_23_code 109 = .ok (.getfield 233, 3) := by decide +kernel
theorem dM_isEnded_112 : decode prog_14_method_23_code 112 = .ok (.iload_n 2, 1) := by decide +kernel
theorem dM_isEnded_113 : decode prog_14_method_23_code 113 = .ok (.iastore, 1) := by decide +kernel
theorem dM_isEnded_114 : decode prog_14_method_23_code 114 = .ok (.aload_n 0, 1) := by decide +kernel
theorem dM_isEnded_115 : decode prog_14_method_23_code 115 = .ok (.getfield 85, 3) := by decide +kernel
theorem dM_isEnded_118 : decode prog_14_method_23_code 118 = .ok (.aload_n 0, 1) := by decide +kernel
theorem dM_isEnded_119 : decode prog_14_method_23_code 119 = .ok (.getfield 233, 3) := by decide +kernel
theorem dM_isEnded_122 : decode prog_14_method_23_code 122 = .ok (.iload_n 3, 1) := by decide +kernel
theorem dM_isEnded_123 : decode prog_14_method_23_code 123 = .ok (.iastore, 1) := by decide +kernel
theorem dM_isEnded_124 : decode prog_14_method_23_code 124 = .ok (.aload_n 0, 1) := by decide +kernel
theorem dM_isEnded_125 : decode prog_14_method_23_code 125 = .ok (.getfield 88, 3) := by decide +kernel
theorem dM_isEnded_128 : decode prog_14_method_23_code 128 = .ok (.aload_n 0, 1) := by decide +kernel
theorem dM_isEnded_129 : decode prog_14_method_23_code 129 = .ok (.getfield 233, 3) := by decide +kernel
theorem dM_isEnded_132 : decode prog_14_method_23_code 132 = .ok (.iconst (0), 1) := by decide +kernel
theorem dM_isEnded_133 : decode prog_14_method_23_code 133 = .ok (.iastore, 1) := by decide +kernel
theorem dM_isEnded_134 : decode prog_14_method_23_code 134 = .ok (.aload_n 0, 1) := by decide +kernel
theorem dM_isEnded_135 : decode prog_14_method_23_code 135 = .ok (.dup, 1) := by decide +kernel
theorem dM_isEnded_136 : decode prog_14_method_23_code 136 = .ok (.getfield 233, 3) := by decide +kernel
theorem dM_isEnded_139 : decode prog_14_method_23_code 139 = .ok (.iconst (1), 1) := by decide +kernel
theorem dM_isEnded_140 : decode prog_14_method_23_code 140 = .ok (.iadd, 1) := by decide +kernel
theorem dM_isEnded_141 : decode prog_14_method_23_code 141 = .ok (.putfield 233, 3) := by decide +kernel
theorem dM_isEnded_144 : decode prog_14_method_23_code 144 = .ok (.iconst (0), 1) := by decide +kernel
theorem dM_isEnded_145 : decode prog_14_method_23_code 145 = .ok (.ireturn, 1) := by decide +kernel
theorem dM_takesSign_0 : decode prog_14_method_12_code 0 = .ok (.aload_n 0, 1) := by decide +kernel
theorem dM_takesSign_1 : decode prog_14_method_12_code 1 = .ok (.getfield 156, 3) := by decide +kernel
theorem dM_takesSign_4 : decode prog_14_method_12_code 4 = .ok (.ifCond .ne (11), 3) := by decide +kernel
theorem dM_takesSign_7 : decode prog_14_method_12_code 7 = .ok (.aload_n 0, 1) := by decide +kernel
theorem dM_takesSign_8 : decode prog_14_method_12_code 8 = .ok (.invokevirtual 168, 3) := by decide +kernel
theorem dM_takesSign_11 : decode prog_14_method_12_code 11 = .ok (.iload_n 1, 1) := by decide +kernel
theorem dM_takesSign_12 : decode prog_14_method_12_code 12 = .ok (.if_icmp .eq (5), 3) := by decide +kernel
theorem dM_takesSign_15 : decode prog_14_method_12_code 15 = .ok (.iconst (0), 1) := by decide +kernel
theorem dM_takesSign_16 : decode prog_14_method_12_code 16 = .ok (.ireturn, 1) := by decide +kernel
theorem dM_takesSign_17 : decode prog_14_method_12_code 17 = .ok (.aload_n 0, 1) := by decide +kernel
theorem dM_takesSign_18 : decode prog_14_method_12_code 18 = .ok (.dup, 1) := by decide +kernel
theorem dM_takesSign_19 : decode prog_14_method_12_code 19 = .ok (.getfield 162, 3) := by decide +kernel
theorem dM_takesSign_22 : decode prog_14_method_12_code 22 = .ok (.iconst (1), 1) := by decide +kernel
theorem dM_takesSign_23 : decode prog_14_method_12_code 23 = .ok (.iadd, 1) := by decide +kernel
theorem dM_takesSign_24 : decode prog_14_method_12_code 24 = .ok (.putfield 162, 3) := by decide +kernel
theorem dM_takesSign_27 : decode prog_14_method_12_code 27 = .ok (.iconst (1), 1) := by decide +kernel
theorem dM_takesSign_28 : decode prog_14_method_12_code 28 = .ok (.ireturn, 1) := by decide +kernel
theorem dM_known_0 : decode prog_14_method_20_code 0 = .ok (.aload_n 0, 1) := by decide +kernel
theorem dM_known_1 : decode prog_14_method_20_code 1 = .ok (.invokevirtual 211, 3) := by decide +kernel
theorem dM_known_4 : decode prog_14_method_20_code 4 = .ok (.lstore_n 3, 1) := by decide +kernel
theorem dM_known_5 : decode prog_14_method_20_code 5 = .ok (.aload_n 0, 1) := by decide +kernel
theorem dM_known_6 : decode prog_14_method_20_code 6 = .ok (.getfield 156, 3) := by decide +kernel
theorem dM_known_9 : decode prog_14_method_20_code 9 = .ok (.ifCond .eq (5), 3) := by decide +kernel
theorem dM_known_12 : decode prog_14_method_20_code 12 = .ok (.iconst (0), 1) := by decide +kernel
theorem dM_known_13 : decode prog_14_method_20_code 13 = .ok (.ireturn, 1) := by decide +kernel
theorem dM_known_14 : decode prog_14_method_20_code 14 = .ok (.aload_n 0, 1) := by decide +kernel
theorem dM_known_15 : decode prog_14_method_20_code 15 = .ok (.iload_n 1, 1) := by decide +kernel
theorem dM_known_16 : decode prog_14_method_20_code 16 = .ok (.lload_n 3, 1) := by decide +kernel
theorem dM_known_17 : decode prog_14_method_20_code 17 = .ok (.invokevirtual 215, 3) := by decide +kernel
theorem dM_known_20 : decode prog_14_method_20_code 20 = .ok (.istore 5, 2) := by decide +kernel
theorem dM_known_22 : decode prog_14_method_20_code 22 = .ok (.iload 5, 2) := by decide +kernel
theorem dM_known_24 : decode prog_14_method_20_code 24 = .ok (.iconst (-1), 1) := by decide +kernel
theorem dM_known_25 : decode prog_14_method_20_code 25 = .ok (.if_icmp .eq (6), 3) := by decide +kernel
theorem dM_known_28 : decode prog_14_method_20_code 28 = .ok (.iload 5, 2) := by decide +kernel
theorem dM_known_30 : decode prog_14_method_20_code 30 = .ok (.ireturn, 1) := by decide +kernel
theorem dM_known_31 : decode prog_14_method_20_code 31 = .ok (.aload_n 0, 1) := by decide +kernel
theorem dM_known_32 : decode prog_14_method_20_code 32 = .ok (.getfield 45, 3) := by decide +kernel
theorem dM_known_35 : decode prog_14_method_20_code 35 = .ok (.iload_n 1, 1) := by decide +kernel
theorem dM_known_36 : decode prog_14_method_20_code 36 = .ok (.iaload, 1) := by decide +kernel
theorem dM_known_37 : decode prog_14_method_20_code 37 = .ok (.iload_n 2, 1) := by decide +kernel
theorem dM_known_38 : decode prog_14_method_20_code 38 = .ok (.if_icmp .ne (14), 3) := by decide +kernel
theorem dM_known_41 : decode prog_14_method_20_code 41 = .ok (.aload_n 0, 1) := by decide +kernel
theorem dM_known_42 : decode prog_14_method_20_code 42 = .ok (.iconst (5), 1) := by decide +kernel
theorem dM_known_43 : decode prog_14_method_20_code 43 = .ok (.aload_n 0, 1) := by decide +kernel
theorem dM_known_44 : decode prog_14_method_20_code 44 = .ok (.getfield 204, 3) := by decide +kernel
theorem dM_known_47 : decode prog_14_method_20_code 47 = .ok (.invokevirtual 186, 3) := by decide +kernel
theorem dM_known_50 : decode prog_14_method_20_code 50 = .ok (.iconst (0), 1) := by decide +kernel
theorem dM_known_51 : decode prog_14_method_20_code 51 = .ok (.ireturn, 1) := by decide +kernel
theorem dM_known_52 : decode prog_14_method_20_code 52 = .ok (.aload_n 0, 1) := by decide +kernel
theorem dM_known_53 : decode prog_14_method_20_code 53 = .ok (.getfield 45, 3) := by decide +kernel
theorem dM_known_56 : decode prog_14_method_20_code 56 = .ok (.iload_n 1, 1) := by decide +kernel
theorem dM_known_57 : decode prog_14_method_20_code 57 = .ok (.iaload, 1) := by decide +kernel
theorem dM_known_58 : decode prog_14_method_20_code 58 = .ok (.istore 5, 2) := by decide +kernel
theorem dM_known_60 : decode prog_14_method_20_code 60 = .ok (.aload_n 0, 1) := by decide +kernel
theorem dM_known_61 : decode prog_14_method_20_code 61 = .ok (.getfield 48, 3) := by decide +kernel
theorem dM_known_64 : decode prog_14_method_20_code 64 = .ok (.bipush (24), 2) := by decide +kernel
theorem dM_known_66 : decode prog_14_method_20_code 66 = .ok (.iload_n 1, 1) := by decide +kernel
theorem dM_known_67 : decode prog_14_method_20_code 67 = .ok (.imul, 1) := by decide +kernel
theorem dM_known_68 : decode prog_14_method_20_code 68 = .ok (.iload 5, 2) := by decide +kernel
theorem dM_known_70 : decode prog_14_method_20_code 70 = .ok (.iadd, 1) := by decide +kernel
theorem dM_known_71 : decode prog_14_method_20_code 71 = .ok (.lload_n 3, 1) := by decide +kernel
theorem dM_known_72 : decode prog_14_method_20_code 72 = .ok (.lastore, 1) := by decide +kernel
theorem dM_known_73 : decode prog_14_method_20_code 73 = .ok (.iload_n 1, 1) := by decide +kernel
theorem dM_known_74 : decode prog_14_method_20_code 74 = .ok (.iconst (2), 1) := by decide +kernel
theorem dM_known_75 : decode prog_14_method_20_code 75 = .ok (.if_icmp .ne (11), 3) := by decide +kernel
theorem dM_known_78 : decode prog_14_method_20_code 78 = .ok (.aload_n 0, 1) := by decide +kernel
theorem dM_known_79 : decode prog_14_method_20_code 79 = .ok (.getfield 52, 3) := by decide +kernel
theorem dM_known_82 : decode prog_14_method_20_code 82 = .ok (.iload 5, 2) := by decide +kernel
theorem dM_known_84 : decode prog_14_method_20_code 84 = .ok (.iconst (-1), 1) := by decide +kernel
theorem dM_known_85 : decode prog_14_method_20_code 85 = .ok (.iastore, 1) := by decide +kernel
theorem dM_known_86 : decode prog_14_method_20_code 86 = .ok (.aload_n 0, 1) := by decide +kernel
theorem dM_known_87 : decode prog_14_method_20_code 87 = .ok (.getfield 45, 3) := by decide +kernel
theorem dM_known_90 : decode prog_14_method_20_code 90 = .ok (.iload_n 1, 1) := by decide +kernel
theorem dM_known_91 : decode prog_14_method_20_code 91 = .ok (.dup2, 1) := by decide +kernel
theorem dM_known_92 : decode prog_14_method_20_code 92 = .ok (.iaload, 1) := by decide +kernel
theorem dM_known_93 : decode prog_14_method_20_code 93 = .ok (.iconst (1), 1) := by decide +kernel
theorem dM_known_94 : decode prog_14_method_20_code 94 = .ok (.iadd, 1) := by decide +kernel
theorem dM_known_95 : decode prog_14_method_20_code 95 = .ok (.iastore, 1) := by decide +kernel
theorem dM_known_96 : decode prog_14_method_20_code 96 = .ok (.iload 5, 2) := by decide +kernel
theorem dM_known_98 : decode prog_14_method_20_code 98 = .ok (.ireturn, 1) := by decide +kernel
theorem dM_lays_0 : decode prog_14_method_21_code 0 = .ok (.aload_n 0, 1) := by decide +kernel
theorem dM_lays_1 : decode prog_14_method_21_code 1 = .ok (.getfield 156, 3) := by decide +kernel
theorem dM_lays_4 : decode prog_14_method_21_code 4 = .ok (.ifCond .ne (33), 3) := by decide +kernel
theorem dM_lays_7 : decode prog_14_method_21_code 7 = .ok (.aload_n 0, 1) := by decide +kernel
theorem dM_lays_8 : decode prog_14_method_21_code 8 = .ok (.getfield 219, 3) := by decide +kernel
theorem dM_lays_11 : decode prog_14_method_21_code 11 = .ok (.iload_n 2, 1) := by decide +kernel
theorem dM_lays_12 : decode prog_14_method_21_code 12 = .ok (.isub, 1) := by decide +kernel
theorem dM_lays_13 : decode prog_14_method_21_code 13 = .ok (.bipush (24), 2) := by decide +kernel
theorem dM_lays_15 : decode prog_14_method_21_code 15 = .ok (.if_icmp .eq (13), 3) := by decide +kernel
theorem dM_lays_18 : decode prog_14_method_21_code 18 = .ok (.aload_n 0, 1) := by decide +kernel
theorem dM_lays_19 : decode prog_14_method_21_code 19 = .ok (.getfield 219, 3) := by decide +kernel
theorem dM_lays_22 : decode prog_14_method_21_code 22 = .ok (.sipush (400), 3) := by decide +kernel
theorem dM_lays_25 : decode prog_14_method_21_code 25 = .ok (.if_icmp .ne (12), 3) := by decide +kernel
theorem dM_lays_28 : decode prog_14_method_21_code 28 = .ok (.aload_n 0, 1) := by decide +kernel
theorem dM_lays_29 : decode prog_14_method_21_code 29 = .ok (.iconst (5), 1) := by decide +kernel
theorem dM_lays_30 : decode prog_14_method_21_code 30 = .ok (.aload_n 0, 1) := by decide +kernel
theorem dM_lays_31 : decode prog_14_method_21_code 31 = .ok (.getfield 204, 3) := by decide +kernel
theorem dM_lays_34 : decode prog_14_method_21_code 34 = .ok (.invokevirtual 186, 3) := by decide +kernel
theorem dM_lays_37 : decode prog_14_method_21_code 37 = .ok (.aload_n 0, 1) := by decide +kernel
theorem dM_lays_38 : decode prog_14_method_21_code 38 = .ok (.getfield 156, 3) := by decide +kernel
theorem dM_lays_41 : decode prog_14_method_21_code 41 = .ok (.ifCond .eq (4), 3) := by decide +kernel
theorem dM_lays_44 : decode prog_14_method_21_code 44 = .ok (.return_, 1) := by decide +kernel
theorem dM_lays_45 : decode prog_14_method_21_code 45 = .ok (.aload_n 0, 1) := by decide +kernel
theorem dM_lays_46 : decode prog_14_method_21_code 46 = .ok (.getfield 55, 3) := by decide +kernel
theorem dM_lays_49 : decode prog_14_method_21_code 49 = .ok (.aload_n 0, 1) := by decide +kernel
theorem dM_lays_50 : decode prog_14_method_21_code 50 = .ok (.getfield 219, 3) := by decide +kernel
theorem dM_lays_53 : decode prog_14_method_21_code 53 = .ok (.iload_n 1, 1) := by decide +kernel
theorem dM_lays_54 : decode prog_14_method_21_code 54 = .ok (.iastore, 1) := by decide +kernel
theorem dM_lays_55 : decode prog_14_method_21_code 55 = .ok (.aload_n 0, 1) := by decide +kernel
theorem dM_lays_56 : decode prog_14_method_21_code 56 = .ok (.dup, 1) := by decide +kernel
theorem dM_lays_57 : decode prog_14_method_21_code 57 = .ok (.getfield 219, 3) := by decide +kernel
theorem dM_lays_60 : decode prog_14_method_21_code 60 = .ok (.iconst (1), 1) := by decide +kernel
theorem dM_lays_61 : decode prog_14_method_21_code 61 = .ok (.iadd, 1) := by decide +kernel
theorem dM_lays_62 : decode prog_14_method_21_code 62 = .ok (.putfield 219, 3) := by decide +kernel
theorem dM_lays_65 : decode prog_14_method_21_code 65 = .ok (.return_, 1) := by decide +kernel
theorem dM_ends_0 : decode prog_14_method_22_code 0 = .ok (.aload_n 0, 1) := by decide +kernel
theorem dM_ends_1 : decode prog_14_method_22_code 1 = .ok (.getfield 156, 3) := by decide +kernel
theorem dM_ends_4 : decode prog_14_method_22_code 4 = .ok (.ifCond .eq (4), 3) := by decide +kernel
theorem dM_ends_7 : decode prog_14_method_22_code 7 = .ok (.return_, 1) := by decide +kernel
theorem dM_ends_8 : decode prog_14_method_22_code 8 = .ok (.aload_n 0, 1) := by decide +kernel
theorem dM_ends_9 : decode prog_14_method_22_code 9 = .ok (.getfield 52, 3) := by decide +kernel
theorem dM_ends_12 : decode prog_14_method_22_code 12 = .ok (.iload_n 1, 1) := by decide +kernel
theorem dM_ends_13 : decode prog_14_method_22_code 13 = .ok (.iaload, 1) := by decide +kernel
theorem dM_ends_14 : decode prog_14_method_22_code 14 = .ok (.iconst (-1), 1) := by decide +kernel
theorem dM_ends_15 : decode prog_14_method_22_code 15 = .ok (.if_icmp .ne (13), 3) := by decide +kernel
theorem dM_ends_18 : decode prog_14_method_22_code 18 = .ok (.aload_n 0, 1) := by decide +kernel
theorem dM_ends_19 : decode prog_14_method_22_code 19 = .ok (.getfield 52, 3) := by decide +kernel
theorem dM_ends_22 : decode prog_14_method_22_code 22 = .ok (.iload_n 1, 1) := by decide +kernel
theorem dM_ends_23 : decode prog_14_method_22_code 23 = .ok (.iload_n 2, 1) := by decide +kernel
theorem dM_ends_24 : decode prog_14_method_22_code 24 = .ok (.iastore, 1) := by decide +kernel
theorem dM_ends_25 : decode prog_14_method_22_code 25 = .ok (.goto (19), 3) := by decide +kernel
theorem dM_ends_28 : decode prog_14_method_22_code 28 = .ok (.aload_n 0, 1) := by decide +kernel
theorem dM_ends_29 : decode prog_14_method_22_code 29 = .ok (.getfield 52, 3) := by decide +kernel
theorem dM_ends_32 : decode prog_14_method_22_code 32 = .ok (.iload_n 1, 1) := by decide +kernel
theorem dM_ends_33 : decode prog_14_method_22_code 33 = .ok (.iaload, 1) := by decide +kernel
theorem dM_ends_34 : decode prog_14_method_22_code 34 = .ok (.iload_n 2, 1) := by decide +kernel
theorem dM_ends_35 : decode prog_14_method_22_code 35 = .ok (.if_icmp .eq (9), 3) := by decide +kernel
theorem dM_ends_38 : decode prog_14_method_22_code 38 = .ok (.aload_n 0, 1) := by decide +kernel
theorem dM_ends_39 : decode prog_14_method_22_code 39 = .ok (.iconst (3), 1) := by decide +kernel
theorem dM_ends_40 : decode prog_14_method_22_code 40 = .ok (.iload_n 3, 1) := by decide +kernel
theorem dM_ends_41 : decode prog_14_method_22_code 41 = .ok (.invokevirtual 186, 3) := by decide +kernel
theorem dM_ends_44 : decode prog_14_method_22_code 44 = .ok (.return_, 1) := by decide +kernel
theorem dM_goesOn_0 : decode prog_14_method_24_code 0 = .ok (.aload_n 0, 1) := by decide +kernel
theorem dM_goesOn_1 : decode prog_14_method_24_code 1 = .ok (.getfield 156, 3) := by decide +kernel
theorem dM_goesOn_4 : decode prog_14_method_24_code 4 = .ok (.ifCond .ne (98), 3) := by decide +kernel
theorem dM_goesOn_7 : decode prog_14_method_24_code 7 = .ok (.aload_n 0, 1) := by decide +kernel
theorem dM_goesOn_8 : decode prog_14_method_24_code 8 = .ok (.getfield 233, 3) := by decide +kernel
theorem dM_goesOn_11 : decode prog_14_method_24_code 11 = .ok (.ifCond .le (91), 3) := by decide +kernel
theorem dM_goesOn_14 : decode prog_14_method_24_code 14 = .ok (.aload_n 0, 1) := by decide +kernel
theorem dM_goesOn_15 : decode prog_14_method_24_code 15 = .ok (.getfield 233, 3) := by decide +kernel
theorem dM_goesOn_18 : decode prog_14_method_24_code 18 = .ok (.iconst (1), 1) := by decide +kernel
theorem dM_goesOn_19 : decode prog_14_method_24_code 19 = .ok (.isub, 1) := by decide +kernel
theorem dM_goesOn_20 : decode prog_14_method_24_code 20 = .ok (.istore_n 1, 1) := by decide +kernel
theorem dM_goesOn_21 : decode prog_14_method_24_code 21 = .ok (.aload_n 0, 1) := by decide +kernel
theorem dM_goesOn_22 : decode prog_14_method_24_code 22 = .ok (.getfield 88, 3) := by decide +kernel
theorem dM_goesOn_25 : decode prog_14_method_24_code 25 = .ok (.iload_n 1, 1) := by decide +kernel
theorem dM_goesOn_26 : decode prog_14_method_24_code 26 = .ok (.dup2, 1) := by decide +kernel
theorem dM_goesOn_27 : decode prog_14_method_24_code 27 = .ok (.iaload, 1) := by decide +kernel
theorem dM_goesOn_28 : decode prog_14_method_24_code 28 = .ok (.iconst (1), 1) := by decide +kernel
theorem dM_goesOn_29 : decode prog_14_method_24_code 29 = .ok (.iadd, 1) := by decide +kernel
theorem dM_goesOn_30 : decode prog_14_method_24_code 30 = .ok (.iastore, 1) := by decide +kernel
theorem dM_goesOn_31 : decode prog_14_method_24_code 31 = .ok (.aload_n 0, 1) := by decide +kernel
theorem dM_goesOn_32 : decode prog_14_method_24_code 32 = .ok (.getfield 88, 3) := by decide +kernel
theorem dM_goesOn_35 : decode prog_14_method_24_code 35 = .ok (.iload_n 1, 1) := by decide +kernel
theorem dM_goesOn_36 : decode prog_14_method_24_code 36 = .ok (.iaload, 1) := by decide +kernel
theorem dM_goesOn_37 : decode prog_14_method_24_code 37 = .ok (.iconst (3), 1) := by decide +kernel
theorem dM_goesOn_38 : decode prog_14_method_24_code 38 = .ok (.if_icmp .ge (14), 3) := by decide +kernel
theorem dM_goesOn_41 : decode prog_14_method_24_code 41 = .ok (.aload_n 0, 1) := by decide +kernel
theorem dM_goesOn_42 : decode prog_14_method_24_code 42 = .ok (.bipush (44), 2) := by decide +kernel
theorem dM_goesOn_44 : decode prog_14_method_24_code 44 = .ok (.invokevirtual 190, 3) := by decide +kernel
theorem dM_goesOn_47 : decode prog_14_method_24_code 47 = .ok (.ifCond .eq (5), 3) := by decide +kernel
theorem dM_goesOn_50 : decode prog_14_method_24_code 50 = .ok (.iconst (1), 1) := by decide +kernel
theorem dM_goesOn_51 : decode prog_14_method_24_code 51 = .ok (.ireturn, 1) := by decide +kernel
theorem dM_goesOn_52 : decode prog_14_method_24_code 52 = .ok (.aload_n 0, 1) := by decide +kernel
theorem dM_goesOn_53 : decode prog_14_method_24_code 53 = .ok (.bipush (41), 2) := by decide +kernel
theorem dM_goesOn_55 : decode prog_14_method_24_code 55 = .ok (.invokevirtual 236, 3) := by decide +kernel
theorem dM_goesOn_58 : decode prog_14_method_24_code 58 = .ok (.aload_n 0, 1) := by decide +kernel
theorem dM_goesOn_59 : decode prog_14_method_24_code 59 = .ok (.getfield 156, 3) := by decide +kernel
theorem dM_goesOn_62 : decode prog_14_method_24_code 62 = .ok (.ifCond .eq (5), 3) := by decide +kernel
theorem dM_goesOn_65 : decode prog_14_method_24_code 65 = .ok (.iconst (0), 1) := by decide +kernel
theorem dM_goesOn_66 : decode prog_14_method_24_code 66 = .ok (.ireturn, 1) := by decide +kernel
theorem dM_goesOn_67 : decode prog_14_method_24_code 67 = .ok (.aload_n 0, 1) := by decide +kernel
theorem dM_goesOn_68 : decode prog_14_method_24_code 68 = .ok (.aload_n 0, 1) := by decide +kernel
theorem dM_goesOn_69 : decode prog_14_method_24_code 69 = .ok (.getfield 82, 3) := by decide +kernel
theorem dM_goesOn_72 : decode prog_14_method_24_code 72 = .ok (.iload_n 1, 1) := by decide +kernel
theorem dM_goesOn_73 : decode prog_14_method_24_code 73 = .ok (.iaload, 1) := by decide +kernel
theorem dM_goesOn_74 : decode prog_14_method_24_code 74 = .ok (.aload_n 0, 1) := by decide +kernel
theorem dM_goesOn_75 : decode prog_14_method_24_code 75 = .ok (.getfield 88, 3) := by decide +kernel
theorem dM_goesOn_78 : decode prog_14_method_24_code 78 = .ok (.iload_n 1, 1) := by decide +kernel
theorem dM_goesOn_79 : decode prog_14_method_24_code 79 = .ok (.iaload, 1) := by decide +kernel
theorem dM_goesOn_80 : decode prog_14_method_24_code 80 = .ok (.aload_n 0, 1) := by decide +kernel
theorem dM_goesOn_81 : decode prog_14_method_24_code 81 = .ok (.getfield 85, 3) := by decide +kernel
theorem dM_goesOn_84 : decode prog_14_method_24_code 84 = .ok (.iload_n 1, 1) := by decide +kernel
theorem dM_goesOn_85 : decode prog_14_method_24_code 85 = .ok (.iaload, 1) := by decide +kernel
theorem dM_goesOn_86 : decode prog_14_method_24_code 86 = .ok (.invokevirtual 229, 3) := by decide +kernel
theorem dM_goesOn_89 : decode prog_14_method_24_code 89 = .ok (.aload_n 0, 1) := by decide +kernel
theorem dM_goesOn_90 : decode prog_14_method_24_code 90 = .ok (.dup, 1) := by decide +kernel
theorem dM_goesOn_91 : decode prog_14_method_24_code 91 = .ok (.getfield 233, 3) := by decide +kernel
theorem dM_goesOn_94 : decode prog_14_method_24_code 94 = .ok (.iconst (1), 1) := by decide +kernel
theorem dM_goesOn_95 : decode prog_14_method_24_code 95 = .ok (.isub, 1) := by decide +kernel
theorem dM_goesOn_96 : decode prog_14_method_24_code 96 = .ok (.putfield 233, 3) := by decide +kernel
theorem dM_goesOn_99 : decode prog_14_method_24_code 99 = .ok (.goto (-99), 3) := by decide +kernel
theorem dM_goesOn_102 : decode prog_14_method_24_code 102 = .ok (.iconst (0), 1) := by decide +kernel
theorem dM_goesOn_103 : decode prog_14_method_24_code 103 = .ok (.ireturn, 1) := by decide +kernel
theorem dM_asksSign_0 : decode prog_14_method_13_code 0 = .ok (.aload_n 0, 1) := by decide +kernel
theorem dM_asksSign_1 : decode prog_14_method_13_code 1 = .ok (.getfield 156, 3) := by decide +kernel
theorem dM_asksSign_4 : decode prog_14_method_13_code 4 = .ok (.ifCond .ne (20), 3) := by decide +kernel
theorem dM_asksSign_7 : decode prog_14_method_13_code 7 = .ok (.aload_n 0, 1) := by decide +kernel
theorem dM_asksSign_8 : decode prog_14_method_13_code 8 = .ok (.iload_n 1, 1) := by decide +kernel
theorem dM_asksSign_9 : decode prog_14_method_13_code 9 = .ok (.invokevirtual 190, 3) := by decide +kernel
theorem dM_asksSign_12 : decode prog_14_method_13_code 12 = .ok (.ifCond .ne (12), 3) := by decide +kernel
theorem dM_asksSign_15 : decode prog_14_method_13_code 15 = .ok (.aload_n 0, 1) := by decide +kernel
theorem dM_asksSign_16 : decode prog_14_method_13_code 16 = .ok (.iconst (1), 1) := by decide +kernel
theorem dM_asksSign_17 : decode prog_14_method_13_code 17 = .ok (.aload_n 0, 1) := by decide +kernel
theorem dM_asksSign_18 : decode prog_14_method_13_code 18 = .ok (.getfield 162, 3) := by decide +kernel
theorem dM_asksSign_21 : decode prog_14_method_13_code 21 = .ok (.invokevirtual 186, 3) := by decide +kernel
theorem dM_asksSign_24 : decode prog_14_method_13_code 24 = .ok (.return_, 1) := by decide +kernel
theorem dM_asks_0 : decode prog_14_method_11_code 0 = .ok (.aload_n 0, 1) := by decide +kernel
theorem dM_asks_1 : decode prog_14_method_11_code 1 = .ok (.getfield 156, 3) := by decide +kernel
theorem dM_asks_4 : decode prog_14_method_11_code 4 = .ok (.ifCond .ne (20), 3) := by decide +kernel
theorem dM_asks_7 : decode prog_14_method_11_code 7 = .ok (.aload_n 0, 1) := by decide +kernel
theorem dM_asks_8 : decode prog_14_method_11_code 8 = .ok (.aload_n 1, 1) := by decide +kernel
theorem dM_asks_9 : decode prog_14_method_11_code 9 = .ok (.invokevirtual 183, 3) := by decide +kernel
theorem dM_asks_12 : decode prog_14_method_11_code 12 = .ok (.ifCond .ne (12), 3) := by decide +kernel
theorem dM_asks_15 : decode prog_14_method_11_code 15 = .ok (.aload_n 0, 1) := by decide +kernel
theorem dM_asks_16 : decode prog_14_method_11_code 16 = .ok (.iconst (1), 1) := by decide +kernel
theorem dM_asks_17 : decode prog_14_method_11_code 17 = .ok (.aload_n 0, 1) := by decide +kernel
theorem dM_asks_18 : decode prog_14_method_11_code 18 = .ok (.getfield 162, 3) := by decide +kernel
theorem dM_asks_21 : decode prog_14_method_11_code 21 = .ok (.invokevirtual 186, 3) := by decide +kernel
theorem dM_asks_24 : decode prog_14_method_11_code 24 = .ok (.return_, 1) := by decide +kernel
theorem dM_stepTold_0 : decode prog_14_method_27_code 0 = .ok (.aload_n 0, 1) := by decide +kernel
theorem dM_stepTold_1 : decode prog_14_method_27_code 1 = .ok (.iconst (4), 1) := by decide +kernel
theorem dM_stepTold_2 : decode prog_14_method_27_code 2 = .ok (.bipush (40), 2) := by decide +kernel
theorem dM_stepTold_4 : decode prog_14_method_27_code 4 = .ok (.iload_n 1, 1) := by decide +kernel
theorem dM_stepTold_5 : decode prog_14_method_27_code 5 = .ok (.invokevirtual 246, 3) := by decide +kernel
theorem dM_stepTold_8 : decode prog_14_method_27_code 8 = .ok (.ifCond .eq (4), 3) := by decide +kernel
theorem dM_stepTold_11 : decode prog_14_method_27_code 11 = .ok (.return_, 1) := by decide +kernel
theorem dM_stepTold_12 : decode prog_14_method_27_code 12 = .ok (.aload_n 0, 1) := by decide +kernel
theorem dM_stepTold_13 : decode prog_14_method_27_code 13 = .ok (.getfield 45, 3) := by decide +kernel
theorem dM_stepTold_16 : decode prog_14_method_27_code 16 = .ok (.iconst (4), 1) := by decide +kernel
theorem dM_stepTold_17 : decode prog_14_method_27_code 17 = .ok (.iaload, 1) := by decide +kernel
theorem dM_stepTold_18 : decode prog_14_method_27_code 18 = .ok (.istore_n 2, 1) := by decide +kernel
theorem dM_stepTold_19 : decode prog_14_method_27_code 19 = .ok (.aload_n 0, 1) := by decide +kernel
theorem dM_stepTold_20 : decode prog_14_method_27_code 20 = .ok (.bipush (48), 2) := by decide +kernel
theorem dM_stepTold_22 : decode prog_14_method_27_code 22 = .ok (.iload_n 2, 1) := by decide +kernel
theorem dM_stepTold_23 : decode prog_14_method_27_code 23 = .ok (.iadd, 1) := by decide +kernel
theorem dM_stepTold_24 : decode prog_14_method_27_code 24 = .ok (.invokevirtual 254, 3) := by decide +kernel
theorem dM_stepTold_27 : decode prog_14_method_27_code 27 = .ok (.aload_n 0, 1) := by decide +kernel
theorem dM_stepTold_28 : decode prog_14_method_27_code 28 = .ok (.aload_n 0, 1) := by decide +kernel
theorem dM_stepTold_29 : decode prog_14_method_27_code 29 = .ok (.getfield 27, 3) := by decide +kernel
theorem dM_stepTold_32 : decode prog_14_method_27_code 32 = .ok (.invokevirtual 257, 3) := by decide +kernel
theorem dM_stepTold_35 : decode prog_14_method_27_code 35 = .ok (.aload_n 0, 1) := by decide +kernel
theorem dM_stepTold_36 : decode prog_14_method_27_code 36 = .ok (.invokevirtual 211, 3) := by decide +kernel
theorem dM_stepTold_39 : decode prog_14_method_27_code 39 = .ok (.lstore_n 3, 1) := by decide +kernel
theorem dM_stepTold_40 : decode prog_14_method_27_code 40 = .ok (.aload_n 0, 1) := by decide +kernel
theorem dM_stepTold_41 : decode prog_14_method_27_code 41 = .ok (.iconst (0), 1) := by decide +kernel
theorem dM_stepTold_42 : decode prog_14_method_27_code 42 = .ok (.lload_n 3, 1) := by decide +kernel
theorem dM_stepTold_43 : decode prog_14_method_27_code 43 = .ok (.invokevirtual 215, 3) := by decide +kernel
theorem dM_stepTold_46 : decode prog_14_method_27_code 46 = .ok (.istore 5, 2) := by decide +kernel
theorem dM_stepTold_48 : decode prog_14_method_27_code 48 = .ok (.aload_n 0, 1) := by decide +kernel
theorem dM_stepTold_49 : decode prog_14_method_27_code 49 = .ok (.getfield 156, 3) := by decide +kernel
theorem dM_stepTold_52 : decode prog_14_method_27_code 52 = .ok (.ifCond .ne (18), 3) := by decide +kernel
theorem dM_stepTold_55 : decode prog_14_method_27_code 55 = .ok (.iload 5, 2) := by decide +kernel
theorem dM_stepTold_57 : decode prog_14_method_27_code 57 = .ok (.iconst (-1), 1) := by decide +kernel
theorem dM_stepTold_58 : decode prog_14_method_27_code 58 = .ok (.if_icmp .ne (12), 3) := by decide +kernel
theorem dM_stepTold_61 : decode prog_14_method_27_code 61 = .ok (.aload_n 0, 1) := by decide +kernel
theorem dM_stepTold_62 : decode prog_14_method_27_code 62 = .ok (.iconst (3), 1) := by decide +kernel
theorem dM_stepTold_63 : decode prog_14_method_27_code 63 = .ok (.aload_n 0, 1) := by decide +kernel
theorem dM_stepTold_64 : decode prog_14_method_27_code 64 = .ok (.getfield 204, 3) := by decide +kernel
theorem dM_stepTold_67 : decode prog_14_method_27_code 67 = .ok (.invokevirtual 186, 3) := by decide +kernel
theorem dM_stepTold_70 : decode prog_14_method_27_code 70 = .ok (.aload_n 0, 1) := by decide +kernel
theorem dM_stepTold_71 : decode prog_14_method_27_code 71 = .ok (.getfield 156, 3) := by decide +kernel
theorem dM_stepTold_74 : decode prog_14_method_27_code 74 = .ok (.ifCond .eq (4), 3) := by decide +kernel
theorem dM_stepTold_77 : decode prog_14_method_27_code 77 = .ok (.return_, 1) := by decide +kernel
theorem dM_stepTold_78 : decode prog_14_method_27_code 78 = .ok (.aload_n 0, 1) := by decide +kernel
theorem dM_stepTold_79 : decode prog_14_method_27_code 79 = .ok (.getfield 67, 3) := by decide +kernel
theorem dM_stepTold_82 : decode prog_14_method_27_code 82 = .ok (.iload_n 2, 1) := by decide +kernel
theorem dM_stepTold_83 : decode prog_14_method_27_code 83 = .ok (.iload 5, 2) := by decide +kernel
theorem dM_stepTold_85 : decode prog_14_method_27_code 85 = .ok (.iastore, 1) := by decide +kernel
theorem dM_stepTold_86 : decode prog_14_method_27_code 86 = .ok (.iconst (0), 1) := by decide +kernel
theorem dM_stepTold_87 : decode prog_14_method_27_code 87 = .ok (.istore 6, 2) := by decide +kernel
theorem dM_stepTold_89 : decode prog_14_method_27_code 89 = .ok (.iload 6, 2) := by decide +kernel
theorem dM_stepTold_91 : decode prog_14_method_27_code 91 = .ok (.aload_n 0, 1) := by decide +kernel
theorem dM_stepTold_92 : decode prog_14_method_27_code 92 = .ok (.getfield 64, 3) := by decide +kernel
theorem dM_stepTold_95 : decode prog_14_method_27_code 95 = .ok (.iload 5, 2) := by decide +kernel
theorem dM_stepTold_97 : decode prog_14_method_27_code 97 = .ok (.iaload, 1) := by decide +kernel
theorem dM_stepTold_98 : decode prog_14_method_27_code 98 = .ok (.if_icmp .ge (28), 3) := by decide +kernel
theorem dM_stepTold_101 : decode prog_14_method_27_code 101 = .ok (.aload_n 0, 1) := by decide +kernel
theorem dM_stepTold_102 : decode prog_14_method_27_code 102 = .ok (.getfield 70, 3) := by decide +kernel
theorem dM_stepTold_105 : decode prog_14_method_27_code 105 = .ok (.iconst (3), 1) := by decide +kernel
theorem dM_stepTold_106 : decode prog_14_method_27_code 106 = .ok (.iload_n 2, 1) := by decide +kernel
theorem dM_stepTold_107 : decode prog_14_method_27_code 107 = .ok (.imul, 1) := by decide +kernel
theorem dM_stepTold_108 : decode prog_14_method_27_code 108 = .ok (.iload 6, 2) := by decide +kernel
theorem dM_stepTold_110 : decode prog_14_method_27_code 110 = .ok (.iadd, 1) := by decide +kernel
theorem dM_stepTold_111 : decode prog_14_method_27_code 111 = .ok (.aload_n 0, 1) := by decide +kernel
theorem dM_stepTold_112 : decode prog_14_method_27_code 112 = .ok (.iconst (0), 1) := by decide +kernel
theorem dM_stepTold_113 : decode prog_14_method_27_code 113 = .ok (.iload_n 2, 1) := by decide +kernel
theorem dM_stepTold_114 : decode prog_14_method_27_code 114 = .ok (.iconst (1), 1) := by decide +kernel
theorem dM_stepTold_115 : decode prog_14_method_27_code 115 = .ok (.isub, 1) := by decide +kernel
theorem dM_stepTold_116 : decode prog_14_method_27_code 116 = .ok (.invokevirtual 261, 3) := by decide +kernel
theorem dM_stepTold_119 : decode prog_14_method_27_code 119 = .ok (.iastore, 1) := by decide +kernel
theorem dM_stepTold_120 : decode prog_14_method_27_code 120 = .ok (.iinc 6 (1), 3) := by decide +kernel
theorem dM_stepTold_123 : decode prog_14_method_27_code 123 = .ok (.goto (-34), 3) := by decide +kernel
theorem dM_stepTold_126 : decode prog_14_method_27_code 126 = .ok (.aload_n 0, 1) := by decide +kernel
theorem dM_stepTold_127 : decode prog_14_method_27_code 127 = .ok (.getfield 156, 3) := by decide +kernel
theorem dM_stepTold_130 : decode prog_14_method_27_code 130 = .ok (.ifCond .ne (13), 3) := by decide +kernel
theorem dM_stepTold_133 : decode prog_14_method_27_code 133 = .ok (.aload_n 0, 1) := by decide +kernel
theorem dM_stepTold_134 : decode prog_14_method_27_code 134 = .ok (.getfield 45, 3) := by decide +kernel
theorem dM_stepTold_137 : decode prog_14_method_27_code 137 = .ok (.iconst (4), 1) := by decide +kernel
theorem dM_stepTold_138 : decode prog_14_method_27_code 138 = .ok (.dup2, 1) := by decide +kernel
theorem dM_stepTold_139 : decode prog_14_method_27_code 139 = .ok (.iaload, 1) := by decide +kernel
theorem dM_stepTold_140 : decode prog_14_method_27_code 140 = .ok (.iconst (1), 1) := by decide +kernel
theorem dM_stepTold_141 : decode prog_14_method_27_code 141 = .ok (.iadd, 1) := by decide +kernel
theorem dM_stepTold_142 : decode prog_14_method_27_code 142 = .ok (.iastore, 1) := by decide +kernel
theorem dM_stepTold_143 : decode prog_14_method_27_code 143 = .ok (.return_, 1) := by decide +kernel
theorem dM_number_0 : decode prog_14_method_14_code 0 = .ok (.aload_n 0, 1) := by decide +kernel
theorem dM_number_1 : decode prog_14_method_14_code 1 = .ok (.getfield 156, 3) := by decide +kernel
theorem dM_number_4 : decode prog_14_method_14_code 4 = .ok (.ifCond .eq (5), 3) := by decide +kernel
theorem dM_number_7 : decode prog_14_method_14_code 7 = .ok (.iconst (0), 1) := by decide +kernel
theorem dM_number_8 : decode prog_14_method_14_code 8 = .ok (.ireturn, 1) := by decide +kernel
theorem dM_number_9 : decode prog_14_method_14_code 9 = .ok (.aload_n 0, 1) := by decide +kernel
theorem dM_number_10 : decode prog_14_method_14_code 10 = .ok (.invokevirtual 168, 3) := by decide +kernel
theorem dM_number_13 : decode prog_14_method_14_code 13 = .ok (.invokestatic 193, 3) := by decide +kernel
theorem dM_number_16 : decode prog_14_method_14_code 16 = .ok (.ifCond .eq (14), 3) := by decide +kernel
theorem dM_number_19 : decode prog_14_method_14_code 19 = .ok (.aload_n 0, 1) := by decide +kernel
theorem dM_number_20 : decode prog_14_method_14_code 20 = .ok (.getfield 162, 3) := by decide +kernel
theorem dM_number_23 : decode prog_14_method_14_code 23 = .ok (.aload_n 0, 1) := by decide +kernel
theorem dM_number_24 : decode prog_14_method_14_code 24 = .ok (.getfield 176, 3) := by decide +kernel
theorem dM_number_27 : decode prog_14_method_14_code 27 = .ok (.if_icmp .ne (14), 3) := by decide +kernel
theorem dM_number_30 : decode prog_14_method_14_code 30 = .ok (.aload_n 0, 1) := by decide +kernel
theorem dM_number_31 : decode prog_14_method_14_code 31 = .ok (.iconst (1), 1) := by decide +kernel
theorem dM_number_32 : decode prog_14_method_14_code 32 = .ok (.aload_n 0, 1) := by decide +kernel
theorem dM_number_33 : decode prog_14_method_14_code 33 = .ok (.getfield 162, 3) := by decide +kernel
theorem dM_number_36 : decode prog_14_method_14_code 36 = .ok (.invokevirtual 186, 3) := by decide +kernel
theorem dM_number_39 : decode prog_14_method_14_code 39 = .ok (.iconst (0), 1) := by decide +kernel
theorem dM_number_40 : decode prog_14_method_14_code 40 = .ok (.ireturn, 1) := by decide +kernel
theorem dM_number_41 : decode prog_14_method_14_code 41 = .ok (.aload_n 0, 1) := by decide +kernel
theorem dM_number_42 : decode prog_14_method_14_code 42 = .ok (.getfield 162, 3) := by decide +kernel
theorem dM_number_45 : decode prog_14_method_14_code 45 = .ok (.istore_n 3, 1) := by decide +kernel
theorem dM_number_46 : decode prog_14_method_14_code 46 = .ok (.iconst (0), 1) := by decide +kernel
theorem dM_number_47 : decode prog_14_method_14_code 47 = .ok (.istore 4, 2) := by decide +kernel
theorem dM_number_49 : decode prog_14_method_14_code 49 = .ok (.aload_n 0, 1) := by decide +kernel
theorem dM_number_50 : decode prog_14_method_14_code 50 = .ok (.getfield 162, 3) := by decide +kernel
theorem dM_number_53 : decode prog_14_method_14_code 53 = .ok (.aload_n 0, 1) := by decide +kernel
theorem dM_number_54 : decode prog_14_method_14_code 54 = .ok (.getfield 165, 3) := by decide +kernel
theorem dM_number_57 : decode prog_14_method_14_code 57 = .ok (.if_icmp .ge (72), 3) := by decide +kernel
theorem dM_number_60 : decode prog_14_method_14_code 60 = .ok (.aload_n 0, 1) := by decide +kernel
theorem dM_number_61 : decode prog_14_method_14_code 61 = .ok (.getfield 7, 3) := by decide +kernel
theorem dM_number_64 : decode prog_14_method_14_code 64 = .ok (.aload_n 0, 1) := by decide +kernel
theorem dM_number_65 : decode prog_14_method_14_code 65 = .ok (.getfield 162, 3) := by decide +kernel
theorem dM_number_68 : decode prog_14_method_14_code 68 = .ok (.iaload, 1) := by decide +kernel
theorem dM_number_69 : decode prog_14_method_14_code 69 = .ok (.invokestatic 193, 3) := by decide +kernel
theorem dM_number_72 : decode prog_14_method_14_code 72 = .ok (.ifCond .eq (57), 3) := by decide +kernel
theorem dM_number_75 : decode prog_14_method_14_code 75 = .ok (.aload_n 0, 1) := by decide +kernel
theorem dM_number_76 : decode prog_14_method_14_code 76 = .ok (.getfield 162, 3) := by decide +kernel
theorem dM_number_79 : decode prog_14_method_14_code 79 = .ok (.iload_n 3, 1) := by decide +kernel
theorem dM_number_80 : decode prog_14_method_14_code 80 = .ok (.isub, 1) := by decide +kernel
theorem dM_number_81 : decode prog_14_method_14_code 81 = .ok (.iconst (4), 1) := by decide +kernel
theorem dM_number_82 : decode prog_14_method_14_code 82 = .ok (.if_icmp .ne (14), 3) := by decide +kernel
theorem dM_number_85 : decode prog_14_method_14_code 85 = .ok (.aload_n 0, 1) := by decide +kernel
theorem dM_number_86 : decode prog_14_method_14_code 86 = .ok (.iconst (1), 1) := by decide +kernel
theorem dM_number_87 : decode prog_14_method_14_code 87 = .ok (.aload_n 0, 1) := by decide +kernel
theorem dM_number_88 : decode prog_14_method_14_code 88 = .ok (.getfield 162, 3) := by decide +kernel
theorem dM_number_91 : decode prog_14_method_14_code 91 = .ok (.invokevirtual 186, 3) := by decide +kernel
theorem dM_number_94 : decode prog_14_method_14_code 94 = .ok (.iconst (0), 1) := by decide +kernel
theorem dM_number_95 : decode prog_14_method_14_code 95 = .ok (.ireturn, 1) := by decide +kernel
theorem dM_number_96 : decode prog_14_method_14_code 96 = .ok (.bipush (10), 2) := by decide +kernel
theorem dM_number_98 : decode prog_14_method_14_code 98 = .ok (.iload 4, 2) := by decide +kernel
theorem dM_number_100 : decode prog_14_method_14_code 100 = .ok (.imul, 1) := by decide +kernel
theorem dM_number_101 : decode prog_14_method_14_code 101 = .ok (.aload_n 0, 1) := by decide +kernel
theorem dM_number_102 : decode prog_14_method_14_code 102 = .ok (.getfield 7, 3) := by decide +kernel
theorem dM_number_105 : decode prog_14_method_14_code 105 = .ok (.aload_n 0, 1) := by decide +kernel
theorem dM_number_106 : decode prog_14_method_14_code 106 = .ok (.getfield 162, 3) := by decide +kernel
theorem dM_number_109 : decode prog_14_method_14_code 109 = .ok (.iaload, 1) := by decide +kernel
theorem dM_number_110 : decode prog_14_method_14_code 110 = .ok (.iadd, 1) := by decide +kernel
theorem dM_number_111 : decode prog_14_method_14_code 111 = .ok (.bipush (48), 2) := by decide +kernel
theorem dM_number_113 : decode prog_14_method_14_code 113 = .ok (.isub, 1) := by decide +kernel
theorem dM_number_114 : decode prog_14_method_14_code 114 = .ok (.istore 4, 2) := by decide +kernel
theorem dM_number_116 : decode prog_14_method_14_code 116 = .ok (.aload_n 0, 1) := by decide +kernel
theorem dM_number_117 : decode prog_14_method_14_code 117 = .ok (.dup, 1) := by decide +kernel
theorem dM_number_118 : decode prog_14_method_14_code 118 = .ok (.getfield 162, 3) := by decide +kernel
theorem dM_number_121 : decode prog_14_method_14_code 121 = .ok (.iconst (1), 1) := by decide +kernel
theorem dM_number_122 : decode prog_14_method_14_code 122 = .ok (.iadd, 1) := by decide +kernel
theorem dM_number_123 : decode prog_14_method_14_code 123 = .ok (.putfield 162, 3) := by decide +kernel
theorem dM_number_126 : decode prog_14_method_14_code 126 = .ok (.goto (-77), 3) := by decide +kernel
theorem dM_number_129 : decode prog_14_method_14_code 129 = .ok (.aload_n 0, 1) := by decide +kernel
theorem dM_number_130 : decode prog_14_method_14_code 130 = .ok (.aload_n 0, 1) := by decide +kernel
theorem dM_number_131 : decode prog_14_method_14_code 131 = .ok (.getfield 162, 3) := by decide +kernel
theorem dM_number_134 : decode prog_14_method_14_code 134 = .ok (.putfield 176, 3) := by decide +kernel
theorem dM_number_137 : decode prog_14_method_14_code 137 = .ok (.iload 4, 2) := by decide +kernel
theorem dM_number_139 : decode prog_14_method_14_code 139 = .ok (.i2l, 1) := by decide +kernel
theorem dM_number_140 : decode prog_14_method_14_code 140 = .ok (.iload_n 1, 1) := by decide +kernel
theorem dM_number_141 : decode prog_14_method_14_code 141 = .ok (.i2l, 1) := by decide +kernel
theorem dM_number_142 : decode prog_14_method_14_code 142 = .ok (.iload_n 2, 1) := by decide +kernel
theorem dM_number_143 : decode prog_14_method_14_code 143 = .ok (.i2l, 1) := by decide +kernel
theorem dM_number_144 : decode prog_14_method_14_code 144 = .ok (.invokestatic 196, 3) := by decide +kernel
theorem dM_number_147 : decode prog_14_method_14_code 147 = .ok (.ifCond .ne (9), 3) := by decide +kernel
theorem dM_number_150 : decode prog_14_method_14_code 150 = .ok (.aload_n 0, 1) := by decide +kernel
theorem dM_number_151 : decode prog_14_method_14_code 151 = .ok (.iconst (2), 1) := by decide +kernel
theorem dM_number_152 : decode prog_14_method_14_code 152 = .ok (.iload_n 3, 1) := by decide +kernel
theorem dM_number_153 : decode prog_14_method_14_code 153 = .ok (.invokevirtual 186, 3) := by decide +kernel
theorem dM_number_156 : decode prog_14_method_14_code 156 = .ok (.iload 4, 2) := by decide +kernel
theorem dM_number_158 : decode prog_14_method_14_code 158 = .ok (.ireturn, 1) := by decide +kernel
theorem dM_isDigit_0 : decode prog_14_method_7_code 0 = .ok (.iload_n 0, 1) := by decide +kernel
theorem dM_isDigit_1 : decode prog_14_method_7_code 1 = .ok (.bipush (48), 2) := by decide +kernel
theorem dM_isDigit_3 : decode prog_14_method_7_code 3 = .ok (.if_icmp .lt (13), 3) := by decide +kernel
theorem dM_isDigit_6 : decode prog_14_method_7_code 6 = .ok (.iload_n 0, 1) := by decide +kernel
theorem dM_isDigit_7 : decode prog_14_method_7_code 7 = .ok (.bipush (57), 2) := by decide +kernel
theorem dM_isDigit_9 : decode prog_14_method_7_code 9 = .ok (.if_icmp .gt (7), 3) := by decide +kernel
theorem dM_isDigit_12 : decode prog_14_method_7_code 12 = .ok (.iconst (1), 1) := by decide +kernel
theorem dM_isDigit_13 : decode prog_14_method_7_code 13 = .ok (.goto (4), 3) := by decide +kernel
theorem dM_isDigit_16 : decode prog_14_method_7_code 16 = .ok (.iconst (0), 1) := by decide +kernel
theorem dM_isDigit_17 : decode prog_14_method_7_code 17 = .ok (.ireturn, 1) := by decide +kernel
theorem dM_isIn_0 : decode prog_14_method_2_code 0 = .ok (.lload_n 0, 1) := by decide +kernel
theorem dM_isIn_1 : decode prog_14_method_2_code 1 = .ok (.lload_n 2, 1) := by decide +kernel
theorem dM_isIn_2 : decode prog_14_method_2_code 2 = .ok (.lcmp, 1) := by decide +kernel
theorem dM_isIn_3 : decode prog_14_method_2_code 3 = .ok (.ifCond .lt (14), 3) := by decide +kernel
theorem dM_isIn_6 : decode prog_14_method_2_code 6 = .ok (.lload_n 0, 1) := by decide +kernel
theorem dM_isIn_7 : decode prog_14_method_2_code 7 = .ok (.lload 4, 2) := by decide +kernel
theorem dM_isIn_9 : decode prog_14_method_2_code 9 = .ok (.lcmp, 1) := by decide +kernel
theorem dM_isIn_10 : decode prog_14_method_2_code 10 = .ok (.ifCond .gt (7), 3) := by decide +kernel
theorem dM_isIn_13 : decode prog_14_method_2_code 13 = .ok (.iconst (1), 1) := by decide +kernel
theorem dM_isIn_14 : decode prog_14_method_2_code 14 = .ok (.goto (4), 3) := by decide +kernel
theorem dM_isIn_17 : decode prog_14_method_2_code 17 = .ok (.iconst (0), 1) := by decide +kernel
theorem dM_isIn_18 : decode prog_14_method_2_code 18 = .ok (.ireturn, 1) := by decide +kernel
theorem dM_readerTold_0 : decode prog_14_method_28_code 0 = .ok (.aload_n 0, 1) := by decide +kernel
theorem dM_readerTold_1 : decode prog_14_method_28_code 1 = .ok (.iconst (1), 1) := by decide +kernel
theorem dM_readerTold_2 : decode prog_14_method_28_code 2 = .ok (.bipush (6), 2) := by decide +kernel
theorem dM_readerTold_4 : decode prog_14_method_28_code 4 = .ok (.iload_n 1, 1) := by decide +kernel
theorem dM_readerTold_5 : decode prog_14_method_28_code 5 = .ok (.invokevirtual 246, 3) := by decide +kernel
theorem dM_readerTold_8 : decode prog_14_method_28_code 8 = .ok (.ifCond .eq (4), 3) := by decide +kernel
theorem dM_readerTold_11 : decode prog_14_method_28_code 11 = .ok (.return_, 1) := by decide +kernel
theorem dM_readerTold_12 : decode prog_14_method_28_code 12 = .ok (.aload_n 0, 1) := by decide +kernel
theorem dM_readerTold_13 : decode prog_14_method_28_code 13 = .ok (.iconst (1), 1) := by decide +kernel
theorem dM_readerTold_14 : decode prog_14_method_28_code 14 = .ok (.invokevirtual 250, 3) := by decide +kernel
theorem dM_readerTold_17 : decode prog_14_method_28_code 17 = .ok (.istore_n 2, 1) := by decide +kernel
theorem dM_readerTold_18 : decode prog_14_method_28_code 18 = .ok (.aload_n 0, 1) := by decide +kernel
theorem dM_readerTold_19 : decode prog_14_method_28_code 19 = .ok (.aload_n 0, 1) := by decide +kernel
theorem dM_readerTold_20 : decode prog_14_method_28_code 20 = .ok (.getfield 36, 3) := by decide +kernel
theorem dM_readerTold_23 : decode prog_14_method_28_code 23 = .ok (.invokevirtual 257, 3) := by decide +kernel
theorem dM_readerTold_26 : decode prog_14_method_28_code 26 = .ok (.aload_n 0, 1) := by decide +kernel
theorem dM_readerTold_27 : decode prog_14_method_28_code 27 = .ok (.iconst (0), 1) := by decide +kernel
theorem dM_readerTold_28 : decode prog_14_method_28_code 28 = .ok (.bipush (100), 2) := by decide +kernel
theorem dM_readerTold_30 : decode prog_14_method_28_code 30 = .ok (.invokevirtual 261, 3) := by decide +kernel
theorem dM_readerTold_33 : decode prog_14_method_28_code 33 = .ok (.istore_n 3, 1) := by decide +kernel
theorem dM_readerTold_34 : decode prog_14_method_28_code 34 = .ok (.aload_n 0, 1) := by decide +kernel
theorem dM_readerTold_35 : decode prog_14_method_28_code 35 = .ok (.aload_n 0, 1) := by decide +kernel
theorem dM_readerTold_36 : decode prog_14_method_28_code 36 = .ok (.getfield 39, 3) := by decide +kernel
theorem dM_readerTold_39 : decode prog_14_method_28_code 39 = .ok (.invokevirtual 257, 3) := by decide +kernel
theorem dM_readerTold_42 : decode prog_14_method_28_code 42 = .ok (.aload_n 0, 1) := by decide +kernel
theorem dM_readerTold_43 : decode prog_14_method_28_code 43 = .ok (.iconst (0), 1) := by decide +kernel
theorem dM_readerTold_44 : decode prog_14_method_28_code 44 = .ok (.aload_n 0, 1) := by decide +kernel
theorem dM_readerTold_45 : decode prog_14_method_28_code 45 = .ok (.getfield 45, 3) := by decide +kernel
theorem dM_readerTold_48 : decode prog_14_method_28_code 48 = .ok (.iconst (4), 1) := by decide +kernel
theorem dM_readerTold_49 : decode prog_14_method_28_code 49 = .ok (.iaload, 1) := by decide +kernel
theorem dM_readerTold_50 : decode prog_14_method_28_code 50 = .ok (.iconst (1), 1) := by decide +kernel
theorem dM_readerTold_51 : decode prog_14_method_28_code 51 = .ok (.isub, 1) := by decide +kernel
theorem dM_readerTold_52 : decode prog_14_method_28_code 52 = .ok (.invokevirtual 261, 3) := by decide +kernel
theorem dM_readerTold_55 : decode prog_14_method_28_code 55 = .ok (.istore 4, 2) := by decide +kernel
theorem dM_readerTold_57 : decode prog_14_method_28_code 57 = .ok (.aload_n 0, 1) := by decide +kernel
theorem dM_readerTold_58 : decode prog_14_method_28_code 58 = .ok (.aload_n 0, 1) := by decide +kernel
theorem dM_readerTold_59 : decode prog_14_method_28_code 59 = .ok (.getfield 42, 3) := by decide +kernel
theorem dM_readerTold_62 : decode prog_14_method_28_code 62 = .ok (.invokevirtual 257, 3) := by decide +kernel
theorem dM_readerTold_65 : decode prog_14_method_28_code 65 = .ok (.aload_n 0, 1) := by decide +kernel
theorem dM_readerTold_66 : decode prog_14_method_28_code 66 = .ok (.iload 4, 2) := by decide +kernel
theorem dM_readerTold_68 : decode prog_14_method_28_code 68 = .ok (.aload_n 0, 1) := by decide +kernel
theorem dM_readerTold_69 : decode prog_14_method_28_code 69 = .ok (.getfield 45, 3) := by decide +kernel
theorem dM_readerTold_72 : decode prog_14_method_28_code 72 = .ok (.iconst (4), 1) := by decide +kernel
theorem dM_readerTold_73 : decode prog_14_method_28_code 73 = .ok (.iaload, 1) := by decide +kernel
theorem dM_readerTold_74 : decode prog_14_method_28_code 74 = .ok (.iconst (1), 1) := by decide +kernel
theorem dM_readerTold_75 : decode prog_14_method_28_code 75 = .ok (.isub, 1) := by decide +kernel
theorem dM_readerTold_76 : decode prog_14_method_28_code 76 = .ok (.invokevirtual 261, 3) := by decide +kernel
theorem dM_readerTold_79 : decode prog_14_method_28_code 79 = .ok (.istore 5, 2) := by decide +kernel
theorem dM_readerTold_81 : decode prog_14_method_28_code 81 = .ok (.aload_n 0, 1) := by decide +kernel
theorem dM_readerTold_82 : decode prog_14_method_28_code 82 = .ok (.getfield 156, 3) := by decide +kernel
theorem dM_readerTold_85 : decode prog_14_method_28_code 85 = .ok (.ifCond .eq (4), 3) := by decide +kernel
theorem dM_readerTold_88 : decode prog_14_method_28_code 88 = .ok (.return_, 1) := by decide +kernel
theorem dM_readerTold_89 : decode prog_14_method_28_code 89 = .ok (.aload_n 0, 1) := by decide +kernel
theorem dM_readerTold_90 : decode prog_14_method_28_code 90 = .ok (.getfield 73, 3) := by decide +kernel
theorem dM_readerTold_93 : decode prog_14_method_28_code 93 = .ok (.iload_n 2, 1) := by decide +kernel
theorem dM_readerTold_94 : decode prog_14_method_28_code 94 = .ok (.iload_n 3, 1) := by decide +kernel
theorem dM_readerTold_95 : decode prog_14_method_28_code 95 = .ok (.iastore, 1) := by decide +kernel
theorem dM_readerTold_96 : decode prog_14_method_28_code 96 = .ok (.aload_n 0, 1) := by decide +kernel
theorem dM_readerTold_97 : decode prog_14_method_28_code 97 = .ok (.getfield 76, 3) := by decide +kernel
theorem dM_readerTold_100 : decode prog_14_method_28_code 100 = .ok (.iload_n 2, 1) := by decide +kernel
theorem dM_readerTold_101 : decode prog_14_method_28_code 101 = .ok (.iload 4, 2) := by decide +kernel
theorem dM_readerTold_103 : decode prog_14_method_28_code 103 = .ok (.iastore, 1) := by decide +kernel
theorem dM_readerTold_104 : decode prog_14_method_28_code 104 = .ok (.aload_n 0, 1) := by decide +kernel
theorem dM_readerTold_105 : decode prog_14_method_28_code 105 = .ok (.getfield 79, 3) := by decide +kernel
theorem dM_readerTold_108 : decode prog_14_method_28_code 108 = .ok (.iload_n 2, 1) := by decide +kernel
theorem dM_readerTold_109 : decode prog_14_method_28_code 109 = .ok (.iload 5, 2) := by decide +kernel
theorem dM_readerTold_111 : decode prog_14_method_28_code 111 = .ok (.iastore, 1) := by decide +kernel
theorem dM_readerTold_112 : decode prog_14_method_28_code 112 = .ok (.aload_n 0, 1) := by decide +kernel
theorem dM_readerTold_113 : decode prog_14_method_28_code 113 = .ok (.getfield 45, 3) := by decide +kernel
theorem dM_readerTold_116 : decode prog_14_method_28_code 116 = .ok (.iconst (1), 1) := by decide +kernel
theorem dM_readerTold_117 : decode prog_14_method_28_code 117 = .ok (.dup2, 1) := by decide +kernel
theorem dM_readerTold_118 : decode prog_14_method_28_code 118 = .ok (.iaload, 1) := by decide +kernel
theorem dM_readerTold_119 : decode prog_14_method_28_code 119 = .ok (.iconst (1), 1) := by decide +kernel
theorem dM_readerTold_120 : decode prog_14_method_28_code 120 = .ok (.iadd, 1) := by decide +kernel
theorem dM_readerTold_121 : decode prog_14_method_28_code 121 = .ok (.iastore, 1) := by decide +kernel
theorem dM_readerTold_122 : decode prog_14_method_28_code 122 = .ok (.return_, 1) := by decide +kernel
theorem dM_stands0_0 : decode prog_14_method_31_code 0 = .ok (.iconst (0), 1) := by decide +kernel
theorem dM_stands0_1 : decode prog_14_method_31_code 1 = .ok (.istore_n 1, 1) := by decide +kernel
theorem dM_stands0_2 : decode prog_14_method_31_code 2 = .ok (.iload_n 1, 1) := by decide +kernel
theorem dM_stands0_3 : decode prog_14_method_31_code 3 = .ok (.iconst (5), 1) := by decide +kernel
theorem dM_stands0_4 : decode prog_14_method_31_code 4 = .ok (.if_icmp .ge (23), 3) := by decide +kernel
theorem dM_stands0_7 : decode prog_14_method_31_code 7 = .ok (.aload_n 0, 1) := by decide +kernel
theorem dM_stands0_8 : decode prog_14_method_31_code 8 = .ok (.getfield 45, 3) := by decide +kernel
theorem dM_stands0_11 : decode prog_14_method_31_code 11 = .ok (.iconst (5), 1) := by decide +kernel
theorem dM_stands0_12 : decode prog_14_method_31_code 12 = .ok (.iload_n 1, 1) := by decide +kernel
theorem dM_stands0_13 : decode prog_14_method_31_code 13 = .ok (.iadd, 1) := by decide +kernel
theorem dM_stands0_14 : decode prog_14_method_31_code 14 = .ok (.aload_n 0, 1) := by decide +kernel
theorem dM_stands0_15 : decode prog_14_method_31_code 15 = .ok (.getfield 45, 3) := by decide +kernel
theorem dM_stands0_18 : decode prog_14_method_31_code 18 = .ok (.iload_n 1, 1) := by decide +kernel
theorem dM_stands0_19 : decode prog_14_method_31_code 19 = .ok (.iaload, 1) := by decide +kernel
theorem dM_stands0_20 : decode prog_14_method_31_code 20 = .ok (.iastore, 1) := by decide +kernel
theorem dM_stands0_21 : decode prog_14_method_31_code 21 = .ok (.iinc 1 (1), 3) := by decide +kernel
theorem dM_stands0_24 : decode prog_14_method_31_code 24 = .ok (.goto (-22), 3) := by decide +kernel
theorem dM_stands0_27 : decode prog_14_method_31_code 27 = .ok (.iconst (0), 1) := by decide +kernel
theorem dM_stands0_28 : decode prog_14_method_31_code 28 = .ok (.istore_n 1, 1) := by decide +kernel
theorem dM_stands0_29 : decode prog_14_method_31_code 29 = .ok (.iload_n 1, 1) := by decide +kernel
theorem dM_stands0_30 : decode prog_14_method_31_code 30 = .ok (.bipush (96), 2) := by decide +kernel
theorem dM_stands0_32 : decode prog_14_method_31_code 32 = .ok (.if_icmp .ge (24), 3) := by decide +kernel
theorem dM_stands0_35 : decode prog_14_method_31_code 35 = .ok (.aload_n 0, 1) := by decide +kernel
theorem dM_stands0_36 : decode prog_14_method_31_code 36 = .ok (.getfield 48, 3) := by decide +kernel
theorem dM_stands0_39 : decode prog_14_method_31_code 39 = .ok (.bipush (96), 2) := by decide +kernel
theorem dM_stands0_41 : decode prog_14_method_31_code 41 = .ok (.iload_n 1, 1) := by decide +kernel
theorem dM_stands0_42 : decode prog_14_method_31_code 42 = .ok (.iadd, 1) := by decide +kernel
theorem dM_stands0_43 : decode prog_14_method_31_code 43 = .ok (.aload_n 0, 1) := by decide +kernel
theorem dM_stands0_44 : decode prog_14_method_31_code 44 = .ok (.getfield 48, 3) := by decide +kernel
theorem dM_stands0_47 : decode prog_14_method_31_code 47 = .ok (.iload_n 1, 1) := by decide +kernel
theorem dM_stands0_48 : decode prog_14_method_31_code 48 = .ok (.laload, 1) := by decide +kernel
theorem dM_stands0_49 : decode prog_14_method_31_code 49 = .ok (.lastore, 1) := by decide +kernel
theorem dM_stands0_50 : decode prog_14_method_31_code 50 = .ok (.iinc 1 (1), 3) := by decide +kernel
theorem dM_stands0_53 : decode prog_14_method_31_code 53 = .ok (.goto (-24), 3) := by decide +kernel
theorem dM_stands0_56 : decode prog_14_method_31_code 56 = .ok (.iconst (0), 1) := by decide +kernel
theorem dM_stands0_57 : decode prog_14_method_31_code 57 = .ok (.istore_n 1, 1) := by decide +kernel
theorem dM_stands0_58 : decode prog_14_method_31_code 58 = .ok (.iload_n 1, 1) := by decide +kernel
theorem dM_stands0_59 : decode prog_14_method_31_code 59 = .ok (.bipush (24), 2) := by decide +kernel
theorem dM_stands0_61 : decode prog_14_method_31_code 61 = .ok (.if_icmp .ge (24), 3) := by decide +kernel
theorem dM_stands0_64 : decode prog_14_method_31_code 64 = .ok (.aload_n 0, 1) := by decide +kernel
theorem dM_stands0_65 : decode prog_14_method_31_code 65 = .ok (.getfield 52, 3) := by decide +kernel
theorem dM_stands0_68 : decode prog_14_method_31_code 68 = .ok (.bipush (24), 2) := by decide +kernel
theorem dM_stands0_70 : decode prog_14_method_31_code 70 = .ok (.iload_n 1, 1) := by decide +kernel
theorem dM_stands0_71 : decode prog_14_method_31_code 71 = .ok (.iadd, 1) := by decide +kernel
theorem dM_stands0_72 : decode prog_14_method_31_code 72 = .ok (.aload_n 0, 1) := by decide +kernel
theorem dM_stands0_73 : decode prog_14_method_31_code 73 = .ok (.getfield 52, 3) := by decide +kernel
theorem dM_stands0_76 : decode prog_14_method_31_code 76 = .ok (.iload_n 1, 1) := by decide +kernel
theorem dM_stands0_77 : decode prog_14_method_31_code 77 = .ok (.iaload, 1) := by decide +kernel
theorem dM_stands0_78 : decode prog_14_method_31_code 78 = .ok (.iastore, 1) := by decide +kernel
theorem dM_stands0_79 : decode prog_14_method_31_code 79 = .ok (.iinc 1 (1), 3) := by decide +kernel
theorem dM_stands0_82 : decode prog_14_method_31_code 82 = .ok (.goto (-24), 3) := by decide +kernel
theorem dM_stands0_85 : decode prog_14_method_31_code 85 = .ok (.iconst (0), 1) := by decide +kernel
theorem dM_stands0_86 : decode prog_14_method_31_code 86 = .ok (.istore_n 1, 1) := by decide +kernel
theorem dM_stands0_87 : decode prog_14_method_31_code 87 = .ok (.iload_n 1, 1) := by decide +kernel
theorem dM_stands0_88 : decode prog_14_method_31_code 88 = .ok (.aload_n 0, 1) := by decide +kernel
theorem dM_stands0_89 : decode prog_14_method_31_code 89 = .ok (.getfield 219, 3) := by decide +kernel
theorem dM_stands0_92 : decode prog_14_method_31_code 92 = .ok (.if_icmp .ge (25), 3) := by decide +kernel
theorem dM_stands0_95 : decode prog_14_method_31_code 95 = .ok (.aload_n 0, 1) := by decide +kernel
theorem dM_stands0_96 : decode prog_14_method_31_code 96 = .ok (.getfield 55, 3) := by decide +kernel
theorem dM_stands0_99 : decode prog_14_method_31_code 99 = .ok (.sipush (400), 3) := by decide +kernel
theorem dM_stands0_102 : decode prog_14_method_31_code 102 = .ok (.iload_n 1, 1) := by decide +kernel
theorem dM_stands0_103 : decode prog_14_method_31_code 103 = .ok (.iadd, 1) := by decide +kernel
theorem dM_stands0_104 : decode prog_14_method_31_code 104 = .ok (.aload_n 0, 1) := by decide +kernel
theorem dM_stands0_105 : decode prog_14_method_31_code 105 = .ok (.getfield 55, 3) := by decide +kernel
theorem dM_stands0_108 : decode prog_14_method_31_code 108 = .ok (.iload_n 1, 1) := by decide +kernel
theorem dM_stands0_109 : decode prog_14_method_31_code 109 = .ok (.iaload, 1) := by decide +kernel
theorem dM_stands0_110 : decode prog_14_method_31_code 110 = .ok (.iastore, 1) := by decide +kernel
theorem dM_stands0_111 : decode prog_14_method_31_code 111 = .ok (.iinc 1 (1), 3) := by decide +kernel
theorem dM_stands0_114 : decode prog_14_method_31_code 114 = .ok (.goto (-27), 3) := by decide +kernel
theorem dM_stands0_117 : decode prog_14_method_31_code 117 = .ok (.iconst (0), 1) := by decide +kernel
theorem dM_stands0_118 : decode prog_14_method_31_code 118 = .ok (.istore_n 1, 1) := by decide +kernel
theorem dM_stands0_119 : decode prog_14_method_31_code 119 = .ok (.iload_n 1, 1) := by decide +kernel
theorem dM_stands0_120 : decode prog_14_method_31_code 120 = .ok (.bipush (88), 2) := by decide +kernel
theorem dM_stands0_122 : decode prog_14_method_31_code 122 = .ok (.if_icmp .ge (43), 3) := by decide +kernel
theorem dM_stands0_125 : decode prog_14_method_31_code 125 = .ok (.aload_n 0, 1) := by decide +kernel
theorem dM_stands0_126 : decode prog_14_method_31_code 126 = .ok (.getfield 58, 3) := by decide +kernel
theorem dM_stands0_129 : decode prog_14_method_31_code 129 = .ok (.bipush (88), 2) := by decide +kernel
theorem dM_stands0_131 : decode prog_14_method_31_code 131 = .ok (.iload_n 1, 1) := by decide +kernel
theorem dM_stands0_132 : decode prog_14_method_31_code 132 = .ok (.iadd, 1) := by decide +kernel
theorem dM_stands0_133 : decode prog_14_method_31_code 133 = .ok (.sipush (400), 3) := by decide +kernel
theorem dM_stands0_136 : decode prog_14_method_31_code 136 = .ok (.aload_n 0, 1) := by decide +kernel
theorem dM_stands0_137 : decode prog_14_method_31_code 137 = .ok (.getfield 58, 3) := by decide +kernel
theorem dM_stands0_140 : decode prog_14_method_31_code 140 = .ok (.iload_n 1, 1) := by decide +kernel
theorem dM_stands0_141 : decode prog_14_method_31_code 141 = .ok (.iaload, 1) := by decide +kernel
theorem dM_stands0_142 : decode prog_14_method_31_code 142 = .ok (.iadd, 1) := by decide +kernel
theorem dM_stands0_143 : decode prog_14_method_31_code 143 = .ok (.iastore, 1) := by decide +kernel
theorem dM_stands0_144 : decode prog_14_method_31_code 144 = .ok (.aload_n 0, 1) := by decide +kernel
theorem dM_stands0_145 : decode prog_14_method_31_code 145 = .ok (.getfield 61, 3) := by decide +kernel
theorem dM_stands0_148 : decode prog_14_method_31_code 148 = .ok (.bipush (88), 2) := by decide +kernel
theorem dM_stands0_150 : decode prog_14_method_31_code 150 = .ok (.iload_n 1, 1) := by decide +kernel
theorem dM_stands0_151 : decode prog_14_method_31_code 151 = .ok (.iadd, 1) := by decide +kernel
theorem dM_stands0_152 : decode prog_14_method_31_code 152 = .ok (.aload_n 0, 1) := by decide +kernel
theorem dM_stands0_153 : decode prog_14_method_31_code 153 = .ok (.getfield 61, 3) := by decide +kernel
theorem dM_stands0_156 : decode prog_14_method_31_code 156 = .ok (.iload_n 1, 1) := by decide +kernel
theorem dM_stands0_157 : decode prog_14_method_31_code 157 = .ok (.iaload, 1) := by decide +kernel
theorem dM_stands0_158 : decode prog_14_method_31_code 158 = .ok (.iastore, 1) := by decide +kernel
theorem dM_stands0_159 : decode prog_14_method_31_code 159 = .ok (.iinc 1 (1), 3) := by decide +kernel
theorem dM_stands0_162 : decode prog_14_method_31_code 162 = .ok (.goto (-43), 3) := by decide +kernel
theorem dM_stands0_165 : decode prog_14_method_31_code 165 = .ok (.iconst (0), 1) := by decide +kernel
theorem dM_stands0_166 : decode prog_14_method_31_code 166 = .ok (.istore_n 1, 1) := by decide +kernel
theorem dM_stands0_167 : decode prog_14_method_31_code 167 = .ok (.iload_n 1, 1) := by decide +kernel
theorem dM_stands0_168 : decode prog_14_method_31_code 168 = .ok (.bipush (12), 2) := by decide +kernel
theorem dM_stands0_170 : decode prog_14_method_31_code 170 = .ok (.if_icmp .ge (31), 3) := by decide +kernel
theorem dM_stands0_173 : decode prog_14_method_31_code 173 = .ok (.aload_n 0, 1) := by decide +kernel
theorem dM_stands0_174 : decode prog_14_method_31_code 174 = .ok (.getfield 64, 3) := by decide +kernel
theorem dM_stands0_177 : decode prog_14_method_31_code 177 = .ok (.bipush (12), 2) := by decide +kernel
theorem dM_stands0_179 : decode prog_14_method_31_code 179 = .ok (.iload_n 1, 1) := by decide +kernel
theorem dM_stands0_180 : decode prog_14_method_31_code 180 = .ok (.iadd, 1) := by decide +kernel
theorem dM_stands0_181 : decode prog_14_method_31_code 181 = .ok (.aload_n 0, 1) := by decide +kernel
theorem dM_stands0_182 : decode prog_14_method_31_code 182 = .ok (.getfield 64, 3) := by decide +kernel
theorem dM_stands0_185 : decode prog_14_method_31_code 185 = .ok (.iload_n 1, 1) := by decide +kernel
theorem dM_stands0_186 : decode prog_14_method_31_code 186 = .ok (.iaload, 1) := by decide +kernel
theorem dM_stands0_187 : decode prog_14_method_31_code 187 = .ok (.iastore, 1) := by decide +kernel
theorem dM_stands0_188 : decode prog_14_method_31_code 188 = .ok (.aload_n 0, 1) := by decide +kernel
theorem dM_stands0_189 : decode prog_14_method_31_code 189 = .ok (.getfield 106, 3) := by decide +kernel
theorem dM_stands0_192 : decode prog_14_method_31_code 192 = .ok (.iload_n 1, 1) := by decide +kernel
theorem dM_stands0_193 : decode prog_14_method_31_code 193 = .ok (.iconst (0), 1) := by decide +kernel
theorem dM_stands0_194 : decode prog_14_method_31_code 194 = .ok (.bastore, 1) := by decide +kernel
theorem dM_stands0_195 : decode prog_14_method_31_code 195 = .ok (.iinc 1 (1), 3) := by decide +kernel
theorem dM_stands0_198 : decode prog_14_method_31_code 198 = .ok (.goto (-31), 3) := by decide +kernel
theorem dM_stands0_201 : decode prog_14_method_31_code 201 = .ok (.iconst (0), 1) := by decide +kernel
theorem dM_stands0_202 : decode prog_14_method_31_code 202 = .ok (.istore_n 1, 1) := by decide +kernel
theorem dM_stands0_203 : decode prog_14_method_31_code 203 = .ok (.iload_n 1, 1) := by decide +kernel
theorem dM_stands0_204 : decode prog_14_method_31_code 204 = .ok (.bipush (40), 2) := by decide +kernel
theorem dM_stands0_206 : decode prog_14_method_31_code 206 = .ok (.if_icmp .ge (24), 3) := by decide +kernel
theorem dM_stands0_209 : decode prog_14_method_31_code 209 = .ok (.aload_n 0, 1) := by decide +kernel
theorem dM_stands0_210 : decode prog_14_method_31_code 210 = .ok (.getfield 67, 3) := by decide +kernel
theorem dM_stands0_213 : decode prog_14_method_31_code 213 = .ok (.bipush (40), 2) := by decide +kernel
theorem dM_stands0_215 : decode prog_14_method_31_code 215 = .ok (.iload_n 1, 1) := by decide +kernel
theorem dM_stands0_216 : decode prog_14_method_31_code 216 = .ok (.iadd, 1) := by decide +kernel
theorem dM_stands0_217 : decode prog_14_method_31_code 217 = .ok (.aload_n 0, 1) := by decide +kernel
theorem dM_stands0_218 : decode prog_14_method_31_code 218 = .ok (.getfield 67, 3) := by decide +kernel
theorem dM_stands0_221 : decode prog_14_method_31_code 221 = .ok (.iload_n 1, 1) := by decide +kernel
theorem dM_stands0_222 : decode prog_14_method_31_code 222 = .ok (.iaload, 1) := by decide +kernel
theorem dM_stands0_223 : decode prog_14_method_31_code 223 = .ok (.iastore, 1) := by decide +kernel
theorem dM_stands0_224 : decode prog_14_method_31_code 224 = .ok (.iinc 1 (1), 3) := by decide +kernel
theorem dM_stands0_227 : decode prog_14_method_31_code 227 = .ok (.goto (-24), 3) := by decide +kernel
theorem dM_stands0_230 : decode prog_14_method_31_code 230 = .ok (.iconst (0), 1) := by decide +kernel
theorem dM_stands0_231 : decode prog_14_method_31_code 231 = .ok (.istore_n 1, 1) := by decide +kernel
theorem dM_stands0_232 : decode prog_14_method_31_code 232 = .ok (.iload_n 1, 1) := by decide +kernel
theorem dM_stands0_233 : decode prog_14_method_31_code 233 = .ok (.bipush (120), 2) := by decide +kernel
theorem dM_stands0_235 : decode prog_14_method_31_code 235 = .ok (.if_icmp .ge (24), 3) := by decide +kernel
theorem dM_stands0_238 : decode prog_14_method_31_code 238 = .ok (.aload_n 0, 1) := by decide +kernel
theorem dM_stands0_239 : decode prog_14_method_31_code 239 = .ok (.getfield 70, 3) := by decide +kernel
theorem dM_stands0_242 : decode prog_14_method_31_code 242 = .ok (.bipush (120), 2) := by decide +kernel
theorem dM_stands0_244 : decode prog_14_method_31_code 244 = .ok (.iload_n 1, 1) := by decide +kernel
theorem dM_stands0_245 : decode prog_14_method_31_code 245 = .ok (.iadd, 1) := by decide +kernel
theorem dM_stands0_246 : decode prog_14_method_31_code 246 = .ok (.aload_n 0, 1) := by decide +kernel
theorem dM_stands0_247 : decode prog_14_method_31_code 247 = .ok (.getfield 70, 3) := by decide +kernel
theorem dM_stands0_250 : decode prog_14_method_31_code 250 = .ok (.iload_n 1, 1) := by decide +kernel
theorem dM_stands0_251 : decode prog_14_method_31_code 251 = .ok (.iaload, 1) := by decide +kernel
theorem dM_stands0_252 : decode prog_14_method_31_code 252 = .ok (.iastore, 1) := by decide +kernel
theorem dM_stands0_253 : decode prog_14_method_31_code 253 = .ok (.iinc 1 (1), 3) := by decide +kernel
theorem dM_stands0_256 : decode prog_14_method_31_code 256 = .ok (.goto (-24), 3) := by decide +kernel
theorem dM_stands0_259 : decode prog_14_method_31_code 259 = .ok (.iconst (0), 1) := by decide +kernel
theorem dM_stands0_260 : decode prog_14_method_31_code 260 = .ok (.istore_n 1, 1) := by decide +kernel
theorem dM_stands0_261 : decode prog_14_method_31_code 261 = .ok (.iload_n 1, 1) := by decide +kernel
theorem dM_stands0_262 : decode prog_14_method_31_code 262 = .ok (.bipush (6), 2) := by decide +kernel
theorem dM_stands0_264 : decode prog_14_method_31_code 264 = .ok (.if_icmp .ge (61), 3) := by decide +kernel
theorem dM_stands0_267 : decode prog_14_method_31_code 267 = .ok (.aload_n 0, 1) := by decide +kernel
theorem dM_stands0_268 : decode prog_14_method_31_code 268 = .ok (.getfield 73, 3) := by decide +kernel
theorem dM_stands0_271 : decode prog_14_method_31_code 271 = .ok (.bipush (6), 2) := by decide +kernel
theorem dM_stands0_273 : decode prog_14_method_31_code 273 = .ok (.iload_n 1, 1) := by decide +kernel
theorem dM_stands0_274 : decode prog_14_method_31_code 274 = .ok (.iadd, 1) := by decide +kernel
theorem dM_stands0_275 : decode prog_14_method_31_code 275 = .ok (.aload_n 0, 1) := by decide +kernel
theorem dM_stands0_276 : decode prog_14_method_31_code 276 = .ok (.getfield 73, 3) := by decide +kernel
theorem dM_stands0_279 : decode prog_14_method_31_code 279 = .ok (.iload_n 1, 1) := by decide +kernel
theorem dM_stands0_280 : decode prog_14_method_31_code 280 = .ok (.iaload, 1) := by decide +kernel
theorem dM_stands0_281 : decode prog_14_method_31_code 281 = .ok (.iastore, 1) := by decide +kernel
theorem dM_stands0_282 : decode prog_14_method_31_code 282 = .ok (.aload_n 0, 1) := by decide +kernel
theorem dM_stands0_283 : decode prog_14_method_31_code 283 = .ok (.getfield 76, 3) := by decide +kernel
theorem dM_stands0_286 : decode prog_14_method_31_code 286 = .ok (.bipush (6), 2) := by decide +kernel
theorem dM_stands0_288 : decode prog_14_method_31_code 288 = .ok (.iload_n 1, 1) := by decide +kernel
theorem dM_stands0_289 : decode prog_14_method_31_code 289 = .ok (.iadd, 1) := by decide +kernel
theorem dM_stands0_290 : decode prog_14_method_31_code 290 = .ok (.aload_n 0, 1) := by decide +kernel
theorem dM_stands0_291 : decode prog_14_method_31_code 291 = .ok (.getfield 76, 3) := by decide +kernel
theorem dM_stands0_294 : decode prog_14_method_31_code 294 = .ok (.iload_n 1, 1) := by decide +kernel
theorem dM_stands0_295 : decode prog_14_method_31_code 295 = .ok (.iaload, 1) := by decide +kernel
theorem dM_stands0_296 : decode prog_14_method_31_code 296 = .ok (.iastore, 1) := by decide +kernel
theorem dM_stands0_297 : decode prog_14_method_31_code 297 = .ok (.aload_n 0, 1) := by decide +kernel
theorem dM_stands0_298 : decode prog_14_method_31_code 298 = .ok (.getfield 79, 3) := by decide +kernel
theorem dM_stands0_301 : decode prog_14_method_31_code 301 = .ok (.bipush (6), 2) := by decide +kernel
theorem dM_stands0_303 : decode prog_14_method_31_code 303 = .ok (.iload_n 1, 1) := by decide +kernel
theorem dM_stands0_304 : decode prog_14_method_31_code 304 = .ok (.iadd, 1) := by decide +kernel
theorem dM_stands0_305 : decode prog_14_method_31_code 305 = .ok (.aload_n 0, 1) := by decide +kernel
theorem dM_stands0_306 : decode prog_14_method_31_code 306 = .ok (.getfield 79, 3) := by decide +kernel
theorem dM_stands0_309 : decode prog_14_method_31_code 309 = .ok (.iload_n 1, 1) := by decide +kernel
theorem dM_stands0_310 : decode prog_14_method_31_code 310 = .ok (.iaload, 1) := by decide +kernel
theorem dM_stands0_311 : decode prog_14_method_31_code 311 = .ok (.iastore, 1) := by decide +kernel
theorem dM_stands0_312 : decode prog_14_method_31_code 312 = .ok (.aload_n 0, 1) := by decide +kernel
theorem dM_stands0_313 : decode prog_14_method_31_code 313 = .ok (.getfield 113, 3) := by decide +kernel
theorem dM_stands0_316 : decode prog_14_method_31_code 316 = .ok (.iload_n 1, 1) := by decide +kernel
theorem dM_stands0_317 : decode prog_14_method_31_code 317 = .ok (.iconst (0), 1) := by decide +kernel
theorem dM_stands0_318 : decode prog_14_method_31_code 318 = .ok (.bastore, 1) := by decide +kernel
theorem dM_stands0_319 : decode prog_14_method_31_code 319 = .ok (.iinc 1 (1), 3) := by decide +kernel
theorem dM_stands0_322 : decode prog_14_method_31_code 322 = .ok (.goto (-61), 3) := by decide +kernel
theorem dM_stands0_325 : decode prog_14_method_31_code 325 = .ok (.aload_n 0, 1) := by decide +kernel
theorem dM_stands0_326 : decode prog_14_method_31_code 326 = .ok (.aload_n 0, 1) := by decide +kernel
theorem dM_stands0_327 : decode prog_14_method_31_code 327 = .ok (.getfield 276, 3) := by decide +kernel
theorem dM_stands0_330 : decode prog_14_method_31_code 330 = .ok (.iconst (-1), 1) := by decide +kernel
theorem dM_stands0_331 : decode prog_14_method_31_code 331 = .ok (.if_icmp .ne (14), 3) := by decide +kernel
theorem dM_stands0_334 : decode prog_14_method_31_code 334 = .ok (.aload_n 0, 1) := by decide +kernel
theorem dM_stands0_335 : decode prog_14_method_31_code 335 = .ok (.getfield 45, 3) := by decide +kernel
theorem dM_stands0_338 : decode prog_14_method_31_code 338 = .ok (.iconst (4), 1) := by decide +kernel
theorem dM_stands0_339 : decode prog_14_method_31_code 339 = .ok (.iaload, 1) := by decide +kernel
theorem dM_stands0_340 : decode prog_14_method_31_code 340 = .ok (.iconst (1), 1) := by decide +kernel
theorem dM_stands0_341 : decode prog_14_method_31_code 341 = .ok (.isub, 1) := by decide +kernel
theorem dM_stands0_342 : decode prog_14_method_31_code 342 = .ok (.goto (7), 3) := by decide +kernel
theorem dM_stands0_345 : decode prog_14_method_31_code 345 = .ok (.aload_n 0, 1) := by decide +kernel
theorem dM_stands0_346 : decode prog_14_method_31_code 346 = .ok (.getfield 276, 3) := by decide +kernel
theorem dM_stands0_349 : decode prog_14_method_31_code 349 = .ok (.putfield 288, 3) := by decide +kernel
theorem dM_stands0_352 : decode prog_14_method_31_code 352 = .ok (.aload_n 0, 1) := by decide +kernel
theorem dM_stands0_353 : decode prog_14_method_31_code 353 = .ok (.invokevirtual 291, 3) := by decide +kernel
theorem dM_stands0_356 : decode prog_14_method_31_code 356 = .ok (.return_, 1) := by decide +kernel
theorem dM_knows_0 : decode prog_14_method_49_code 0 = .ok (.iconst (0), 1) := by decide +kernel
theorem dM_knows_1 : decode prog_14_method_49_code 1 = .ok (.istore_n 1, 1) := by decide +kernel
theorem dM_knows_2 : decode prog_14_method_49_code 2 = .ok (.iload_n 1, 1) := by decide +kernel
theorem dM_knows_3 : decode prog_14_method_49_code 3 = .ok (.aload_n 0, 1) := by decide +kernel
theorem dM_knows_4 : decode prog_14_method_49_code 4 = .ok (.invokevirtual 294, 3) := by decide +kernel
theorem dM_knows_7 : decode prog_14_method_49_code 7 = .ok (.if_icmp .ge (107), 3) := by decide +kernel
theorem dM_knows_10 : decode prog_14_method_49_code 10 = .ok (.iconst (0), 1) := by decide +kernel
theorem dM_knows_11 : decode prog_14_method_49_code 11 = .ok (.istore_n 2, 1) := by decide +kernel
theorem dM_knows_12 : decode prog_14_method_49_code 12 = .ok (.aload_n 0, 1) := by decide +kernel
theorem dM_knows_13 : decode prog_14_method_49_code 13 = .ok (.aload_n 0, 1) := by decide +kernel
theorem dM_knows_14 : decode prog_14_method_49_code 14 = .ok (.bipush (48), 2) := by decide +kernel
theorem dM_knows_16 : decode prog_14_method_49_code 16 = .ok (.iload_n 2, 1) := by decide +kernel
theorem dM_knows_17 : decode prog_14_method_49_code 17 = .ok (.iadd, 1) := by decide +kernel
theorem dM_knows_18 : decode prog_14_method_49_code 18 = .ok (.invokevirtual 313, 3) := by decide +kernel
theorem dM_knows_21 : decode prog_14_method_49_code 21 = .ok (.aload_n 0, 1) := by decide +kernel
theorem dM_knows_22 : decode prog_14_method_49_code 22 = .ok (.bipush (48), 2) := by decide +kernel
theorem dM_knows_24 : decode prog_14_method_49_code 24 = .ok (.iload_n 1, 1) := by decide +kernel
theorem dM_knows_25 : decode prog_14_method_49_code 25 = .ok (.iadd, 1) := by decide +kernel
theorem dM_knows_26 : decode prog_14_method_49_code 26 = .ok (.invokevirtual 313, 3) := by decide +kernel
theorem dM_knows_29 : decode prog_14_method_49_code 29 = .ok (.invokevirtual 306, 3) := by decide +kernel
theorem dM_knows_32 : decode prog_14_method_49_code 32 = .ok (.ifCond .ne (9), 3) := by decide +kernel
theorem dM_knows_35 : decode prog_14_method_49_code 35 = .ok (.iinc 2 (1), 3) := by decide +kernel
theorem dM_knows_38 : decode prog_14_method_49_code 38 = .ok (.goto (-26), 3) := by decide +kernel
theorem dM_knows_41 : decode prog_14_method_49_code 41 = .ok (.aload_n 0, 1) := by decide +kernel
theorem dM_knows_42 : decode prog_14_method_49_code 42 = .ok (.getfield 94, 3) := by decide +kernel
theorem dM_knows_45 : decode prog_14_method_49_code 45 = .ok (.iload_n 1, 1) := by decide +kernel
theorem dM_knows_46 : decode prog_14_method_49_code 46 = .ok (.iload_n 2, 1) := by decide +kernel
theorem dM_knows_47 : decode prog_14_method_49_code 47 = .ok (.iastore, 1) := by decide +kernel
theorem dM_knows_48 : decode prog_14_method_49_code 48 = .ok (.aload_n 0, 1) := by decide +kernel
theorem dM_knows_49 : decode prog_14_method_49_code 49 = .ok (.getfield 97, 3) := by decide +kernel
theorem dM_knows_52 : decode prog_14_method_49_code 52 = .ok (.iload_n 1, 1) := by decide +kernel
theorem dM_knows_53 : decode prog_14_method_49_code 53 = .ok (.lconst 0, 1) := by decide +kernel
theorem dM_knows_54 : decode prog_14_method_49_code 54 = .ok (.lastore, 1) := by decide +kernel
theorem dM_knows_55 : decode prog_14_method_49_code 55 = .ok (.iconst (0), 1) := by decide +kernel
theorem dM_knows_56 : decode prog_14_method_49_code 56 = .ok (.istore_n 3, 1) := by decide +kernel
theorem dM_knows_57 : decode prog_14_method_49_code 57 = .ok (.iload_n 3, 1) := by decide +kernel
theorem dM_knows_58 : decode prog_14_method_49_code 58 = .ok (.aload_n 0, 1) := by decide +kernel
theorem dM_knows_59 : decode prog_14_method_49_code 59 = .ok (.iload_n 1, 1) := by decide +kernel
theorem dM_knows_60 : decode prog_14_method_49_code 60 = .ok (.invokevirtual 328, 3) := by decide +kernel
theorem dM_knows_63 : decode prog_14_method_49_code 63 = .ok (.if_icmp .ge (38), 3) := by decide +kernel
theorem dM_knows_66 : decode prog_14_method_49_code 66 = .ok (.aload_n 0, 1) := by decide +kernel
theorem dM_knows_67 : decode prog_14_method_49_code 67 = .ok (.getfield 97, 3) := by decide +kernel
theorem dM_knows_70 : decode prog_14_method_49_code 70 = .ok (.iload_n 1, 1) := by decide +kernel
theorem dM_knows_71 : decode prog_14_method_49_code 71 = .ok (.dup2, 1) := by decide +kernel
theorem dM_knows_72 : decode prog_14_method_49_code 72 = .ok (.laload, 1) := by decide +kernel
theorem dM_knows_73 : decode prog_14_method_49_code 73 = .ok (.lconst 1, 1) := by decide +kernel
theorem dM_knows_74 : decode prog_14_method_49_code 74 = .ok (.aload_n 0, 1) := by decide +kernel
theorem dM_knows_75 : decode prog_14_method_49_code 75 = .ok (.iload_n 1, 1) := by decide +kernel
theorem dM_knows_76 : decode prog_14_method_49_code 76 = .ok (.iload_n 3, 1) := by decide +kernel
theorem dM_knows_77 : decode prog_14_method_49_code 77 = .ok (.invokevirtual 319, 3) := by decide +kernel
theorem dM_knows_80 : decode prog_14_method_49_code 80 = .ok (.lshl, 1) := by decide +kernel
theorem dM_knows_81 : decode prog_14_method_49_code 81 = .ok (.aload_n 0, 1) := by decide +kernel
theorem dM_knows_82 : decode prog_14_method_49_code 82 = .ok (.getfield 97, 3) := by decide +kernel
theorem dM_knows_85 : decode prog_14_method_49_code 85 = .ok (.aload_n 0, 1) := by decide +kernel
theorem dM_knows_86 : decode prog_14_method_49_code 86 = .ok (.iload_n 1, 1) := by decide +kernel
theorem dM_knows_87 : decode prog_14_method_49_code 87 = .ok (.iload_n 3, 1) := by decide +kernel
theorem dM_knows_88 : decode prog_14_method_49_code 88 = .ok (.invokevirtual 319, 3) := by decide +kernel
theorem dM_knows_91 : decode prog_14_method_49_code 91 = .ok (.laload, 1) := by decide +kernel
theorem dM_knows_92 : decode prog_14_method_49_code 92 = .ok (.lor, 1) := by decide +kernel
theorem dM_knows_93 : decode prog_14_method_49_code 93 = .ok (.lor, 1) := by decide +kernel
theorem dM_knows_94 : decode prog_14_method_49_code 94 = .ok (.lastore, 1) := by decide +kernel
theorem dM_knows_95 : decode prog_14_method_49_code 95 = .ok (.iinc 3 (1), 3) := by decide +kernel
theorem dM_knows_98 : decode prog_14_method_49_code 98 = .ok (.goto (-41), 3) := by decide +kernel
theorem dM_knows_101 : decode prog_14_method_49_code 101 = .ok (.aload_n 0, 1) := by decide +kernel
theorem dM_knows_102 : decode prog_14_method_49_code 102 = .ok (.getfield 103, 3) := by decide +kernel
theorem dM_knows_105 : decode prog_14_method_49_code 105 = .ok (.iload_n 1, 1) := by decide +kernel
theorem dM_knows_106 : decode prog_14_method_49_code 106 = .ok (.iconst (-1), 1) := by decide +kernel
theorem dM_knows_107 : decode prog_14_method_49_code 107 = .ok (.iastore, 1) := by decide +kernel
theorem dM_knows_108 : decode prog_14_method_49_code 108 = .ok (.iinc 1 (1), 3) := by decide +kernel
theorem dM_knows_111 : decode prog_14_method_49_code 111 = .ok (.goto (-109), 3) := by decide +kernel
theorem dM_knows_114 : decode prog_14_method_49_code 114 = .ok (.aload_n 0, 1) := by decide +kernel
theorem dM_knows_115 : decode prog_14_method_49_code 115 = .ok (.iconst (0), 1) := by decide +kernel
theorem dM_knows_116 : decode prog_14_method_49_code 116 = .ok (.putfield 331, 3) := by decide +kernel
theorem dM_knows_119 : decode prog_14_method_49_code 119 = .ok (.aload_n 0, 1) := by decide +kernel
theorem dM_knows_120 : decode prog_14_method_49_code 120 = .ok (.invokevirtual 294, 3) := by decide +kernel
theorem dM_knows_123 : decode prog_14_method_49_code 123 = .ok (.ifCond .ne (4), 3) := by decide +kernel
theorem dM_knows_126 : decode prog_14_method_49_code 126 = .ok (.return_, 1) := by decide +kernel
theorem dM_knows_127 : decode prog_14_method_49_code 127 = .ok (.lconst 1, 1) := by decide +kernel
theorem dM_knows_128 : decode prog_14_method_49_code 128 = .ok (.aload_n 0, 1) := by decide +kernel
theorem dM_knows_129 : decode prog_14_method_49_code 129 = .ok (.getfield 94, 3) := by decide +kernel
theorem dM_knows_132 : decode prog_14_method_49_code 132 = .ok (.aload_n 0, 1) := by decide +kernel
theorem dM_knows_133 : decode prog_14_method_49_code 133 = .ok (.getfield 288, 3) := by decide +kernel
theorem dM_knows_136 : decode prog_14_method_49_code 136 = .ok (.iaload, 1) := by decide +kernel
theorem dM_knows_137 : decode prog_14_method_49_code 137 = .ok (.lshl, 1) := by decide +kernel
theorem dM_knows_138 : decode prog_14_method_49_code 138 = .ok (.lstore_n 1, 1) := by decide +kernel
theorem dM_knows_139 : decode prog_14_method_49_code 139 = .ok (.aload_n 0, 1) := by decide +kernel
theorem dM_knows_140 : decode prog_14_method_49_code 140 = .ok (.invokevirtual 294, 3) := by decide +kernel
theorem dM_knows_143 : decode prog_14_method_49_code 143 = .ok (.iconst (1), 1) := by decide +kernel
theorem dM_knows_144 : decode prog_14_method_49_code 144 = .ok (.isub, 1) := by decide +kernel
theorem dM_knows_145 : decode prog_14_method_49_code 145 = .ok (.istore_n 3, 1) := by decide +kernel
theorem dM_knows_146 : decode prog_14_method_49_code 146 = .ok (.iload_n 3, 1) := by decide +kernel
theorem dM_knows_147 : decode prog_14_method_49_code 147 = .ok (.ifCond .lt (55), 3) := by decide +kernel
theorem dM_knows_150 : decode prog_14_method_49_code 150 = .ok (.iconst (0), 1) := by decide +kernel
theorem dM_knows_151 : decode prog_14_method_49_code 151 = .ok (.istore 4, 2) := by decide +kernel
theorem dM_knows_153 : decode prog_14_method_49_code 153 = .ok (.iload 4, 2) := by decide +kernel
theorem dM_knows_155 : decode prog_14_method_49_code 155 = .ok (.aload_n 0, 1) := by decide +kernel
theorem dM_knows_156 : decode prog_14_method_49_code 156 = .ok (.iload_n 3, 1) := by decide +kernel
theorem dM_knows_157 : decode prog_14_method_49_code 157 = .ok (.invokevirtual 328, 3) := by decide +kernel
theorem dM_knows_160 : decode prog_14_method_49_code 160 = .ok (.if_icmp .ge (36), 3) := by decide +kernel
theorem dM_knows_163 : decode prog_14_method_49_code 163 = .ok (.lload_n 1, 1) := by decide +kernel
theorem dM_knows_164 : decode prog_14_method_49_code 164 = .ok (.iload_n 3, 1) := by decide +kernel
theorem dM_knows_165 : decode prog_14_method_49_code 165 = .ok (.lshr, 1) := by decide +kernel
theorem dM_knows_166 : decode prog_14_method_49_code 166 = .ok (.lconst 1, 1) := by decide +kernel
theorem dM_knows_167 : decode prog_14_method_49_code 167 = .ok (.land, 1) := by decide +kernel
theorem dM_knows_168 : decode prog_14_method_49_code 168 = .ok (.lconst 1, 1) := by decide +kernel
theorem dM_knows_169 : decode prog_14_method_49_code 169 = .ok (.lcmp, 1) := by decide +kernel
theorem dM_knows_170 : decode prog_14_method_49_code 170 = .ok (.ifCond .ne (20), 3) := by decide +kernel
theorem dM_knows_173 : decode prog_14_method_49_code 173 = .ok (.lload_n 1, 1) := by decide +kernel
theorem dM_knows_174 : decode prog_14_method_49_code 174 = .ok (.lconst 1, 1) := by decide +kernel
theorem dM_knows_175 : decode prog_14_method_49_code 175 = .ok (.aload_n 0, 1) := by decide +kernel
theorem dM_knows_176 : decode prog_14_method_49_code 176 = .ok (.getfield 94, 3) := by decide +kernel
theorem dM_knows_179 : decode prog_14_method_49_code 179 = .ok (.aload_n 0, 1) := by decide +kernel
theorem dM_knows_180 : decode prog_14_method_49_code 180 = .ok (.iload_n 3, 1) := by decide +kernel
theorem dM_knows_181 : decode prog_14_method_49_code 181 = .ok (.iload 4, 2) := by decide +kernel
theorem dM_knows_183 : decode prog_14_method_49_code 183 = .ok (.invokevirtual 319, 3) := by decide +kernel
theorem dM_knows_186 : decode prog_14_method_49_code 186 = .ok (.iaload, 1) := by decide +kernel
theorem dM_knows_187 : decode prog_14_method_49_code 187 = .ok (.lshl, 1) := by decide +kernel
theorem dM_knows_188 : decode prog_14_method_49_code 188 = .ok (.lor, 1) := by decide +kernel
theorem dM_knows_189 : decode prog_14_method_49_code 189 = .ok (.lstore_n 1, 1) := by decide +kernel
theorem dM_knows_190 : decode prog_14_method_49_code 190 = .ok (.iinc 4 (1), 3) := by decide +kernel
theorem dM_knows_193 : decode prog_14_method_49_code 193 = .ok (.goto (-40), 3) := by decide +kernel
theorem dM_knows_196 : decode prog_14_method_49_code 196 = .ok (.iinc 3 (-1), 3) := by decide +kernel
theorem dM_knows_199 : decode prog_14_method_49_code 199 = .ok (.goto (-53), 3) := by decide +kernel
theorem dM_knows_202 : decode prog_14_method_49_code 202 = .ok (.iconst (0), 1) := by decide +kernel
theorem dM_knows_203 : decode prog_14_method_49_code 203 = .ok (.istore_n 3, 1) := by decide +kernel
theorem dM_knows_204 : decode prog_14_method_49_code 204 = .ok (.iload_n 3, 1) := by decide +kernel
theorem dM_knows_205 : decode prog_14_method_49_code 205 = .ok (.aload_n 0, 1) := by decide +kernel
theorem dM_knows_206 : decode prog_14_method_49_code 206 = .ok (.invokevirtual 294, 3) := by decide +kernel
theorem dM_knows_209 : decode prog_14_method_49_code 209 = .ok (.if_icmp .ge (52), 3) := by decide +kernel
theorem dM_knows_212 : decode prog_14_method_49_code 212 = .ok (.lload_n 1, 1) := by decide +kernel
theorem dM_knows_213 : decode prog_14_method_49_code 213 = .ok (.iload_n 3, 1) := by decide +kernel
theorem dM_knows_214 : decode prog_14_method_49_code 214 = .ok (.lshr, 1) := by decide +kernel
theorem dM_knows_215 : decode prog_14_method_49_code 215 = .ok (.lconst 1, 1) := by decide +kernel
theorem dM_knows_216 : decode prog_14_method_49_code 216 = .ok (.land, 1) := by decide +kernel
theorem dM_knows_217 : decode prog_14_method_49_code 217 = .ok (.lconst 0, 1) := by decide +kernel
theorem dM_knows_218 : decode prog_14_method_49_code 218 = .ok (.lcmp, 1) := by decide +kernel
theorem dM_knows_219 : decode prog_14_method_49_code 219 = .ok (.ifCond .ne (6), 3) := by decide +kernel
theorem dM_knows_222 : decode prog_14_method_49_code 222 = .ok (.goto (33), 3) := by decide +kernel
theorem dM_knows_225 : decode prog_14_method_49_code 225 = .ok (.aload_n 0, 1) := by decide +kernel
theorem dM_knows_226 : decode prog_14_method_49_code 226 = .ok (.getfield 100, 3) := by decide +kernel
theorem dM_knows_229 : decode prog_14_method_49_code 229 = .ok (.aload_n 0, 1) := by decide +kernel
theorem dM_knows_230 : decode prog_14_method_49_code 230 = .ok (.getfield 331, 3) := by decide +kernel
theorem dM_knows_233 : decode prog_14_method_49_code 233 = .ok (.iload_n 3, 1) := by decide +kernel
theorem dM_knows_234 : decode prog_14_method_49_code 234 = .ok (.iastore, 1) := by decide +kernel
theorem dM_knows_235 : decode prog_14_method_49_code 235 = .ok (.aload_n 0, 1) := by decide +kernel
theorem dM_knows_236 : decode prog_14_method_49_code 236 = .ok (.getfield 103, 3) := by decide +kernel
theorem dM_knows_239 : decode prog_14_method_49_code 239 = .ok (.iload_n 3, 1) := by decide +kernel
theorem dM_knows_240 : decode prog_14_method_49_code 240 = .ok (.aload_n 0, 1) := by decide +kernel
theorem dM_knows_241 : decode prog_14_method_49_code 241 = .ok (.getfield 331, 3) := by decide +kernel
theorem dM_knows_244 : decode prog_14_method_49_code 244 = .ok (.iastore, 1) := by decide +kernel
theorem dM_knows_245 : decode prog_14_method_49_code 245 = .ok (.aload_n 0, 1) := by decide +kernel
theorem dM_knows_246 : decode prog_14_method_49_code 246 = .ok (.dup, 1) := by decide +kernel
theorem dM_knows_247 : decode prog_14_method_49_code 247 = .ok (.getfield 331, 3) := by decide +kernel
theorem dM_knows_250 : decode prog_14_method_49_code 250 = .ok (.iconst (1), 1) := by decide +kernel
theorem dM_knows_251 : decode prog_14_method_49_code 251 = .ok (.iadd, 1) := by decide +kernel
theorem dM_knows_252 : decode prog_14_method_49_code 252 = .ok (.putfield 331, 3) := by decide +kernel
theorem dM_knows_255 : decode prog_14_method_49_code 255 = .ok (.iinc 3 (1), 3) := by decide +kernel
theorem dM_knows_258 : decode prog_14_method_49_code 258 = .ok (.goto (-54), 3) := by decide +kernel
theorem dM_knows_261 : decode prog_14_method_49_code 261 = .ok (.return_, 1) := by decide +kernel
theorem dM_steps_0 : decode prog_14_method_33_code 0 = .ok (.aload_n 0, 1) := by decide +kernel
theorem dM_steps_1 : decode prog_14_method_33_code 1 = .ok (.getfield 45, 3) := by decide +kernel
theorem dM_steps_4 : decode prog_14_method_33_code 4 = .ok (.bipush (9), 2) := by decide +kernel
theorem dM_steps_6 : decode prog_14_method_33_code 6 = .ok (.iaload, 1) := by decide +kernel
theorem dM_steps_7 : decode prog_14_method_33_code 7 = .ok (.ireturn, 1) := by decide +kernel
theorem dM_fromOf_0 : decode prog_14_method_40_code 0 = .ok (.aload_n 0, 1) := by decide +kernel
theorem dM_fromOf_1 : decode prog_14_method_40_code 1 = .ok (.getfield 58, 3) := by decide +kernel
theorem dM_fromOf_4 : decode prog_14_method_40_code 4 = .ok (.bipush (88), 2) := by decide +kernel
theorem dM_fromOf_6 : decode prog_14_method_40_code 6 = .ok (.iload_n 1, 1) := by decide +kernel
theorem dM_fromOf_7 : decode prog_14_method_40_code 7 = .ok (.iadd, 1) := by decide +kernel
theorem dM_fromOf_8 : decode prog_14_method_40_code 8 = .ok (.iaload, 1) := by decide +kernel
theorem dM_fromOf_9 : decode prog_14_method_40_code 9 = .ok (.ireturn, 1) := by decide +kernel
theorem dM_areSame_0 : decode prog_14_method_43_code 0 = .ok (.aload_n 0, 1) := by decide +kernel
theorem dM_areSame_1 : decode prog_14_method_43_code 1 = .ok (.iload_n 1, 1) := by decide +kernel
theorem dM_areSame_2 : decode prog_14_method_43_code 2 = .ok (.invokevirtual 303, 3) := by decide +kernel
theorem dM_areSame_5 : decode prog_14_method_43_code 5 = .ok (.istore_n 3, 1) := by decide +kernel
theorem dM_areSame_6 : decode prog_14_method_43_code 6 = .ok (.iload_n 3, 1) := by decide +kernel
theorem dM_areSame_7 : decode prog_14_method_43_code 7 = .ok (.aload_n 0, 1) := by decide +kernel
theorem dM_areSame_8 : decode prog_14_method_43_code 8 = .ok (.iload_n 2, 1) := by decide +kernel
theorem dM_areSame_9 : decode prog_14_method_43_code 9 = .ok (.invokevirtual 303, 3) := by decide +kernel
theorem dM_areSame_12 : decode prog_14_method_43_code 12 = .ok (.if_icmp .eq (5), 3) := by decide +kernel
theorem dM_areSame_15 : decode prog_14_method_43_code 15 = .ok (.iconst (0), 1) := by decide +kernel
theorem dM_areSame_16 : decode prog_14_method_43_code 16 = .ok (.ireturn, 1) := by decide +kernel
theorem dM_areSame_17 : decode prog_14_method_43_code 17 = .ok (.iconst (0), 1) := by decide +kernel
theorem dM_areSame_18 : decode prog_14_method_43_code 18 = .ok (.istore 4, 2) := by decide +kernel
theorem dM_areSame_20 : decode prog_14_method_43_code 20 = .ok (.iload 4, 2) := by decide +kernel
theorem dM_areSame_22 : decode prog_14_method_43_code 22 = .ok (.iload_n 3, 1) := by decide +kernel
theorem dM_areSame_23 : decode prog_14_method_43_code 23 = .ok (.if_icmp .ge (32), 3) := by decide +kernel
theorem dM_areSame_26 : decode prog_14_method_43_code 26 = .ok (.aload_n 0, 1) := by decide +kernel
theorem dM_areSame_27 : decode prog_14_method_43_code 27 = .ok (.getfield 55, 3) := by decide +kernel
theorem dM_areSame_30 : decode prog_14_method_43_code 30 = .ok (.iload_n 1, 1) := by decide +kernel
theorem dM_areSame_31 : decode prog_14_method_43_code 31 = .ok (.iload 4, 2) := by decide +kernel
theorem dM_areSame_33 : decode prog_14_method_43_code 33 = .ok (.iadd, 1) := by decide +kernel
theorem dM_areSame_34 : decode prog_14_method_43_code 34 = .ok (.iaload, 1) := by decide +kernel
theorem dM_areSame_35 : decode prog_14_method_43_code 35 = .ok (.aload_n 0, 1) := by decide +kernel
theorem dM_areSame_36 : decode prog_14_method_43_code 36 = .ok (.getfield 55, 3) := by decide +kernel
theorem dM_areSame_39 : decode prog_14_method_43_code 39 = .ok (.iload_n 2, 1) := by decide +kernel
theorem dM_areSame_40 : decode prog_14_method_43_code 40 = .ok (.iload 4, 2) := by decide +kernel
theorem dM_areSame_42 : decode prog_14_method_43_code 42 = .ok (.iadd, 1) := by decide +kernel
theorem dM_areSame_43 : decode prog_14_method_43_code 43 = .ok (.iaload, 1) := by decide +kernel
theorem dM_areSame_44 : decode prog_14_method_43_code 44 = .ok (.if_icmp .eq (5), 3) := by decide +kernel
theorem dM_areSame_47 : decode prog_14_method_43_code 47 = .ok (.iconst (0), 1) := by decide +kernel
theorem dM_areSame_48 : decode prog_14_method_43_code 48 = .ok (.ireturn, 1) := by decide +kernel
theorem dM_areSame_49 : decode prog_14_method_43_code 49 = .ok (.iinc 4 (1), 3) := by decide +kernel
theorem dM_areSame_52 : decode prog_14_method_43_code 52 = .ok (.goto (-32), 3) := by decide +kernel
theorem dM_areSame_55 : decode prog_14_method_43_code 55 = .ok (.iconst (1), 1) := by decide +kernel
theorem dM_areSame_56 : decode prog_14_method_43_code 56 = .ok (.ireturn, 1) := by decide +kernel
theorem dM_partLong_0 : decode prog_14_method_42_code 0 = .ok (.iconst (1), 1) := by decide +kernel
theorem dM_partLong_1 : decode prog_14_method_42_code 1 = .ok (.istore_n 2, 1) := by decide +kernel
theorem dM_partLong_2 : decode prog_14_method_42_code 2 = .ok (.iload_n 1, 1) := by decide +kernel
theorem dM_partLong_3 : decode prog_14_method_42_code 3 = .ok (.istore_n 3, 1) := by decide +kernel
theorem dM_partLong_4 : decode prog_14_method_42_code 4 = .ok (.iload_n 2, 1) := by decide +kernel
theorem dM_partLong_5 : decode prog_14_method_42_code 5 = .ok (.ifCond .le (40), 3) := by decide +kernel
theorem dM_partLong_8 : decode prog_14_method_42_code 8 = .ok (.iinc 2 (-1), 3) := by decide +kernel
theorem dM_partLong_11 : decode prog_14_method_42_code 11 = .ok (.aload_n 0, 1) := by decide +kernel
theorem dM_partLong_12 : decode prog_14_method_42_code 12 = .ok (.getfield 55, 3) := by decide +kernel
theorem dM_partLong_15 : decode prog_14_method_42_code 15 = .ok (.iload_n 3, 1) := by decide +kernel
theorem dM_partLong_16 : decode prog_14_method_42_code 16 = .ok (.iaload, 1) := by decide +kernel
theorem dM_partLong_17 : decode prog_14_method_42_code 17 = .ok (.bipush (100), 2) := by decide +kernel
theorem dM_partLong_19 : decode prog_14_method_42_code 19 = .ok (.if_icmp .ge (20), 3) := by decide +kernel
theorem dM_partLong_22 : decode prog_14_method_42_code 22 = .ok (.iload_n 2, 1) := by decide +kernel
theorem dM_partLong_23 : decode prog_14_method_42_code 23 = .ok (.aload_n 0, 1) := by decide +kernel
theorem dM_partLong_24 : decode prog_14_method_42_code 24 = .ok (.getfield 52, 3) := by decide +kernel
theorem dM_partLong_27 : decode prog_14_method_42_code 27 = .ok (.bipush (24), 2) := by decide +kernel
theorem dM_partLong_29 : decode prog_14_method_42_code 29 = .ok (.aload_n 0, 1) := by decide +kernel
theorem dM_partLong_30 : decode prog_14_method_42_code 30 = .ok (.getfield 55, 3) := by decide +kernel
theorem dM_partLong_33 : decode prog_14_method_42_code 33 = .ok (.iload_n 3, 1) := by decide +kernel
theorem dM_partLong_34 : decode prog_14_method_42_code 34 = .ok (.iaload, 1) := by decide +kernel
theorem dM_partLong_35 : decode prog_14_method_42_code 35 = .ok (.iadd, 1) := by decide +kernel
theorem dM_partLong_36 : decode prog_14_method_42_code 36 = .ok (.iaload, 1) := by decide +kernel
theorem dM_partLong_37 : decode prog_14_method_42_code 37 = .ok (.iadd, 1) := by decide +kernel
theorem dM_partLong_38 : decode prog_14_method_42_code 38 = .ok (.istore_n 2, 1) := by decide +kernel
theorem dM_partLong_39 : decode prog_14_method_42_code 39 = .ok (.iinc 3 (1), 3) := by decide +kernel
theorem dM_partLong_42 : decode prog_14_method_42_code 42 = .ok (.goto (-38), 3) := by decide +kernel
theorem dM_partLong_45 : decode prog_14_method_42_code 45 = .ok (.iload_n 3, 1) := by decide +kernel
theorem dM_partLong_46 : decode prog_14_method_42_code 46 = .ok (.iload_n 1, 1) := by decide +kernel
theorem dM_partLong_47 : decode prog_14_method_42_code 47 = .ok (.isub, 1) := by decide +kernel
theorem dM_partLong_48 : decode prog_14_method_42_code 48 = .ok (.ireturn, 1) := by decide +kernel
theorem dM_namesMany_0 : decode prog_14_method_38_code 0 = .ok (.aload_n 0, 1) := by decide +kernel
theorem dM_namesMany_1 : decode prog_14_method_38_code 1 = .ok (.getfield 64, 3) := by decide +kernel
theorem dM_namesMany_4 : decode prog_14_method_38_code 4 = .ok (.bipush (12), 2) := by decide +kernel
theorem dM_namesMany_6 : decode prog_14_method_38_code 6 = .ok (.aload_n 0, 1) := by decide +kernel
theorem dM_namesMany_7 : decode prog_14_method_38_code 7 = .ok (.iload_n 1, 1) := by decide +kernel
theorem dM_namesMany_8 : decode prog_14_method_38_code 8 = .ok (.invokevirtual 300, 3) := by decide +kernel
theorem dM_namesMany_11 : decode prog_14_method_38_code 11 = .ok (.iadd, 1) := by decide +kernel
theorem dM_namesMany_12 : decode prog_14_method_38_code 12 = .ok (.iaload, 1) := by decide +kernel
theorem dM_namesMany_13 : decode prog_14_method_38_code 13 = .ok (.ireturn, 1) := by decide +kernel
theorem dM_ruleBy_0 : decode prog_14_method_37_code 0 = .ok (.aload_n 0, 1) := by decide +kernel
theorem dM_ruleBy_1 : decode prog_14_method_37_code 1 = .ok (.getfield 67, 3) := by decide +kernel
theorem dM_ruleBy_4 : decode prog_14_method_37_code 4 = .ok (.bipush (40), 2) := by decide +kernel
theorem dM_ruleBy_6 : decode prog_14_method_37_code 6 = .ok (.iload_n 1, 1) := by decide +kernel
theorem dM_ruleBy_7 : decode prog_14_method_37_code 7 = .ok (.iadd, 1) := by decide +kernel
theorem dM_ruleBy_8 : decode prog_14_method_37_code 8 = .ok (.iaload, 1) := by decide +kernel
theorem dM_ruleBy_9 : decode prog_14_method_37_code 9 = .ok (.ireturn, 1) := by decide +kernel
theorem dM_namedBy_0 : decode prog_14_method_39_code 0 = .ok (.aload_n 0, 1) := by decide +kernel
theorem dM_namedBy_1 : decode prog_14_method_39_code 1 = .ok (.getfield 70, 3) := by decide +kernel
theorem dM_namedBy_4 : decode prog_14_method_39_code 4 = .ok (.bipush (120), 2) := by decide +kernel
theorem dM_namedBy_6 : decode prog_14_method_39_code 6 = .ok (.iconst (3), 1) := by decide +kernel
theorem dM_namedBy_7 : decode prog_14_method_39_code 7 = .ok (.iload_n 1, 1) := by decide +kernel
theorem dM_namedBy_8 : decode prog_14_method_39_code 8 = .ok (.imul, 1) := by decide +kernel
theorem dM_namedBy_9 : decode prog_14_method_39_code 9 = .ok (.iadd, 1) := by decide +kernel
theorem dM_namedBy_10 : decode prog_14_method_39_code 10 = .ok (.iload_n 2, 1) := by decide +kernel
theorem dM_namedBy_11 : decode prog_14_method_39_code 11 = .ok (.iadd, 1) := by decide +kernel
theorem dM_namedBy_12 : decode prog_14_method_39_code 12 = .ok (.iaload, 1) := by decide +kernel
theorem dM_namedBy_13 : decode prog_14_method_39_code 13 = .ok (.ireturn, 1) := by decide +kernel
theorem dM_fault_0 : decode prog_14_method_56_code 0 = .ok (.iload_n 1, 1) := by decide +kernel
theorem dM_fault_1 : decode prog_14_method_56_code 1 = .ok (.ifCond .ne (10), 3) := by decide +kernel
theorem dM_fault_4 : decode prog_14_method_56_code 4 = .ok (.aload_n 0, 1) := by decide +kernel
theorem dM_fault_5 : decode prog_14_method_56_code 5 = .ok (.getfield 282, 3) := by decide +kernel
theorem dM_fault_8 : decode prog_14_method_56_code 8 = .ok (.goto (16), 3) := by decide +kernel
theorem dM_fault_11 : decode prog_14_method_56_code 11 = .ok (.iload_n 1, 1) := by decide +kernel
theorem dM_fault_12 : decode prog_14_method_56_code 12 = .ok (.iconst (1), 1) := by decide +kernel
theorem dM_fault_13 : decode prog_14_method_56_code 13 = .ok (.if_icmp .ne (10), 3) := by decide +kernel
theorem dM_fault_16 : decode prog_14_method_56_code 16 = .ok (.aload_n 0, 1) := by decide +kernel
theorem dM_fault_17 : decode prog_14_method_56_code 17 = .ok (.getfield 13, 3) := by decide +kernel
theorem dM_fault_20 : decode prog_14_method_56_code 20 = .ok (.goto (4), 3) := by decide +kernel
theorem dM_fault_23 : decode prog_14_method_56_code 23 = .ok (.iconst (-1), 1) := by decide +kernel
theorem dM_fault_24 : decode prog_14_method_56_code 24 = .ok (.ireturn, 1) := by decide +kernel
theorem dM_has_0 : decode prog_14_method_58_code 0 = .ok (.iload_n 1, 1) := by decide +kernel
theorem dM_has_1 : decode prog_14_method_58_code 1 = .ok (.tableswitch (144) (0) (13) #[71, 76, 81, 86, 94, 102, 118, 118, 118, 118, 124, 129, 134, 139], 71) := by decide +kernel
theorem dM_has_72 : decode prog_14_method_58_code 72 = .ok (.aload_n 0, 1) := by decide +kernel
theorem dM_has_73 : decode prog_14_method_58_code 73 = .ok (.invokevirtual 297, 3) := by decide +kernel
theorem dM_has_76 : decode prog_14_method_58_code 76 = .ok (.ireturn, 1) := by decide +kernel
theorem dM_has_77 : decode prog_14_method_58_code 77 = .ok (.aload_n 0, 1) := by decide +kernel
theorem dM_has_78 : decode prog_14_method_58_code 78 = .ok (.invokevirtual 294, 3) := by decide +kernel
theorem dM_has_81 : decode prog_14_method_58_code 81 = .ok (.ireturn, 1) := by decide +kernel
theorem dM_has_82 : decode prog_14_method_58_code 82 = .ok (.aload_n 0, 1) := by decide +kernel
theorem dM_has_83 : decode prog_14_method_58_code 83 = .ok (.invokevirtual 334, 3) := by decide +kernel
theorem dM_has_86 : decode prog_14_method_58_code 86 = .ok (.ireturn, 1) := by decide +kernel
theorem dM_has_87 : decode prog_14_method_58_code 87 = .ok (.aload_n 0, 1) := by decide +kernel
theorem dM_has_88 : decode prog_14_method_58_code 88 = .ok (.getfield 45, 3) := by decide +kernel
theorem dM_has_91 : decode prog_14_method_58_code 91 = .ok (.bipush (7), 2) := by decide +kernel
theorem dM_has_93 : decode prog_14_method_58_code 93 = .ok (.iaload, 1) := by decide +kernel
theorem dM_has_94 : decode prog_14_method_58_code 94 = .ok (.ireturn, 1) := by decide +kernel
theorem dM_has_95 : decode prog_14_method_58_code 95 = .ok (.aload_n 0, 1) := by decide +kernel
theorem dM_has_96 : decode prog_14_method_58_code 96 = .ok (.getfield 45, 3) := by decide +kernel
theorem dM_has_99 : decode prog_14_method_58_code 99 = .ok (.bipush (8), 2) := by decide +kernel
theorem dM_has_101 : decode prog_14_method_58_code 101 = .ok (.iaload, 1) := by decide +kernel
theorem dM_has_102 : decode prog_14_method_58_code 102 = .ok (.ireturn, 1) := by decide +kernel
theorem dM_has_103 : decode prog_14_method_58_code 103 = .ok (.aload_n 0, 1) := by decide +kernel
theorem dM_has_104 : decode prog_14_method_58_code 104 = .ok (.invokevirtual 294, 3) := by decide +kernel
theorem dM_has_107 : decode prog_14_method_58_code 107 = .ok (.ifCond .ne (7), 3) := by decide +kernel
theorem dM_has_110 : decode prog_14_method_58_code 110 = .ok (.iconst (-1), 1) := by decide +kernel
theorem dM_has_111 : decode prog_14_method_58_code 111 = .ok (.goto (7), 3) := by decide +kernel
theorem dM_has_114 : decode prog_14_method_58_code 114 = .ok (.aload_n 0, 1) := by decide +kernel
theorem dM_has_115 : decode prog_14_method_58_code 115 = .ok (.getfield 288, 3) := by decide +kernel
theorem dM_has_118 : decode prog_14_method_58_code 118 = .ok (.ireturn, 1) := by decide +kernel
theorem dM_has_119 : decode prog_14_method_58_code 119 = .ok (.aload_n 0, 1) := by decide +kernel
theorem dM_has_120 : decode prog_14_method_58_code 120 = .ok (.iload_n 1, 1) := by decide +kernel
theorem dM_has_121 : decode prog_14_method_58_code 121 = .ok (.invokevirtual 346, 3) := by decide +kernel
theorem dM_has_124 : decode prog_14_method_58_code 124 = .ok (.ireturn, 1) := by decide +kernel
theorem dM_has_125 : decode prog_14_method_58_code 125 = .ok (.aload_n 0, 1) := by decide +kernel
theorem dM_has_126 : decode prog_14_method_58_code 126 = .ok (.getfield 331, 3) := by decide +kernel
theorem dM_has_129 : decode prog_14_method_58_code 129 = .ok (.ireturn, 1) := by decide +kernel
theorem dM_has_130 : decode prog_14_method_58_code 130 = .ok (.aload_n 0, 1) := by decide +kernel
theorem dM_has_131 : decode prog_14_method_58_code 131 = .ok (.invokevirtual 349, 3) := by decide +kernel
theorem dM_has_134 : decode prog_14_method_58_code 134 = .ok (.ireturn, 1) := by decide +kernel
theorem dM_has_135 : decode prog_14_method_58_code 135 = .ok (.aload_n 0, 1) := by decide +kernel
theorem dM_has_136 : decode prog_14_method_58_code 136 = .ok (.invokevirtual 352, 3) := by decide +kernel
theorem dM_has_139 : decode prog_14_method_58_code 139 = .ok (.ireturn, 1) := by decide +kernel
theorem dM_has_140 : decode prog_14_method_58_code 140 = .ok (.aload_n 0, 1) := by decide +kernel
theorem dM_has_141 : decode prog_14_method_58_code 141 = .ok (.invokevirtual 355, 3) := by decide +kernel
theorem dM_has_144 : decode prog_14_method_58_code 144 = .ok (.ireturn, 1) := by decide +kernel
theorem dM_has_145 : decode prog_14_method_58_code 145 = .ok (.iconst (-1), 1) := by decide +kernel
theorem dM_has_146 : decode prog_14_method_58_code 146 = .ok (.ireturn, 1) := by decide +kernel
theorem dM_rules_0 : decode prog_14_method_32_code 0 = .ok (.aload_n 0, 1) := by decide +kernel
theorem dM_rules_1 : decode prog_14_method_32_code 1 = .ok (.getfield 45, 3) := by decide +kernel
theorem dM_rules_4 : decode prog_14_method_32_code 4 = .ok (.iconst (5), 1) := by decide +kernel
theorem dM_rules_5 : decode prog_14_method_32_code 5 = .ok (.iaload, 1) := by decide +kernel
theorem dM_rules_6 : decode prog_14_method_32_code 6 = .ok (.ireturn, 1) := by decide +kernel
theorem dM_readers_0 : decode prog_14_method_34_code 0 = .ok (.aload_n 0, 1) := by decide +kernel
theorem dM_readers_1 : decode prog_14_method_34_code 1 = .ok (.getfield 45, 3) := by decide +kernel
theorem dM_readers_4 : decode prog_14_method_34_code 4 = .ok (.bipush (6), 2) := by decide +kernel
theorem dM_readers_6 : decode prog_14_method_34_code 6 = .ok (.iaload, 1) := by decide +kernel
theorem dM_readers_7 : decode prog_14_method_34_code 7 = .ok (.ireturn, 1) := by decide +kernel
theorem dM_manyOf_0 : decode prog_14_method_57_code 0 = .ok (.iconst (0), 1) := by decide +kernel
theorem dM_manyOf_1 : decode prog_14_method_57_code 1 = .ok (.istore_n 2, 1) := by decide +kernel
theorem dM_manyOf_2 : decode prog_14_method_57_code 2 = .ok (.iconst (0), 1) := by decide +kernel
theorem dM_manyOf_3 : decode prog_14_method_57_code 3 = .ok (.istore_n 3, 1) := by decide +kernel
theorem dM_manyOf_4 : decode prog_14_method_57_code 4 = .ok (.iload_n 3, 1) := by decide +kernel
theorem dM_manyOf_5 : decode prog_14_method_57_code 5 = .ok (.aload_n 0, 1) := by decide +kernel
theorem dM_manyOf_6 : decode prog_14_method_57_code 6 = .ok (.invokevirtual 294, 3) := by decide +kernel
theorem dM_manyOf_9 : decode prog_14_method_57_code 9 = .ok (.if_icmp .ge (74), 3) := by decide +kernel
theorem dM_manyOf_12 : decode prog_14_method_57_code 12 = .ok (.iload_n 1, 1) := by decide +kernel
theorem dM_manyOf_13 : decode prog_14_method_57_code 13 = .ok (.bipush (6), 2) := by decide +kernel
theorem dM_manyOf_15 : decode prog_14_method_57_code 15 = .ok (.if_icmp .ne (14), 3) := by decide +kernel
theorem dM_manyOf_18 : decode prog_14_method_57_code 18 = .ok (.aload_n 0, 1) := by decide +kernel
theorem dM_manyOf_19 : decode prog_14_method_57_code 19 = .ok (.iload_n 3, 1) := by decide +kernel
theorem dM_manyOf_20 : decode prog_14_method_57_code 20 = .ok (.invokevirtual 337, 3) := by decide +kernel
theorem dM_manyOf_23 : decode prog_14_method_57_code 23 = .ok (.ifCond .eq (54), 3) := by decide +kernel
theorem dM_manyOf_26 : decode prog_14_method_57_code 26 = .ok (.goto (48), 3) := by decide +kernel
theorem dM_manyOf_29 : decode prog_14_method_57_code 29 = .ok (.iload_n 1, 1) := by decide +kernel
theorem dM_manyOf_30 : decode prog_14_method_57_code 30 = .ok (.bipush (7), 2) := by decide +kernel
theorem dM_manyOf_32 : decode prog_14_method_57_code 32 = .ok (.if_icmp .ne (14), 3) := by decide +kernel
theorem dM_manyOf_35 : decode prog_14_method_57_code 35 = .ok (.aload_n 0, 1) := by decide +kernel
theorem dM_manyOf_36 : decode prog_14_method_57_code 36 = .ok (.iload_n 3, 1) := by decide +kernel
theorem dM_manyOf_37 : decode prog_14_method_57_code 37 = .ok (.invokevirtual 340, 3) := by decide +kernel
theorem dM_manyOf_40 : decode prog_14_method_57_code 40 = .ok (.ifCond .eq (37), 3) := by decide +kernel
theorem dM_manyOf_43 : decode prog_14_method_57_code 43 = .ok (.goto (31), 3) := by decide +kernel
theorem dM_manyOf_46 : decode prog_14_method_57_code 46 = .ok (.iload_n 1, 1) := by decide +kernel
theorem dM_manyOf_47 : decode prog_14_method_57_code 47 = .ok (.bipush (8), 2) := by decide +kernel
theorem dM_manyOf_49 : decode prog_14_method_57_code 49 = .ok (.if_icmp .ne (16), 3) := by decide +kernel
theorem dM_manyOf_52 : decode prog_14_method_57_code 52 = .ok (.aload_n 0, 1) := by decide +kernel
theorem dM_manyOf_53 : decode prog_14_method_57_code 53 = .ok (.getfield 94, 3) := by decide +kernel
theorem dM_manyOf_56 : decode prog_14_method_57_code 56 = .ok (.iload_n 3, 1) := by decide +kernel
theorem dM_manyOf_57 : decode prog_14_method_57_code 57 = .ok (.iaload, 1) := by decide +kernel
theorem dM_manyOf_58 : decode prog_14_method_57_code 58 = .ok (.iload_n 3, 1) := by decide +kernel
theorem dM_manyOf_59 : decode prog_14_method_57_code 59 = .ok (.if_icmp .ge (18), 3) := by decide +kernel
theorem dM_manyOf_62 : decode prog_14_method_57_code 62 = .ok (.goto (12), 3) := by decide +kernel
theorem dM_manyOf_65 : decode prog_14_method_57_code 65 = .ok (.aload_n 0, 1) := by decide +kernel
theorem dM_manyOf_66 : decode prog_14_method_57_code 66 = .ok (.iload_n 3, 1) := by decide +kernel
theorem dM_manyOf_67 : decode prog_14_method_57_code 67 = .ok (.invokevirtual 343, 3) := by decide +kernel
theorem dM_manyOf_70 : decode prog_14_method_57_code 70 = .ok (.iconst (-1), 1) := by decide +kernel
theorem dM_manyOf_71 : decode prog_14_method_57_code 71 = .ok (.if_icmp .eq (6), 3) := by decide +kernel
theorem dM_manyOf_74 : decode prog_14_method_57_code 74 = .ok (.iinc 2 (1), 3) := by decide +kernel
theorem dM_manyOf_77 : decode prog_14_method_57_code 77 = .ok (.iinc 3 (1), 3) := by decide +kernel
theorem dM_manyOf_80 : decode prog_14_method_57_code 80 = .ok (.goto (-76), 3) := by decide +kernel
theorem dM_manyOf_83 : decode prog_14_method_57_code 83 = .ok (.iload_n 2, 1) := by decide +kernel
theorem dM_manyOf_84 : decode prog_14_method_57_code 84 = .ok (.ireturn, 1) := by decide +kernel
theorem dM_isRight_0 : decode prog_14_method_46_code 0 = .ok (.aload_n 0, 1) := by decide +kernel
theorem dM_isRight_1 : decode prog_14_method_46_code 1 = .ok (.iload_n 1, 1) := by decide +kernel
theorem dM_isRight_2 : decode prog_14_method_46_code 2 = .ok (.invokevirtual 300, 3) := by decide +kernel
theorem dM_isRight_5 : decode prog_14_method_46_code 5 = .ok (.istore_n 2, 1) := by decide +kernel
theorem dM_isRight_6 : decode prog_14_method_46_code 6 = .ok (.aload_n 0, 1) := by decide +kernel
theorem dM_isRight_7 : decode prog_14_method_46_code 7 = .ok (.invokevirtual 310, 3) := by decide +kernel
theorem dM_isRight_10 : decode prog_14_method_46_code 10 = .ok (.iconst (0), 1) := by decide +kernel
theorem dM_isRight_11 : decode prog_14_method_46_code 11 = .ok (.istore_n 3, 1) := by decide +kernel
theorem dM_isRight_12 : decode prog_14_method_46_code 12 = .ok (.iload_n 3, 1) := by decide +kernel
theorem dM_isRight_13 : decode prog_14_method_46_code 13 = .ok (.aload_n 0, 1) := by decide +kernel
theorem dM_isRight_14 : decode prog_14_method_46_code 14 = .ok (.getfield 64, 3) := by decide +kernel
theorem dM_isRight_17 : decode prog_14_method_46_code 17 = .ok (.bipush (12), 2) := by decide +kernel
theorem dM_isRight_19 : decode prog_14_method_46_code 19 = .ok (.iload_n 2, 1) := by decide +kernel
theorem dM_isRight_20 : decode prog_14_method_46_code 20 = .ok (.iadd, 1) := by decide +kernel
theorem dM_isRight_21 : decode prog_14_method_46_code 21 = .ok (.iaload, 1) := by decide +kernel
theorem dM_isRight_22 : decode prog_14_method_46_code 22 = .ok (.if_icmp .ge (49), 3) := by decide +kernel
theorem dM_isRight_25 : decode prog_14_method_46_code 25 = .ok (.aload_n 0, 1) := by decide +kernel
theorem dM_isRight_26 : decode prog_14_method_46_code 26 = .ok (.aload_n 0, 1) := by decide +kernel
theorem dM_isRight_27 : decode prog_14_method_46_code 27 = .ok (.iconst (4), 1) := by decide +kernel
theorem dM_isRight_28 : decode prog_14_method_46_code 28 = .ok (.iload_n 2, 1) := by decide +kernel
theorem dM_isRight_29 : decode prog_14_method_46_code 29 = .ok (.imul, 1) := by decide +kernel
theorem dM_isRight_30 : decode prog_14_method_46_code 30 = .ok (.iload_n 3, 1) := by decide +kernel
theorem dM_isRight_31 : decode prog_14_method_46_code 31 = .ok (.iadd, 1) := by decide +kernel
theorem dM_isRight_32 : decode prog_14_method_46_code 32 = .ok (.invokevirtual 313, 3) := by decide +kernel
theorem dM_isRight_35 : decode prog_14_method_46_code 35 = .ok (.aload_n 0, 1) := by decide +kernel
theorem dM_isRight_36 : decode prog_14_method_46_code 36 = .ok (.iconst (4), 1) := by decide +kernel
theorem dM_isRight_37 : decode prog_14_method_46_code 37 = .ok (.iload_n 2, 1) := by decide +kernel
theorem dM_isRight_38 : decode prog_14_method_46_code 38 = .ok (.imul, 1) := by decide +kernel
theorem dM_isRight_39 : decode prog_14_method_46_code 39 = .ok (.iload_n 3, 1) := by decide +kernel
theorem dM_isRight_40 : decode prog_14_method_46_code 40 = .ok (.iadd, 1) := by decide +kernel
theorem dM_isRight_41 : decode prog_14_method_46_code 41 = .ok (.invokevirtual 316, 3) := by decide +kernel
theorem dM_isRight_44 : decode prog_14_method_46_code 44 = .ok (.aload_n 0, 1) := by decide +kernel
theorem dM_isRight_45 : decode prog_14_method_46_code 45 = .ok (.bipush (48), 2) := by decide +kernel
theorem dM_isRight_47 : decode prog_14_method_46_code 47 = .ok (.aload_n 0, 1) := by decide +kernel
theorem dM_isRight_48 : decode prog_14_method_46_code 48 = .ok (.iload_n 1, 1) := by decide +kernel
theorem dM_isRight_49 : decode prog_14_method_46_code 49 = .ok (.iload_n 3, 1) := by decide +kernel
theorem dM_isRight_50 : decode prog_14_method_46_code 50 = .ok (.invokevirtual 319, 3) := by decide +kernel
theorem dM_isRight_53 : decode prog_14_method_46_code 53 = .ok (.iadd, 1) := by decide +kernel
theorem dM_isRight_54 : decode prog_14_method_46_code 54 = .ok (.invokevirtual 313, 3) := by decide +kernel
theorem dM_isRight_57 : decode prog_14_method_46_code 57 = .ok (.invokevirtual 322, 3) := by decide +kernel
theorem dM_isRight_60 : decode prog_14_method_46_code 60 = .ok (.ifCond .ne (5), 3) := by decide +kernel
theorem dM_isRight_63 : decode prog_14_method_46_code 63 = .ok (.iconst (0), 1) := by decide +kernel
theorem dM_isRight_64 : decode prog_14_method_46_code 64 = .ok (.ireturn, 1) := by decide +kernel
theorem dM_isRight_65 : decode prog_14_method_46_code 65 = .ok (.iinc 3 (1), 3) := by decide +kernel
theorem dM_isRight_68 : decode prog_14_method_46_code 68 = .ok (.goto (-56), 3) := by decide +kernel
theorem dM_isRight_71 : decode prog_14_method_46_code 71 = .ok (.aload_n 0, 1) := by decide +kernel
theorem dM_isRight_72 : decode prog_14_method_46_code 72 = .ok (.aload_n 0, 1) := by decide +kernel
theorem dM_isRight_73 : decode prog_14_method_46_code 73 = .ok (.iconst (4), 1) := by decide +kernel
theorem dM_isRight_74 : decode prog_14_method_46_code 74 = .ok (.iload_n 2, 1) := by decide +kernel
theorem dM_isRight_75 : decode prog_14_method_46_code 75 = .ok (.imul, 1) := by decide +kernel
theorem dM_isRight_76 : decode prog_14_method_46_code 76 = .ok (.iconst (3), 1) := by decide +kernel
theorem dM_isRight_77 : decode prog_14_method_46_code 77 = .ok (.iadd, 1) := by decide +kernel
theorem dM_isRight_78 : decode prog_14_method_46_code 78 = .ok (.invokevirtual 313, 3) := by decide +kernel
theorem dM_isRight_81 : decode prog_14_method_46_code 81 = .ok (.aload_n 0, 1) := by decide +kernel
theorem dM_isRight_82 : decode prog_14_method_46_code 82 = .ok (.iconst (4), 1) := by decide +kernel
theorem dM_isRight_83 : decode prog_14_method_46_code 83 = .ok (.iload_n 2, 1) := by decide +kernel
theorem dM_isRight_84 : decode prog_14_method_46_code 84 = .ok (.imul, 1) := by decide +kernel
theorem dM_isRight_85 : decode prog_14_method_46_code 85 = .ok (.iconst (3), 1) := by decide +kernel
theorem dM_isRight_86 : decode prog_14_method_46_code 86 = .ok (.iadd, 1) := by decide +kernel
theorem dM_isRight_87 : decode prog_14_method_46_code 87 = .ok (.invokevirtual 316, 3) := by decide +kernel
theorem dM_isRight_90 : decode prog_14_method_46_code 90 = .ok (.aload_n 0, 1) := by decide +kernel
theorem dM_isRight_91 : decode prog_14_method_46_code 91 = .ok (.bipush (48), 2) := by decide +kernel
theorem dM_isRight_93 : decode prog_14_method_46_code 93 = .ok (.iload_n 1, 1) := by decide +kernel
theorem dM_isRight_94 : decode prog_14_method_46_code 94 = .ok (.iadd, 1) := by decide +kernel
theorem dM_isRight_95 : decode prog_14_method_46_code 95 = .ok (.invokevirtual 313, 3) := by decide +kernel
theorem dM_isRight_98 : decode prog_14_method_46_code 98 = .ok (.invokevirtual 322, 3) := by decide +kernel
theorem dM_isRight_101 : decode prog_14_method_46_code 101 = .ok (.ireturn, 1) := by decide +kernel
theorem dM_noHoles_0 : decode prog_14_method_44_code 0 = .ok (.iconst (0), 1) := by decide +kernel
theorem dM_noHoles_1 : decode prog_14_method_44_code 1 = .ok (.istore_n 1, 1) := by decide +kernel
theorem dM_noHoles_2 : decode prog_14_method_44_code 2 = .ok (.iload_n 1, 1) := by decide +kernel
theorem dM_noHoles_3 : decode prog_14_method_44_code 3 = .ok (.bipush (12), 2) := by decide +kernel
theorem dM_noHoles_5 : decode prog_14_method_44_code 5 = .ok (.if_icmp .ge (16), 3) := by decide +kernel
theorem dM_noHoles_8 : decode prog_14_method_44_code 8 = .ok (.aload_n 0, 1) := by decide +kernel
theorem dM_noHoles_9 : decode prog_14_method_44_code 9 = .ok (.getfield 91, 3) := by decide +kernel
theorem dM_noHoles_12 : decode prog_14_method_44_code 12 = .ok (.iload_n 1, 1) := by decide +kernel
theorem dM_noHoles_13 : decode prog_14_method_44_code 13 = .ok (.iconst (-1), 1) := by decide +kernel
theorem dM_noHoles_14 : decode prog_14_method_44_code 14 = .ok (.iastore, 1) := by decide +kernel
theorem dM_noHoles_15 : decode prog_14_method_44_code 15 = .ok (.iinc 1 (1), 3) := by decide +kernel
theorem dM_noHoles_18 : decode prog_14_method_44_code 18 = .ok (.goto (-16), 3) := by decide +kernel
theorem dM_noHoles_21 : decode prog_14_method_44_code 21 = .ok (.return_, 1) := by decide +kernel
theorem dM_longOf_0 : decode prog_14_method_41_code 0 = .ok (.aload_n 0, 1) := by decide +kernel
theorem dM_longOf_1 : decode prog_14_method_41_code 1 = .ok (.getfield 61, 3) := by decide +kernel
theorem dM_longOf_4 : decode prog_14_method_41_code 4 = .ok (.bipush (88), 2) := by decide +kernel
theorem dM_longOf_6 : decode prog_14_method_41_code 6 = .ok (.iload_n 1, 1) := by decide +kernel
theorem dM_longOf_7 : decode prog_14_method_41_code 7 = .ok (.iadd, 1) := by decide +kernel
theorem dM_longOf_8 : decode prog_14_method_41_code 8 = .ok (.iaload, 1) := by decide +kernel
theorem dM_longOf_9 : decode prog_14_method_41_code 9 = .ok (.ireturn, 1) := by decide +kernel
theorem dM_isMatch_0 : decode prog_14_method_45_code 0 = .ok (.iload_n 3, 1) := by decide +kernel
theorem dM_isMatch_1 : decode prog_14_method_45_code 1 = .ok (.istore 4, 2) := by decide +kernel
theorem dM_isMatch_3 : decode prog_14_method_45_code 3 = .ok (.iconst (0), 1) := by decide +kernel
theorem dM_isMatch_4 : decode prog_14_method_45_code 4 = .ok (.istore 5, 2) := by decide +kernel
theorem dM_isMatch_6 : decode prog_14_method_45_code 6 = .ok (.iload 5, 2) := by decide +kernel
theorem dM_isMatch_8 : decode prog_14_method_45_code 8 = .ok (.iload_n 2, 1) := by decide +kernel
theorem dM_isMatch_9 : decode prog_14_method_45_code 9 = .ok (.if_icmp .ge (108), 3) := by decide +kernel
theorem dM_isMatch_12 : decode prog_14_method_45_code 12 = .ok (.aload_n 0, 1) := by decide +kernel
theorem dM_isMatch_13 : decode prog_14_method_45_code 13 = .ok (.getfield 55, 3) := by decide +kernel
theorem dM_isMatch_16 : decode prog_14_method_45_code 16 = .ok (.iload_n 1, 1) := by decide +kernel
theorem dM_isMatch_17 : decode prog_14_method_45_code 17 = .ok (.iload 5, 2) := by decide +kernel
theorem dM_isMatch_19 : decode prog_14_method_45_code 19 = .ok (.iadd, 1) := by decide +kernel
theorem dM_isMatch_20 : decode prog_14_method_45_code 20 = .ok (.iaload, 1) := by decide +kernel
theorem dM_isMatch_21 : decode prog_14_method_45_code 21 = .ok (.istore 6, 2) := by decide +kernel
theorem dM_isMatch_23 : decode prog_14_method_45_code 23 = .ok (.iload 6, 2) := by decide +kernel
theorem dM_isMatch_25 : decode prog_14_method_45_code 25 = .ok (.bipush (100), 2) := by decide +kernel
theorem dM_isMatch_27 : decode prog_14_method_45_code 27 = .ok (.if_icmp .ge (23), 3) := by decide +kernel
theorem dM_isMatch_30 : decode prog_14_method_45_code 30 = .ok (.aload_n 0, 1) := by decide +kernel
theorem dM_isMatch_31 : decode prog_14_method_45_code 31 = .ok (.getfield 55, 3) := by decide +kernel
theorem dM_isMatch_34 : decode prog_14_method_45_code 34 = .ok (.iload 4, 2) := by decide +kernel
theorem dM_isMatch_36 : decode prog_14_method_45_code 36 = .ok (.iaload, 1) := by decide +kernel
theorem dM_isMatch_37 : decode prog_14_method_45_code 37 = .ok (.iload 6, 2) := by decide +kernel
theorem dM_isMatch_39 : decode prog_14_method_45_code 39 = .ok (.if_icmp .eq (5), 3) := by decide +kernel
theorem dM_isMatch_42 : decode prog_14_method_45_code 42 = .ok (.iconst (0), 1) := by decide +kernel
theorem dM_isMatch_43 : decode prog_14_method_45_code 43 = .ok (.ireturn, 1) := by decide +kernel
theorem dM_isMatch_44 : decode prog_14_method_45_code 44 = .ok (.iinc 4 (1), 3) := by decide +kernel
theorem dM_isMatch_47 : decode prog_14_method_45_code 47 = .ok (.goto (64), 3) := by decide +kernel
theorem dM_isMatch_50 : decode prog_14_method_45_code 50 = .ok (.aload_n 0, 1) := by decide +kernel
theorem dM_isMatch_51 : decode prog_14_method_45_code 51 = .ok (.getfield 91, 3) := by decide +kernel
theorem dM_isMatch_54 : decode prog_14_method_45_code 54 = .ok (.iload 6, 2) := by decide +kernel
theorem dM_isMatch_56 : decode prog_14_method_45_code 56 = .ok (.bipush (100), 2) := by decide +kernel
theorem dM_isMatch_58 : decode prog_14_method_45_code 58 = .ok (.isub, 1) := by decide +kernel
theorem dM_isMatch_59 : decode prog_14_method_45_code 59 = .ok (.iaload, 1) := by decide +kernel
theorem dM_isMatch_60 : decode prog_14_method_45_code 60 = .ok (.iconst (-1), 1) := by decide +kernel
theorem dM_isMatch_61 : decode prog_14_method_45_code 61 = .ok (.if_icmp .ne (18), 3) := by decide +kernel
theorem dM_isMatch_64 : decode prog_14_method_45_code 64 = .ok (.aload_n 0, 1) := by decide +kernel
theorem dM_isMatch_65 : decode prog_14_method_45_code 65 = .ok (.getfield 91, 3) := by decide +kernel
theorem dM_isMatch_68 : decode prog_14_method_45_code 68 = .ok (.iload 6, 2) := by decide +kernel
theorem dM_isMatch_70 : decode prog_14_method_45_code 70 = .ok (.bipush (100), 2) := by decide +kernel
theorem dM_isMatch_72 : decode prog_14_method_45_code 72 = .ok (.isub, 1) := by decide +kernel
theorem dM_isMatch_73 : decode prog_14_method_45_code 73 = .ok (.iload 4, 2) := by decide +kernel
theorem dM_isMatch_75 : decode prog_14_method_45_code 75 = .ok (.iastore, 1) := by decide +kernel
theorem dM_isMatch_76 : decode prog_14_method_45_code 76 = .ok (.goto (24), 3) := by decide +kernel
theorem dM_isMatch_79 : decode prog_14_method_45_code 79 = .ok (.aload_n 0, 1) := by decide +kernel
theorem dM_isMatch_80 : decode prog_14_method_45_code 80 = .ok (.aload_n 0, 1) := by decide +kernel
theorem dM_isMatch_81 : decode prog_14_method_45_code 81 = .ok (.getfield 91, 3) := by decide +kernel
theorem dM_isMatch_84 : decode prog_14_method_45_code 84 = .ok (.iload 6, 2) := by decide +kernel
theorem dM_isMatch_86 : decode prog_14_method_45_code 86 = .ok (.bipush (100), 2) := by decide +kernel
theorem dM_isMatch_88 : decode prog_14_method_45_code 88 = .ok (.isub, 1) := by decide +kernel
theorem dM_isMatch_89 : decode prog_14_method_45_code 89 = .ok (.iaload, 1) := by decide +kernel
theorem dM_isMatch_90 : decode prog_14_method_45_code 90 = .ok (.iload 4, 2) := by decide +kernel
theorem dM_isMatch_92 : decode prog_14_method_45_code 92 = .ok (.invokevirtual 306, 3) := by decide +kernel
theorem dM_isMatch_95 : decode prog_14_method_45_code 95 = .ok (.ifCond .ne (5), 3) := by decide +kernel
theorem dM_isMatch_98 : decode prog_14_method_45_code 98 = .ok (.iconst (0), 1) := by decide +kernel
theorem dM_isMatch_99 : decode prog_14_method_45_code 99 = .ok (.ireturn, 1) := by decide +kernel
theorem dM_isMatch_100 : decode prog_14_method_45_code 100 = .ok (.iload 4, 2) := by decide +kernel
theorem dM_isMatch_102 : decode prog_14_method_45_code 102 = .ok (.aload_n 0, 1) := by decide +kernel
theorem dM_isMatch_103 : decode prog_14_method_45_code 103 = .ok (.iload 4, 2) := by decide +kernel
theorem dM_isMatch_105 : decode prog_14_method_45_code 105 = .ok (.invokevirtual 303, 3) := by decide +kernel
theorem dM_isMatch_108 : decode prog_14_method_45_code 108 = .ok (.iadd, 1) := by decide +kernel
theorem dM_isMatch_109 : decode prog_14_method_45_code 109 = .ok (.istore 4, 2) := by decide +kernel
theorem dM_isMatch_111 : decode prog_14_method_45_code 111 = .ok (.iinc 5 (1), 3) := by decide +kernel
theorem dM_isMatch_114 : decode prog_14_method_45_code 114 = .ok (.goto (-108), 3) := by decide +kernel
theorem dM_isMatch_117 : decode prog_14_method_45_code 117 = .ok (.iconst (1), 1) := by decide +kernel
theorem dM_isMatch_118 : decode prog_14_method_45_code 118 = .ok (.ireturn, 1) := by decide +kernel
theorem dM_isNeeded_0 : decode prog_14_method_50_code 0 = .ok (.iload_n 1, 1) := by decide +kernel
theorem dM_isNeeded_1 : decode prog_14_method_50_code 1 = .ok (.aload_n 0, 1) := by decide +kernel
theorem dM_isNeeded_2 : decode prog_14_method_50_code 2 = .ok (.getfield 288, 3) := by decide +kernel
theorem dM_isNeeded_5 : decode prog_14_method_50_code 5 = .ok (.if_icmp .eq (21), 3) := by decide +kernel
theorem dM_isNeeded_8 : decode prog_14_method_50_code 8 = .ok (.aload_n 0, 1) := by decide +kernel
theorem dM_isNeeded_9 : decode prog_14_method_50_code 9 = .ok (.getfield 97, 3) := by decide +kernel
theorem dM_isNeeded_12 : decode prog_14_method_50_code 12 = .ok (.aload_n 0, 1) := by decide +kernel
theorem dM_isNeeded_13 : decode prog_14_method_50_code 13 = .ok (.getfield 288, 3) := by decide +kernel
theorem dM_isNeeded_16 : decode prog_14_method_50_code 16 = .ok (.laload, 1) := by decide +kernel
theorem dM_isNeeded_17 : decode prog_14_method_50_code 17 = .ok (.iload_n 1, 1) := by decide +kernel
theorem dM_isNeeded_18 : decode prog_14_method_50_code 18 = .ok (.lshr, 1) := by decide +kernel
theorem dM_isNeeded_19 : decode prog_14_method_50_code 19 = .ok (.lconst 1, 1) := by decide +kernel
theorem dM_isNeeded_20 : decode prog_14_method_50_code 20 = .ok (.land, 1) := by decide +kernel
theorem dM_isNeeded_21 : decode prog_14_method_50_code 21 = .ok (.lconst 1, 1) := by decide +kernel
theorem dM_isNeeded_22 : decode prog_14_method_50_code 22 = .ok (.lcmp, 1) := by decide +kernel
theorem dM_isNeeded_23 : decode prog_14_method_50_code 23 = .ok (.ifCond .ne (7), 3) := by decide +kernel
theorem dM_isNeeded_26 : decode prog_14_method_50_code 26 = .ok (.iconst (1), 1) := by decide +kernel
theorem dM_isNeeded_27 : decode prog_14_method_50_code 27 = .ok (.goto (4), 3) := by decide +kernel
theorem dM_isNeeded_30 : decode prog_14_method_50_code 30 = .ok (.iconst (0), 1) := by decide +kernel
theorem dM_isNeeded_31 : decode prog_14_method_50_code 31 = .ok (.ireturn, 1) := by decide +kernel
theorem dM_coveredBy_0 : decode prog_14_method_48_code 0 = .ok (.iconst (0), 1) := by decide +kernel
theorem dM_coveredBy_1 : decode prog_14_method_48_code 1 = .ok (.istore_n 2, 1) := by decide +kernel
theorem dM_coveredBy_2 : decode prog_14_method_48_code 2 = .ok (.iload_n 2, 1) := by decide +kernel
theorem dM_coveredBy_3 : decode prog_14_method_48_code 3 = .ok (.iload_n 1, 1) := by decide +kernel
theorem dM_coveredBy_4 : decode prog_14_method_48_code 4 = .ok (.if_icmp .ge (20), 3) := by decide +kernel
theorem dM_coveredBy_7 : decode prog_14_method_48_code 7 = .ok (.aload_n 0, 1) := by decide +kernel
theorem dM_coveredBy_8 : decode prog_14_method_48_code 8 = .ok (.iload_n 2, 1) := by decide +kernel
theorem dM_coveredBy_9 : decode prog_14_method_48_code 9 = .ok (.iload_n 1, 1) := by decide +kernel
theorem dM_coveredBy_10 : decode prog_14_method_48_code 10 = .ok (.invokevirtual 325, 3) := by decide +kernel
theorem dM_coveredBy_13 : decode prog_14_method_48_code 13 = .ok (.ifCond .eq (5), 3) := by decide +kernel
theorem dM_coveredBy_16 : decode prog_14_method_48_code 16 = .ok (.iload_n 2, 1) := by decide +kernel
theorem dM_coveredBy_17 : decode prog_14_method_48_code 17 = .ok (.ireturn, 1) := by decide +kernel
theorem dM_coveredBy_18 : decode prog_14_method_48_code 18 = .ok (.iinc 2 (1), 3) := by decide +kernel
theorem dM_coveredBy_21 : decode prog_14_method_48_code 21 = .ok (.goto (-19), 3) := by decide +kernel
theorem dM_coveredBy_24 : decode prog_14_method_48_code 24 = .ok (.iconst (-1), 1) := by decide +kernel
theorem dM_coveredBy_25 : decode prog_14_method_48_code 25 = .ok (.ireturn, 1) := by decide +kernel
theorem dM_isCover_0 : decode prog_14_method_47_code 0 = .ok (.aload_n 0, 1) := by decide +kernel
theorem dM_isCover_1 : decode prog_14_method_47_code 1 = .ok (.invokevirtual 310, 3) := by decide +kernel
theorem dM_isCover_4 : decode prog_14_method_47_code 4 = .ok (.aload_n 0, 1) := by decide +kernel
theorem dM_isCover_5 : decode prog_14_method_47_code 5 = .ok (.aload_n 0, 1) := by decide +kernel
theorem dM_isCover_6 : decode prog_14_method_47_code 6 = .ok (.bipush (48), 2) := by decide +kernel
theorem dM_isCover_8 : decode prog_14_method_47_code 8 = .ok (.iload_n 1, 1) := by decide +kernel
theorem dM_isCover_9 : decode prog_14_method_47_code 9 = .ok (.iadd, 1) := by decide +kernel
theorem dM_isCover_10 : decode prog_14_method_47_code 10 = .ok (.invokevirtual 313, 3) := by decide +kernel
theorem dM_isCover_13 : decode prog_14_method_47_code 13 = .ok (.aload_n 0, 1) := by decide +kernel
theorem dM_isCover_14 : decode prog_14_method_47_code 14 = .ok (.bipush (48), 2) := by decide +kernel
theorem dM_isCover_16 : decode prog_14_method_47_code 16 = .ok (.iload_n 1, 1) := by decide +kernel
theorem dM_isCover_17 : decode prog_14_method_47_code 17 = .ok (.iadd, 1) := by decide +kernel
theorem dM_isCover_18 : decode prog_14_method_47_code 18 = .ok (.invokevirtual 316, 3) := by decide +kernel
theorem dM_isCover_21 : decode prog_14_method_47_code 21 = .ok (.aload_n 0, 1) := by decide +kernel
theorem dM_isCover_22 : decode prog_14_method_47_code 22 = .ok (.bipush (48), 2) := by decide +kernel
theorem dM_isCover_24 : decode prog_14_method_47_code 24 = .ok (.iload_n 2, 1) := by decide +kernel
theorem dM_isCover_25 : decode prog_14_method_47_code 25 = .ok (.iadd, 1) := by decide +kernel
theorem dM_isCover_26 : decode prog_14_method_47_code 26 = .ok (.invokevirtual 313, 3) := by decide +kernel
theorem dM_isCover_29 : decode prog_14_method_47_code 29 = .ok (.invokevirtual 322, 3) := by decide +kernel
theorem dM_isCover_32 : decode prog_14_method_47_code 32 = .ok (.ireturn, 1) := by decide +kernel
theorem dM_wrongMany_0 : decode prog_14_method_55_code 0 = .ok (.iconst (0), 1) := by decide +kernel
theorem dM_wrongMany_1 : decode prog_14_method_55_code 1 = .ok (.istore_n 1, 1) := by decide +kernel
theorem dM_wrongMany_2 : decode prog_14_method_55_code 2 = .ok (.iconst (0), 1) := by decide +kernel
theorem dM_wrongMany_3 : decode prog_14_method_55_code 3 = .ok (.istore_n 2, 1) := by decide +kernel
theorem dM_wrongMany_4 : decode prog_14_method_55_code 4 = .ok (.iload_n 2, 1) := by decide +kernel
theorem dM_wrongMany_5 : decode prog_14_method_55_code 5 = .ok (.aload_n 0, 1) := by decide +kernel
theorem dM_wrongMany_6 : decode prog_14_method_55_code 6 = .ok (.invokevirtual 297, 3) := by decide +kernel
theorem dM_wrongMany_9 : decode prog_14_method_55_code 9 = .ok (.if_icmp .ge (21), 3) := by decide +kernel
theorem dM_wrongMany_12 : decode prog_14_method_55_code 12 = .ok (.aload_n 0, 1) := by decide +kernel
theorem dM_wrongMany_13 : decode prog_14_method_55_code 13 = .ok (.getfield 106, 3) := by decide +kernel
theorem dM_wrongMany_16 : decode prog_14_method_55_code 16 = .ok (.iload_n 2, 1) := by decide +kernel
theorem dM_wrongMany_17 : decode prog_14_method_55_code 17 = .ok (.baload, 1) := by decide +kernel
theorem dM_wrongMany_18 : decode prog_14_method_55_code 18 = .ok (.ifCond .eq (6), 3) := by decide +kernel
theorem dM_wrongMany_21 : decode prog_14_method_55_code 21 = .ok (.iinc 1 (1), 3) := by decide +kernel
theorem dM_wrongMany_24 : decode prog_14_method_55_code 24 = .ok (.iinc 2 (1), 3) := by decide +kernel
theorem dM_wrongMany_27 : decode prog_14_method_55_code 27 = .ok (.goto (-23), 3) := by decide +kernel
theorem dM_wrongMany_30 : decode prog_14_method_55_code 30 = .ok (.iload_n 1, 1) := by decide +kernel
theorem dM_wrongMany_31 : decode prog_14_method_55_code 31 = .ok (.ireturn, 1) := by decide +kernel
theorem dM_falls_0 : decode prog_14_method_52_code 0 = .ok (.iconst (0), 1) := by decide +kernel
theorem dM_falls_1 : decode prog_14_method_52_code 1 = .ok (.istore_n 1, 1) := by decide +kernel
theorem dM_falls_2 : decode prog_14_method_52_code 2 = .ok (.iconst (0), 1) := by decide +kernel
theorem dM_falls_3 : decode prog_14_method_52_code 3 = .ok (.istore_n 2, 1) := by decide +kernel
theorem dM_falls_4 : decode prog_14_method_52_code 4 = .ok (.iload_n 2, 1) := by decide +kernel
theorem dM_falls_5 : decode prog_14_method_52_code 5 = .ok (.aload_n 0, 1) := by decide +kernel
theorem dM_falls_6 : decode prog_14_method_52_code 6 = .ok (.invokevirtual 294, 3) := by decide +kernel
theorem dM_falls_9 : decode prog_14_method_52_code 9 = .ok (.if_icmp .ge (88), 3) := by decide +kernel
theorem dM_falls_12 : decode prog_14_method_52_code 12 = .ok (.aload_n 0, 1) := by decide +kernel
theorem dM_falls_13 : decode prog_14_method_52_code 13 = .ok (.getfield 110, 3) := by decide +kernel
theorem dM_falls_16 : decode prog_14_method_52_code 16 = .ok (.iload_n 2, 1) := by decide +kernel
theorem dM_falls_17 : decode prog_14_method_52_code 17 = .ok (.aload_n 0, 1) := by decide +kernel
theorem dM_falls_18 : decode prog_14_method_52_code 18 = .ok (.getfield 106, 3) := by decide +kernel
theorem dM_falls_21 : decode prog_14_method_52_code 21 = .ok (.aload_n 0, 1) := by decide +kernel
theorem dM_falls_22 : decode prog_14_method_52_code 22 = .ok (.iload_n 2, 1) := by decide +kernel
theorem dM_falls_23 : decode prog_14_method_52_code 23 = .ok (.invokevirtual 300, 3) := by decide +kernel
theorem dM_falls_26 : decode prog_14_method_52_code 26 = .ok (.baload, 1) := by decide +kernel
theorem dM_falls_27 : decode prog_14_method_52_code 27 = .ok (.bastore, 1) := by decide +kernel
theorem dM_falls_28 : decode prog_14_method_52_code 28 = .ok (.iconst (0), 1) := by decide +kernel
theorem dM_falls_29 : decode prog_14_method_52_code 29 = .ok (.istore_n 3, 1) := by decide +kernel
theorem dM_falls_30 : decode prog_14_method_52_code 30 = .ok (.iload_n 3, 1) := by decide +kernel
theorem dM_falls_31 : decode prog_14_method_52_code 31 = .ok (.aload_n 0, 1) := by decide +kernel
theorem dM_falls_32 : decode prog_14_method_52_code 32 = .ok (.iload_n 2, 1) := by decide +kernel
theorem dM_falls_33 : decode prog_14_method_52_code 33 = .ok (.invokevirtual 328, 3) := by decide +kernel
theorem dM_falls_36 : decode prog_14_method_52_code 36 = .ok (.if_icmp .ge (43), 3) := by decide +kernel
theorem dM_falls_39 : decode prog_14_method_52_code 39 = .ok (.aload_n 0, 1) := by decide +kernel
theorem dM_falls_40 : decode prog_14_method_52_code 40 = .ok (.getfield 110, 3) := by decide +kernel
theorem dM_falls_43 : decode prog_14_method_52_code 43 = .ok (.iload_n 2, 1) := by decide +kernel
theorem dM_falls_44 : decode prog_14_method_52_code 44 = .ok (.aload_n 0, 1) := by decide +kernel
theorem dM_falls_45 : decode prog_14_method_52_code 45 = .ok (.getfield 110, 3) := by decide +kernel
theorem dM_falls_48 : decode prog_14_method_52_code 48 = .ok (.iload_n 2, 1) := by decide +kernel
theorem dM_falls_49 : decode prog_14_method_52_code 49 = .ok (.baload, 1) := by decide +kernel
theorem dM_falls_50 : decode prog_14_method_52_code 50 = .ok (.ifCond .ne (17), 3) := by decide +kernel
theorem dM_falls_53 : decode prog_14_method_52_code 53 = .ok (.aload_n 0, 1) := by decide +kernel
theorem dM_falls_54 : decode prog_14_method_52_code 54 = .ok (.getfield 110, 3) := by decide +kernel
theorem dM_falls_57 : decode prog_14_method_52_code 57 = .ok (.aload_n 0, 1) := by decide +kernel
theorem dM_falls_58 : decode prog_14_method_52_code 58 = .ok (.iload_n 2, 1) := by decide +kernel
theorem dM_falls_59 : decode prog_14_method_52_code 59 = .ok (.iload_n 3, 1) := by decide +kernel
theorem dM_falls_60 : decode prog_14_method_52_code 60 = .ok (.invokevirtual 319, 3) := by decide +kernel
theorem dM_falls_63 : decode prog_14_method_52_code 63 = .ok (.baload, 1) := by decide +kernel
theorem dM_falls_64 : decode prog_14_method_52_code 64 = .ok (.ifCond .eq (7), 3) := by decide +kernel
theorem dM_falls_67 : decode prog_14_method_52_code 67 = .ok (.iconst (1), 1) := by decide +kernel
theorem dM_falls_68 : decode prog_14_method_52_code 68 = .ok (.goto (4), 3) := by decide +kernel
theorem dM_falls_71 : decode prog_14_method_52_code 71 = .ok (.iconst (0), 1) := by decide +kernel
theorem dM_falls_72 : decode prog_14_method_52_code 72 = .ok (.bastore, 1) := by decide +kernel
theorem dM_falls_73 : decode prog_14_method_52_code 73 = .ok (.iinc 3 (1), 3) := by decide +kernel
theorem dM_falls_76 : decode prog_14_method_52_code 76 = .ok (.goto (-46), 3) := by decide +kernel
theorem dM_falls_79 : decode prog_14_method_52_code 79 = .ok (.aload_n 0, 1) := by decide +kernel
theorem dM_falls_80 : decode prog_14_method_52_code 80 = .ok (.getfield 110, 3) := by decide +kernel
theorem dM_falls_83 : decode prog_14_method_52_code 83 = .ok (.iload_n 2, 1) := by decide +kernel
theorem dM_falls_84 : decode prog_14_method_52_code 84 = .ok (.baload, 1) := by decide +kernel
theorem dM_falls_85 : decode prog_14_method_52_code 85 = .ok (.ifCond .eq (6), 3) := by decide +kernel
theorem dM_falls_88 : decode prog_14_method_52_code 88 = .ok (.iinc 1 (1), 3) := by decide +kernel
theorem dM_falls_91 : decode prog_14_method_52_code 91 = .ok (.iinc 2 (1), 3) := by decide +kernel
theorem dM_falls_94 : decode prog_14_method_52_code 94 = .ok (.goto (-90), 3) := by decide +kernel
theorem dM_falls_97 : decode prog_14_method_52_code 97 = .ok (.iload_n 1, 1) := by decide +kernel
theorem dM_falls_98 : decode prog_14_method_52_code 98 = .ok (.ireturn, 1) := by decide +kernel
theorem dM_askedMany_0 : decode prog_14_method_54_code 0 = .ok (.iconst (0), 1) := by decide +kernel
theorem dM_askedMany_1 : decode prog_14_method_54_code 1 = .ok (.istore_n 1, 1) := by decide +kernel
theorem dM_askedMany_2 : decode prog_14_method_54_code 2 = .ok (.iconst (0), 1) := by decide +kernel
theorem dM_askedMany_3 : decode prog_14_method_54_code 3 = .ok (.istore_n 2, 1) := by decide +kernel
theorem dM_askedMany_4 : decode prog_14_method_54_code 4 = .ok (.iload_n 2, 1) := by decide +kernel
theorem dM_askedMany_5 : decode prog_14_method_54_code 5 = .ok (.aload_n 0, 1) := by decide +kernel
theorem dM_askedMany_6 : decode prog_14_method_54_code 6 = .ok (.invokevirtual 334, 3) := by decide +kernel
theorem dM_askedMany_9 : decode prog_14_method_54_code 9 = .ok (.if_icmp .ge (21), 3) := by decide +kernel
theorem dM_askedMany_12 : decode prog_14_method_54_code 12 = .ok (.aload_n 0, 1) := by decide +kernel
theorem dM_askedMany_13 : decode prog_14_method_54_code 13 = .ok (.getfield 113, 3) := by decide +kernel
theorem dM_askedMany_16 : decode prog_14_method_54_code 16 = .ok (.iload_n 2, 1) := by decide +kernel
theorem dM_askedMany_17 : decode prog_14_method_54_code 17 = .ok (.baload, 1) := by decide +kernel
theorem dM_askedMany_18 : decode prog_14_method_54_code 18 = .ok (.ifCond .eq (6), 3) := by decide +kernel
theorem dM_askedMany_21 : decode prog_14_method_54_code 21 = .ok (.iinc 1 (1), 3) := by decide +kernel
theorem dM_askedMany_24 : decode prog_14_method_54_code 24 = .ok (.iinc 2 (1), 3) := by decide +kernel
theorem dM_askedMany_27 : decode prog_14_method_54_code 27 = .ok (.goto (-23), 3) := by decide +kernel
theorem dM_askedMany_30 : decode prog_14_method_54_code 30 = .ok (.iload_n 1, 1) := by decide +kernel
theorem dM_askedMany_31 : decode prog_14_method_54_code 31 = .ok (.ireturn, 1) := by decide +kernel
theorem dM_letter_0 : decode prog_14_method_59_code 0 = .ok (.iload_n 1, 1) := by decide +kernel
theorem dM_letter_1 : decode prog_14_method_59_code 1 = .ok (.i2l, 1) := by decide +kernel
theorem dM_letter_2 : decode prog_14_method_59_code 2 = .ok (.lconst 0, 1) := by decide +kernel
theorem dM_letter_3 : decode prog_14_method_59_code 3 = .ok (.ldc2_w 358, 3) := by decide +kernel
theorem dM_letter_6 : decode prog_14_method_59_code 6 = .ok (.invokestatic 196, 3) := by decide +kernel
theorem dM_letter_9 : decode prog_14_method_59_code 9 = .ok (.ifCond .eq (35), 3) := by decide +kernel
theorem dM_letter_12 : decode prog_14_method_59_code 12 = .ok (.iload_n 2, 1) := by decide +kernel
theorem dM_letter_13 : decode prog_14_method_59_code 13 = .ok (.i2l, 1) := by decide +kernel
theorem dM_letter_14 : decode prog_14_method_59_code 14 = .ok (.lconst 0, 1) := by decide +kernel
theorem dM_letter_15 : decode prog_14_method_59_code 15 = .ok (.aload_n 0, 1) := by decide +kernel
theorem dM_letter_16 : decode prog_14_method_59_code 16 = .ok (.getfield 45, 3) := by decide +kernel
theorem dM_letter_19 : decode prog_14_method_59_code 19 = .ok (.iconst (5), 1) := by decide +kernel
theorem dM_letter_20 : decode prog_14_method_59_code 20 = .ok (.iload_n 1, 1) := by decide +kernel
theorem dM_letter_21 : decode prog_14_method_59_code 21 = .ok (.iadd, 1) := by decide +kernel
theorem dM_letter_22 : decode prog_14_method_59_code 22 = .ok (.iaload, 1) := by decide +kernel
theorem dM_letter_23 : decode prog_14_method_59_code 23 = .ok (.iconst (1), 1) := by decide +kernel
theorem dM_letter_24 : decode prog_14_method_59_code 24 = .ok (.isub, 1) := by decide +kernel
theorem dM_letter_25 : decode prog_14_method_59_code 25 = .ok (.i2l, 1) := by decide +kernel
theorem dM_letter_26 : decode prog_14_method_59_code 26 = .ok (.invokestatic 196, 3) := by decide +kernel
theorem dM_letter_29 : decode prog_14_method_59_code 29 = .ok (.ifCond .eq (15), 3) := by decide +kernel
theorem dM_letter_32 : decode prog_14_method_59_code 32 = .ok (.iload_n 3, 1) := by decide +kernel
theorem dM_letter_33 : decode prog_14_method_59_code 33 = .ok (.i2l, 1) := by decide +kernel
theorem dM_letter_34 : decode prog_14_method_59_code 34 = .ok (.lconst 0, 1) := by decide +kernel
theorem dM_letter_35 : decode prog_14_method_59_code 35 = .ok (.ldc2_w 360, 3) := by decide +kernel
theorem dM_letter_38 : decode prog_14_method_59_code 38 = .ok (.invokestatic 196, 3) := by decide +kernel
theorem dM_letter_41 : decode prog_14_method_59_code 41 = .ok (.ifCond .ne (5), 3) := by decide +kernel
theorem dM_letter_44 : decode prog_14_method_59_code 44 = .ok (.iconst (-1), 1) := by decide +kernel
theorem dM_letter_45 : decode prog_14_method_59_code 45 = .ok (.ireturn, 1) := by decide +kernel
theorem dM_letter_46 : decode prog_14_method_59_code 46 = .ok (.aload_n 0, 1) := by decide +kernel
theorem dM_letter_47 : decode prog_14_method_59_code 47 = .ok (.getfield 48, 3) := by decide +kernel
theorem dM_letter_50 : decode prog_14_method_59_code 50 = .ok (.bipush (96), 2) := by decide +kernel
theorem dM_letter_52 : decode prog_14_method_59_code 52 = .ok (.bipush (24), 2) := by decide +kernel
theorem dM_letter_54 : decode prog_14_method_59_code 54 = .ok (.iload_n 1, 1) := by decide +kernel
theorem dM_letter_55 : decode prog_14_method_59_code 55 = .ok (.imul, 1) := by decide +kernel
theorem dM_letter_56 : decode prog_14_method_59_code 56 = .ok (.iadd, 1) := by decide +kernel
theorem dM_letter_57 : decode prog_14_method_59_code 57 = .ok (.iload_n 2, 1) := by decide +kernel
theorem dM_letter_58 : decode prog_14_method_59_code 58 = .ok (.iadd, 1) := by decide +kernel
theorem dM_letter_59 : decode prog_14_method_59_code 59 = .ok (.laload, 1) := by decide +kernel
theorem dM_letter_60 : decode prog_14_method_59_code 60 = .ok (.lstore 4, 2) := by decide +kernel
theorem dM_letter_62 : decode prog_14_method_59_code 62 = .ok (.iconst (0), 1) := by decide +kernel
theorem dM_letter_63 : decode prog_14_method_59_code 63 = .ok (.istore 6, 2) := by decide +kernel
theorem dM_letter_65 : decode prog_14_method_59_code 65 = .ok (.lload 4, 2) := by decide +kernel
theorem dM_letter_67 : decode prog_14_method_59_code 67 = .ok (.lstore 7, 2) := by decide +kernel
theorem dM_letter_69 : decode prog_14_method_59_code 69 = .ok (.lload 7, 2) := by decide +kernel
theorem dM_letter_71 : decode prog_14_method_59_code 71 = .ok (.lconst 0, 1) := by decide +kernel
theorem dM_letter_72 : decode prog_14_method_59_code 72 = .ok (.lcmp, 1) := by decide +kernel
theorem dM_letter_73 : decode prog_14_method_59_code 73 = .ok (.ifCond .le (17), 3) := by decide +kernel
theorem dM_letter_76 : decode prog_14_method_59_code 76 = .ok (.iinc 6 (1), 3) := by decide +kernel
theorem dM_letter_79 : decode prog_14_method_59_code 79 = .ok (.lload 7, 2) := by decide +kernel
theorem dM_letter_81 : decode prog_14_method_59_code 81 = .ok (.ldc2_w 207, 3) := by decide +kernel
theorem dM_letter_84 : decode prog_14_method_59_code 84 = .ok (.ldiv, 1) := by decide +kernel
theorem dM_letter_85 : decode prog_14_method_59_code 85 = .ok (.lstore 7, 2) := by decide +kernel
theorem dM_letter_87 : decode prog_14_method_59_code 87 = .ok (.goto (-18), 3) := by decide +kernel
theorem dM_letter_90 : decode prog_14_method_59_code 90 = .ok (.iload_n 3, 1) := by decide +kernel
theorem dM_letter_91 : decode prog_14_method_59_code 91 = .ok (.iload 6, 2) := by decide +kernel
theorem dM_letter_93 : decode prog_14_method_59_code 93 = .ok (.if_icmp .lt (5), 3) := by decide +kernel
theorem dM_letter_96 : decode prog_14_method_59_code 96 = .ok (.iconst (0), 1) := by decide +kernel
theorem dM_letter_97 : decode prog_14_method_59_code 97 = .ok (.ireturn, 1) := by decide +kernel
theorem dM_letter_98 : decode prog_14_method_59_code 98 = .ok (.iload 6, 2) := by decide +kernel
theorem dM_letter_100 : decode prog_14_method_59_code 100 = .ok (.iconst (1), 1) := by decide +kernel
theorem dM_letter_101 : decode prog_14_method_59_code 101 = .ok (.isub, 1) := by decide +kernel
theorem dM_letter_102 : decode prog_14_method_59_code 102 = .ok (.istore 7, 2) := by decide +kernel
theorem dM_letter_104 : decode prog_14_method_59_code 104 = .ok (.iload 7, 2) := by decide +kernel
theorem dM_letter_106 : decode prog_14_method_59_code 106 = .ok (.iload_n 3, 1) := by decide +kernel
theorem dM_letter_107 : decode prog_14_method_59_code 107 = .ok (.if_icmp .le (17), 3) := by decide +kernel
theorem dM_letter_110 : decode prog_14_method_59_code 110 = .ok (.lload 4, 2) := by decide +kernel
theorem dM_letter_112 : decode prog_14_method_59_code 112 = .ok (.ldc2_w 207, 3) := by decide +kernel
theorem dM_letter_115 : decode prog_14_method_59_code 115 = .ok (.ldiv, 1) := by decide +kernel
theorem dM_letter_116 : decode prog_14_method_59_code 116 = .ok (.lstore 4, 2) := by decide +kernel
theorem dM_letter_118 : decode prog_14_method_59_code 118 = .ok (.iinc 7 (-1), 3) := by decide +kernel
theorem dM_letter_121 : decode prog_14_method_59_code 121 = .ok (.goto (-17), 3) := by decide +kernel
theorem dM_letter_124 : decode prog_14_method_59_code 124 = .ok (.lload 4, 2) := by decide +kernel
theorem dM_letter_126 : decode prog_14_method_59_code 126 = .ok (.ldc2_w 207, 3) := by decide +kernel
theorem dM_letter_129 : decode prog_14_method_59_code 129 = .ok (.lrem, 1) := by decide +kernel
theorem dM_letter_130 : decode prog_14_method_59_code 130 = .ok (.l2i, 1) := by decide +kernel
theorem dM_letter_131 : decode prog_14_method_59_code 131 = .ok (.ireturn, 1) := by decide +kernel
theorem dM_rule_0 : decode prog_14_method_60_code 0 = .ok (.aload_n 0, 1) := by decide +kernel
theorem dM_rule_1 : decode prog_14_method_60_code 1 = .ok (.iload_n 1, 1) := by decide +kernel
theorem dM_rule_2 : decode prog_14_method_60_code 2 = .ok (.invokevirtual 362, 3) := by decide +kernel
theorem dM_rule_5 : decode prog_14_method_60_code 5 = .ok (.ifCond .ne (5), 3) := by decide +kernel
theorem dM_rule_8 : decode prog_14_method_60_code 8 = .ok (.iconst (-1), 1) := by decide +kernel
theorem dM_rule_9 : decode prog_14_method_60_code 9 = .ok (.ireturn, 1) := by decide +kernel
theorem dM_rule_10 : decode prog_14_method_60_code 10 = .ok (.iconst (0), 1) := by decide +kernel
theorem dM_rule_11 : decode prog_14_method_60_code 11 = .ok (.istore_n 3, 1) := by decide +kernel
theorem dM_rule_12 : decode prog_14_method_60_code 12 = .ok (.iload_n 2, 1) := by decide +kernel
theorem dM_rule_13 : decode prog_14_method_60_code 13 = .ok (.tableswitch (95) (0) (3) #[31, 41, 74, 89], 31) := by decide +kernel
theorem dM_rule_44 : decode prog_14_method_60_code 44 = .ok (.aload_n 0, 1) := by decide +kernel
theorem dM_rule_45 : decode prog_14_method_60_code 45 = .ok (.getfield 64, 3) := by decide +kernel
theorem dM_rule_48 : decode prog_14_method_60_code 48 = .ok (.bipush (12), 2) := by decide +kernel
theorem dM_rule_50 : decode prog_14_method_60_code 50 = .ok (.iload_n 1, 1) := by decide +kernel
theorem dM_rule_51 : decode prog_14_method_60_code 51 = .ok (.iadd, 1) := by decide +kernel
theorem dM_rule_52 : decode prog_14_method_60_code 52 = .ok (.iaload, 1) := by decide +kernel
theorem dM_rule_53 : decode prog_14_method_60_code 53 = .ok (.ireturn, 1) := by decide +kernel
theorem dM_rule_54 : decode prog_14_method_60_code 54 = .ok (.iconst (0), 1) := by decide +kernel
theorem dM_rule_55 : decode prog_14_method_60_code 55 = .ok (.istore 4, 2) := by decide +kernel
theorem dM_rule_57 : decode prog_14_method_60_code 57 = .ok (.iload 4, 2) := by decide +kernel
theorem dM_rule_59 : decode prog_14_method_60_code 59 = .ok (.aload_n 0, 1) := by decide +kernel
theorem dM_rule_60 : decode prog_14_method_60_code 60 = .ok (.invokevirtual 294, 3) := by decide +kernel
theorem dM_rule_63 : decode prog_14_method_60_code 63 = .ok (.if_icmp .ge (22), 3) := by decide +kernel
theorem dM_rule_66 : decode prog_14_method_60_code 66 = .ok (.aload_n 0, 1) := by decide +kernel
theorem dM_rule_67 : decode prog_14_method_60_code 67 = .ok (.iload 4, 2) := by decide +kernel
theorem dM_rule_69 : decode prog_14_method_60_code 69 = .ok (.invokevirtual 300, 3) := by decide +kernel
theorem dM_rule_72 : decode prog_14_method_60_code 72 = .ok (.iload_n 1, 1) := by decide +kernel
theorem dM_rule_73 : decode prog_14_method_60_code 73 = .ok (.if_icmp .ne (6), 3) := by decide +kernel
theorem dM_rule_76 : decode prog_14_method_60_code 76 = .ok (.iinc 3 (1), 3) := by decide +kernel
theorem dM_rule_79 : decode prog_14_method_60_code 79 = .ok (.iinc 4 (1), 3) := by decide +kernel
theorem dM_rule_82 : decode prog_14_method_60_code 82 = .ok (.goto (-25), 3) := by decide +kernel
theorem dM_rule_85 : decode prog_14_method_60_code 85 = .ok (.iload_n 3, 1) := by decide +kernel
theorem dM_rule_86 : decode prog_14_method_60_code 86 = .ok (.ireturn, 1) := by decide +kernel
theorem dM_rule_87 : decode prog_14_method_60_code 87 = .ok (.aload_n 0, 1) := by decide +kernel
theorem dM_rule_88 : decode prog_14_method_60_code 88 = .ok (.getfield 106, 3) := by decide +kernel
theorem dM_rule_91 : decode prog_14_method_60_code 91 = .ok (.iload_n 1, 1) := by decide +kernel
theorem dM_rule_92 : decode prog_14_method_60_code 92 = .ok (.baload, 1) := by decide +kernel
theorem dM_rule_93 : decode prog_14_method_60_code 93 = .ok (.ifCond .eq (7), 3) := by decide +kernel
theorem dM_rule_96 : decode prog_14_method_60_code 96 = .ok (.iconst (1), 1) := by decide +kernel
theorem dM_rule_97 : decode prog_14_method_60_code 97 = .ok (.goto (4), 3) := by decide +kernel
theorem dM_rule_100 : decode prog_14_method_60_code 100 = .ok (.iconst (0), 1) := by decide +kernel
theorem dM_rule_101 : decode prog_14_method_60_code 101 = .ok (.ireturn, 1) := by decide +kernel
theorem dM_rule_102 : decode prog_14_method_60_code 102 = .ok (.aload_n 0, 1) := by decide +kernel
theorem dM_rule_103 : decode prog_14_method_60_code 103 = .ok (.iload_n 1, 1) := by decide +kernel
theorem dM_rule_104 : decode prog_14_method_60_code 104 = .ok (.invokevirtual 365, 3) := by decide +kernel
theorem dM_rule_107 : decode prog_14_method_60_code 107 = .ok (.ireturn, 1) := by decide +kernel
theorem dM_rule_108 : decode prog_14_method_60_code 108 = .ok (.iconst (-1), 1) := by decide +kernel
theorem dM_rule_109 : decode prog_14_method_60_code 109 = .ok (.ireturn, 1) := by decide +kernel
theorem dM_isRule_0 : decode prog_14_method_36_code 0 = .ok (.iload_n 1, 1) := by decide +kernel
theorem dM_isRule_1 : decode prog_14_method_36_code 1 = .ok (.i2l, 1) := by decide +kernel
theorem dM_isRule_2 : decode prog_14_method_36_code 2 = .ok (.lconst 0, 1) := by decide +kernel
theorem dM_isRule_3 : decode prog_14_method_36_code 3 = .ok (.aload_n 0, 1) := by decide +kernel
theorem dM_isRule_4 : decode prog_14_method_36_code 4 = .ok (.invokevirtual 297, 3) := by decide +kernel
theorem dM_isRule_7 : decode prog_14_method_36_code 7 = .ok (.iconst (1), 1) := by decide +kernel
theorem dM_isRule_8 : decode prog_14_method_36_code 8 = .ok (.isub, 1) := by decide +kernel
theorem dM_isRule_9 : decode prog_14_method_36_code 9 = .ok (.i2l, 1) := by decide +kernel
theorem dM_isRule_10 : decode prog_14_method_36_code 10 = .ok (.invokestatic 196, 3) := by decide +kernel
theorem dM_isRule_13 : decode prog_14_method_36_code 13 = .ok (.ireturn, 1) := by decide +kernel
theorem dM_fallsBy_0 : decode prog_14_method_53_code 0 = .ok (.iconst (0), 1) := by decide +kernel
theorem dM_fallsBy_1 : decode prog_14_method_53_code 1 = .ok (.istore_n 2, 1) := by decide +kernel
theorem dM_fallsBy_2 : decode prog_14_method_53_code 2 = .ok (.iconst (0), 1) := by decide +kernel
theorem dM_fallsBy_3 : decode prog_14_method_53_code 3 = .ok (.istore_n 3, 1) := by decide +kernel
theorem dM_fallsBy_4 : decode prog_14_method_53_code 4 = .ok (.iload_n 3, 1) := by decide +kernel
theorem dM_fallsBy_5 : decode prog_14_method_53_code 5 = .ok (.aload_n 0, 1) := by decide +kernel
theorem dM_fallsBy_6 : decode prog_14_method_53_code 6 = .ok (.invokevirtual 294, 3) := by decide +kernel
theorem dM_fallsBy_9 : decode prog_14_method_53_code 9 = .ok (.if_icmp .ge (95), 3) := by decide +kernel
theorem dM_fallsBy_12 : decode prog_14_method_53_code 12 = .ok (.aload_n 0, 1) := by decide +kernel
theorem dM_fallsBy_13 : decode prog_14_method_53_code 13 = .ok (.getfield 110, 3) := by decide +kernel
theorem dM_fallsBy_16 : decode prog_14_method_53_code 16 = .ok (.iload_n 3, 1) := by decide +kernel
theorem dM_fallsBy_17 : decode prog_14_method_53_code 17 = .ok (.aload_n 0, 1) := by decide +kernel
theorem dM_fallsBy_18 : decode prog_14_method_53_code 18 = .ok (.iload_n 3, 1) := by decide +kernel
theorem dM_fallsBy_19 : decode prog_14_method_53_code 19 = .ok (.invokevirtual 300, 3) := by decide +kernel
theorem dM_fallsBy_22 : decode prog_14_method_53_code 22 = .ok (.iload_n 1, 1) := by decide +kernel
theorem dM_fallsBy_23 : decode prog_14_method_53_code 23 = .ok (.if_icmp .ne (7), 3) := by decide +kernel
theorem dM_fallsBy_26 : decode prog_14_method_53_code 26 = .ok (.iconst (1), 1) := by decide +kernel
theorem dM_fallsBy_27 : decode prog_14_method_53_code 27 = .ok (.goto (4), 3) := by decide +kernel
theorem dM_fallsBy_30 : decode prog_14_method_53_code 30 = .ok (.iconst (0), 1) := by decide +kernel
theorem dM_fallsBy_31 : decode prog_14_method_53_code 31 = .ok (.bastore, 1) := by decide +kernel
theorem dM_fallsBy_32 : decode prog_14_method_53_code 32 = .ok (.iconst (0), 1) := by decide +kernel
theorem dM_fallsBy_33 : decode prog_14_method_53_code 33 = .ok (.istore 4, 2) := by decide +kernel
theorem dM_fallsBy_35 : decode prog_14_method_53_code 35 = .ok (.iload 4, 2) := by decide +kernel
theorem dM_fallsBy_37 : decode prog_14_method_53_code 37 = .ok (.aload_n 0, 1) := by decide +kernel
theorem dM_fallsBy_38 : decode prog_14_method_53_code 38 = .ok (.iload_n 3, 1) := by decide +kernel
theorem dM_fallsBy_39 : decode prog_14_method_53_code 39 = .ok (.invokevirtual 328, 3) := by decide +kernel
theorem dM_fallsBy_42 : decode prog_14_method_53_code 42 = .ok (.if_icmp .ge (44), 3) := by decide +kernel
theorem dM_fallsBy_45 : decode prog_14_method_53_code 45 = .ok (.aload_n 0, 1) := by decide +kernel
theorem dM_fallsBy_46 : decode prog_14_method_53_code 46 = .ok (.getfield 110, 3) := by decide +kernel
theorem dM_fallsBy_49 : decode prog_14_method_53_code 49 = .ok (.iload_n 3, 1) := by decide +kernel
theorem dM_fallsBy_50 : decode prog_14_method_53_code 50 = .ok (.aload_n 0, 1) := by decide +kernel
theorem dM_fallsBy_51 : decode prog_14_method_53_code 51 = .ok (.getfield 110, 3) := by decide +kernel
theorem dM_fallsBy_54 : decode prog_14_method_53_code 54 = .ok (.iload_n 3, 1) := by decide +kernel
theorem dM_fallsBy_55 : decode prog_14_method_53_code 55 = .ok (.baload, 1) := by decide +kernel
theorem dM_fallsBy_56 : decode prog_14_method_53_code 56 = .ok (.ifCond .ne (18), 3) := by decide +kernel
theorem dM_fallsBy_59 : decode prog_14_method_53_code 59 = .ok (.aload_n 0, 1) := by decide +kernel
theorem dM_fallsBy_60 : decode prog_14_method_53_code 60 = .ok (.getfield 110, 3) := by decide +kernel
theorem dM_fallsBy_63 : decode prog_14_method_53_code 63 = .ok (.aload_n 0, 1) := by decide +kernel
theorem dM_fallsBy_64 : decode prog_14_method_53_code 64 = .ok (.iload_n 3, 1) := by decide +kernel
theorem dM_fallsBy_65 : decode prog_14_method_53_code 65 = .ok (.iload 4, 2) := by decide +kernel
theorem dM_fallsBy_67 : decode prog_14_method_53_code 67 = .ok (.invokevirtual 319, 3) := by decide +kernel
theorem dM_fallsBy_70 : decode prog_14_method_53_code 70 = .ok (.baload, 1) := by decide +kernel
theorem dM_fallsBy_71 : decode prog_14_method_53_code 71 = .ok (.ifCond .eq (7), 3) := by decide +kernel
theorem dM_fallsBy_74 : decode prog_14_method_53_code 74 = .ok (.iconst (1), 1) := by decide +kernel
theorem dM_fallsBy_75 : decode prog_14_method_53_code 75 = .ok (.goto (4), 3) := by decide +kernel
theorem dM_fallsBy_78 : decode prog_14_method_53_code 78 = .ok (.iconst (0), 1) := by decide +kernel
theorem dM_fallsBy_79 : decode prog_14_method_53_code 79 = .ok (.bastore, 1) := by decide +kernel
theorem dM_fallsBy_80 : decode prog_14_method_53_code 80 = .ok (.iinc 4 (1), 3) := by decide +kernel
theorem dM_fallsBy_83 : decode prog_14_method_53_code 83 = .ok (.goto (-48), 3) := by decide +kernel
theorem dM_fallsBy_86 : decode prog_14_method_53_code 86 = .ok (.aload_n 0, 1) := by decide +kernel
theorem dM_fallsBy_87 : decode prog_14_method_53_code 87 = .ok (.getfield 110, 3) := by decide +kernel
theorem dM_fallsBy_90 : decode prog_14_method_53_code 90 = .ok (.iload_n 3, 1) := by decide +kernel
theorem dM_fallsBy_91 : decode prog_14_method_53_code 91 = .ok (.baload, 1) := by decide +kernel
theorem dM_fallsBy_92 : decode prog_14_method_53_code 92 = .ok (.ifCond .eq (6), 3) := by decide +kernel
theorem dM_fallsBy_95 : decode prog_14_method_53_code 95 = .ok (.iinc 2 (1), 3) := by decide +kernel
theorem dM_fallsBy_98 : decode prog_14_method_53_code 98 = .ok (.iinc 3 (1), 3) := by decide +kernel
theorem dM_fallsBy_101 : decode prog_14_method_53_code 101 = .ok (.goto (-97), 3) := by decide +kernel
theorem dM_fallsBy_104 : decode prog_14_method_53_code 104 = .ok (.iload_n 2, 1) := by decide +kernel
theorem dM_fallsBy_105 : decode prog_14_method_53_code 105 = .ok (.ireturn, 1) := by decide +kernel
theorem dM_step_0 : decode prog_14_method_62_code 0 = .ok (.aload_n 0, 1) := by decide +kernel
theorem dM_step_1 : decode prog_14_method_62_code 1 = .ok (.iload_n 1, 1) := by decide +kernel
theorem dM_step_2 : decode prog_14_method_62_code 2 = .ok (.invokevirtual 368, 3) := by decide +kernel
theorem dM_step_5 : decode prog_14_method_62_code 5 = .ok (.ifCond .ne (5), 3) := by decide +kernel
theorem dM_step_8 : decode prog_14_method_62_code 8 = .ok (.iconst (-1), 1) := by decide +kernel
theorem dM_step_9 : decode prog_14_method_62_code 9 = .ok (.ireturn, 1) := by decide +kernel
theorem dM_step_10 : decode prog_14_method_62_code 10 = .ok (.iload_n 2, 1) := by decide +kernel
theorem dM_step_11 : decode prog_14_method_62_code 11 = .ok (.tableswitch (161) (0) (10) #[57, 63, 69, 83, 97, 104, 110, 117, 139, 145, 154], 57) := by decide +kernel
theorem dM_step_68 : decode prog_14_method_62_code 68 = .ok (.aload_n 0, 1) := by decide +kernel
theorem dM_step_69 : decode prog_14_method_62_code 69 = .ok (.iload_n 1, 1) := by decide +kernel
theorem dM_step_70 : decode prog_14_method_62_code 70 = .ok (.invokevirtual 300, 3) := by decide +kernel
theorem dM_step_73 : decode prog_14_method_62_code 73 = .ok (.ireturn, 1) := by decide +kernel
theorem dM_step_74 : decode prog_14_method_62_code 74 = .ok (.aload_n 0, 1) := by decide +kernel
theorem dM_step_75 : decode prog_14_method_62_code 75 = .ok (.iload_n 1, 1) := by decide +kernel
theorem dM_step_76 : decode prog_14_method_62_code 76 = .ok (.invokevirtual 328, 3) := by decide +kernel
theorem dM_step_79 : decode prog_14_method_62_code 79 = .ok (.ireturn, 1) := by decide +kernel
theorem dM_step_80 : decode prog_14_method_62_code 80 = .ok (.aload_n 0, 1) := by decide +kernel
theorem dM_step_81 : decode prog_14_method_62_code 81 = .ok (.iload_n 1, 1) := by decide +kernel
theorem dM_step_82 : decode prog_14_method_62_code 82 = .ok (.invokevirtual 337, 3) := by decide +kernel
theorem dM_step_85 : decode prog_14_method_62_code 85 = .ok (.ifCond .eq (7), 3) := by decide +kernel
theorem dM_step_88 : decode prog_14_method_62_code 88 = .ok (.iconst (1), 1) := by decide +kernel
theorem dM_step_89 : decode prog_14_method_62_code 89 = .ok (.goto (4), 3) := by decide +kernel
theorem dM_step_92 : decode prog_14_method_62_code 92 = .ok (.iconst (0), 1) := by decide +kernel
theorem dM_step_93 : decode prog_14_method_62_code 93 = .ok (.ireturn, 1) := by decide +kernel
theorem dM_step_94 : decode prog_14_method_62_code 94 = .ok (.aload_n 0, 1) := by decide +kernel
theorem dM_step_95 : decode prog_14_method_62_code 95 = .ok (.iload_n 1, 1) := by decide +kernel
theorem dM_step_96 : decode prog_14_method_62_code 96 = .ok (.invokevirtual 340, 3) := by decide +kernel
theorem dM_step_99 : decode prog_14_method_62_code 99 = .ok (.ifCond .eq (7), 3) := by decide +kernel
theorem dM_step_102 : decode prog_14_method_62_code 102 = .ok (.iconst (1), 1) := by decide +kernel
theorem dM_step_103 : decode prog_14_method_62_code 103 = .ok (.goto (4), 3) := by decide +kernel
theorem dM_step_106 : decode prog_14_method_62_code 106 = .ok (.iconst (0), 1) := by decide +kernel
theorem dM_step_107 : decode prog_14_method_62_code 107 = .ok (.ireturn, 1) := by decide +kernel
theorem dM_step_108 : decode prog_14_method_62_code 108 = .ok (.aload_n 0, 1) := by decide +kernel
theorem dM_step_109 : decode prog_14_method_62_code 109 = .ok (.getfield 94, 3) := by decide +kernel
theorem dM_step_112 : decode prog_14_method_62_code 112 = .ok (.iload_n 1, 1) := by decide +kernel
theorem dM_step_113 : decode prog_14_method_62_code 113 = .ok (.iaload, 1) := by decide +kernel
theorem dM_step_114 : decode prog_14_method_62_code 114 = .ok (.ireturn, 1) := by decide +kernel
theorem dM_step_115 : decode prog_14_method_62_code 115 = .ok (.aload_n 0, 1) := by decide +kernel
theorem dM_step_116 : decode prog_14_method_62_code 116 = .ok (.iload_n 1, 1) := by decide +kernel
theorem dM_step_117 : decode prog_14_method_62_code 117 = .ok (.invokevirtual 343, 3) := by decide +kernel
theorem dM_step_120 : decode prog_14_method_62_code 120 = .ok (.ireturn, 1) := by decide +kernel
theorem dM_step_121 : decode prog_14_method_62_code 121 = .ok (.aload_n 0, 1) := by decide +kernel
theorem dM_step_122 : decode prog_14_method_62_code 122 = .ok (.getfield 103, 3) := by decide +kernel
theorem dM_step_125 : decode prog_14_method_62_code 125 = .ok (.iload_n 1, 1) := by decide +kernel
theorem dM_step_126 : decode prog_14_method_62_code 126 = .ok (.iaload, 1) := by decide +kernel
theorem dM_step_127 : decode prog_14_method_62_code 127 = .ok (.ireturn, 1) := by decide +kernel
theorem dM_step_128 : decode prog_14_method_62_code 128 = .ok (.aload_n 0, 1) := by decide +kernel
theorem dM_step_129 : decode prog_14_method_62_code 129 = .ok (.invokevirtual 352, 3) := by decide +kernel
theorem dM_step_132 : decode prog_14_method_62_code 132 = .ok (.ifCond .lt (16), 3) := by decide +kernel
theorem dM_step_135 : decode prog_14_method_62_code 135 = .ok (.aload_n 0, 1) := by decide +kernel
theorem dM_step_136 : decode prog_14_method_62_code 136 = .ok (.getfield 110, 3) := by decide +kernel
theorem dM_step_139 : decode prog_14_method_62_code 139 = .ok (.iload_n 1, 1) := by decide +kernel
theorem dM_step_140 : decode prog_14_method_62_code 140 = .ok (.baload, 1) := by decide +kernel
theorem dM_step_141 : decode prog_14_method_62_code 141 = .ok (.ifCond .eq (7), 3) := by decide +kernel
theorem dM_step_144 : decode prog_14_method_62_code 144 = .ok (.iconst (1), 1) := by decide +kernel
theorem dM_step_145 : decode prog_14_method_62_code 145 = .ok (.goto (4), 3) := by decide +kernel
theorem dM_step_148 : decode prog_14_method_62_code 148 = .ok (.iconst (0), 1) := by decide +kernel
theorem dM_step_149 : decode prog_14_method_62_code 149 = .ok (.ireturn, 1) := by decide +kernel
theorem dM_step_150 : decode prog_14_method_62_code 150 = .ok (.aload_n 0, 1) := by decide +kernel
theorem dM_step_151 : decode prog_14_method_62_code 151 = .ok (.iload_n 1, 1) := by decide +kernel
theorem dM_step_152 : decode prog_14_method_62_code 152 = .ok (.invokevirtual 371, 3) := by decide +kernel
theorem dM_step_155 : decode prog_14_method_62_code 155 = .ok (.ireturn, 1) := by decide +kernel
theorem dM_step_156 : decode prog_14_method_62_code 156 = .ok (.aload_n 0, 1) := by decide +kernel
theorem dM_step_157 : decode prog_14_method_62_code 157 = .ok (.bipush (48), 2) := by decide +kernel
theorem dM_step_159 : decode prog_14_method_62_code 159 = .ok (.iload_n 1, 1) := by decide +kernel
theorem dM_step_160 : decode prog_14_method_62_code 160 = .ok (.iadd, 1) := by decide +kernel
theorem dM_step_161 : decode prog_14_method_62_code 161 = .ok (.invokevirtual 316, 3) := by decide +kernel
theorem dM_step_164 : decode prog_14_method_62_code 164 = .ok (.ireturn, 1) := by decide +kernel
theorem dM_step_165 : decode prog_14_method_62_code 165 = .ok (.aload_n 0, 1) := by decide +kernel
theorem dM_step_166 : decode prog_14_method_62_code 166 = .ok (.iload_n 1, 1) := by decide +kernel
theorem dM_step_167 : decode prog_14_method_62_code 167 = .ok (.iconst (-1), 1) := by decide +kernel
theorem dM_step_168 : decode prog_14_method_62_code 168 = .ok (.invokevirtual 374, 3) := by decide +kernel
theorem dM_step_171 : decode prog_14_method_62_code 171 = .ok (.ireturn, 1) := by decide +kernel
theorem dM_step_172 : decode prog_14_method_62_code 172 = .ok (.iconst (-1), 1) := by decide +kernel
theorem dM_step_173 : decode prog_14_method_62_code 173 = .ok (.ireturn, 1) := by decide +kernel
theorem dM_isStep_0 : decode prog_14_method_35_code 0 = .ok (.iload_n 1, 1) := by decide +kernel
theorem dM_isStep_1 : decode prog_14_method_35_code 1 = .ok (.i2l, 1) := by decide +kernel
theorem dM_isStep_2 : decode prog_14_method_35_code 2 = .ok (.lconst 0, 1) := by decide +kernel
theorem dM_isStep_3 : decode prog_14_method_35_code 3 = .ok (.aload_n 0, 1) := by decide +kernel
theorem dM_isStep_4 : decode prog_14_method_35_code 4 = .ok (.invokevirtual 294, 3) := by decide +kernel
theorem dM_isStep_7 : decode prog_14_method_35_code 7 = .ok (.iconst (1), 1) := by decide +kernel
theorem dM_isStep_8 : decode prog_14_method_35_code 8 = .ok (.isub, 1) := by decide +kernel
theorem dM_isStep_9 : decode prog_14_method_35_code 9 = .ok (.i2l, 1) := by decide +kernel
theorem dM_isStep_10 : decode prog_14_method_35_code 10 = .ok (.invokestatic 196, 3) := by decide +kernel
theorem dM_isStep_13 : decode prog_14_method_35_code 13 = .ok (.ireturn, 1) := by decide +kernel
theorem dM_namers_0 : decode prog_14_method_61_code 0 = .ok (.iconst (0), 1) := by decide +kernel
theorem dM_namers_1 : decode prog_14_method_61_code 1 = .ok (.istore_n 2, 1) := by decide +kernel
theorem dM_namers_2 : decode prog_14_method_61_code 2 = .ok (.iload_n 1, 1) := by decide +kernel
theorem dM_namers_3 : decode prog_14_method_61_code 3 = .ok (.iconst (1), 1) := by decide +kernel
theorem dM_namers_4 : decode prog_14_method_61_code 4 = .ok (.iadd, 1) := by decide +kernel
theorem dM_namers_5 : decode prog_14_method_61_code 5 = .ok (.istore_n 3, 1) := by decide +kernel
theorem dM_namers_6 : decode prog_14_method_61_code 6 = .ok (.iload_n 3, 1) := by decide +kernel
theorem dM_namers_7 : decode prog_14_method_61_code 7 = .ok (.aload_n 0, 1) := by decide +kernel
theorem dM_namers_8 : decode prog_14_method_61_code 8 = .ok (.invokevirtual 294, 3) := by decide +kernel
theorem dM_namers_11 : decode prog_14_method_61_code 11 = .ok (.if_icmp .ge (62), 3) := by decide +kernel
theorem dM_namers_14 : decode prog_14_method_61_code 14 = .ok (.iconst (0), 1) := by decide +kernel
theorem dM_namers_15 : decode prog_14_method_61_code 15 = .ok (.istore 4, 2) := by decide +kernel
theorem dM_namers_17 : decode prog_14_method_61_code 17 = .ok (.iconst (0), 1) := by decide +kernel
theorem dM_namers_18 : decode prog_14_method_61_code 18 = .ok (.istore 5, 2) := by decide +kernel
theorem dM_namers_20 : decode prog_14_method_61_code 20 = .ok (.iload 5, 2) := by decide +kernel
theorem dM_namers_22 : decode prog_14_method_61_code 22 = .ok (.aload_n 0, 1) := by decide +kernel
theorem dM_namers_23 : decode prog_14_method_61_code 23 = .ok (.iload_n 3, 1) := by decide +kernel
theorem dM_namers_24 : decode prog_14_method_61_code 24 = .ok (.invokevirtual 328, 3) := by decide +kernel
theorem dM_namers_27 : decode prog_14_method_61_code 27 = .ok (.if_icmp .ge (32), 3) := by decide +kernel
theorem dM_namers_30 : decode prog_14_method_61_code 30 = .ok (.iload 4, 2) := by decide +kernel
theorem dM_namers_32 : decode prog_14_method_61_code 32 = .ok (.ifCond .ne (14), 3) := by decide +kernel
theorem dM_namers_35 : decode prog_14_method_61_code 35 = .ok (.aload_n 0, 1) := by decide +kernel
theorem dM_namers_36 : decode prog_14_method_61_code 36 = .ok (.iload_n 3, 1) := by decide +kernel
theorem dM_namers_37 : decode prog_14_method_61_code 37 = .ok (.iload 5, 2) := by decide +kernel
theorem dM_namers_39 : decode prog_14_method_61_code 39 = .ok (.invokevirtual 319, 3) := by decide +kernel
theorem dM_namers_42 : decode prog_14_method_61_code 42 = .ok (.iload_n 1, 1) := by decide +kernel
theorem dM_namers_43 : decode prog_14_method_61_code 43 = .ok (.if_icmp .ne (7), 3) := by decide +kernel
theorem dM_namers_46 : decode prog_14_method_61_code 46 = .ok (.iconst (1), 1) := by decide +kernel
theorem dM_namers_47 : decode prog_14_method_61_code 47 = .ok (.goto (4), 3) := by decide +kernel
theorem dM_namers_50 : decode prog_14_method_61_code 50 = .ok (.iconst (0), 1) := by decide +kernel
theorem dM_namers_51 : decode prog_14_method_61_code 51 = .ok (.istore 4, 2) := by decide +kernel
theorem dM_namers_53 : decode prog_14_method_61_code 53 = .ok (.iinc 5 (1), 3) := by decide +kernel
theorem dM_namers_56 : decode prog_14_method_61_code 56 = .ok (.goto (-36), 3) := by decide +kernel
theorem dM_namers_59 : decode prog_14_method_61_code 59 = .ok (.iload 4, 2) := by decide +kernel
theorem dM_namers_61 : decode prog_14_method_61_code 61 = .ok (.ifCond .eq (6), 3) := by decide +kernel
theorem dM_namers_64 : decode prog_14_method_61_code 64 = .ok (.iinc 2 (1), 3) := by decide +kernel
theorem dM_namers_67 : decode prog_14_method_61_code 67 = .ok (.iinc 3 (1), 3) := by decide +kernel
theorem dM_namers_70 : decode prog_14_method_61_code 70 = .ok (.goto (-64), 3) := by decide +kernel
theorem dM_namers_73 : decode prog_14_method_61_code 73 = .ok (.iload_n 2, 1) := by decide +kernel
theorem dM_namers_74 : decode prog_14_method_61_code 74 = .ok (.ireturn, 1) := by decide +kernel
theorem dM_seenOf_0 : decode prog_14_method_110_code 0 = .ok (.sipush (1000), 3) := by decide +kernel
theorem dM_seenOf_3 : decode prog_14_method_110_code 3 = .ok (.istore_n 3, 1) := by decide +kernel
theorem dM_seenOf_4 : decode prog_14_method_110_code 4 = .ok (.iconst (0), 1) := by decide +kernel
theorem dM_seenOf_5 : decode prog_14_method_110_code 5 = .ok (.istore 4, 2) := by decide +kernel
theorem dM_seenOf_7 : decode prog_14_method_110_code 7 = .ok (.iload 4, 2) := by decide +kernel
theorem dM_seenOf_9 : decode prog_14_method_110_code 9 = .ok (.aload_n 0, 1) := by decide +kernel
theorem dM_seenOf_10 : decode prog_14_method_110_code 10 = .ok (.invokevirtual 334, 3) := by decide +kernel
theorem dM_seenOf_13 : decode prog_14_method_110_code 13 = .ok (.if_icmp .ge (54), 3) := by decide +kernel
theorem dM_seenOf_16 : decode prog_14_method_110_code 16 = .ok (.aload_n 0, 1) := by decide +kernel
theorem dM_seenOf_17 : decode prog_14_method_110_code 17 = .ok (.getfield 113, 3) := by decide +kernel
theorem dM_seenOf_20 : decode prog_14_method_110_code 20 = .ok (.iload 4, 2) := by decide +kernel
theorem dM_seenOf_22 : decode prog_14_method_110_code 22 = .ok (.baload, 1) := by decide +kernel
theorem dM_seenOf_23 : decode prog_14_method_110_code 23 = .ok (.ifCond .ne (9), 3) := by decide +kernel
theorem dM_seenOf_26 : decode prog_14_method_110_code 26 = .ok (.iload 4, 2) := by decide +kernel
theorem dM_seenOf_28 : decode prog_14_method_110_code 28 = .ok (.iload_n 2, 1) := by decide +kernel
theorem dM_seenOf_29 : decode prog_14_method_110_code 29 = .ok (.if_icmp .ne (32), 3) := by decide +kernel
theorem dM_seenOf_32 : decode prog_14_method_110_code 32 = .ok (.aload_n 0, 1) := by decide +kernel
theorem dM_seenOf_33 : decode prog_14_method_110_code 33 = .ok (.iload 4, 2) := by decide +kernel
theorem dM_seenOf_35 : decode prog_14_method_110_code 35 = .ok (.iload_n 1, 1) := by decide +kernel
theorem dM_seenOf_36 : decode prog_14_method_110_code 36 = .ok (.invokevirtual 463, 3) := by decide +kernel
theorem dM_seenOf_39 : decode prog_14_method_110_code 39 = .ok (.ifCond .eq (22), 3) := by decide +kernel
theorem dM_seenOf_42 : decode prog_14_method_110_code 42 = .ok (.iload_n 3, 1) := by decide +kernel
theorem dM_seenOf_43 : decode prog_14_method_110_code 43 = .ok (.bipush (100), 2) := by decide +kernel
theorem dM_seenOf_45 : decode prog_14_method_110_code 45 = .ok (.aload_n 0, 1) := by decide +kernel
theorem dM_seenOf_46 : decode prog_14_method_110_code 46 = .ok (.getfield 73, 3) := by decide +kernel
theorem dM_seenOf_49 : decode prog_14_method_110_code 49 = .ok (.bipush (6), 2) := by decide +kernel
theorem dM_seenOf_51 : decode prog_14_method_110_code 51 = .ok (.iload 4, 2) := by decide +kernel
theorem dM_seenOf_53 : decode prog_14_method_110_code 53 = .ok (.iadd, 1) := by decide +kernel
theorem dM_seenOf_54 : decode prog_14_method_110_code 54 = .ok (.iaload, 1) := by decide +kernel
theorem dM_seenOf_55 : decode prog_14_method_110_code 55 = .ok (.isub, 1) := by decide +kernel
theorem dM_seenOf_56 : decode prog_14_method_110_code 56 = .ok (.imul, 1) := by decide +kernel
theorem dM_seenOf_57 : decode prog_14_method_110_code 57 = .ok (.bipush (100), 2) := by decide +kernel
theorem dM_seenOf_59 : decode prog_14_method_110_code 59 = .ok (.idiv, 1) := by decide +kernel
theorem dM_seenOf_60 : decode prog_14_method_110_code 60 = .ok (.istore_n 3, 1) := by decide +kernel
theorem dM_seenOf_61 : decode prog_14_method_110_code 61 = .ok (.iinc 4 (1), 3) := by decide +kernel
theorem dM_seenOf_64 : decode prog_14_method_110_code 64 = .ok (.goto (-57), 3) := by decide +kernel
theorem dM_seenOf_67 : decode prog_14_method_110_code 67 = .ok (.sipush (1000), 3) := by decide +kernel
theorem dM_seenOf_70 : decode prog_14_method_110_code 70 = .ok (.iload_n 3, 1) := by decide +kernel
theorem dM_seenOf_71 : decode prog_14_method_110_code 71 = .ok (.isub, 1) := by decide +kernel
theorem dM_seenOf_72 : decode prog_14_method_110_code 72 = .ok (.ireturn, 1) := by decide +kernel
theorem dM_reads_0 : decode prog_14_method_109_code 0 = .ok (.iload_n 2, 1) := by decide +kernel
theorem dM_reads_1 : decode prog_14_method_109_code 1 = .ok (.i2l, 1) := by decide +kernel
theorem dM_reads_2 : decode prog_14_method_109_code 2 = .ok (.aload_n 0, 1) := by decide +kernel
theorem dM_reads_3 : decode prog_14_method_109_code 3 = .ok (.getfield 76, 3) := by decide +kernel
theorem dM_reads_6 : decode prog_14_method_109_code 6 = .ok (.bipush (6), 2) := by decide +kernel
theorem dM_reads_8 : decode prog_14_method_109_code 8 = .ok (.iload_n 1, 1) := by decide +kernel
theorem dM_reads_9 : decode prog_14_method_109_code 9 = .ok (.iadd, 1) := by decide +kernel
theorem dM_reads_10 : decode prog_14_method_109_code 10 = .ok (.iaload, 1) := by decide +kernel
theorem dM_reads_11 : decode prog_14_method_109_code 11 = .ok (.i2l, 1) := by decide +kernel
theorem dM_reads_12 : decode prog_14_method_109_code 12 = .ok (.aload_n 0, 1) := by decide +kernel
theorem dM_reads_13 : decode prog_14_method_109_code 13 = .ok (.getfield 79, 3) := by decide +kernel
theorem dM_reads_16 : decode prog_14_method_109_code 16 = .ok (.bipush (6), 2) := by decide +kernel
theorem dM_reads_18 : decode prog_14_method_109_code 18 = .ok (.iload_n 1, 1) := by decide +kernel
theorem dM_reads_19 : decode prog_14_method_109_code 19 = .ok (.iadd, 1) := by decide +kernel
theorem dM_reads_20 : decode prog_14_method_109_code 20 = .ok (.iaload, 1) := by decide +kernel
theorem dM_reads_21 : decode prog_14_method_109_code 21 = .ok (.i2l, 1) := by decide +kernel
theorem dM_reads_22 : decode prog_14_method_109_code 22 = .ok (.invokestatic 196, 3) := by decide +kernel
theorem dM_reads_25 : decode prog_14_method_109_code 25 = .ok (.ireturn, 1) := by decide +kernel
theorem dM_names_0 : decode prog_14_method_63_code 0 = .ok (.aload_n 0, 1) := by decide +kernel
theorem dM_names_1 : decode prog_14_method_63_code 1 = .ok (.iload_n 1, 1) := by decide +kernel
theorem dM_names_2 : decode prog_14_method_63_code 2 = .ok (.invokevirtual 368, 3) := by decide +kernel
theorem dM_names_5 : decode prog_14_method_63_code 5 = .ok (.ifCond .eq (29), 3) := by decide +kernel
theorem dM_names_8 : decode prog_14_method_63_code 8 = .ok (.iload_n 2, 1) := by decide +kernel
theorem dM_names_9 : decode prog_14_method_63_code 9 = .ok (.i2l, 1) := by decide +kernel
theorem dM_names_10 : decode prog_14_method_63_code 10 = .ok (.lconst 0, 1) := by decide +kernel
theorem dM_names_11 : decode prog_14_method_63_code 11 = .ok (.aload_n 0, 1) := by decide +kernel
theorem dM_names_12 : decode prog_14_method_63_code 12 = .ok (.iload_n 1, 1) := by decide +kernel
theorem dM_names_13 : decode prog_14_method_63_code 13 = .ok (.invokevirtual 328, 3) := by decide +kernel
theorem dM_names_16 : decode prog_14_method_63_code 16 = .ok (.iconst (1), 1) := by decide +kernel
theorem dM_names_17 : decode prog_14_method_63_code 17 = .ok (.isub, 1) := by decide +kernel
theorem dM_names_18 : decode prog_14_method_63_code 18 = .ok (.i2l, 1) := by decide +kernel
theorem dM_names_19 : decode prog_14_method_63_code 19 = .ok (.invokestatic 196, 3) := by decide +kernel
theorem dM_names_22 : decode prog_14_method_63_code 22 = .ok (.ifCond .eq (12), 3) := by decide +kernel
theorem dM_names_25 : decode prog_14_method_63_code 25 = .ok (.aload_n 0, 1) := by decide +kernel
theorem dM_names_26 : decode prog_14_method_63_code 26 = .ok (.iload_n 1, 1) := by decide +kernel
theorem dM_names_27 : decode prog_14_method_63_code 27 = .ok (.iload_n 2, 1) := by decide +kernel
theorem dM_names_28 : decode prog_14_method_63_code 28 = .ok (.invokevirtual 319, 3) := by decide +kernel
theorem dM_names_31 : decode prog_14_method_63_code 31 = .ok (.goto (4), 3) := by decide +kernel
theorem dM_names_34 : decode prog_14_method_63_code 34 = .ok (.iconst (-1), 1) := by decide +kernel
theorem dM_names_35 : decode prog_14_method_63_code 35 = .ok (.ireturn, 1) := by decide +kernel
theorem dM_term_0 : decode prog_14_method_64_code 0 = .ok (.aload_n 0, 1) := by decide +kernel
theorem dM_term_1 : decode prog_14_method_64_code 1 = .ok (.iload_n 1, 1) := by decide +kernel
theorem dM_term_2 : decode prog_14_method_64_code 2 = .ok (.invokevirtual 368, 3) := by decide +kernel
theorem dM_term_5 : decode prog_14_method_64_code 5 = .ok (.ifCond .eq (41), 3) := by decide +kernel
theorem dM_term_8 : decode prog_14_method_64_code 8 = .ok (.iload_n 2, 1) := by decide +kernel
theorem dM_term_9 : decode prog_14_method_64_code 9 = .ok (.i2l, 1) := by decide +kernel
theorem dM_term_10 : decode prog_14_method_64_code 10 = .ok (.lconst 0, 1) := by decide +kernel
theorem dM_term_11 : decode prog_14_method_64_code 11 = .ok (.aload_n 0, 1) := by decide +kernel
theorem dM_term_12 : decode prog_14_method_64_code 12 = .ok (.bipush (48), 2) := by decide +kernel
theorem dM_term_14 : decode prog_14_method_64_code 14 = .ok (.iload_n 1, 1) := by decide +kernel
theorem dM_term_15 : decode prog_14_method_64_code 15 = .ok (.iadd, 1) := by decide +kernel
theorem dM_term_16 : decode prog_14_method_64_code 16 = .ok (.invokevirtual 316, 3) := by decide +kernel
theorem dM_term_19 : decode prog_14_method_64_code 19 = .ok (.iconst (1), 1) := by decide +kernel
theorem dM_term_20 : decode prog_14_method_64_code 20 = .ok (.isub, 1) := by decide +kernel
theorem dM_term_21 : decode prog_14_method_64_code 21 = .ok (.i2l, 1) := by decide +kernel
theorem dM_term_22 : decode prog_14_method_64_code 22 = .ok (.invokestatic 196, 3) := by decide +kernel
theorem dM_term_25 : decode prog_14_method_64_code 25 = .ok (.ifCond .eq (21), 3) := by decide +kernel
theorem dM_term_28 : decode prog_14_method_64_code 28 = .ok (.aload_n 0, 1) := by decide +kernel
theorem dM_term_29 : decode prog_14_method_64_code 29 = .ok (.getfield 55, 3) := by decide +kernel
theorem dM_term_32 : decode prog_14_method_64_code 32 = .ok (.aload_n 0, 1) := by decide +kernel
theorem dM_term_33 : decode prog_14_method_64_code 33 = .ok (.bipush (48), 2) := by decide +kernel
theorem dM_term_35 : decode prog_14_method_64_code 35 = .ok (.iload_n 1, 1) := by decide +kernel
theorem dM_term_36 : decode prog_14_method_64_code 36 = .ok (.iadd, 1) := by decide +kernel
theorem dM_term_37 : decode prog_14_method_64_code 37 = .ok (.invokevirtual 313, 3) := by decide +kernel
theorem dM_term_40 : decode prog_14_method_64_code 40 = .ok (.iload_n 2, 1) := by decide +kernel
theorem dM_term_41 : decode prog_14_method_64_code 41 = .ok (.iadd, 1) := by decide +kernel
theorem dM_term_42 : decode prog_14_method_64_code 42 = .ok (.iaload, 1) := by decide +kernel
theorem dM_term_43 : decode prog_14_method_64_code 43 = .ok (.goto (4), 3) := by decide +kernel
theorem dM_term_46 : decode prog_14_method_64_code 46 = .ok (.iconst (-1), 1) := by decide +kernel
theorem dM_term_47 : decode prog_14_method_64_code 47 = .ok (.ireturn, 1) := by decide +kernel
theorem dM_wrong_0 : decode prog_14_method_65_code 0 = .ok (.iconst (0), 1) := by decide +kernel
theorem dM_wrong_1 : decode prog_14_method_65_code 1 = .ok (.istore_n 1, 1) := by decide +kernel
theorem dM_wrong_2 : decode prog_14_method_65_code 2 = .ok (.iload_n 1, 1) := by decide +kernel
theorem dM_wrong_3 : decode prog_14_method_65_code 3 = .ok (.aload_n 0, 1) := by decide +kernel
theorem dM_wrong_4 : decode prog_14_method_65_code 4 = .ok (.invokevirtual 294, 3) := by decide +kernel
theorem dM_wrong_7 : decode prog_14_method_65_code 7 = .ok (.if_icmp .ge (19), 3) := by decide +kernel
theorem dM_wrong_10 : decode prog_14_method_65_code 10 = .ok (.aload_n 0, 1) := by decide +kernel
theorem dM_wrong_11 : decode prog_14_method_65_code 11 = .ok (.iload_n 1, 1) := by decide +kernel
theorem dM_wrong_12 : decode prog_14_method_65_code 12 = .ok (.invokevirtual 337, 3) := by decide +kernel
theorem dM_wrong_15 : decode prog_14_method_65_code 15 = .ok (.ifCond .ne (5), 3) := by decide +kernel
theorem dM_wrong_18 : decode prog_14_method_65_code 18 = .ok (.iload_n 1, 1) := by decide +kernel
theorem dM_wrong_19 : decode prog_14_method_65_code 19 = .ok (.ireturn, 1) := by decide +kernel
theorem dM_wrong_20 : decode prog_14_method_65_code 20 = .ok (.iinc 1 (1), 3) := by decide +kernel
theorem dM_wrong_23 : decode prog_14_method_65_code 23 = .ok (.goto (-21), 3) := by decide +kernel
theorem dM_wrong_26 : decode prog_14_method_65_code 26 = .ok (.iconst (-1), 1) := by decide +kernel
theorem dM_wrong_27 : decode prog_14_method_65_code 27 = .ok (.ireturn, 1) := by decide +kernel
theorem dM_rest_0 : decode prog_14_method_66_code 0 = .ok (.iload_n 1, 1) := by decide +kernel
theorem dM_rest_1 : decode prog_14_method_66_code 1 = .ok (.i2l, 1) := by decide +kernel
theorem dM_rest_2 : decode prog_14_method_66_code 2 = .ok (.lconst 0, 1) := by decide +kernel
theorem dM_rest_3 : decode prog_14_method_66_code 3 = .ok (.aload_n 0, 1) := by decide +kernel
theorem dM_rest_4 : decode prog_14_method_66_code 4 = .ok (.getfield 331, 3) := by decide +kernel
theorem dM_rest_7 : decode prog_14_method_66_code 7 = .ok (.iconst (1), 1) := by decide +kernel
theorem dM_rest_8 : decode prog_14_method_66_code 8 = .ok (.isub, 1) := by decide +kernel
theorem dM_rest_9 : decode prog_14_method_66_code 9 = .ok (.i2l, 1) := by decide +kernel
theorem dM_rest_10 : decode prog_14_method_66_code 10 = .ok (.invokestatic 196, 3) := by decide +kernel
theorem dM_rest_13 : decode prog_14_method_66_code 13 = .ok (.ifCond .eq (12), 3) := by decide +kernel
theorem dM_rest_16 : decode prog_14_method_66_code 16 = .ok (.aload_n 0, 1) := by decide +kernel
theorem dM_rest_17 : decode prog_14_method_66_code 17 = .ok (.getfield 100, 3) := by decide +kernel
theorem dM_rest_20 : decode prog_14_method_66_code 20 = .ok (.iload_n 1, 1) := by decide +kernel
theorem dM_rest_21 : decode prog_14_method_66_code 21 = .ok (.iaload, 1) := by decide +kernel
theorem dM_rest_22 : decode prog_14_method_66_code 22 = .ok (.goto (4), 3) := by decide +kernel
theorem dM_rest_25 : decode prog_14_method_66_code 25 = .ok (.iconst (-1), 1) := by decide +kernel
theorem dM_rest_26 : decode prog_14_method_66_code 26 = .ok (.ireturn, 1) := by decide +kernel
theorem dM_leans_0 : decode prog_14_method_67_code 0 = .ok (.iload_n 1, 1) := by decide +kernel
theorem dM_leans_1 : decode prog_14_method_67_code 1 = .ok (.i2l, 1) := by decide +kernel
theorem dM_leans_2 : decode prog_14_method_67_code 2 = .ok (.lconst 0, 1) := by decide +kernel
theorem dM_leans_3 : decode prog_14_method_67_code 3 = .ok (.aload_n 0, 1) := by decide +kernel
theorem dM_leans_4 : decode prog_14_method_67_code 4 = .ok (.getfield 331, 3) := by decide +kernel
theorem dM_leans_7 : decode prog_14_method_67_code 7 = .ok (.iconst (1), 1) := by decide +kernel
theorem dM_leans_8 : decode prog_14_method_67_code 8 = .ok (.isub, 1) := by decide +kernel
theorem dM_leans_9 : decode prog_14_method_67_code 9 = .ok (.i2l, 1) := by decide +kernel
theorem dM_leans_10 : decode prog_14_method_67_code 10 = .ok (.invokestatic 196, 3) := by decide +kernel
theorem dM_leans_13 : decode prog_14_method_67_code 13 = .ok (.ifCond .eq (34), 3) := by decide +kernel
theorem dM_leans_16 : decode prog_14_method_67_code 16 = .ok (.iload_n 2, 1) := by decide +kernel
theorem dM_leans_17 : decode prog_14_method_67_code 17 = .ok (.i2l, 1) := by decide +kernel
theorem dM_leans_18 : decode prog_14_method_67_code 18 = .ok (.lconst 0, 1) := by decide +kernel
theorem dM_leans_19 : decode prog_14_method_67_code 19 = .ok (.aload_n 0, 1) := by decide +kernel
theorem dM_leans_20 : decode prog_14_method_67_code 20 = .ok (.aload_n 0, 1) := by decide +kernel
theorem dM_leans_21 : decode prog_14_method_67_code 21 = .ok (.getfield 100, 3) := by decide +kernel
theorem dM_leans_24 : decode prog_14_method_67_code 24 = .ok (.iload_n 1, 1) := by decide +kernel
theorem dM_leans_25 : decode prog_14_method_67_code 25 = .ok (.iaload, 1) := by decide +kernel
theorem dM_leans_26 : decode prog_14_method_67_code 26 = .ok (.invokevirtual 328, 3) := by decide +kernel
theorem dM_leans_29 : decode prog_14_method_67_code 29 = .ok (.iconst (1), 1) := by decide +kernel
theorem dM_leans_30 : decode prog_14_method_67_code 30 = .ok (.isub, 1) := by decide +kernel
theorem dM_leans_31 : decode prog_14_method_67_code 31 = .ok (.i2l, 1) := by decide +kernel
theorem dM_leans_32 : decode prog_14_method_67_code 32 = .ok (.invokestatic 196, 3) := by decide +kernel
theorem dM_leans_35 : decode prog_14_method_67_code 35 = .ok (.ifCond .eq (12), 3) := by decide +kernel
theorem dM_leans_38 : decode prog_14_method_67_code 38 = .ok (.aload_n 0, 1) := by decide +kernel
theorem dM_leans_39 : decode prog_14_method_67_code 39 = .ok (.iload_n 1, 1) := by decide +kernel
theorem dM_leans_40 : decode prog_14_method_67_code 40 = .ok (.iload_n 2, 1) := by decide +kernel
theorem dM_leans_41 : decode prog_14_method_67_code 41 = .ok (.invokevirtual 377, 3) := by decide +kernel
theorem dM_leans_44 : decode prog_14_method_67_code 44 = .ok (.goto (4), 3) := by decide +kernel
theorem dM_leans_47 : decode prog_14_method_67_code 47 = .ok (.iconst (-1), 1) := by decide +kernel
theorem dM_leans_48 : decode prog_14_method_67_code 48 = .ok (.ireturn, 1) := by decide +kernel
theorem dM_leansTo_0 : decode prog_14_method_51_code 0 = .ok (.aload_n 0, 1) := by decide +kernel
theorem dM_leansTo_1 : decode prog_14_method_51_code 1 = .ok (.getfield 103, 3) := by decide +kernel
theorem dM_leansTo_4 : decode prog_14_method_51_code 4 = .ok (.aload_n 0, 1) := by decide +kernel
theorem dM_leansTo_5 : decode prog_14_method_51_code 5 = .ok (.getfield 94, 3) := by decide +kernel
theorem dM_leansTo_8 : decode prog_14_method_51_code 8 = .ok (.aload_n 0, 1) := by decide +kernel
theorem dM_leansTo_9 : decode prog_14_method_51_code 9 = .ok (.aload_n 0, 1) := by decide +kernel
theorem dM_leansTo_10 : decode prog_14_method_51_code 10 = .ok (.getfield 100, 3) := by decide +kernel
theorem dM_leansTo_13 : decode prog_14_method_51_code 13 = .ok (.iload_n 1, 1) := by decide +kernel
theorem dM_leansTo_14 : decode prog_14_method_51_code 14 = .ok (.iaload, 1) := by decide +kernel
theorem dM_leansTo_15 : decode prog_14_method_51_code 15 = .ok (.iload_n 2, 1) := by decide +kernel
theorem dM_leansTo_16 : decode prog_14_method_51_code 16 = .ok (.invokevirtual 319, 3) := by decide +kernel
theorem dM_leansTo_19 : decode prog_14_method_51_code 19 = .ok (.iaload, 1) := by decide +kernel
theorem dM_leansTo_20 : decode prog_14_method_51_code 20 = .ok (.iaload, 1) := by decide +kernel
theorem dM_leansTo_21 : decode prog_14_method_51_code 21 = .ok (.ireturn, 1) := by decide +kernel
theorem dM_upon_0 : decode prog_14_method_68_code 0 = .ok (.aload_n 0, 1) := by decide +kernel
theorem dM_upon_1 : decode prog_14_method_68_code 1 = .ok (.iload_n 1, 1) := by decide +kernel
theorem dM_upon_2 : decode prog_14_method_68_code 2 = .ok (.invokevirtual 368, 3) := by decide +kernel
theorem dM_upon_5 : decode prog_14_method_68_code 5 = .ok (.ifCond .eq (11), 3) := by decide +kernel
theorem dM_upon_8 : decode prog_14_method_68_code 8 = .ok (.aload_n 0, 1) := by decide +kernel
theorem dM_upon_9 : decode prog_14_method_68_code 9 = .ok (.iload_n 2, 1) := by decide +kernel
theorem dM_upon_10 : decode prog_14_method_68_code 10 = .ok (.invokevirtual 368, 3) := by decide +kernel
theorem dM_upon_13 : decode prog_14_method_68_code 13 = .ok (.ifCond .ne (7), 3) := by decide +kernel
theorem dM_upon_16 : decode prog_14_method_68_code 16 = .ok (.iconst (-1), 1) := by decide +kernel
theorem dM_upon_17 : decode prog_14_method_68_code 17 = .ok (.goto (14), 3) := by decide +kernel
theorem dM_upon_20 : decode prog_14_method_68_code 20 = .ok (.aload_n 0, 1) := by decide +kernel
theorem dM_upon_21 : decode prog_14_method_68_code 21 = .ok (.getfield 97, 3) := by decide +kernel
theorem dM_upon_24 : decode prog_14_method_68_code 24 = .ok (.iload_n 1, 1) := by decide +kernel
theorem dM_upon_25 : decode prog_14_method_68_code 25 = .ok (.laload, 1) := by decide +kernel
theorem dM_upon_26 : decode prog_14_method_68_code 26 = .ok (.iload_n 2, 1) := by decide +kernel
theorem dM_upon_27 : decode prog_14_method_68_code 27 = .ok (.lshr, 1) := by decide +kernel
theorem dM_upon_28 : decode prog_14_method_68_code 28 = .ok (.lconst 1, 1) := by decide +kernel
theorem dM_upon_29 : decode prog_14_method_68_code 29 = .ok (.land, 1) := by decide +kernel
theorem dM_upon_30 : decode prog_14_method_68_code 30 = .ok (.l2i, 1) := by decide +kernel
theorem dM_upon_31 : decode prog_14_method_68_code 31 = .ok (.ireturn, 1) := by decide +kernel
theorem dM_depth_0 : decode prog_14_method_69_code 0 = .ok (.aload_n 0, 1) := by decide +kernel
theorem dM_depth_1 : decode prog_14_method_69_code 1 = .ok (.iload_n 1, 1) := by decide +kernel
theorem dM_depth_2 : decode prog_14_method_69_code 2 = .ok (.invokevirtual 368, 3) := by decide +kernel
theorem dM_depth_5 : decode prog_14_method_69_code 5 = .ok (.ifCond .ne (5), 3) := by decide +kernel
theorem dM_depth_8 : decode prog_14_method_69_code 8 = .ok (.iconst (-1), 1) := by decide +kernel
theorem dM_depth_9 : decode prog_14_method_69_code 9 = .ok (.ireturn, 1) := by decide +kernel
theorem dM_depth_10 : decode prog_14_method_69_code 10 = .ok (.iconst (0), 1) := by decide +kernel
theorem dM_depth_11 : decode prog_14_method_69_code 11 = .ok (.istore_n 2, 1) := by decide +kernel
theorem dM_depth_12 : decode prog_14_method_69_code 12 = .ok (.iload_n 2, 1) := by decide +kernel
theorem dM_depth_13 : decode prog_14_method_69_code 13 = .ok (.iload_n 1, 1) := by decide +kernel
theorem dM_depth_14 : decode prog_14_method_69_code 14 = .ok (.if_icmp .gt (72), 3) := by decide +kernel
theorem dM_depth_17 : decode prog_14_method_69_code 17 = .ok (.aload_n 0, 1) := by decide +kernel
theorem dM_depth_18 : decode prog_14_method_69_code 18 = .ok (.getfield 116, 3) := by decide +kernel
theorem dM_depth_21 : decode prog_14_method_69_code 21 = .ok (.iload_n 2, 1) := by decide +kernel
theorem dM_depth_22 : decode prog_14_method_69_code 22 = .ok (.iconst (1), 1) := by decide +kernel
theorem dM_depth_23 : decode prog_14_method_69_code 23 = .ok (.iastore, 1) := by decide +kernel
theorem dM_depth_24 : decode prog_14_method_69_code 24 = .ok (.iconst (0), 1) := by decide +kernel
theorem dM_depth_25 : decode prog_14_method_69_code 25 = .ok (.istore_n 3, 1) := by decide +kernel
theorem dM_depth_26 : decode prog_14_method_69_code 26 = .ok (.iload_n 3, 1) := by decide +kernel
theorem dM_depth_27 : decode prog_14_method_69_code 27 = .ok (.aload_n 0, 1) := by decide +kernel
theorem dM_depth_28 : decode prog_14_method_69_code 28 = .ok (.iload_n 2, 1) := by decide +kernel
theorem dM_depth_29 : decode prog_14_method_69_code 29 = .ok (.invokevirtual 328, 3) := by decide +kernel
theorem dM_depth_32 : decode prog_14_method_69_code 32 = .ok (.if_icmp .ge (48), 3) := by decide +kernel
theorem dM_depth_35 : decode prog_14_method_69_code 35 = .ok (.aload_n 0, 1) := by decide +kernel
theorem dM_depth_36 : decode prog_14_method_69_code 36 = .ok (.getfield 116, 3) := by decide +kernel
theorem dM_depth_39 : decode prog_14_method_69_code 39 = .ok (.aload_n 0, 1) := by decide +kernel
theorem dM_depth_40 : decode prog_14_method_69_code 40 = .ok (.iload_n 2, 1) := by decide +kernel
theorem dM_depth_41 : decode prog_14_method_69_code 41 = .ok (.iload_n 3, 1) := by decide +kernel
theorem dM_depth_42 : decode prog_14_method_69_code 42 = .ok (.invokevirtual 319, 3) := by decide +kernel
theorem dM_depth_45 : decode prog_14_method_69_code 45 = .ok (.iaload, 1) := by decide +kernel
theorem dM_depth_46 : decode prog_14_method_69_code 46 = .ok (.aload_n 0, 1) := by decide +kernel
theorem dM_depth_47 : decode prog_14_method_69_code 47 = .ok (.getfield 116, 3) := by decide +kernel
theorem dM_depth_50 : decode prog_14_method_69_code 50 = .ok (.iload_n 2, 1) := by decide +kernel
theorem dM_depth_51 : decode prog_14_method_69_code 51 = .ok (.iaload, 1) := by decide +kernel
theorem dM_depth_52 : decode prog_14_method_69_code 52 = .ok (.if_icmp .lt (22), 3) := by decide +kernel
theorem dM_depth_55 : decode prog_14_method_69_code 55 = .ok (.aload_n 0, 1) := by decide +kernel
theorem dM_depth_56 : decode prog_14_method_69_code 56 = .ok (.getfield 116, 3) := by decide +kernel
theorem dM_depth_59 : decode prog_14_method_69_code 59 = .ok (.iload_n 2, 1) := by decide +kernel
theorem dM_depth_60 : decode prog_14_method_69_code 60 = .ok (.aload_n 0, 1) := by decide +kernel
theorem dM_depth_61 : decode prog_14_method_69_code 61 = .ok (.getfield 116, 3) := by decide +kernel
theorem dM_depth_64 : decode prog_14_method_69_code 64 = .ok (.aload_n 0, 1) := by decide +kernel
theorem dM_depth_65 : decode prog_14_method_69_code 65 = .ok (.iload_n 2, 1) := by decide +kernel
theorem dM_depth_66 : decode prog_14_method_69_code 66 = .ok (.iload_n 3, 1) := by decide +kernel
theorem dM_depth_67 : decode prog_14_method_69_code 67 = .ok (.invokevirtual 319, 3) := by decide +kernel
theorem dM_depth_70 : decode prog_14_method_69_code 70 = .ok (.iaload, 1) := by decide +kernel
theorem dM_depth_71 : decode prog_14_method_69_code 71 = .ok (.iconst (1), 1) := by decide +kernel
theorem dM_depth_72 : decode prog_14_method_69_code 72 = .ok (.iadd, 1) := by decide +kernel
theorem dM_depth_73 : decode prog_14_method_69_code 73 = .ok (.iastore, 1) := by decide +kernel
theorem dM_depth_74 : decode prog_14_method_69_code 74 = .ok (.iinc 3 (1), 3) := by decide +kernel
theorem dM_depth_77 : decode prog_14_method_69_code 77 = .ok (.goto (-51), 3) := by decide +kernel
theorem dM_depth_80 : decode prog_14_method_69_code 80 = .ok (.iinc 2 (1), 3) := by decide +kernel
theorem dM_depth_83 : decode prog_14_method_69_code 83 = .ok (.goto (-71), 3) := by decide +kernel
theorem dM_depth_86 : decode prog_14_method_69_code 86 = .ok (.aload_n 0, 1) := by decide +kernel
theorem dM_depth_87 : decode prog_14_method_69_code 87 = .ok (.getfield 116, 3) := by decide +kernel
theorem dM_depth_90 : decode prog_14_method_69_code 90 = .ok (.iload_n 1, 1) := by decide +kernel
theorem dM_depth_91 : decode prog_14_method_69_code 91 = .ok (.iaload, 1) := by decide +kernel
theorem dM_depth_92 : decode prog_14_method_69_code 92 = .ok (.ireturn, 1) := by decide +kernel
theorem dM_load_0 : decode prog_14_method_70_code 0 = .ok (.aload_n 0, 1) := by decide +kernel
theorem dM_load_1 : decode prog_14_method_70_code 1 = .ok (.iload_n 1, 1) := by decide +kernel
theorem dM_load_2 : decode prog_14_method_70_code 2 = .ok (.invokevirtual 368, 3) := by decide +kernel
theorem dM_load_5 : decode prog_14_method_70_code 5 = .ok (.ifCond .ne (5), 3) := by decide +kernel
theorem dM_load_8 : decode prog_14_method_70_code 8 = .ok (.iconst (-1), 1) := by decide +kernel
theorem dM_load_9 : decode prog_14_method_70_code 9 = .ok (.ireturn, 1) := by decide +kernel
theorem dM_load_10 : decode prog_14_method_70_code 10 = .ok (.iconst (0), 1) := by decide +kernel
theorem dM_load_11 : decode prog_14_method_70_code 11 = .ok (.istore_n 2, 1) := by decide +kernel
theorem dM_load_12 : decode prog_14_method_70_code 12 = .ok (.iconst (0), 1) := by decide +kernel
theorem dM_load_13 : decode prog_14_method_70_code 13 = .ok (.istore_n 3, 1) := by decide +kernel
theorem dM_load_14 : decode prog_14_method_70_code 14 = .ok (.iload_n 3, 1) := by decide +kernel
theorem dM_load_15 : decode prog_14_method_70_code 15 = .ok (.aload_n 0, 1) := by decide +kernel
theorem dM_load_16 : decode prog_14_method_70_code 16 = .ok (.invokevirtual 294, 3) := by decide +kernel
theorem dM_load_19 : decode prog_14_method_70_code 19 = .ok (.if_icmp .ge (35), 3) := by decide +kernel
theorem dM_load_22 : decode prog_14_method_70_code 22 = .ok (.aload_n 0, 1) := by decide +kernel
theorem dM_load_23 : decode prog_14_method_70_code 23 = .ok (.iload_n 3, 1) := by decide +kernel
theorem dM_load_24 : decode prog_14_method_70_code 24 = .ok (.invokevirtual 340, 3) := by decide +kernel
theorem dM_load_27 : decode prog_14_method_70_code 27 = .ok (.ifCond .eq (21), 3) := by decide +kernel
theorem dM_load_30 : decode prog_14_method_70_code 30 = .ok (.aload_n 0, 1) := by decide +kernel
theorem dM_load_31 : decode prog_14_method_70_code 31 = .ok (.getfield 97, 3) := by decide +kernel
theorem dM_load_34 : decode prog_14_method_70_code 34 = .ok (.iload_n 3, 1) := by decide +kernel
theorem dM_load_35 : decode prog_14_method_70_code 35 = .ok (.laload, 1) := by decide +kernel
theorem dM_load_36 : decode prog_14_method_70_code 36 = .ok (.iload_n 1, 1) := by decide +kernel
theorem dM_load_37 : decode prog_14_method_70_code 37 = .ok (.lshr, 1) := by decide +kernel
theorem dM_load_38 : decode prog_14_method_70_code 38 = .ok (.lconst 1, 1) := by decide +kernel
theorem dM_load_39 : decode prog_14_method_70_code 39 = .ok (.land, 1) := by decide +kernel
theorem dM_load_40 : decode prog_14_method_70_code 40 = .ok (.lconst 1, 1) := by decide +kernel
theorem dM_load_41 : decode prog_14_method_70_code 41 = .ok (.lcmp, 1) := by decide +kernel
theorem dM_load_42 : decode prog_14_method_70_code 42 = .ok (.ifCond .ne (6), 3) := by decide +kernel
theorem dM_load_45 : decode prog_14_method_70_code 45 = .ok (.iinc 2 (1), 3) := by decide +kernel
theorem dM_load_48 : decode prog_14_method_70_code 48 = .ok (.iinc 3 (1), 3) := by decide +kernel
theorem dM_load_51 : decode prog_14_method_70_code 51 = .ok (.goto (-37), 3) := by decide +kernel
theorem dM_load_54 : decode prog_14_method_70_code 54 = .ok (.iload_n 2, 1) := by decide +kernel
theorem dM_load_55 : decode prog_14_method_70_code 55 = .ok (.ireturn, 1) := by decide +kernel
theorem dM_covers_0 : decode prog_14_method_71_code 0 = .ok (.aload_n 0, 1) := by decide +kernel
theorem dM_covers_1 : decode prog_14_method_71_code 1 = .ok (.iload_n 1, 1) := by decide +kernel
theorem dM_covers_2 : decode prog_14_method_71_code 2 = .ok (.invokevirtual 368, 3) := by decide +kernel
theorem dM_covers_5 : decode prog_14_method_71_code 5 = .ok (.ifCond .ne (5), 3) := by decide +kernel
theorem dM_covers_8 : decode prog_14_method_71_code 8 = .ok (.iconst (-1), 1) := by decide +kernel
theorem dM_covers_9 : decode prog_14_method_71_code 9 = .ok (.ireturn, 1) := by decide +kernel
theorem dM_covers_10 : decode prog_14_method_71_code 10 = .ok (.iconst (0), 1) := by decide +kernel
theorem dM_covers_11 : decode prog_14_method_71_code 11 = .ok (.istore_n 2, 1) := by decide +kernel
theorem dM_covers_12 : decode prog_14_method_71_code 12 = .ok (.iload_n 1, 1) := by decide +kernel
theorem dM_covers_13 : decode prog_14_method_71_code 13 = .ok (.iconst (1), 1) := by decide +kernel
theorem dM_covers_14 : decode prog_14_method_71_code 14 = .ok (.iadd, 1) := by decide +kernel
theorem dM_covers_15 : decode prog_14_method_71_code 15 = .ok (.istore_n 3, 1) := by decide +kernel
theorem dM_covers_16 : decode prog_14_method_71_code 16 = .ok (.iload_n 3, 1) := by decide +kernel
theorem dM_covers_17 : decode prog_14_method_71_code 17 = .ok (.aload_n 0, 1) := by decide +kernel
theorem dM_covers_18 : decode prog_14_method_71_code 18 = .ok (.invokevirtual 294, 3) := by decide +kernel
theorem dM_covers_21 : decode prog_14_method_71_code 21 = .ok (.if_icmp .ge (21), 3) := by decide +kernel
theorem dM_covers_24 : decode prog_14_method_71_code 24 = .ok (.aload_n 0, 1) := by decide +kernel
theorem dM_covers_25 : decode prog_14_method_71_code 25 = .ok (.iload_n 1, 1) := by decide +kernel
theorem dM_covers_26 : decode prog_14_method_71_code 26 = .ok (.iload_n 3, 1) := by decide +kernel
theorem dM_covers_27 : decode prog_14_method_71_code 27 = .ok (.invokevirtual 325, 3) := by decide +kernel
theorem dM_covers_30 : decode prog_14_method_71_code 30 = .ok (.ifCond .eq (6), 3) := by decide +kernel
theorem dM_covers_33 : decode prog_14_method_71_code 33 = .ok (.iinc 2 (1), 3) := by decide +kernel
theorem dM_covers_36 : decode prog_14_method_71_code 36 = .ok (.iinc 3 (1), 3) := by decide +kernel
theorem dM_covers_39 : decode prog_14_method_71_code 39 = .ok (.goto (-23), 3) := by decide +kernel
theorem dM_covers_42 : decode prog_14_method_71_code 42 = .ok (.iload_n 2, 1) := by decide +kernel
theorem dM_covers_43 : decode prog_14_method_71_code 43 = .ok (.ireturn, 1) := by decide +kernel
theorem dM_vital_0 : decode prog_14_method_73_code 0 = .ok (.aload_n 0, 1) := by decide +kernel
theorem dM_vital_1 : decode prog_14_method_73_code 1 = .ok (.iload_n 1, 1) := by decide +kernel
theorem dM_vital_2 : decode prog_14_method_73_code 2 = .ok (.invokevirtual 368, 3) := by decide +kernel
theorem dM_vital_5 : decode prog_14_method_73_code 5 = .ok (.ifCond .ne (7), 3) := by decide +kernel
theorem dM_vital_8 : decode prog_14_method_73_code 8 = .ok (.iconst (-1), 1) := by decide +kernel
theorem dM_vital_9 : decode prog_14_method_73_code 9 = .ok (.goto (16), 3) := by decide +kernel
theorem dM_vital_12 : decode prog_14_method_73_code 12 = .ok (.aload_n 0, 1) := by decide +kernel
theorem dM_vital_13 : decode prog_14_method_73_code 13 = .ok (.iload_n 1, 1) := by decide +kernel
theorem dM_vital_14 : decode prog_14_method_73_code 14 = .ok (.invokevirtual 380, 3) := by decide +kernel
theorem dM_vital_17 : decode prog_14_method_73_code 17 = .ok (.ifCond .eq (7), 3) := by decide +kernel
theorem dM_vital_20 : decode prog_14_method_73_code 20 = .ok (.iconst (0), 1) := by decide +kernel
theorem dM_vital_21 : decode prog_14_method_73_code 21 = .ok (.goto (4), 3) := by decide +kernel
theorem dM_vital_24 : decode prog_14_method_73_code 24 = .ok (.iconst (1), 1) := by decide +kernel
theorem dM_vital_25 : decode prog_14_method_73_code 25 = .ok (.ireturn, 1) := by decide +kernel
theorem dM_isProvedWithout_0 : decode prog_14_method_72_code 0 = .ok (.iconst (0), 1) := by decide +kernel
theorem dM_isProvedWithout_1 : decode prog_14_method_72_code 1 = .ok (.istore_n 2, 1) := by decide +kernel
theorem dM_isProvedWithout_2 : decode prog_14_method_72_code 2 = .ok (.iload_n 2, 1) := by decide +kernel
theorem dM_isProvedWithout_3 : decode prog_14_method_72_code 3 = .ok (.aload_n 0, 1) := by decide +kernel
theorem dM_isProvedWithout_4 : decode prog_14_method_72_code 4 = .ok (.invokevirtual 294, 3) := by decide +kernel
theorem dM_isProvedWithout_7 : decode prog_14_method_72_code 7 = .ok (.if_icmp .ge (16), 3) := by decide +kernel
theorem dM_isProvedWithout_10 : decode prog_14_method_72_code 10 = .ok (.aload_n 0, 1) := by decide +kernel
theorem dM_isProvedWithout_11 : decode prog_14_method_72_code 11 = .ok (.getfield 119, 3) := by decide +kernel
theorem dM_isProvedWithout_14 : decode prog_14_method_72_code 14 = .ok (.iload_n 2, 1) := by decide +kernel
theorem dM_isProvedWithout_15 : decode prog_14_method_72_code 15 = .ok (.iconst (0), 1) := by decide +kernel
theorem dM_isProvedWithout_16 : decode prog_14_method_72_code 16 = .ok (.bastore, 1) := by decide +kernel
theorem dM_isProvedWithout_17 : decode prog_14_method_72_code 17 = .ok (.iinc 2 (1), 3) := by decide +kernel
theorem dM_isProvedWithout_20 : decode prog_14_method_72_code 20 = .ok (.goto (-18), 3) := by decide +kernel
theorem dM_isProvedWithout_23 : decode prog_14_method_72_code 23 = .ok (.iconst (0), 1) := by decide +kernel
theorem dM_isProvedWithout_24 : decode prog_14_method_72_code 24 = .ok (.istore_n 2, 1) := by decide +kernel
theorem dM_isProvedWithout_25 : decode prog_14_method_72_code 25 = .ok (.iload_n 2, 1) := by decide +kernel
theorem dM_isProvedWithout_26 : decode prog_14_method_72_code 26 = .ok (.aload_n 0, 1) := by decide +kernel
theorem dM_isProvedWithout_27 : decode prog_14_method_72_code 27 = .ok (.invokevirtual 294, 3) := by decide +kernel
theorem dM_isProvedWithout_30 : decode prog_14_method_72_code 30 = .ok (.if_icmp .ge (85), 3) := by decide +kernel
theorem dM_isProvedWithout_33 : decode prog_14_method_72_code 33 = .ok (.iload_n 2, 1) := by decide +kernel
theorem dM_isProvedWithout_34 : decode prog_14_method_72_code 34 = .ok (.iload_n 1, 1) := by decide +kernel
theorem dM_isProvedWithout_35 : decode prog_14_method_72_code 35 = .ok (.if_icmp .eq (7), 3) := by decide +kernel
theorem dM_isProvedWithout_38 : decode prog_14_method_72_code 38 = .ok (.iconst (1), 1) := by decide +kernel
theorem dM_isProvedWithout_39 : decode prog_14_method_72_code 39 = .ok (.goto (4), 3) := by decide +kernel
theorem dM_isProvedWithout_42 : decode prog_14_method_72_code 42 = .ok (.iconst (0), 1) := by decide +kernel
theorem dM_isProvedWithout_43 : decode prog_14_method_72_code 43 = .ok (.istore_n 3, 1) := by decide +kernel
theorem dM_isProvedWithout_44 : decode prog_14_method_72_code 44 = .ok (.iconst (0), 1) := by decide +kernel
theorem dM_isProvedWithout_45 : decode prog_14_method_72_code 45 = .ok (.istore 4, 2) := by decide +kernel
theorem dM_isProvedWithout_47 : decode prog_14_method_72_code 47 = .ok (.iload 4, 2) := by decide +kernel
theorem dM_isProvedWithout_49 : decode prog_14_method_72_code 49 = .ok (.aload_n 0, 1) := by decide +kernel
theorem dM_isProvedWithout_50 : decode prog_14_method_72_code 50 = .ok (.iload_n 2, 1) := by decide +kernel
theorem dM_isProvedWithout_51 : decode prog_14_method_72_code 51 = .ok (.invokevirtual 328, 3) := by decide +kernel
theorem dM_isProvedWithout_54 : decode prog_14_method_72_code 54 = .ok (.if_icmp .ge (39), 3) := by decide +kernel
theorem dM_isProvedWithout_57 : decode prog_14_method_72_code 57 = .ok (.iload_n 3, 1) := by decide +kernel
theorem dM_isProvedWithout_58 : decode prog_14_method_72_code 58 = .ok (.ifCond .eq (27), 3) := by decide +kernel
theorem dM_isProvedWithout_61 : decode prog_14_method_72_code 61 = .ok (.aload_n 0, 1) := by decide +kernel
theorem dM_isProvedWithout_62 : decode prog_14_method_72_code 62 = .ok (.getfield 119, 3) := by decide +kernel
theorem dM_isProvedWithout_65 : decode prog_14_method_72_code 65 = .ok (.aload_n 0, 1) := by decide +kernel
theorem dM_isProvedWithout_66 : decode prog_14_method_72_code 66 = .ok (.getfield 94, 3) := by decide +kernel
theorem dM_isProvedWithout_69 : decode prog_14_method_72_code 69 = .ok (.aload_n 0, 1) := by decide +kernel
theorem dM_isProvedWithout_70 : decode prog_14_method_72_code 70 = .ok (.iload_n 2, 1) := by decide +kernel
theorem dM_isProvedWithout_71 : decode prog_14_method_72_code 71 = .ok (.iload 4, 2) := by decide +kernel
theorem dM_isProvedWithout_73 : decode prog_14_method_72_code 73 = .ok (.invokevirtual 319, 3) := by decide +kernel
theorem dM_isProvedWithout_76 : decode prog_14_method_72_code 76 = .ok (.iaload, 1) := by decide +kernel
theorem dM_isProvedWithout_77 : decode prog_14_method_72_code 77 = .ok (.baload, 1) := by decide +kernel
theorem dM_isProvedWithout_78 : decode prog_14_method_72_code 78 = .ok (.ifCond .eq (7), 3) := by decide +kernel
theorem dM_isProvedWithout_81 : decode prog_14_method_72_code 81 = .ok (.iconst (1), 1) := by decide +kernel
theorem dM_isProvedWithout_82 : decode prog_14_method_72_code 82 = .ok (.goto (4), 3) := by decide +kernel
theorem dM_isProvedWithout_85 : decode prog_14_method_72_code 85 = .ok (.iconst (0), 1) := by decide +kernel
theorem dM_isProvedWithout_86 : decode prog_14_method_72_code 86 = .ok (.istore_n 3, 1) := by decide +kernel
theorem dM_isProvedWithout_87 : decode prog_14_method_72_code 87 = .ok (.iinc 4 (1), 3) := by decide +kernel
theorem dM_isProvedWithout_90 : decode prog_14_method_72_code 90 = .ok (.goto (-43), 3) := by decide +kernel
theorem dM_isProvedWithout_93 : decode prog_14_method_72_code 93 = .ok (.iload_n 3, 1) := by decide +kernel
theorem dM_isProvedWithout_94 : decode prog_14_method_72_code 94 = .ok (.ifCond .eq (15), 3) := by decide +kernel
theorem dM_isProvedWithout_97 : decode prog_14_method_72_code 97 = .ok (.aload_n 0, 1) := by decide +kernel
theorem dM_isProvedWithout_98 : decode prog_14_method_72_code 98 = .ok (.getfield 119, 3) := by decide +kernel
theorem dM_isProvedWithout_101 : decode prog_14_method_72_code 101 = .ok (.aload_n 0, 1) := by decide +kernel
theorem dM_isProvedWithout_102 : decode prog_14_method_72_code 102 = .ok (.getfield 94, 3) := by decide +kernel
theorem dM_isProvedWithout_105 : decode prog_14_method_72_code 105 = .ok (.iload_n 2, 1) := by decide +kernel
theorem dM_isProvedWithout_106 : decode prog_14_method_72_code 106 = .ok (.iaload, 1) := by decide +kernel
theorem dM_isProvedWithout_107 : decode prog_14_method_72_code 107 = .ok (.iconst (1), 1) := by decide +kernel
theorem dM_isProvedWithout_108 : decode prog_14_method_72_code 108 = .ok (.bastore, 1) := by decide +kernel
theorem dM_isProvedWithout_109 : decode prog_14_method_72_code 109 = .ok (.iinc 2 (1), 3) := by decide +kernel
theorem dM_isProvedWithout_112 : decode prog_14_method_72_code 112 = .ok (.goto (-87), 3) := by decide +kernel
theorem dM_isProvedWithout_115 : decode prog_14_method_72_code 115 = .ok (.aload_n 0, 1) := by decide +kernel
theorem dM_isProvedWithout_116 : decode prog_14_method_72_code 116 = .ok (.getfield 119, 3) := by decide +kernel
theorem dM_isProvedWithout_119 : decode prog_14_method_72_code 119 = .ok (.aload_n 0, 1) := by decide +kernel
theorem dM_isProvedWithout_120 : decode prog_14_method_72_code 120 = .ok (.getfield 94, 3) := by decide +kernel
theorem dM_isProvedWithout_123 : decode prog_14_method_72_code 123 = .ok (.aload_n 0, 1) := by decide +kernel
theorem dM_isProvedWithout_124 : decode prog_14_method_72_code 124 = .ok (.getfield 288, 3) := by decide +kernel
theorem dM_isProvedWithout_127 : decode prog_14_method_72_code 127 = .ok (.iaload, 1) := by decide +kernel
theorem dM_isProvedWithout_128 : decode prog_14_method_72_code 128 = .ok (.baload, 1) := by decide +kernel
theorem dM_isProvedWithout_129 : decode prog_14_method_72_code 129 = .ok (.ireturn, 1) := by decide +kernel
theorem dM_vitals_0 : decode prog_14_method_74_code 0 = .ok (.iconst (0), 1) := by decide +kernel
theorem dM_vitals_1 : decode prog_14_method_74_code 1 = .ok (.istore_n 2, 1) := by decide +kernel
theorem dM_vitals_2 : decode prog_14_method_74_code 2 = .ok (.iconst (0), 1) := by decide +kernel
theorem dM_vitals_3 : decode prog_14_method_74_code 3 = .ok (.istore_n 3, 1) := by decide +kernel
theorem dM_vitals_4 : decode prog_14_method_74_code 4 = .ok (.iload_n 3, 1) := by decide +kernel
theorem dM_vitals_5 : decode prog_14_method_74_code 5 = .ok (.aload_n 0, 1) := by decide +kernel
theorem dM_vitals_6 : decode prog_14_method_74_code 6 = .ok (.invokevirtual 294, 3) := by decide +kernel
theorem dM_vitals_9 : decode prog_14_method_74_code 9 = .ok (.if_icmp .ge (30), 3) := by decide +kernel
theorem dM_vitals_12 : decode prog_14_method_74_code 12 = .ok (.aload_n 0, 1) := by decide +kernel
theorem dM_vitals_13 : decode prog_14_method_74_code 13 = .ok (.iload_n 3, 1) := by decide +kernel
theorem dM_vitals_14 : decode prog_14_method_74_code 14 = .ok (.invokevirtual 380, 3) := by decide +kernel
theorem dM_vitals_17 : decode prog_14_method_74_code 17 = .ok (.ifCond .eq (6), 3) := by decide +kernel
theorem dM_vitals_20 : decode prog_14_method_74_code 20 = .ok (.goto (13), 3) := by decide +kernel
theorem dM_vitals_23 : decode prog_14_method_74_code 23 = .ok (.iload_n 2, 1) := by decide +kernel
theorem dM_vitals_24 : decode prog_14_method_74_code 24 = .ok (.iload_n 1, 1) := by decide +kernel
theorem dM_vitals_25 : decode prog_14_method_74_code 25 = .ok (.if_icmp .ne (5), 3) := by decide +kernel
theorem dM_vitals_28 : decode prog_14_method_74_code 28 = .ok (.iload_n 3, 1) := by decide +kernel
theorem dM_vitals_29 : decode prog_14_method_74_code 29 = .ok (.ireturn, 1) := by decide +kernel
theorem dM_vitals_30 : decode prog_14_method_74_code 30 = .ok (.iinc 2 (1), 3) := by decide +kernel
theorem dM_vitals_33 : decode prog_14_method_74_code 33 = .ok (.iinc 3 (1), 3) := by decide +kernel
theorem dM_vitals_36 : decode prog_14_method_74_code 36 = .ok (.goto (-32), 3) := by decide +kernel
theorem dM_vitals_39 : decode prog_14_method_74_code 39 = .ok (.iconst (-1), 1) := by decide +kernel
theorem dM_vitals_40 : decode prog_14_method_74_code 40 = .ok (.ireturn, 1) := by decide +kernel
theorem dM_beside_0 : decode prog_14_method_77_code 0 = .ok (.aload_n 0, 1) := by decide +kernel
theorem dM_beside_1 : decode prog_14_method_77_code 1 = .ok (.iload_n 1, 1) := by decide +kernel
theorem dM_beside_2 : decode prog_14_method_77_code 2 = .ok (.invokevirtual 368, 3) := by decide +kernel
theorem dM_beside_5 : decode prog_14_method_77_code 5 = .ok (.ifCond .eq (23), 3) := by decide +kernel
theorem dM_beside_8 : decode prog_14_method_77_code 8 = .ok (.aload_n 0, 1) := by decide +kernel
theorem dM_beside_9 : decode prog_14_method_77_code 9 = .ok (.iload_n 2, 1) := by decide +kernel
theorem dM_beside_10 : decode prog_14_method_77_code 10 = .ok (.invokevirtual 368, 3) := by decide +kernel
theorem dM_beside_13 : decode prog_14_method_77_code 13 = .ok (.ifCond .eq (15), 3) := by decide +kernel
theorem dM_beside_16 : decode prog_14_method_77_code 16 = .ok (.iload_n 3, 1) := by decide +kernel
theorem dM_beside_17 : decode prog_14_method_77_code 17 = .ok (.i2l, 1) := by decide +kernel
theorem dM_beside_18 : decode prog_14_method_77_code 18 = .ok (.lconst 0, 1) := by decide +kernel
theorem dM_beside_19 : decode prog_14_method_77_code 19 = .ok (.ldc2_w 395, 3) := by decide +kernel
theorem dM_beside_22 : decode prog_14_method_77_code 22 = .ok (.invokestatic 196, 3) := by decide +kernel
theorem dM_beside_25 : decode prog_14_method_77_code 25 = .ok (.ifCond .ne (5), 3) := by decide +kernel
theorem dM_beside_28 : decode prog_14_method_77_code 28 = .ok (.iconst (-1), 1) := by decide +kernel
theorem dM_beside_29 : decode prog_14_method_77_code 29 = .ok (.ireturn, 1) := by decide +kernel
theorem dM_beside_30 : decode prog_14_method_77_code 30 = .ok (.aload_n 0, 1) := by decide +kernel
theorem dM_beside_31 : decode prog_14_method_77_code 31 = .ok (.iload_n 1, 1) := by decide +kernel
theorem dM_beside_32 : decode prog_14_method_77_code 32 = .ok (.iload_n 2, 1) := by decide +kernel
theorem dM_beside_33 : decode prog_14_method_77_code 33 = .ok (.invokevirtual 397, 3) := by decide +kernel
theorem dM_beside_36 : decode prog_14_method_77_code 36 = .ok (.iload_n 3, 1) := by decide +kernel
theorem dM_beside_37 : decode prog_14_method_77_code 37 = .ok (.ifCond .ne (10), 3) := by decide +kernel
theorem dM_beside_40 : decode prog_14_method_77_code 40 = .ok (.aload_n 0, 1) := by decide +kernel
theorem dM_beside_41 : decode prog_14_method_77_code 41 = .ok (.getfield 386, 3) := by decide +kernel
theorem dM_beside_44 : decode prog_14_method_77_code 44 = .ok (.goto (19), 3) := by decide +kernel
theorem dM_beside_47 : decode prog_14_method_77_code 47 = .ok (.iload_n 3, 1) := by decide +kernel
theorem dM_beside_48 : decode prog_14_method_77_code 48 = .ok (.iconst (1), 1) := by decide +kernel
theorem dM_beside_49 : decode prog_14_method_77_code 49 = .ok (.if_icmp .ne (10), 3) := by decide +kernel
theorem dM_beside_52 : decode prog_14_method_77_code 52 = .ok (.aload_n 0, 1) := by decide +kernel
theorem dM_beside_53 : decode prog_14_method_77_code 53 = .ok (.getfield 389, 3) := by decide +kernel
theorem dM_beside_56 : decode prog_14_method_77_code 56 = .ok (.goto (7), 3) := by decide +kernel
theorem dM_beside_59 : decode prog_14_method_77_code 59 = .ok (.aload_n 0, 1) := by decide +kernel
theorem dM_beside_60 : decode prog_14_method_77_code 60 = .ok (.getfield 383, 3) := by decide +kernel
theorem dM_beside_63 : decode prog_14_method_77_code 63 = .ok (.ireturn, 1) := by decide +kernel
theorem dM_laysBeside_0 : decode prog_14_method_76_code 0 = .ok (.aload_n 0, 1) := by decide +kernel
theorem dM_laysBeside_1 : decode prog_14_method_76_code 1 = .ok (.bipush (48), 2) := by decide +kernel
theorem dM_laysBeside_3 : decode prog_14_method_76_code 3 = .ok (.iload_n 1, 1) := by decide +kernel
theorem dM_laysBeside_4 : decode prog_14_method_76_code 4 = .ok (.iadd, 1) := by decide +kernel
theorem dM_laysBeside_5 : decode prog_14_method_76_code 5 = .ok (.invokevirtual 313, 3) := by decide +kernel
theorem dM_laysBeside_8 : decode prog_14_method_76_code 8 = .ok (.istore_n 3, 1) := by decide +kernel
theorem dM_laysBeside_9 : decode prog_14_method_76_code 9 = .ok (.aload_n 0, 1) := by decide +kernel
theorem dM_laysBeside_10 : decode prog_14_method_76_code 10 = .ok (.bipush (48), 2) := by decide +kernel
theorem dM_laysBeside_12 : decode prog_14_method_76_code 12 = .ok (.iload_n 2, 1) := by decide +kernel
theorem dM_laysBeside_13 : decode prog_14_method_76_code 13 = .ok (.iadd, 1) := by decide +kernel
theorem dM_laysBeside_14 : decode prog_14_method_76_code 14 = .ok (.invokevirtual 313, 3) := by decide +kernel
theorem dM_laysBeside_17 : decode prog_14_method_76_code 17 = .ok (.istore 4, 2) := by decide +kernel
theorem dM_laysBeside_19 : decode prog_14_method_76_code 19 = .ok (.iload_n 3, 1) := by decide +kernel
theorem dM_laysBeside_20 : decode prog_14_method_76_code 20 = .ok (.aload_n 0, 1) := by decide +kernel
theorem dM_laysBeside_21 : decode prog_14_method_76_code 21 = .ok (.bipush (48), 2) := by decide +kernel
theorem dM_laysBeside_23 : decode prog_14_method_76_code 23 = .ok (.iload_n 1, 1) := by decide +kernel
theorem dM_laysBeside_24 : decode prog_14_method_76_code 24 = .ok (.iadd, 1) := by decide +kernel
theorem dM_laysBeside_25 : decode prog_14_method_76_code 25 = .ok (.invokevirtual 316, 3) := by decide +kernel
theorem dM_laysBeside_28 : decode prog_14_method_76_code 28 = .ok (.iadd, 1) := by decide +kernel
theorem dM_laysBeside_29 : decode prog_14_method_76_code 29 = .ok (.istore 5, 2) := by decide +kernel
theorem dM_laysBeside_31 : decode prog_14_method_76_code 31 = .ok (.aload_n 0, 1) := by decide +kernel
theorem dM_laysBeside_32 : decode prog_14_method_76_code 32 = .ok (.iconst (0), 1) := by decide +kernel
theorem dM_laysBeside_33 : decode prog_14_method_76_code 33 = .ok (.putfield 386, 3) := by decide +kernel
theorem dM_laysBeside_36 : decode prog_14_method_76_code 36 = .ok (.aload_n 0, 1) := by decide +kernel
theorem dM_laysBeside_37 : decode prog_14_method_76_code 37 = .ok (.iconst (0), 1) := by decide +kernel
theorem dM_laysBeside_38 : decode prog_14_method_76_code 38 = .ok (.putfield 383, 3) := by decide +kernel
theorem dM_laysBeside_41 : decode prog_14_method_76_code 41 = .ok (.aload_n 0, 1) := by decide +kernel
theorem dM_laysBeside_42 : decode prog_14_method_76_code 42 = .ok (.iconst (0), 1) := by decide +kernel
theorem dM_laysBeside_43 : decode prog_14_method_76_code 43 = .ok (.putfield 389, 3) := by decide +kernel
theorem dM_laysBeside_46 : decode prog_14_method_76_code 46 = .ok (.iload_n 3, 1) := by decide +kernel
theorem dM_laysBeside_47 : decode prog_14_method_76_code 47 = .ok (.iload 5, 2) := by decide +kernel
theorem dM_laysBeside_49 : decode prog_14_method_76_code 49 = .ok (.if_icmp .ge (105), 3) := by decide +kernel
theorem dM_laysBeside_52 : decode prog_14_method_76_code 52 = .ok (.aload_n 0, 1) := by decide +kernel
theorem dM_laysBeside_53 : decode prog_14_method_76_code 53 = .ok (.getfield 55, 3) := by decide +kernel
theorem dM_laysBeside_56 : decode prog_14_method_76_code 56 = .ok (.iload_n 3, 1) := by decide +kernel
theorem dM_laysBeside_57 : decode prog_14_method_76_code 57 = .ok (.iaload, 1) := by decide +kernel
theorem dM_laysBeside_58 : decode prog_14_method_76_code 58 = .ok (.aload_n 0, 1) := by decide +kernel
theorem dM_laysBeside_59 : decode prog_14_method_76_code 59 = .ok (.getfield 55, 3) := by decide +kernel
theorem dM_laysBeside_62 : decode prog_14_method_76_code 62 = .ok (.iload 4, 2) := by decide +kernel
theorem dM_laysBeside_64 : decode prog_14_method_76_code 64 = .ok (.iaload, 1) := by decide +kernel
theorem dM_laysBeside_65 : decode prog_14_method_76_code 65 = .ok (.if_icmp .ne (27), 3) := by decide +kernel
theorem dM_laysBeside_68 : decode prog_14_method_76_code 68 = .ok (.aload_n 0, 1) := by decide +kernel
theorem dM_laysBeside_69 : decode prog_14_method_76_code 69 = .ok (.getfield 122, 3) := by decide +kernel
theorem dM_laysBeside_72 : decode prog_14_method_76_code 72 = .ok (.aload_n 0, 1) := by decide +kernel
theorem dM_laysBeside_73 : decode prog_14_method_76_code 73 = .ok (.getfield 386, 3) := by decide +kernel
theorem dM_laysBeside_76 : decode prog_14_method_76_code 76 = .ok (.aload_n 0, 1) := by decide +kernel
theorem dM_laysBeside_77 : decode prog_14_method_76_code 77 = .ok (.getfield 55, 3) := by decide +kernel
theorem dM_laysBeside_80 : decode prog_14_method_76_code 80 = .ok (.iload_n 3, 1) := by decide +kernel
theorem dM_laysBeside_81 : decode prog_14_method_76_code 81 = .ok (.iaload, 1) := by decide +kernel
theorem dM_laysBeside_82 : decode prog_14_method_76_code 82 = .ok (.iastore, 1) := by decide +kernel
theorem dM_laysBeside_83 : decode prog_14_method_76_code 83 = .ok (.iinc 3 (1), 3) := by decide +kernel
theorem dM_laysBeside_86 : decode prog_14_method_76_code 86 = .ok (.iinc 4 (1), 3) := by decide +kernel
theorem dM_laysBeside_89 : decode prog_14_method_76_code 89 = .ok (.goto (52), 3) := by decide +kernel
theorem dM_laysBeside_92 : decode prog_14_method_76_code 92 = .ok (.aload_n 0, 1) := by decide +kernel
theorem dM_laysBeside_93 : decode prog_14_method_76_code 93 = .ok (.getfield 122, 3) := by decide +kernel
theorem dM_laysBeside_96 : decode prog_14_method_76_code 96 = .ok (.aload_n 0, 1) := by decide +kernel
theorem dM_laysBeside_97 : decode prog_14_method_76_code 97 = .ok (.getfield 386, 3) := by decide +kernel
theorem dM_laysBeside_100 : decode prog_14_method_76_code 100 = .ok (.sipush (200), 3) := by decide +kernel
theorem dM_laysBeside_103 : decode prog_14_method_76_code 103 = .ok (.aload_n 0, 1) := by decide +kernel
theorem dM_laysBeside_104 : decode prog_14_method_76_code 104 = .ok (.iload_n 3, 1) := by decide +kernel
theorem dM_laysBeside_105 : decode prog_14_method_76_code 105 = .ok (.iload 4, 2) := by decide +kernel
theorem dM_laysBeside_107 : decode prog_14_method_76_code 107 = .ok (.invokevirtual 392, 3) := by decide +kernel
theorem dM_laysBeside_110 : decode prog_14_method_76_code 110 = .ok (.iadd, 1) := by decide +kernel
theorem dM_laysBeside_111 : decode prog_14_method_76_code 111 = .ok (.iastore, 1) := by decide +kernel
theorem dM_laysBeside_112 : decode prog_14_method_76_code 112 = .ok (.aload_n 0, 1) := by decide +kernel
theorem dM_laysBeside_113 : decode prog_14_method_76_code 113 = .ok (.dup, 1) := by decide +kernel
theorem dM_laysBeside_114 : decode prog_14_method_76_code 114 = .ok (.getfield 389, 3) := by decide +kernel
theorem dM_laysBeside_117 : decode prog_14_method_76_code 117 = .ok (.iconst (1), 1) := by decide +kernel
theorem dM_laysBeside_118 : decode prog_14_method_76_code 118 = .ok (.iadd, 1) := by decide +kernel
theorem dM_laysBeside_119 : decode prog_14_method_76_code 119 = .ok (.putfield 389, 3) := by decide +kernel
theorem dM_laysBeside_122 : decode prog_14_method_76_code 122 = .ok (.iload_n 3, 1) := by decide +kernel
theorem dM_laysBeside_123 : decode prog_14_method_76_code 123 = .ok (.aload_n 0, 1) := by decide +kernel
theorem dM_laysBeside_124 : decode prog_14_method_76_code 124 = .ok (.iload_n 3, 1) := by decide +kernel
theorem dM_laysBeside_125 : decode prog_14_method_76_code 125 = .ok (.invokevirtual 303, 3) := by decide +kernel
theorem dM_laysBeside_128 : decode prog_14_method_76_code 128 = .ok (.iadd, 1) := by decide +kernel
theorem dM_laysBeside_129 : decode prog_14_method_76_code 129 = .ok (.istore_n 3, 1) := by decide +kernel
theorem dM_laysBeside_130 : decode prog_14_method_76_code 130 = .ok (.iload 4, 2) := by decide +kernel
theorem dM_laysBeside_132 : decode prog_14_method_76_code 132 = .ok (.aload_n 0, 1) := by decide +kernel
theorem dM_laysBeside_133 : decode prog_14_method_76_code 133 = .ok (.iload 4, 2) := by decide +kernel
theorem dM_laysBeside_135 : decode prog_14_method_76_code 135 = .ok (.invokevirtual 303, 3) := by decide +kernel
theorem dM_laysBeside_138 : decode prog_14_method_76_code 138 = .ok (.iadd, 1) := by decide +kernel
theorem dM_laysBeside_139 : decode prog_14_method_76_code 139 = .ok (.istore 4, 2) := by decide +kernel
theorem dM_laysBeside_141 : decode prog_14_method_76_code 141 = .ok (.aload_n 0, 1) := by decide +kernel
theorem dM_laysBeside_142 : decode prog_14_method_76_code 142 = .ok (.dup, 1) := by decide +kernel
theorem dM_laysBeside_143 : decode prog_14_method_76_code 143 = .ok (.getfield 386, 3) := by decide +kernel
theorem dM_laysBeside_146 : decode prog_14_method_76_code 146 = .ok (.iconst (1), 1) := by decide +kernel
theorem dM_laysBeside_147 : decode prog_14_method_76_code 147 = .ok (.iadd, 1) := by decide +kernel
theorem dM_laysBeside_148 : decode prog_14_method_76_code 148 = .ok (.putfield 386, 3) := by decide +kernel
theorem dM_laysBeside_151 : decode prog_14_method_76_code 151 = .ok (.goto (-105), 3) := by decide +kernel
theorem dM_laysBeside_154 : decode prog_14_method_76_code 154 = .ok (.return_, 1) := by decide +kernel
theorem dM_pairOf_0 : decode prog_14_method_75_code 0 = .ok (.iconst (0), 1) := by decide +kernel
theorem dM_pairOf_1 : decode prog_14_method_75_code 1 = .ok (.istore_n 3, 1) := by decide +kernel
theorem dM_pairOf_2 : decode prog_14_method_75_code 2 = .ok (.iload_n 3, 1) := by decide +kernel
theorem dM_pairOf_3 : decode prog_14_method_75_code 3 = .ok (.aload_n 0, 1) := by decide +kernel
theorem dM_pairOf_4 : decode prog_14_method_75_code 4 = .ok (.getfield 383, 3) := by decide +kernel
theorem dM_pairOf_7 : decode prog_14_method_75_code 7 = .ok (.if_icmp .ge (37), 3) := by decide +kernel
theorem dM_pairOf_10 : decode prog_14_method_75_code 10 = .ok (.aload_n 0, 1) := by decide +kernel
theorem dM_pairOf_11 : decode prog_14_method_75_code 11 = .ok (.aload_n 0, 1) := by decide +kernel
theorem dM_pairOf_12 : decode prog_14_method_75_code 12 = .ok (.getfield 125, 3) := by decide +kernel
theorem dM_pairOf_15 : decode prog_14_method_75_code 15 = .ok (.iload_n 3, 1) := by decide +kernel
theorem dM_pairOf_16 : decode prog_14_method_75_code 16 = .ok (.iaload, 1) := by decide +kernel
theorem dM_pairOf_17 : decode prog_14_method_75_code 17 = .ok (.iload_n 1, 1) := by decide +kernel
theorem dM_pairOf_18 : decode prog_14_method_75_code 18 = .ok (.invokevirtual 306, 3) := by decide +kernel
theorem dM_pairOf_21 : decode prog_14_method_75_code 21 = .ok (.ifCond .eq (17), 3) := by decide +kernel
theorem dM_pairOf_24 : decode prog_14_method_75_code 24 = .ok (.aload_n 0, 1) := by decide +kernel
theorem dM_pairOf_25 : decode prog_14_method_75_code 25 = .ok (.aload_n 0, 1) := by decide +kernel
theorem dM_pairOf_26 : decode prog_14_method_75_code 26 = .ok (.getfield 128, 3) := by decide +kernel
theorem dM_pairOf_29 : decode prog_14_method_75_code 29 = .ok (.iload_n 3, 1) := by decide +kernel
theorem dM_pairOf_30 : decode prog_14_method_75_code 30 = .ok (.iaload, 1) := by decide +kernel
theorem dM_pairOf_31 : decode prog_14_method_75_code 31 = .ok (.iload_n 2, 1) := by decide +kernel
theorem dM_pairOf_32 : decode prog_14_method_75_code 32 = .ok (.invokevirtual 306, 3) := by decide +kernel
theorem dM_pairOf_35 : decode prog_14_method_75_code 35 = .ok (.ifCond .ne (9), 3) := by decide +kernel
theorem dM_pairOf_38 : decode prog_14_method_75_code 38 = .ok (.iinc 3 (1), 3) := by decide +kernel
theorem dM_pairOf_41 : decode prog_14_method_75_code 41 = .ok (.goto (-39), 3) := by decide +kernel
theorem dM_pairOf_44 : decode prog_14_method_75_code 44 = .ok (.iload_n 3, 1) := by decide +kernel
theorem dM_pairOf_45 : decode prog_14_method_75_code 45 = .ok (.aload_n 0, 1) := by decide +kernel
theorem dM_pairOf_46 : decode prog_14_method_75_code 46 = .ok (.getfield 383, 3) := by decide +kernel
theorem dM_pairOf_49 : decode prog_14_method_75_code 49 = .ok (.if_icmp .ge (5), 3) := by decide +kernel
theorem dM_pairOf_52 : decode prog_14_method_75_code 52 = .ok (.iload_n 3, 1) := by decide +kernel
theorem dM_pairOf_53 : decode prog_14_method_75_code 53 = .ok (.ireturn, 1) := by decide +kernel
theorem dM_pairOf_54 : decode prog_14_method_75_code 54 = .ok (.aload_n 0, 1) := by decide +kernel
theorem dM_pairOf_55 : decode prog_14_method_75_code 55 = .ok (.getfield 125, 3) := by decide +kernel
theorem dM_pairOf_58 : decode prog_14_method_75_code 58 = .ok (.aload_n 0, 1) := by decide +kernel
theorem dM_pairOf_59 : decode prog_14_method_75_code 59 = .ok (.getfield 383, 3) := by decide +kernel
theorem dM_pairOf_62 : decode prog_14_method_75_code 62 = .ok (.iload_n 1, 1) := by decide +kernel
theorem dM_pairOf_63 : decode prog_14_method_75_code 63 = .ok (.iastore, 1) := by decide +kernel
theorem dM_pairOf_64 : decode prog_14_method_75_code 64 = .ok (.aload_n 0, 1) := by decide +kernel
theorem dM_pairOf_65 : decode prog_14_method_75_code 65 = .ok (.getfield 128, 3) := by decide +kernel
theorem dM_pairOf_68 : decode prog_14_method_75_code 68 = .ok (.aload_n 0, 1) := by decide +kernel
theorem dM_pairOf_69 : decode prog_14_method_75_code 69 = .ok (.getfield 383, 3) := by decide +kernel
theorem dM_pairOf_72 : decode prog_14_method_75_code 72 = .ok (.iload_n 2, 1) := by decide +kernel
theorem dM_pairOf_73 : decode prog_14_method_75_code 73 = .ok (.iastore, 1) := by decide +kernel
theorem dM_pairOf_74 : decode prog_14_method_75_code 74 = .ok (.aload_n 0, 1) := by decide +kernel
theorem dM_pairOf_75 : decode prog_14_method_75_code 75 = .ok (.dup, 1) := by decide +kernel
theorem dM_pairOf_76 : decode prog_14_method_75_code 76 = .ok (.getfield 383, 3) := by decide +kernel
theorem dM_pairOf_79 : decode prog_14_method_75_code 79 = .ok (.iconst (1), 1) := by decide +kernel
theorem dM_pairOf_80 : decode prog_14_method_75_code 80 = .ok (.iadd, 1) := by decide +kernel
theorem dM_pairOf_81 : decode prog_14_method_75_code 81 = .ok (.putfield 383, 3) := by decide +kernel
theorem dM_pairOf_84 : decode prog_14_method_75_code 84 = .ok (.iload_n 3, 1) := by decide +kernel
theorem dM_pairOf_85 : decode prog_14_method_75_code 85 = .ok (.ireturn, 1) := by decide +kernel
theorem dM_common_0 : decode prog_14_method_78_code 0 = .ok (.aload_n 0, 1) := by decide +kernel
theorem dM_common_1 : decode prog_14_method_78_code 1 = .ok (.iload_n 1, 1) := by decide +kernel
theorem dM_common_2 : decode prog_14_method_78_code 2 = .ok (.invokevirtual 368, 3) := by decide +kernel
theorem dM_common_5 : decode prog_14_method_78_code 5 = .ok (.ifCond .eq (11), 3) := by decide +kernel
theorem dM_common_8 : decode prog_14_method_78_code 8 = .ok (.aload_n 0, 1) := by decide +kernel
theorem dM_common_9 : decode prog_14_method_78_code 9 = .ok (.iload_n 2, 1) := by decide +kernel
theorem dM_common_10 : decode prog_14_method_78_code 10 = .ok (.invokevirtual 368, 3) := by decide +kernel
theorem dM_common_13 : decode prog_14_method_78_code 13 = .ok (.ifCond .ne (5), 3) := by decide +kernel
theorem dM_common_16 : decode prog_14_method_78_code 16 = .ok (.iconst (-1), 1) := by decide +kernel
theorem dM_common_17 : decode prog_14_method_78_code 17 = .ok (.ireturn, 1) := by decide +kernel
theorem dM_common_18 : decode prog_14_method_78_code 18 = .ok (.aload_n 0, 1) := by decide +kernel
theorem dM_common_19 : decode prog_14_method_78_code 19 = .ok (.iload_n 1, 1) := by decide +kernel
theorem dM_common_20 : decode prog_14_method_78_code 20 = .ok (.iload_n 2, 1) := by decide +kernel
theorem dM_common_21 : decode prog_14_method_78_code 21 = .ok (.invokevirtual 397, 3) := by decide +kernel
theorem dM_common_24 : decode prog_14_method_78_code 24 = .ok (.iload_n 3, 1) := by decide +kernel
theorem dM_common_25 : decode prog_14_method_78_code 25 = .ok (.i2l, 1) := by decide +kernel
theorem dM_common_26 : decode prog_14_method_78_code 26 = .ok (.lconst 0, 1) := by decide +kernel
theorem dM_common_27 : decode prog_14_method_78_code 27 = .ok (.aload_n 0, 1) := by decide +kernel
theorem dM_common_28 : decode prog_14_method_78_code 28 = .ok (.getfield 386, 3) := by decide +kernel
theorem dM_common_31 : decode prog_14_method_78_code 31 = .ok (.iconst (1), 1) := by decide +kernel
theorem dM_common_32 : decode prog_14_method_78_code 32 = .ok (.isub, 1) := by decide +kernel
theorem dM_common_33 : decode prog_14_method_78_code 33 = .ok (.i2l, 1) := by decide +kernel
theorem dM_common_34 : decode prog_14_method_78_code 34 = .ok (.invokestatic 196, 3) := by decide +kernel
theorem dM_common_37 : decode prog_14_method_78_code 37 = .ok (.ifCond .eq (12), 3) := by decide +kernel
theorem dM_common_40 : decode prog_14_method_78_code 40 = .ok (.aload_n 0, 1) := by decide +kernel
theorem dM_common_41 : decode prog_14_method_78_code 41 = .ok (.getfield 122, 3) := by decide +kernel
theorem dM_common_44 : decode prog_14_method_78_code 44 = .ok (.iload_n 3, 1) := by decide +kernel
theorem dM_common_45 : decode prog_14_method_78_code 45 = .ok (.iaload, 1) := by decide +kernel
theorem dM_common_46 : decode prog_14_method_78_code 46 = .ok (.goto (4), 3) := by decide +kernel
theorem dM_common_49 : decode prog_14_method_78_code 49 = .ok (.iconst (-1), 1) := by decide +kernel
theorem dM_common_50 : decode prog_14_method_78_code 50 = .ok (.ireturn, 1) := by decide +kernel
theorem dM_run_0 : decode prog_14_method_82_code 0 = .ok (.aload_n 0, 1) := by decide +kernel
theorem dM_run_1 : decode prog_14_method_82_code 1 = .ok (.iload_n 1, 1) := by decide +kernel
theorem dM_run_2 : decode prog_14_method_82_code 2 = .ok (.iload_n 2, 1) := by decide +kernel
theorem dM_run_3 : decode prog_14_method_82_code 3 = .ok (.invokevirtual 402, 3) := by decide +kernel
theorem dM_run_6 : decode prog_14_method_82_code 6 = .ok (.ifCond .ne (7), 3) := by decide +kernel
theorem dM_run_9 : decode prog_14_method_82_code 9 = .ok (.iconst (-1), 1) := by decide +kernel
theorem dM_run_10 : decode prog_14_method_82_code 10 = .ok (.goto (17), 3) := by decide +kernel
theorem dM_run_13 : decode prog_14_method_82_code 13 = .ok (.aload_n 0, 1) := by decide +kernel
theorem dM_run_14 : decode prog_14_method_82_code 14 = .ok (.iload_n 1, 1) := by decide +kernel
theorem dM_run_15 : decode prog_14_method_82_code 15 = .ok (.iload_n 2, 1) := by decide +kernel
theorem dM_run_16 : decode prog_14_method_82_code 16 = .ok (.invokevirtual 405, 3) := by decide +kernel
theorem dM_run_19 : decode prog_14_method_82_code 19 = .ok (.ifCond .eq (7), 3) := by decide +kernel
theorem dM_run_22 : decode prog_14_method_82_code 22 = .ok (.iconst (1), 1) := by decide +kernel
theorem dM_run_23 : decode prog_14_method_82_code 23 = .ok (.goto (4), 3) := by decide +kernel
theorem dM_run_26 : decode prog_14_method_82_code 26 = .ok (.iconst (0), 1) := by decide +kernel
theorem dM_run_27 : decode prog_14_method_82_code 27 = .ok (.ireturn, 1) := by decide +kernel
theorem dM_areSteps_0 : decode prog_14_method_79_code 0 = .ok (.iload_n 2, 1) := by decide +kernel
theorem dM_areSteps_1 : decode prog_14_method_79_code 1 = .ok (.i2l, 1) := by decide +kernel
theorem dM_areSteps_2 : decode prog_14_method_79_code 2 = .ok (.ldc2_w 395, 3) := by decide +kernel
theorem dM_areSteps_5 : decode prog_14_method_79_code 5 = .ok (.ldc2_w 400, 3) := by decide +kernel
theorem dM_areSteps_8 : decode prog_14_method_79_code 8 = .ok (.invokestatic 196, 3) := by decide +kernel
theorem dM_areSteps_11 : decode prog_14_method_79_code 11 = .ok (.ifCond .eq (25), 3) := by decide +kernel
theorem dM_areSteps_14 : decode prog_14_method_79_code 14 = .ok (.aload_n 0, 1) := by decide +kernel
theorem dM_areSteps_15 : decode prog_14_method_79_code 15 = .ok (.iload_n 1, 1) := by decide +kernel
theorem dM_areSteps_16 : decode prog_14_method_79_code 16 = .ok (.invokevirtual 368, 3) := by decide +kernel
theorem dM_areSteps_19 : decode prog_14_method_79_code 19 = .ok (.ifCond .eq (17), 3) := by decide +kernel
theorem dM_areSteps_22 : decode prog_14_method_79_code 22 = .ok (.iload_n 1, 1) := by decide +kernel
theorem dM_areSteps_23 : decode prog_14_method_79_code 23 = .ok (.iload_n 2, 1) := by decide +kernel
theorem dM_areSteps_24 : decode prog_14_method_79_code 24 = .ok (.iadd, 1) := by decide +kernel
theorem dM_areSteps_25 : decode prog_14_method_79_code 25 = .ok (.aload_n 0, 1) := by decide +kernel
theorem dM_areSteps_26 : decode prog_14_method_79_code 26 = .ok (.invokevirtual 294, 3) := by decide +kernel
theorem dM_areSteps_29 : decode prog_14_method_79_code 29 = .ok (.if_icmp .gt (7), 3) := by decide +kernel
theorem dM_areSteps_32 : decode prog_14_method_79_code 32 = .ok (.iconst (1), 1) := by decide +kernel
theorem dM_areSteps_33 : decode prog_14_method_79_code 33 = .ok (.goto (4), 3) := by decide +kernel
theorem dM_areSteps_36 : decode prog_14_method_79_code 36 = .ok (.iconst (0), 1) := by decide +kernel
theorem dM_areSteps_37 : decode prog_14_method_79_code 37 = .ok (.ireturn, 1) := by decide +kernel
theorem dM_isRun_0 : decode prog_14_method_80_code 0 = .ok (.iconst (0), 1) := by decide +kernel
theorem dM_isRun_1 : decode prog_14_method_80_code 1 = .ok (.istore_n 3, 1) := by decide +kernel
theorem dM_isRun_2 : decode prog_14_method_80_code 2 = .ok (.iload_n 3, 1) := by decide +kernel
theorem dM_isRun_3 : decode prog_14_method_80_code 3 = .ok (.aload_n 0, 1) := by decide +kernel
theorem dM_isRun_4 : decode prog_14_method_80_code 4 = .ok (.invokevirtual 294, 3) := by decide +kernel
theorem dM_isRun_7 : decode prog_14_method_80_code 7 = .ok (.if_icmp .ge (67), 3) := by decide +kernel
theorem dM_isRun_10 : decode prog_14_method_80_code 10 = .ok (.iload_n 3, 1) := by decide +kernel
theorem dM_isRun_11 : decode prog_14_method_80_code 11 = .ok (.iload_n 1, 1) := by decide +kernel
theorem dM_isRun_12 : decode prog_14_method_80_code 12 = .ok (.if_icmp .lt (13), 3) := by decide +kernel
theorem dM_isRun_15 : decode prog_14_method_80_code 15 = .ok (.iload_n 3, 1) := by decide +kernel
theorem dM_isRun_16 : decode prog_14_method_80_code 16 = .ok (.iload_n 1, 1) := by decide +kernel
theorem dM_isRun_17 : decode prog_14_method_80_code 17 = .ok (.iload_n 2, 1) := by decide +kernel
theorem dM_isRun_18 : decode prog_14_method_80_code 18 = .ok (.iadd, 1) := by decide +kernel
theorem dM_isRun_19 : decode prog_14_method_80_code 19 = .ok (.if_icmp .ge (6), 3) := by decide +kernel
theorem dM_isRun_22 : decode prog_14_method_80_code 22 = .ok (.goto (46), 3) := by decide +kernel
theorem dM_isRun_25 : decode prog_14_method_80_code 25 = .ok (.iconst (0), 1) := by decide +kernel
theorem dM_isRun_26 : decode prog_14_method_80_code 26 = .ok (.istore 4, 2) := by decide +kernel
theorem dM_isRun_28 : decode prog_14_method_80_code 28 = .ok (.iload 4, 2) := by decide +kernel
theorem dM_isRun_30 : decode prog_14_method_80_code 30 = .ok (.aload_n 0, 1) := by decide +kernel
theorem dM_isRun_31 : decode prog_14_method_80_code 31 = .ok (.iload_n 3, 1) := by decide +kernel
theorem dM_isRun_32 : decode prog_14_method_80_code 32 = .ok (.invokevirtual 328, 3) := by decide +kernel
theorem dM_isRun_35 : decode prog_14_method_80_code 35 = .ok (.if_icmp .ge (33), 3) := by decide +kernel
theorem dM_isRun_38 : decode prog_14_method_80_code 38 = .ok (.aload_n 0, 1) := by decide +kernel
theorem dM_isRun_39 : decode prog_14_method_80_code 39 = .ok (.iload_n 3, 1) := by decide +kernel
theorem dM_isRun_40 : decode prog_14_method_80_code 40 = .ok (.iload 4, 2) := by decide +kernel
theorem dM_isRun_42 : decode prog_14_method_80_code 42 = .ok (.invokevirtual 319, 3) := by decide +kernel
theorem dM_isRun_45 : decode prog_14_method_80_code 45 = .ok (.i2l, 1) := by decide +kernel
theorem dM_isRun_46 : decode prog_14_method_80_code 46 = .ok (.iload_n 1, 1) := by decide +kernel
theorem dM_isRun_47 : decode prog_14_method_80_code 47 = .ok (.i2l, 1) := by decide +kernel
theorem dM_isRun_48 : decode prog_14_method_80_code 48 = .ok (.iload_n 1, 1) := by decide +kernel
theorem dM_isRun_49 : decode prog_14_method_80_code 49 = .ok (.iload_n 2, 1) := by decide +kernel
theorem dM_isRun_50 : decode prog_14_method_80_code 50 = .ok (.iadd, 1) := by decide +kernel
theorem dM_isRun_51 : decode prog_14_method_80_code 51 = .ok (.iconst (2), 1) := by decide +kernel
theorem dM_isRun_52 : decode prog_14_method_80_code 52 = .ok (.isub, 1) := by decide +kernel
theorem dM_isRun_53 : decode prog_14_method_80_code 53 = .ok (.i2l, 1) := by decide +kernel
theorem dM_isRun_54 : decode prog_14_method_80_code 54 = .ok (.invokestatic 196, 3) := by decide +kernel
theorem dM_isRun_57 : decode prog_14_method_80_code 57 = .ok (.ifCond .eq (5), 3) := by decide +kernel
theorem dM_isRun_60 : decode prog_14_method_80_code 60 = .ok (.iconst (0), 1) := by decide +kernel
theorem dM_isRun_61 : decode prog_14_method_80_code 61 = .ok (.ireturn, 1) := by decide +kernel
theorem dM_isRun_62 : decode prog_14_method_80_code 62 = .ok (.iinc 4 (1), 3) := by decide +kernel
theorem dM_isRun_65 : decode prog_14_method_80_code 65 = .ok (.goto (-37), 3) := by decide +kernel
theorem dM_isRun_68 : decode prog_14_method_80_code 68 = .ok (.iinc 3 (1), 3) := by decide +kernel
theorem dM_isRun_71 : decode prog_14_method_80_code 71 = .ok (.goto (-69), 3) := by decide +kernel
theorem dM_isRun_74 : decode prog_14_method_80_code 74 = .ok (.iconst (1), 1) := by decide +kernel
theorem dM_isRun_75 : decode prog_14_method_80_code 75 = .ok (.ireturn, 1) := by decide +kernel
theorem dM_alike_0 : decode prog_14_method_84_code 0 = .ok (.aload_n 0, 1) := by decide +kernel
theorem dM_alike_1 : decode prog_14_method_84_code 1 = .ok (.iload_n 1, 1) := by decide +kernel
theorem dM_alike_2 : decode prog_14_method_84_code 2 = .ok (.iload_n 2, 1) := by decide +kernel
theorem dM_alike_3 : decode prog_14_method_84_code 3 = .ok (.iload_n 3, 1) := by decide +kernel
theorem dM_alike_4 : decode prog_14_method_84_code 4 = .ok (.invokevirtual 408, 3) := by decide +kernel
theorem dM_alike_7 : decode prog_14_method_84_code 7 = .ok (.ifCond .ne (7), 3) := by decide +kernel
theorem dM_alike_10 : decode prog_14_method_84_code 10 = .ok (.iconst (-1), 1) := by decide +kernel
theorem dM_alike_11 : decode prog_14_method_84_code 11 = .ok (.goto (18), 3) := by decide +kernel
theorem dM_alike_14 : decode prog_14_method_84_code 14 = .ok (.aload_n 0, 1) := by decide +kernel
theorem dM_alike_15 : decode prog_14_method_84_code 15 = .ok (.iload_n 1, 1) := by decide +kernel
theorem dM_alike_16 : decode prog_14_method_84_code 16 = .ok (.iload_n 2, 1) := by decide +kernel
theorem dM_alike_17 : decode prog_14_method_84_code 17 = .ok (.iload_n 3, 1) := by decide +kernel
theorem dM_alike_18 : decode prog_14_method_84_code 18 = .ok (.invokevirtual 411, 3) := by decide +kernel
theorem dM_alike_21 : decode prog_14_method_84_code 21 = .ok (.ifCond .eq (7), 3) := by decide +kernel
theorem dM_alike_24 : decode prog_14_method_84_code 24 = .ok (.iconst (1), 1) := by decide +kernel
theorem dM_alike_25 : decode prog_14_method_84_code 25 = .ok (.goto (4), 3) := by decide +kernel
theorem dM_alike_28 : decode prog_14_method_84_code 28 = .ok (.iconst (0), 1) := by decide +kernel
theorem dM_alike_29 : decode prog_14_method_84_code 29 = .ok (.ireturn, 1) := by decide +kernel
theorem dM_areRuns_0 : decode prog_14_method_83_code 0 = .ok (.aload_n 0, 1) := by decide +kernel
theorem dM_areRuns_1 : decode prog_14_method_83_code 1 = .ok (.iload_n 1, 1) := by decide +kernel
theorem dM_areRuns_2 : decode prog_14_method_83_code 2 = .ok (.iload_n 3, 1) := by decide +kernel
theorem dM_areRuns_3 : decode prog_14_method_83_code 3 = .ok (.invokevirtual 402, 3) := by decide +kernel
theorem dM_areRuns_6 : decode prog_14_method_83_code 6 = .ok (.ifCond .eq (48), 3) := by decide +kernel
theorem dM_areRuns_9 : decode prog_14_method_83_code 9 = .ok (.aload_n 0, 1) := by decide +kernel
theorem dM_areRuns_10 : decode prog_14_method_83_code 10 = .ok (.iload_n 2, 1) := by decide +kernel
theorem dM_areRuns_11 : decode prog_14_method_83_code 11 = .ok (.iload_n 3, 1) := by decide +kernel
theorem dM_areRuns_12 : decode prog_14_method_83_code 12 = .ok (.invokevirtual 402, 3) := by decide +kernel
theorem dM_areRuns_15 : decode prog_14_method_83_code 15 = .ok (.ifCond .eq (39), 3) := by decide +kernel
theorem dM_areRuns_18 : decode prog_14_method_83_code 18 = .ok (.aload_n 0, 1) := by decide +kernel
theorem dM_areRuns_19 : decode prog_14_method_83_code 19 = .ok (.iload_n 1, 1) := by decide +kernel
theorem dM_areRuns_20 : decode prog_14_method_83_code 20 = .ok (.iload_n 3, 1) := by decide +kernel
theorem dM_areRuns_21 : decode prog_14_method_83_code 21 = .ok (.invokevirtual 405, 3) := by decide +kernel
theorem dM_areRuns_24 : decode prog_14_method_83_code 24 = .ok (.ifCond .eq (30), 3) := by decide +kernel
theorem dM_areRuns_27 : decode prog_14_method_83_code 27 = .ok (.aload_n 0, 1) := by decide +kernel
theorem dM_areRuns_28 : decode prog_14_method_83_code 28 = .ok (.iload_n 2, 1) := by decide +kernel
theorem dM_areRuns_29 : decode prog_14_method_83_code 29 = .ok (.iload_n 3, 1) := by decide +kernel
theorem dM_areRuns_30 : decode prog_14_method_83_code 30 = .ok (.invokevirtual 405, 3) := by decide +kernel
theorem dM_areRuns_33 : decode prog_14_method_83_code 33 = .ok (.ifCond .eq (21), 3) := by decide +kernel
theorem dM_areRuns_36 : decode prog_14_method_83_code 36 = .ok (.iload_n 1, 1) := by decide +kernel
theorem dM_areRuns_37 : decode prog_14_method_83_code 37 = .ok (.iload_n 3, 1) := by decide +kernel
theorem dM_areRuns_38 : decode prog_14_method_83_code 38 = .ok (.iadd, 1) := by decide +kernel
theorem dM_areRuns_39 : decode prog_14_method_83_code 39 = .ok (.iload_n 2, 1) := by decide +kernel
theorem dM_areRuns_40 : decode prog_14_method_83_code 40 = .ok (.if_icmp .le (10), 3) := by decide +kernel
theorem dM_areRuns_43 : decode prog_14_method_83_code 43 = .ok (.iload_n 2, 1) := by decide +kernel
theorem dM_areRuns_44 : decode prog_14_method_83_code 44 = .ok (.iload_n 3, 1) := by decide +kernel
theorem dM_areRuns_45 : decode prog_14_method_83_code 45 = .ok (.iadd, 1) := by decide +kernel
theorem dM_areRuns_46 : decode prog_14_method_83_code 46 = .ok (.iload_n 1, 1) := by decide +kernel
theorem dM_areRuns_47 : decode prog_14_method_83_code 47 = .ok (.if_icmp .gt (7), 3) := by decide +kernel
theorem dM_areRuns_50 : decode prog_14_method_83_code 50 = .ok (.iconst (1), 1) := by decide +kernel
theorem dM_areRuns_51 : decode prog_14_method_83_code 51 = .ok (.goto (4), 3) := by decide +kernel
theorem dM_areRuns_54 : decode prog_14_method_83_code 54 = .ok (.iconst (0), 1) := by decide +kernel
theorem dM_areRuns_55 : decode prog_14_method_83_code 55 = .ok (.ireturn, 1) := by decide +kernel
theorem dM_areAlike_0 : decode prog_14_method_81_code 0 = .ok (.iload_n 1, 1) := by decide +kernel
theorem dM_areAlike_1 : decode prog_14_method_81_code 1 = .ok (.iload_n 2, 1) := by decide +kernel
theorem dM_areAlike_2 : decode prog_14_method_81_code 2 = .ok (.if_icmp .ge (7), 3) := by decide +kernel
theorem dM_areAlike_5 : decode prog_14_method_81_code 5 = .ok (.iload_n 1, 1) := by decide +kernel
theorem dM_areAlike_6 : decode prog_14_method_81_code 6 = .ok (.goto (4), 3) := by decide +kernel
theorem dM_areAlike_9 : decode prog_14_method_81_code 9 = .ok (.iload_n 2, 1) := by decide +kernel
theorem dM_areAlike_10 : decode prog_14_method_81_code 10 = .ok (.istore 4, 2) := by decide +kernel
theorem dM_areAlike_12 : decode prog_14_method_81_code 12 = .ok (.iconst (0), 1) := by decide +kernel
theorem dM_areAlike_13 : decode prog_14_method_81_code 13 = .ok (.istore 5, 2) := by decide +kernel
theorem dM_areAlike_15 : decode prog_14_method_81_code 15 = .ok (.iload 5, 2) := by decide +kernel
theorem dM_areAlike_17 : decode prog_14_method_81_code 17 = .ok (.iload_n 3, 1) := by decide +kernel
theorem dM_areAlike_18 : decode prog_14_method_81_code 18 = .ok (.if_icmp .ge (109), 3) := by decide +kernel
theorem dM_areAlike_21 : decode prog_14_method_81_code 21 = .ok (.aload_n 0, 1) := by decide +kernel
theorem dM_areAlike_22 : decode prog_14_method_81_code 22 = .ok (.iload_n 1, 1) := by decide +kernel
theorem dM_areAlike_23 : decode prog_14_method_81_code 23 = .ok (.iload 5, 2) := by decide +kernel
theorem dM_areAlike_25 : decode prog_14_method_81_code 25 = .ok (.iadd, 1) := by decide +kernel
theorem dM_areAlike_26 : decode prog_14_method_81_code 26 = .ok (.invokevirtual 300, 3) := by decide +kernel
theorem dM_areAlike_29 : decode prog_14_method_81_code 29 = .ok (.aload_n 0, 1) := by decide +kernel
theorem dM_areAlike_30 : decode prog_14_method_81_code 30 = .ok (.iload_n 2, 1) := by decide +kernel
theorem dM_areAlike_31 : decode prog_14_method_81_code 31 = .ok (.iload 5, 2) := by decide +kernel
theorem dM_areAlike_33 : decode prog_14_method_81_code 33 = .ok (.iadd, 1) := by decide +kernel
theorem dM_areAlike_34 : decode prog_14_method_81_code 34 = .ok (.invokevirtual 300, 3) := by decide +kernel
theorem dM_areAlike_37 : decode prog_14_method_81_code 37 = .ok (.if_icmp .eq (5), 3) := by decide +kernel
theorem dM_areAlike_40 : decode prog_14_method_81_code 40 = .ok (.iconst (0), 1) := by decide +kernel
theorem dM_areAlike_41 : decode prog_14_method_81_code 41 = .ok (.ireturn, 1) := by decide +kernel
theorem dM_areAlike_42 : decode prog_14_method_81_code 42 = .ok (.iconst (0), 1) := by decide +kernel
theorem dM_areAlike_43 : decode prog_14_method_81_code 43 = .ok (.istore 6, 2) := by decide +kernel
theorem dM_areAlike_45 : decode prog_14_method_81_code 45 = .ok (.iload 6, 2) := by decide +kernel
theorem dM_areAlike_47 : decode prog_14_method_81_code 47 = .ok (.aload_n 0, 1) := by decide +kernel
theorem dM_areAlike_48 : decode prog_14_method_81_code 48 = .ok (.iload_n 1, 1) := by decide +kernel
theorem dM_areAlike_49 : decode prog_14_method_81_code 49 = .ok (.iload 5, 2) := by decide +kernel
theorem dM_areAlike_51 : decode prog_14_method_81_code 51 = .ok (.iadd, 1) := by decide +kernel
theorem dM_areAlike_52 : decode prog_14_method_81_code 52 = .ok (.invokevirtual 328, 3) := by decide +kernel
theorem dM_areAlike_55 : decode prog_14_method_81_code 55 = .ok (.if_icmp .ge (66), 3) := by decide +kernel
theorem dM_areAlike_58 : decode prog_14_method_81_code 58 = .ok (.aload_n 0, 1) := by decide +kernel
theorem dM_areAlike_59 : decode prog_14_method_81_code 59 = .ok (.iload_n 1, 1) := by decide +kernel
theorem dM_areAlike_60 : decode prog_14_method_81_code 60 = .ok (.iload 5, 2) := by decide +kernel
theorem dM_areAlike_62 : decode prog_14_method_81_code 62 = .ok (.iadd, 1) := by decide +kernel
theorem dM_areAlike_63 : decode prog_14_method_81_code 63 = .ok (.iload 6, 2) := by decide +kernel
theorem dM_areAlike_65 : decode prog_14_method_81_code 65 = .ok (.invokevirtual 319, 3) := by decide +kernel
theorem dM_areAlike_68 : decode prog_14_method_81_code 68 = .ok (.istore 7, 2) := by decide +kernel
theorem dM_areAlike_70 : decode prog_14_method_81_code 70 = .ok (.aload_n 0, 1) := by decide +kernel
theorem dM_areAlike_71 : decode prog_14_method_81_code 71 = .ok (.iload_n 2, 1) := by decide +kernel
theorem dM_areAlike_72 : decode prog_14_method_81_code 72 = .ok (.iload 5, 2) := by decide +kernel
theorem dM_areAlike_74 : decode prog_14_method_81_code 74 = .ok (.iadd, 1) := by decide +kernel
theorem dM_areAlike_75 : decode prog_14_method_81_code 75 = .ok (.iload 6, 2) := by decide +kernel
theorem dM_areAlike_77 : decode prog_14_method_81_code 77 = .ok (.invokevirtual 319, 3) := by decide +kernel
theorem dM_areAlike_80 : decode prog_14_method_81_code 80 = .ok (.istore 8, 2) := by decide +kernel
theorem dM_areAlike_82 : decode prog_14_method_81_code 82 = .ok (.iload 7, 2) := by decide +kernel
theorem dM_areAlike_84 : decode prog_14_method_81_code 84 = .ok (.iload_n 1, 1) := by decide +kernel
theorem dM_areAlike_85 : decode prog_14_method_81_code 85 = .ok (.if_icmp .lt (14), 3) := by decide +kernel
theorem dM_areAlike_88 : decode prog_14_method_81_code 88 = .ok (.iload 7, 2) := by decide +kernel
theorem dM_areAlike_90 : decode prog_14_method_81_code 90 = .ok (.iload_n 1, 1) := by decide +kernel
theorem dM_areAlike_91 : decode prog_14_method_81_code 91 = .ok (.isub, 1) := by decide +kernel
theorem dM_areAlike_92 : decode prog_14_method_81_code 92 = .ok (.iload 8, 2) := by decide +kernel
theorem dM_areAlike_94 : decode prog_14_method_81_code 94 = .ok (.iload_n 2, 1) := by decide +kernel
theorem dM_areAlike_95 : decode prog_14_method_81_code 95 = .ok (.isub, 1) := by decide +kernel
theorem dM_areAlike_96 : decode prog_14_method_81_code 96 = .ok (.if_icmp .eq (19), 3) := by decide +kernel
theorem dM_areAlike_99 : decode prog_14_method_81_code 99 = .ok (.iload 7, 2) := by decide +kernel
theorem dM_areAlike_101 : decode prog_14_method_81_code 101 = .ok (.iload 4, 2) := by decide +kernel
theorem dM_areAlike_103 : decode prog_14_method_81_code 103 = .ok (.if_icmp .ge (10), 3) := by decide +kernel
theorem dM_areAlike_106 : decode prog_14_method_81_code 106 = .ok (.iload 8, 2) := by decide +kernel
theorem dM_areAlike_108 : decode prog_14_method_81_code 108 = .ok (.iload 4, 2) := by decide +kernel
theorem dM_areAlike_110 : decode prog_14_method_81_code 110 = .ok (.if_icmp .lt (5), 3) := by decide +kernel
theorem dM_areAlike_113 : decode prog_14_method_81_code 113 = .ok (.iconst (0), 1) := by decide +kernel
theorem dM_areAlike_114 : decode prog_14_method_81_code 114 = .ok (.ireturn, 1) := by decide +kernel
theorem dM_areAlike_115 : decode prog_14_method_81_code 115 = .ok (.iinc 6 (1), 3) := by decide +kernel
theorem dM_areAlike_118 : decode prog_14_method_81_code 118 = .ok (.goto (-73), 3) := by decide +kernel
theorem dM_areAlike_121 : decode prog_14_method_81_code 121 = .ok (.iinc 5 (1), 3) := by decide +kernel
theorem dM_areAlike_124 : decode prog_14_method_81_code 124 = .ok (.goto (-109), 3) := by decide +kernel
theorem dM_areAlike_127 : decode prog_14_method_81_code 127 = .ok (.iconst (1), 1) := by decide +kernel
theorem dM_areAlike_128 : decode prog_14_method_81_code 128 = .ok (.ireturn, 1) := by decide +kernel
theorem dM_worth_0 : decode prog_14_method_87_code 0 = .ok (.aload_n 0, 1) := by decide +kernel
theorem dM_worth_1 : decode prog_14_method_87_code 1 = .ok (.iload_n 1, 1) := by decide +kernel
theorem dM_worth_2 : decode prog_14_method_87_code 2 = .ok (.iload_n 2, 1) := by decide +kernel
theorem dM_worth_3 : decode prog_14_method_87_code 3 = .ok (.invokevirtual 414, 3) := by decide +kernel
theorem dM_worth_6 : decode prog_14_method_87_code 6 = .ok (.ifCond .eq (12), 3) := by decide +kernel
theorem dM_worth_9 : decode prog_14_method_87_code 9 = .ok (.aload_n 0, 1) := by decide +kernel
theorem dM_worth_10 : decode prog_14_method_87_code 10 = .ok (.iload_n 1, 1) := by decide +kernel
theorem dM_worth_11 : decode prog_14_method_87_code 11 = .ok (.iload_n 2, 1) := by decide +kernel
theorem dM_worth_12 : decode prog_14_method_87_code 12 = .ok (.invokevirtual 417, 3) := by decide +kernel
theorem dM_worth_15 : decode prog_14_method_87_code 15 = .ok (.goto (4), 3) := by decide +kernel
theorem dM_worth_18 : decode prog_14_method_87_code 18 = .ok (.iconst (-1), 1) := by decide +kernel
theorem dM_worth_19 : decode prog_14_method_87_code 19 = .ok (.ireturn, 1) := by decide +kernel
theorem dM_isNew_0 : decode prog_14_method_85_code 0 = .ok (.aload_n 0, 1) := by decide +kernel
theorem dM_isNew_1 : decode prog_14_method_85_code 1 = .ok (.iload_n 1, 1) := by decide +kernel
theorem dM_isNew_2 : decode prog_14_method_85_code 2 = .ok (.iload_n 2, 1) := by decide +kernel
theorem dM_isNew_3 : decode prog_14_method_85_code 3 = .ok (.invokevirtual 402, 3) := by decide +kernel
theorem dM_isNew_6 : decode prog_14_method_85_code 6 = .ok (.ifCond .eq (12), 3) := by decide +kernel
theorem dM_isNew_9 : decode prog_14_method_85_code 9 = .ok (.aload_n 0, 1) := by decide +kernel
theorem dM_isNew_10 : decode prog_14_method_85_code 10 = .ok (.iload_n 1, 1) := by decide +kernel
theorem dM_isNew_11 : decode prog_14_method_85_code 11 = .ok (.iload_n 2, 1) := by decide +kernel
theorem dM_isNew_12 : decode prog_14_method_85_code 12 = .ok (.invokevirtual 405, 3) := by decide +kernel
theorem dM_isNew_15 : decode prog_14_method_85_code 15 = .ok (.ifCond .ne (5), 3) := by decide +kernel
theorem dM_isNew_18 : decode prog_14_method_85_code 18 = .ok (.iconst (0), 1) := by decide +kernel
theorem dM_isNew_19 : decode prog_14_method_85_code 19 = .ok (.ireturn, 1) := by decide +kernel
theorem dM_isNew_20 : decode prog_14_method_85_code 20 = .ok (.iconst (0), 1) := by decide +kernel
theorem dM_isNew_21 : decode prog_14_method_85_code 21 = .ok (.istore_n 3, 1) := by decide +kernel
theorem dM_isNew_22 : decode prog_14_method_85_code 22 = .ok (.iload_n 3, 1) := by decide +kernel
theorem dM_isNew_23 : decode prog_14_method_85_code 23 = .ok (.iload_n 2, 1) := by decide +kernel
theorem dM_isNew_24 : decode prog_14_method_85_code 24 = .ok (.iadd, 1) := by decide +kernel
theorem dM_isNew_25 : decode prog_14_method_85_code 25 = .ok (.iload_n 1, 1) := by decide +kernel
theorem dM_isNew_26 : decode prog_14_method_85_code 26 = .ok (.if_icmp .gt (30), 3) := by decide +kernel
theorem dM_isNew_29 : decode prog_14_method_85_code 29 = .ok (.aload_n 0, 1) := by decide +kernel
theorem dM_isNew_30 : decode prog_14_method_85_code 30 = .ok (.iload_n 3, 1) := by decide +kernel
theorem dM_isNew_31 : decode prog_14_method_85_code 31 = .ok (.iload_n 2, 1) := by decide +kernel
theorem dM_isNew_32 : decode prog_14_method_85_code 32 = .ok (.invokevirtual 405, 3) := by decide +kernel
theorem dM_isNew_35 : decode prog_14_method_85_code 35 = .ok (.ifCond .eq (15), 3) := by decide +kernel
theorem dM_isNew_38 : decode prog_14_method_85_code 38 = .ok (.aload_n 0, 1) := by decide +kernel
theorem dM_isNew_39 : decode prog_14_method_85_code 39 = .ok (.iload_n 3, 1) := by decide +kernel
theorem dM_isNew_40 : decode prog_14_method_85_code 40 = .ok (.iload_n 1, 1) := by decide +kernel
theorem dM_isNew_41 : decode prog_14_method_85_code 41 = .ok (.iload_n 2, 1) := by decide +kernel
theorem dM_isNew_42 : decode prog_14_method_85_code 42 = .ok (.invokevirtual 411, 3) := by decide +kernel
theorem dM_isNew_45 : decode prog_14_method_85_code 45 = .ok (.ifCond .eq (5), 3) := by decide +kernel
theorem dM_isNew_48 : decode prog_14_method_85_code 48 = .ok (.iconst (0), 1) := by decide +kernel
theorem dM_isNew_49 : decode prog_14_method_85_code 49 = .ok (.ireturn, 1) := by decide +kernel
theorem dM_isNew_50 : decode prog_14_method_85_code 50 = .ok (.iinc 3 (1), 3) := by decide +kernel
theorem dM_isNew_53 : decode prog_14_method_85_code 53 = .ok (.goto (-31), 3) := by decide +kernel
theorem dM_isNew_56 : decode prog_14_method_85_code 56 = .ok (.iconst (1), 1) := by decide +kernel
theorem dM_isNew_57 : decode prog_14_method_85_code 57 = .ok (.ireturn, 1) := by decide +kernel
theorem dM_worthOf_0 : decode prog_14_method_86_code 0 = .ok (.iconst (1), 1) := by decide +kernel
theorem dM_worthOf_1 : decode prog_14_method_86_code 1 = .ok (.istore_n 3, 1) := by decide +kernel
theorem dM_worthOf_2 : decode prog_14_method_86_code 2 = .ok (.iload_n 1, 1) := by decide +kernel
theorem dM_worthOf_3 : decode prog_14_method_86_code 3 = .ok (.iload_n 2, 1) := by decide +kernel
theorem dM_worthOf_4 : decode prog_14_method_86_code 4 = .ok (.iadd, 1) := by decide +kernel
theorem dM_worthOf_5 : decode prog_14_method_86_code 5 = .ok (.istore 4, 2) := by decide +kernel
theorem dM_worthOf_7 : decode prog_14_method_86_code 7 = .ok (.iload 4, 2) := by decide +kernel
theorem dM_worthOf_9 : decode prog_14_method_86_code 9 = .ok (.istore 5, 2) := by decide +kernel
theorem dM_worthOf_11 : decode prog_14_method_86_code 11 = .ok (.iload 5, 2) := by decide +kernel
theorem dM_worthOf_13 : decode prog_14_method_86_code 13 = .ok (.iload_n 2, 1) := by decide +kernel
theorem dM_worthOf_14 : decode prog_14_method_86_code 14 = .ok (.iadd, 1) := by decide +kernel
theorem dM_worthOf_15 : decode prog_14_method_86_code 15 = .ok (.aload_n 0, 1) := by decide +kernel
theorem dM_worthOf_16 : decode prog_14_method_86_code 16 = .ok (.invokevirtual 294, 3) := by decide +kernel
theorem dM_worthOf_19 : decode prog_14_method_86_code 19 = .ok (.if_icmp .gt (49), 3) := by decide +kernel
theorem dM_worthOf_22 : decode prog_14_method_86_code 22 = .ok (.iload 5, 2) := by decide +kernel
theorem dM_worthOf_24 : decode prog_14_method_86_code 24 = .ok (.iload 4, 2) := by decide +kernel
theorem dM_worthOf_26 : decode prog_14_method_86_code 26 = .ok (.if_icmp .lt (36), 3) := by decide +kernel
theorem dM_worthOf_29 : decode prog_14_method_86_code 29 = .ok (.aload_n 0, 1) := by decide +kernel
theorem dM_worthOf_30 : decode prog_14_method_86_code 30 = .ok (.iload 5, 2) := by decide +kernel
theorem dM_worthOf_32 : decode prog_14_method_86_code 32 = .ok (.iload_n 2, 1) := by decide +kernel
theorem dM_worthOf_33 : decode prog_14_method_86_code 33 = .ok (.invokevirtual 405, 3) := by decide +kernel
theorem dM_worthOf_36 : decode prog_14_method_86_code 36 = .ok (.ifCond .eq (26), 3) := by decide +kernel
theorem dM_worthOf_39 : decode prog_14_method_86_code 39 = .ok (.aload_n 0, 1) := by decide +kernel
theorem dM_worthOf_40 : decode prog_14_method_86_code 40 = .ok (.iload_n 1, 1) := by decide +kernel
theorem dM_worthOf_41 : decode prog_14_method_86_code 41 = .ok (.iload 5, 2) := by decide +kernel
theorem dM_worthOf_43 : decode prog_14_method_86_code 43 = .ok (.iload_n 2, 1) := by decide +kernel
theorem dM_worthOf_44 : decode prog_14_method_86_code 44 = .ok (.invokevirtual 411, 3) := by decide +kernel
theorem dM_worthOf_47 : decode prog_14_method_86_code 47 = .ok (.ifCond .ne (6), 3) := by decide +kernel
theorem dM_worthOf_50 : decode prog_14_method_86_code 50 = .ok (.goto (12), 3) := by decide +kernel
theorem dM_worthOf_53 : decode prog_14_method_86_code 53 = .ok (.iinc 3 (1), 3) := by decide +kernel
theorem dM_worthOf_56 : decode prog_14_method_86_code 56 = .ok (.iload 5, 2) := by decide +kernel
theorem dM_worthOf_58 : decode prog_14_method_86_code 58 = .ok (.iload_n 2, 1) := by decide +kernel
theorem dM_worthOf_59 : decode prog_14_method_86_code 59 = .ok (.iadd, 1) := by decide +kernel
theorem dM_worthOf_60 : decode prog_14_method_86_code 60 = .ok (.istore 4, 2) := by decide +kernel
theorem dM_worthOf_62 : decode prog_14_method_86_code 62 = .ok (.iinc 5 (1), 3) := by decide +kernel
theorem dM_worthOf_65 : decode prog_14_method_86_code 65 = .ok (.goto (-54), 3) := by decide +kernel
theorem dM_worthOf_68 : decode prog_14_method_86_code 68 = .ok (.iload_n 3, 1) := by decide +kernel
theorem dM_worthOf_69 : decode prog_14_method_86_code 69 = .ok (.iload_n 2, 1) := by decide +kernel
theorem dM_worthOf_70 : decode prog_14_method_86_code 70 = .ok (.iconst (1), 1) := by decide +kernel
theorem dM_worthOf_71 : decode prog_14_method_86_code 71 = .ok (.isub, 1) := by decide +kernel
theorem dM_worthOf_72 : decode prog_14_method_86_code 72 = .ok (.imul, 1) := by decide +kernel
theorem dM_worthOf_73 : decode prog_14_method_86_code 73 = .ok (.iload_n 2, 1) := by decide +kernel
theorem dM_worthOf_74 : decode prog_14_method_86_code 74 = .ok (.isub, 1) := by decide +kernel
theorem dM_worthOf_75 : decode prog_14_method_86_code 75 = .ok (.ireturn, 1) := by decide +kernel
theorem dM_lemma_0 : decode prog_14_method_88_code 0 = .ok (.iload_n 1, 1) := by decide +kernel
theorem dM_lemma_1 : decode prog_14_method_88_code 1 = .ok (.i2l, 1) := by decide +kernel
theorem dM_lemma_2 : decode prog_14_method_88_code 2 = .ok (.lconst 0, 1) := by decide +kernel
theorem dM_lemma_3 : decode prog_14_method_88_code 3 = .ok (.ldc2_w 395, 3) := by decide +kernel
theorem dM_lemma_6 : decode prog_14_method_88_code 6 = .ok (.invokestatic 196, 3) := by decide +kernel
theorem dM_lemma_9 : decode prog_14_method_88_code 9 = .ok (.ifCond .ne (5), 3) := by decide +kernel
theorem dM_lemma_12 : decode prog_14_method_88_code 12 = .ok (.iconst (-1), 1) := by decide +kernel
theorem dM_lemma_13 : decode prog_14_method_88_code 13 = .ok (.ireturn, 1) := by decide +kernel
theorem dM_lemma_14 : decode prog_14_method_88_code 14 = .ok (.iconst (-1), 1) := by decide +kernel
theorem dM_lemma_15 : decode prog_14_method_88_code 15 = .ok (.istore_n 2, 1) := by decide +kernel
theorem dM_lemma_16 : decode prog_14_method_88_code 16 = .ok (.iconst (-1), 1) := by decide +kernel
theorem dM_lemma_17 : decode prog_14_method_88_code 17 = .ok (.istore_n 3, 1) := by decide +kernel
theorem dM_lemma_18 : decode prog_14_method_88_code 18 = .ok (.iconst (0), 1) := by decide +kernel
theorem dM_lemma_19 : decode prog_14_method_88_code 19 = .ok (.istore 4, 2) := by decide +kernel
theorem dM_lemma_21 : decode prog_14_method_88_code 21 = .ok (.iconst (0), 1) := by decide +kernel
theorem dM_lemma_22 : decode prog_14_method_88_code 22 = .ok (.istore 5, 2) := by decide +kernel
theorem dM_lemma_24 : decode prog_14_method_88_code 24 = .ok (.iload 5, 2) := by decide +kernel
theorem dM_lemma_26 : decode prog_14_method_88_code 26 = .ok (.aload_n 0, 1) := by decide +kernel
theorem dM_lemma_27 : decode prog_14_method_88_code 27 = .ok (.invokevirtual 294, 3) := by decide +kernel
theorem dM_lemma_30 : decode prog_14_method_88_code 30 = .ok (.if_icmp .ge (68), 3) := by decide +kernel
theorem dM_lemma_33 : decode prog_14_method_88_code 33 = .ok (.iconst (2), 1) := by decide +kernel
theorem dM_lemma_34 : decode prog_14_method_88_code 34 = .ok (.istore 6, 2) := by decide +kernel
theorem dM_lemma_36 : decode prog_14_method_88_code 36 = .ok (.iload 6, 2) := by decide +kernel
theorem dM_lemma_38 : decode prog_14_method_88_code 38 = .ok (.bipush (9), 2) := by decide +kernel
theorem dM_lemma_40 : decode prog_14_method_88_code 40 = .ok (.if_icmp .ge (52), 3) := by decide +kernel
theorem dM_lemma_43 : decode prog_14_method_88_code 43 = .ok (.aload_n 0, 1) := by decide +kernel
theorem dM_lemma_44 : decode prog_14_method_88_code 44 = .ok (.iload 5, 2) := by decide +kernel
theorem dM_lemma_46 : decode prog_14_method_88_code 46 = .ok (.iload 6, 2) := by decide +kernel
theorem dM_lemma_48 : decode prog_14_method_88_code 48 = .ok (.invokevirtual 414, 3) := by decide +kernel
theorem dM_lemma_51 : decode prog_14_method_88_code 51 = .ok (.ifCond .eq (35), 3) := by decide +kernel
theorem dM_lemma_54 : decode prog_14_method_88_code 54 = .ok (.aload_n 0, 1) := by decide +kernel
theorem dM_lemma_55 : decode prog_14_method_88_code 55 = .ok (.iload 5, 2) := by decide +kernel
theorem dM_lemma_57 : decode prog_14_method_88_code 57 = .ok (.iload 6, 2) := by decide +kernel
theorem dM_lemma_59 : decode prog_14_method_88_code 59 = .ok (.invokevirtual 417, 3) := by decide +kernel
theorem dM_lemma_62 : decode prog_14_method_88_code 62 = .ok (.iload 4, 2) := by decide +kernel
theorem dM_lemma_64 : decode prog_14_method_88_code 64 = .ok (.if_icmp .gt (6), 3) := by decide +kernel
theorem dM_lemma_67 : decode prog_14_method_88_code 67 = .ok (.goto (19), 3) := by decide +kernel
theorem dM_lemma_70 : decode prog_14_method_88_code 70 = .ok (.iload 5, 2) := by decide +kernel
theorem dM_lemma_72 : decode prog_14_method_88_code 72 = .ok (.istore_n 2, 1) := by decide +kernel
theorem dM_lemma_73 : decode prog_14_method_88_code 73 = .ok (.iload 6, 2) := by decide +kernel
theorem dM_lemma_75 : decode prog_14_method_88_code 75 = .ok (.istore_n 3, 1) := by decide +kernel
theorem dM_lemma_76 : decode prog_14_method_88_code 76 = .ok (.aload_n 0, 1) := by decide +kernel
theorem dM_lemma_77 : decode prog_14_method_88_code 77 = .ok (.iload 5, 2) := by decide +kernel
theorem dM_lemma_79 : decode prog_14_method_88_code 79 = .ok (.iload 6, 2) := by decide +kernel
theorem dM_lemma_81 : decode prog_14_method_88_code 81 = .ok (.invokevirtual 417, 3) := by decide +kernel
theorem dM_lemma_84 : decode prog_14_method_88_code 84 = .ok (.istore 4, 2) := by decide +kernel
theorem dM_lemma_86 : decode prog_14_method_88_code 86 = .ok (.iinc 6 (1), 3) := by decide +kernel
theorem dM_lemma_89 : decode prog_14_method_88_code 89 = .ok (.goto (-53), 3) := by decide +kernel
theorem dM_lemma_92 : decode prog_14_method_88_code 92 = .ok (.iinc 5 (1), 3) := by decide +kernel
theorem dM_lemma_95 : decode prog_14_method_88_code 95 = .ok (.goto (-71), 3) := by decide +kernel
theorem dM_lemma_98 : decode prog_14_method_88_code 98 = .ok (.iload_n 2, 1) := by decide +kernel
theorem dM_lemma_99 : decode prog_14_method_88_code 99 = .ok (.iconst (-1), 1) := by decide +kernel
theorem dM_lemma_100 : decode prog_14_method_88_code 100 = .ok (.if_icmp .ne (7), 3) := by decide +kernel
theorem dM_lemma_103 : decode prog_14_method_88_code 103 = .ok (.iconst (-1), 1) := by decide +kernel
theorem dM_lemma_104 : decode prog_14_method_88_code 104 = .ok (.goto (22), 3) := by decide +kernel
theorem dM_lemma_107 : decode prog_14_method_88_code 107 = .ok (.iload_n 1, 1) := by decide +kernel
theorem dM_lemma_108 : decode prog_14_method_88_code 108 = .ok (.ifCond .ne (7), 3) := by decide +kernel
theorem dM_lemma_111 : decode prog_14_method_88_code 111 = .ok (.iload_n 2, 1) := by decide +kernel
theorem dM_lemma_112 : decode prog_14_method_88_code 112 = .ok (.goto (14), 3) := by decide +kernel
theorem dM_lemma_115 : decode prog_14_method_88_code 115 = .ok (.iload_n 1, 1) := by decide +kernel
theorem dM_lemma_116 : decode prog_14_method_88_code 116 = .ok (.iconst (1), 1) := by decide +kernel
theorem dM_lemma_117 : decode prog_14_method_88_code 117 = .ok (.if_icmp .ne (7), 3) := by decide +kernel
theorem dM_lemma_120 : decode prog_14_method_88_code 120 = .ok (.iload_n 3, 1) := by decide +kernel
theorem dM_lemma_121 : decode prog_14_method_88_code 121 = .ok (.goto (5), 3) := by decide +kernel
theorem dM_lemma_124 : decode prog_14_method_88_code 124 = .ok (.iload 4, 2) := by decide +kernel
theorem dM_lemma_126 : decode prog_14_method_88_code 126 = .ok (.ireturn, 1) := by decide +kernel
theorem dM_order_0 : decode prog_14_method_93_code 0 = .ok (.aload_n 0, 1) := by decide +kernel
theorem dM_order_1 : decode prog_14_method_93_code 1 = .ok (.getfield 331, 3) := by decide +kernel
theorem dM_order_4 : decode prog_14_method_93_code 4 = .ok (.ifCond .eq (33), 3) := by decide +kernel
theorem dM_order_7 : decode prog_14_method_93_code 7 = .ok (.aload_n 0, 1) := by decide +kernel
theorem dM_order_8 : decode prog_14_method_93_code 8 = .ok (.getfield 331, 3) := by decide +kernel
theorem dM_order_11 : decode prog_14_method_93_code 11 = .ok (.bipush (14), 2) := by decide +kernel
theorem dM_order_13 : decode prog_14_method_93_code 13 = .ok (.if_icmp .gt (24), 3) := by decide +kernel
theorem dM_order_16 : decode prog_14_method_93_code 16 = .ok (.iload_n 1, 1) := by decide +kernel
theorem dM_order_17 : decode prog_14_method_93_code 17 = .ok (.iconst (-1), 1) := by decide +kernel
theorem dM_order_18 : decode prog_14_method_93_code 18 = .ok (.if_icmp .eq (21), 3) := by decide +kernel
theorem dM_order_21 : decode prog_14_method_93_code 21 = .ok (.iload_n 1, 1) := by decide +kernel
theorem dM_order_22 : decode prog_14_method_93_code 22 = .ok (.i2l, 1) := by decide +kernel
theorem dM_order_23 : decode prog_14_method_93_code 23 = .ok (.lconst 0, 1) := by decide +kernel
theorem dM_order_24 : decode prog_14_method_93_code 24 = .ok (.aload_n 0, 1) := by decide +kernel
theorem dM_order_25 : decode prog_14_method_93_code 25 = .ok (.getfield 331, 3) := by decide +kernel
theorem dM_order_28 : decode prog_14_method_93_code 28 = .ok (.iconst (1), 1) := by decide +kernel
theorem dM_order_29 : decode prog_14_method_93_code 29 = .ok (.isub, 1) := by decide +kernel
theorem dM_order_30 : decode prog_14_method_93_code 30 = .ok (.i2l, 1) := by decide +kernel
theorem dM_order_31 : decode prog_14_method_93_code 31 = .ok (.invokestatic 196, 3) := by decide +kernel
theorem dM_order_34 : decode prog_14_method_93_code 34 = .ok (.ifCond .ne (5), 3) := by decide +kernel
theorem dM_order_37 : decode prog_14_method_93_code 37 = .ok (.iconst (-1), 1) := by decide +kernel
theorem dM_order_38 : decode prog_14_method_93_code 38 = .ok (.ireturn, 1) := by decide +kernel
theorem dM_order_39 : decode prog_14_method_93_code 39 = .ok (.aload_n 0, 1) := by decide +kernel
theorem dM_order_40 : decode prog_14_method_93_code 40 = .ok (.invokevirtual 429, 3) := by decide +kernel
theorem dM_order_43 : decode prog_14_method_93_code 43 = .ok (.aload_n 0, 1) := by decide +kernel
theorem dM_order_44 : decode prog_14_method_93_code 44 = .ok (.getfield 131, 3) := by decide +kernel
theorem dM_order_47 : decode prog_14_method_93_code 47 = .ok (.iconst (0), 1) := by decide +kernel
theorem dM_order_48 : decode prog_14_method_93_code 48 = .ok (.iaload, 1) := by decide +kernel
theorem dM_order_49 : decode prog_14_method_93_code 49 = .ok (.istore_n 2, 1) := by decide +kernel
theorem dM_order_50 : decode prog_14_method_93_code 50 = .ok (.iload_n 1, 1) := by decide +kernel
theorem dM_order_51 : decode prog_14_method_93_code 51 = .ok (.iconst (-1), 1) := by decide +kernel
theorem dM_order_52 : decode prog_14_method_93_code 52 = .ok (.if_icmp .ne (5), 3) := by decide +kernel
theorem dM_order_55 : decode prog_14_method_93_code 55 = .ok (.iload_n 2, 1) := by decide +kernel
theorem dM_order_56 : decode prog_14_method_93_code 56 = .ok (.ireturn, 1) := by decide +kernel
theorem dM_order_57 : decode prog_14_method_93_code 57 = .ok (.iconst (0), 1) := by decide +kernel
theorem dM_order_58 : decode prog_14_method_93_code 58 = .ok (.istore_n 3, 1) := by decide +kernel
theorem dM_order_59 : decode prog_14_method_93_code 59 = .ok (.iconst (0), 1) := by decide +kernel
theorem dM_order_60 : decode prog_14_method_93_code 60 = .ok (.istore 4, 2) := by decide +kernel
theorem dM_order_62 : decode prog_14_method_93_code 62 = .ok (.iconst (0), 1) := by decide +kernel
theorem dM_order_63 : decode prog_14_method_93_code 63 = .ok (.istore 5, 2) := by decide +kernel
theorem dM_order_65 : decode prog_14_method_93_code 65 = .ok (.iload 5, 2) := by decide +kernel
theorem dM_order_67 : decode prog_14_method_93_code 67 = .ok (.iload_n 1, 1) := by decide +kernel
theorem dM_order_68 : decode prog_14_method_93_code 68 = .ok (.if_icmp .gt (36), 3) := by decide +kernel
theorem dM_order_71 : decode prog_14_method_93_code 71 = .ok (.iconst (0), 1) := by decide +kernel
theorem dM_order_72 : decode prog_14_method_93_code 72 = .ok (.istore 4, 2) := by decide +kernel
theorem dM_order_74 : decode prog_14_method_93_code 74 = .ok (.aload_n 0, 1) := by decide +kernel
theorem dM_order_75 : decode prog_14_method_93_code 75 = .ok (.iload_n 3, 1) := by decide +kernel
theorem dM_order_76 : decode prog_14_method_93_code 76 = .ok (.iload 4, 2) := by decide +kernel
theorem dM_order_78 : decode prog_14_method_93_code 78 = .ok (.invokevirtual 426, 3) := by decide +kernel
theorem dM_order_81 : decode prog_14_method_93_code 81 = .ok (.iload_n 2, 1) := by decide +kernel
theorem dM_order_82 : decode prog_14_method_93_code 82 = .ok (.if_icmp .le (9), 3) := by decide +kernel
theorem dM_order_85 : decode prog_14_method_93_code 85 = .ok (.iinc 4 (1), 3) := by decide +kernel
theorem dM_order_88 : decode prog_14_method_93_code 88 = .ok (.goto (-14), 3) := by decide +kernel
theorem dM_order_91 : decode prog_14_method_93_code 91 = .ok (.iload_n 3, 1) := by decide +kernel
theorem dM_order_92 : decode prog_14_method_93_code 92 = .ok (.iconst (1), 1) := by decide +kernel
theorem dM_order_93 : decode prog_14_method_93_code 93 = .ok (.iload 4, 2) := by decide +kernel
theorem dM_order_95 : decode prog_14_method_93_code 95 = .ok (.ishl, 1) := by decide +kernel
theorem dM_order_96 : decode prog_14_method_93_code 96 = .ok (.ior, 1) := by decide +kernel
theorem dM_order_97 : decode prog_14_method_93_code 97 = .ok (.istore_n 3, 1) := by decide +kernel
theorem dM_order_98 : decode prog_14_method_93_code 98 = .ok (.iinc 5 (1), 3) := by decide +kernel
theorem dM_order_101 : decode prog_14_method_93_code 101 = .ok (.goto (-36), 3) := by decide +kernel
theorem dM_order_104 : decode prog_14_method_93_code 104 = .ok (.iload 4, 2) := by decide +kernel
theorem dM_order_106 : decode prog_14_method_93_code 106 = .ok (.ireturn, 1) := by decide +kernel
theorem dM_orders_0 : decode prog_14_method_92_code 0 = .ok (.aload_n 0, 1) := by decide +kernel
theorem dM_orders_1 : decode prog_14_method_92_code 1 = .ok (.invokevirtual 423, 3) := by decide +kernel
theorem dM_orders_4 : decode prog_14_method_92_code 4 = .ok (.iconst (1), 1) := by decide +kernel
theorem dM_orders_5 : decode prog_14_method_92_code 5 = .ok (.aload_n 0, 1) := by decide +kernel
theorem dM_orders_6 : decode prog_14_method_92_code 6 = .ok (.getfield 331, 3) := by decide +kernel
theorem dM_orders_9 : decode prog_14_method_92_code 9 = .ok (.ishl, 1) := by decide +kernel
theorem dM_orders_10 : decode prog_14_method_92_code 10 = .ok (.iconst (1), 1) := by decide +kernel
theorem dM_orders_11 : decode prog_14_method_92_code 11 = .ok (.isub, 1) := by decide +kernel
theorem dM_orders_12 : decode prog_14_method_92_code 12 = .ok (.istore_n 1, 1) := by decide +kernel
theorem dM_orders_13 : decode prog_14_method_92_code 13 = .ok (.aload_n 0, 1) := by decide +kernel
theorem dM_orders_14 : decode prog_14_method_92_code 14 = .ok (.getfield 131, 3) := by decide +kernel
theorem dM_orders_17 : decode prog_14_method_92_code 17 = .ok (.iload_n 1, 1) := by decide +kernel
theorem dM_orders_18 : decode prog_14_method_92_code 18 = .ok (.iconst (0), 1) := by decide +kernel
theorem dM_orders_19 : decode prog_14_method_92_code 19 = .ok (.iastore, 1) := by decide +kernel
theorem dM_orders_20 : decode prog_14_method_92_code 20 = .ok (.iload_n 1, 1) := by decide +kernel
theorem dM_orders_21 : decode prog_14_method_92_code 21 = .ok (.iconst (1), 1) := by decide +kernel
theorem dM_orders_22 : decode prog_14_method_92_code 22 = .ok (.isub, 1) := by decide +kernel
theorem dM_orders_23 : decode prog_14_method_92_code 23 = .ok (.istore_n 2, 1) := by decide +kernel
theorem dM_orders_24 : decode prog_14_method_92_code 24 = .ok (.iload_n 2, 1) := by decide +kernel
theorem dM_orders_25 : decode prog_14_method_92_code 25 = .ok (.ifCond .lt (60), 3) := by decide +kernel
theorem dM_orders_28 : decode prog_14_method_92_code 28 = .ok (.aload_n 0, 1) := by decide +kernel
theorem dM_orders_29 : decode prog_14_method_92_code 29 = .ok (.getfield 131, 3) := by decide +kernel
theorem dM_orders_32 : decode prog_14_method_92_code 32 = .ok (.iload_n 2, 1) := by decide +kernel
theorem dM_orders_33 : decode prog_14_method_92_code 33 = .ok (.bipush (100), 2) := by decide +kernel
theorem dM_orders_35 : decode prog_14_method_92_code 35 = .ok (.iastore, 1) := by decide +kernel
theorem dM_orders_36 : decode prog_14_method_92_code 36 = .ok (.iconst (0), 1) := by decide +kernel
theorem dM_orders_37 : decode prog_14_method_92_code 37 = .ok (.istore_n 3, 1) := by decide +kernel
theorem dM_orders_38 : decode prog_14_method_92_code 38 = .ok (.iload_n 3, 1) := by decide +kernel
theorem dM_orders_39 : decode prog_14_method_92_code 39 = .ok (.aload_n 0, 1) := by decide +kernel
theorem dM_orders_40 : decode prog_14_method_92_code 40 = .ok (.getfield 331, 3) := by decide +kernel
theorem dM_orders_43 : decode prog_14_method_92_code 43 = .ok (.if_icmp .ge (36), 3) := by decide +kernel
theorem dM_orders_46 : decode prog_14_method_92_code 46 = .ok (.aload_n 0, 1) := by decide +kernel
theorem dM_orders_47 : decode prog_14_method_92_code 47 = .ok (.iload_n 2, 1) := by decide +kernel
theorem dM_orders_48 : decode prog_14_method_92_code 48 = .ok (.iload_n 3, 1) := by decide +kernel
theorem dM_orders_49 : decode prog_14_method_92_code 49 = .ok (.invokevirtual 426, 3) := by decide +kernel
theorem dM_orders_52 : decode prog_14_method_92_code 52 = .ok (.istore 4, 2) := by decide +kernel
theorem dM_orders_54 : decode prog_14_method_92_code 54 = .ok (.iload 4, 2) := by decide +kernel
theorem dM_orders_56 : decode prog_14_method_92_code 56 = .ok (.aload_n 0, 1) := by decide +kernel
theorem dM_orders_57 : decode prog_14_method_92_code 57 = .ok (.getfield 131, 3) := by decide +kernel
theorem dM_orders_60 : decode prog_14_method_92_code 60 = .ok (.iload_n 2, 1) := by decide +kernel
theorem dM_orders_61 : decode prog_14_method_92_code 61 = .ok (.iaload, 1) := by decide +kernel
theorem dM_orders_62 : decode prog_14_method_92_code 62 = .ok (.if_icmp .ge (11), 3) := by decide +kernel
theorem dM_orders_65 : decode prog_14_method_92_code 65 = .ok (.aload_n 0, 1) := by decide +kernel
theorem dM_orders_66 : decode prog_14_method_92_code 66 = .ok (.getfield 131, 3) := by decide +kernel
theorem dM_orders_69 : decode prog_14_method_92_code 69 = .ok (.iload_n 2, 1) := by decide +kernel
theorem dM_orders_70 : decode prog_14_method_92_code 70 = .ok (.iload 4, 2) := by decide +kernel
theorem dM_orders_72 : decode prog_14_method_92_code 72 = .ok (.iastore, 1) := by decide +kernel
theorem dM_orders_73 : decode prog_14_method_92_code 73 = .ok (.iinc 3 (1), 3) := by decide +kernel
theorem dM_orders_76 : decode prog_14_method_92_code 76 = .ok (.goto (-38), 3) := by decide +kernel
theorem dM_orders_79 : decode prog_14_method_92_code 79 = .ok (.iinc 2 (-1), 3) := by decide +kernel
theorem dM_orders_82 : decode prog_14_method_92_code 82 = .ok (.goto (-58), 3) := by decide +kernel
theorem dM_orders_85 : decode prog_14_method_92_code 85 = .ok (.return_, 1) := by decide +kernel
theorem dM_ties_0 : decode prog_14_method_89_code 0 = .ok (.iconst (0), 1) := by decide +kernel
theorem dM_ties_1 : decode prog_14_method_89_code 1 = .ok (.istore_n 1, 1) := by decide +kernel
theorem dM_ties_2 : decode prog_14_method_89_code 2 = .ok (.iload_n 1, 1) := by decide +kernel
theorem dM_ties_3 : decode prog_14_method_89_code 3 = .ok (.aload_n 0, 1) := by decide +kernel
theorem dM_ties_4 : decode prog_14_method_89_code 4 = .ok (.getfield 331, 3) := by decide +kernel
theorem dM_ties_7 : decode prog_14_method_89_code 7 = .ok (.if_icmp .ge (16), 3) := by decide +kernel
theorem dM_ties_10 : decode prog_14_method_89_code 10 = .ok (.aload_n 0, 1) := by decide +kernel
theorem dM_ties_11 : decode prog_14_method_89_code 11 = .ok (.getfield 137, 3) := by decide +kernel
theorem dM_ties_14 : decode prog_14_method_89_code 14 = .ok (.iload_n 1, 1) := by decide +kernel
theorem dM_ties_15 : decode prog_14_method_89_code 15 = .ok (.iconst (0), 1) := by decide +kernel
theorem dM_ties_16 : decode prog_14_method_89_code 16 = .ok (.iastore, 1) := by decide +kernel
theorem dM_ties_17 : decode prog_14_method_89_code 17 = .ok (.iinc 1 (1), 3) := by decide +kernel
theorem dM_ties_20 : decode prog_14_method_89_code 20 = .ok (.goto (-18), 3) := by decide +kernel
theorem dM_ties_23 : decode prog_14_method_89_code 23 = .ok (.iconst (0), 1) := by decide +kernel
theorem dM_ties_24 : decode prog_14_method_89_code 24 = .ok (.istore_n 1, 1) := by decide +kernel
theorem dM_ties_25 : decode prog_14_method_89_code 25 = .ok (.iload_n 1, 1) := by decide +kernel
theorem dM_ties_26 : decode prog_14_method_89_code 26 = .ok (.aload_n 0, 1) := by decide +kernel
theorem dM_ties_27 : decode prog_14_method_89_code 27 = .ok (.getfield 331, 3) := by decide +kernel
theorem dM_ties_30 : decode prog_14_method_89_code 30 = .ok (.if_icmp .ge (72), 3) := by decide +kernel
theorem dM_ties_33 : decode prog_14_method_89_code 33 = .ok (.aload_n 0, 1) := by decide +kernel
theorem dM_ties_34 : decode prog_14_method_89_code 34 = .ok (.getfield 134, 3) := by decide +kernel
theorem dM_ties_37 : decode prog_14_method_89_code 37 = .ok (.iload_n 1, 1) := by decide +kernel
theorem dM_ties_38 : decode prog_14_method_89_code 38 = .ok (.iconst (0), 1) := by decide +kernel
theorem dM_ties_39 : decode prog_14_method_89_code 39 = .ok (.iastore, 1) := by decide +kernel
theorem dM_ties_40 : decode prog_14_method_89_code 40 = .ok (.iconst (0), 1) := by decide +kernel
theorem dM_ties_41 : decode prog_14_method_89_code 41 = .ok (.istore_n 2, 1) := by decide +kernel
theorem dM_ties_42 : decode prog_14_method_89_code 42 = .ok (.iload_n 2, 1) := by decide +kernel
theorem dM_ties_43 : decode prog_14_method_89_code 43 = .ok (.aload_n 0, 1) := by decide +kernel
theorem dM_ties_44 : decode prog_14_method_89_code 44 = .ok (.aload_n 0, 1) := by decide +kernel
theorem dM_ties_45 : decode prog_14_method_89_code 45 = .ok (.getfield 100, 3) := by decide +kernel
theorem dM_ties_48 : decode prog_14_method_89_code 48 = .ok (.iload_n 1, 1) := by decide +kernel
theorem dM_ties_49 : decode prog_14_method_89_code 49 = .ok (.iaload, 1) := by decide +kernel
theorem dM_ties_50 : decode prog_14_method_89_code 50 = .ok (.invokevirtual 328, 3) := by decide +kernel
theorem dM_ties_53 : decode prog_14_method_89_code 53 = .ok (.if_icmp .ge (43), 3) := by decide +kernel
theorem dM_ties_56 : decode prog_14_method_89_code 56 = .ok (.aload_n 0, 1) := by decide +kernel
theorem dM_ties_57 : decode prog_14_method_89_code 57 = .ok (.getfield 134, 3) := by decide +kernel
theorem dM_ties_60 : decode prog_14_method_89_code 60 = .ok (.iload_n 1, 1) := by decide +kernel
theorem dM_ties_61 : decode prog_14_method_89_code 61 = .ok (.dup2, 1) := by decide +kernel
theorem dM_ties_62 : decode prog_14_method_89_code 62 = .ok (.iaload, 1) := by decide +kernel
theorem dM_ties_63 : decode prog_14_method_89_code 63 = .ok (.iconst (1), 1) := by decide +kernel
theorem dM_ties_64 : decode prog_14_method_89_code 64 = .ok (.aload_n 0, 1) := by decide +kernel
theorem dM_ties_65 : decode prog_14_method_89_code 65 = .ok (.iload_n 1, 1) := by decide +kernel
theorem dM_ties_66 : decode prog_14_method_89_code 66 = .ok (.iload_n 2, 1) := by decide +kernel
theorem dM_ties_67 : decode prog_14_method_89_code 67 = .ok (.invokevirtual 377, 3) := by decide +kernel
theorem dM_ties_70 : decode prog_14_method_89_code 70 = .ok (.ishl, 1) := by decide +kernel
theorem dM_ties_71 : decode prog_14_method_89_code 71 = .ok (.ior, 1) := by decide +kernel
theorem dM_ties_72 : decode prog_14_method_89_code 72 = .ok (.iastore, 1) := by decide +kernel
theorem dM_ties_73 : decode prog_14_method_89_code 73 = .ok (.aload_n 0, 1) := by decide +kernel
theorem dM_ties_74 : decode prog_14_method_89_code 74 = .ok (.getfield 137, 3) := by decide +kernel
theorem dM_ties_77 : decode prog_14_method_89_code 77 = .ok (.aload_n 0, 1) := by decide +kernel
theorem dM_ties_78 : decode prog_14_method_89_code 78 = .ok (.iload_n 1, 1) := by decide +kernel
theorem dM_ties_79 : decode prog_14_method_89_code 79 = .ok (.iload_n 2, 1) := by decide +kernel
theorem dM_ties_80 : decode prog_14_method_89_code 80 = .ok (.invokevirtual 377, 3) := by decide +kernel
theorem dM_ties_83 : decode prog_14_method_89_code 83 = .ok (.dup2, 1) := by decide +kernel
theorem dM_ties_84 : decode prog_14_method_89_code 84 = .ok (.iaload, 1) := by decide +kernel
theorem dM_ties_85 : decode prog_14_method_89_code 85 = .ok (.iconst (1), 1) := by decide +kernel
theorem dM_ties_86 : decode prog_14_method_89_code 86 = .ok (.iload_n 1, 1) := by decide +kernel
theorem dM_ties_87 : decode prog_14_method_89_code 87 = .ok (.ishl, 1) := by decide +kernel
theorem dM_ties_88 : decode prog_14_method_89_code 88 = .ok (.ior, 1) := by decide +kernel
theorem dM_ties_89 : decode prog_14_method_89_code 89 = .ok (.iastore, 1) := by decide +kernel
theorem dM_ties_90 : decode prog_14_method_89_code 90 = .ok (.iinc 2 (1), 3) := by decide +kernel
theorem dM_ties_93 : decode prog_14_method_89_code 93 = .ok (.goto (-51), 3) := by decide +kernel
theorem dM_ties_96 : decode prog_14_method_89_code 96 = .ok (.iinc 1 (1), 3) := by decide +kernel
theorem dM_ties_99 : decode prog_14_method_89_code 99 = .ok (.goto (-74), 3) := by decide +kernel
theorem dM_ties_102 : decode prog_14_method_89_code 102 = .ok (.return_, 1) := by decide +kernel
theorem dM_heldBy_0 : decode prog_14_method_91_code 0 = .ok (.iload_n 1, 1) := by decide +kernel
theorem dM_heldBy_1 : decode prog_14_method_91_code 1 = .ok (.iload_n 2, 1) := by decide +kernel
theorem dM_heldBy_2 : decode prog_14_method_91_code 2 = .ok (.ishr, 1) := by decide +kernel
theorem dM_heldBy_3 : decode prog_14_method_91_code 3 = .ok (.iconst (1), 1) := by decide +kernel
theorem dM_heldBy_4 : decode prog_14_method_91_code 4 = .ok (.iand, 1) := by decide +kernel
theorem dM_heldBy_5 : decode prog_14_method_91_code 5 = .ok (.iconst (1), 1) := by decide +kernel
theorem dM_heldBy_6 : decode prog_14_method_91_code 6 = .ok (.if_icmp .eq (16), 3) := by decide +kernel
theorem dM_heldBy_9 : decode prog_14_method_91_code 9 = .ok (.aload_n 0, 1) := by decide +kernel
theorem dM_heldBy_10 : decode prog_14_method_91_code 10 = .ok (.getfield 134, 3) := by decide +kernel
theorem dM_heldBy_13 : decode prog_14_method_91_code 13 = .ok (.iload_n 2, 1) := by decide +kernel
theorem dM_heldBy_14 : decode prog_14_method_91_code 14 = .ok (.iaload, 1) := by decide +kernel
theorem dM_heldBy_15 : decode prog_14_method_91_code 15 = .ok (.iload_n 1, 1) := by decide +kernel
theorem dM_heldBy_16 : decode prog_14_method_91_code 16 = .ok (.iconst (-1), 1) := by decide +kernel
theorem dM_heldBy_17 : decode prog_14_method_91_code 17 = .ok (.ixor, 1) := by decide +kernel
theorem dM_heldBy_18 : decode prog_14_method_91_code 18 = .ok (.iand, 1) := by decide +kernel
theorem dM_heldBy_19 : decode prog_14_method_91_code 19 = .ok (.ifCond .eq (6), 3) := by decide +kernel
theorem dM_heldBy_22 : decode prog_14_method_91_code 22 = .ok (.bipush (100), 2) := by decide +kernel
theorem dM_heldBy_24 : decode prog_14_method_91_code 24 = .ok (.ireturn, 1) := by decide +kernel
theorem dM_heldBy_25 : decode prog_14_method_91_code 25 = .ok (.aload_n 0, 1) := by decide +kernel
theorem dM_heldBy_26 : decode prog_14_method_91_code 26 = .ok (.iload_n 1, 1) := by decide +kernel
theorem dM_heldBy_27 : decode prog_14_method_91_code 27 = .ok (.iconst (1), 1) := by decide +kernel
theorem dM_heldBy_28 : decode prog_14_method_91_code 28 = .ok (.iload_n 2, 1) := by decide +kernel
theorem dM_heldBy_29 : decode prog_14_method_91_code 29 = .ok (.ishl, 1) := by decide +kernel
theorem dM_heldBy_30 : decode prog_14_method_91_code 30 = .ok (.ior, 1) := by decide +kernel
theorem dM_heldBy_31 : decode prog_14_method_91_code 31 = .ok (.invokevirtual 420, 3) := by decide +kernel
theorem dM_heldBy_34 : decode prog_14_method_91_code 34 = .ok (.istore_n 3, 1) := by decide +kernel
theorem dM_heldBy_35 : decode prog_14_method_91_code 35 = .ok (.aload_n 0, 1) := by decide +kernel
theorem dM_heldBy_36 : decode prog_14_method_91_code 36 = .ok (.getfield 131, 3) := by decide +kernel
theorem dM_heldBy_39 : decode prog_14_method_91_code 39 = .ok (.iload_n 1, 1) := by decide +kernel
theorem dM_heldBy_40 : decode prog_14_method_91_code 40 = .ok (.iconst (1), 1) := by decide +kernel
theorem dM_heldBy_41 : decode prog_14_method_91_code 41 = .ok (.iload_n 2, 1) := by decide +kernel
theorem dM_heldBy_42 : decode prog_14_method_91_code 42 = .ok (.ishl, 1) := by decide +kernel
theorem dM_heldBy_43 : decode prog_14_method_91_code 43 = .ok (.ior, 1) := by decide +kernel
theorem dM_heldBy_44 : decode prog_14_method_91_code 44 = .ok (.iaload, 1) := by decide +kernel
theorem dM_heldBy_45 : decode prog_14_method_91_code 45 = .ok (.istore 4, 2) := by decide +kernel
theorem dM_heldBy_47 : decode prog_14_method_91_code 47 = .ok (.iload_n 3, 1) := by decide +kernel
theorem dM_heldBy_48 : decode prog_14_method_91_code 48 = .ok (.iload 4, 2) := by decide +kernel
theorem dM_heldBy_50 : decode prog_14_method_91_code 50 = .ok (.if_icmp .le (7), 3) := by decide +kernel
theorem dM_heldBy_53 : decode prog_14_method_91_code 53 = .ok (.iload_n 3, 1) := by decide +kernel
theorem dM_heldBy_54 : decode prog_14_method_91_code 54 = .ok (.goto (5), 3) := by decide +kernel
theorem dM_heldBy_57 : decode prog_14_method_91_code 57 = .ok (.iload 4, 2) := by decide +kernel
theorem dM_heldBy_59 : decode prog_14_method_91_code 59 = .ok (.ireturn, 1) := by decide +kernel
theorem dM_heldNow_0 : decode prog_14_method_90_code 0 = .ok (.iconst (0), 1) := by decide +kernel
theorem dM_heldNow_1 : decode prog_14_method_90_code 1 = .ok (.istore_n 2, 1) := by decide +kernel
theorem dM_heldNow_2 : decode prog_14_method_90_code 2 = .ok (.iconst (0), 1) := by decide +kernel
theorem dM_heldNow_3 : decode prog_14_method_90_code 3 = .ok (.istore_n 3, 1) := by decide +kernel
theorem dM_heldNow_4 : decode prog_14_method_90_code 4 = .ok (.iload_n 3, 1) := by decide +kernel
theorem dM_heldNow_5 : decode prog_14_method_90_code 5 = .ok (.aload_n 0, 1) := by decide +kernel
theorem dM_heldNow_6 : decode prog_14_method_90_code 6 = .ok (.getfield 331, 3) := by decide +kernel
theorem dM_heldNow_9 : decode prog_14_method_90_code 9 = .ok (.if_icmp .ge (44), 3) := by decide +kernel
theorem dM_heldNow_12 : decode prog_14_method_90_code 12 = .ok (.iload_n 1, 1) := by decide +kernel
theorem dM_heldNow_13 : decode prog_14_method_90_code 13 = .ok (.iload_n 3, 1) := by decide +kernel
theorem dM_heldNow_14 : decode prog_14_method_90_code 14 = .ok (.ishr, 1) := by decide +kernel
theorem dM_heldNow_15 : decode prog_14_method_90_code 15 = .ok (.iconst (1), 1) := by decide +kernel
theorem dM_heldNow_16 : decode prog_14_method_90_code 16 = .ok (.iand, 1) := by decide +kernel
theorem dM_heldNow_17 : decode prog_14_method_90_code 17 = .ok (.iconst (1), 1) := by decide +kernel
theorem dM_heldNow_18 : decode prog_14_method_90_code 18 = .ok (.if_icmp .ne (29), 3) := by decide +kernel
theorem dM_heldNow_21 : decode prog_14_method_90_code 21 = .ok (.iload_n 3, 1) := by decide +kernel
theorem dM_heldNow_22 : decode prog_14_method_90_code 22 = .ok (.aload_n 0, 1) := by decide +kernel
theorem dM_heldNow_23 : decode prog_14_method_90_code 23 = .ok (.getfield 331, 3) := by decide +kernel
theorem dM_heldNow_26 : decode prog_14_method_90_code 26 = .ok (.iconst (1), 1) := by decide +kernel
theorem dM_heldNow_27 : decode prog_14_method_90_code 27 = .ok (.isub, 1) := by decide +kernel
theorem dM_heldNow_28 : decode prog_14_method_90_code 28 = .ok (.if_icmp .eq (16), 3) := by decide +kernel
theorem dM_heldNow_31 : decode prog_14_method_90_code 31 = .ok (.aload_n 0, 1) := by decide +kernel
theorem dM_heldNow_32 : decode prog_14_method_90_code 32 = .ok (.getfield 137, 3) := by decide +kernel
theorem dM_heldNow_35 : decode prog_14_method_90_code 35 = .ok (.iload_n 3, 1) := by decide +kernel
theorem dM_heldNow_36 : decode prog_14_method_90_code 36 = .ok (.iaload, 1) := by decide +kernel
theorem dM_heldNow_37 : decode prog_14_method_90_code 37 = .ok (.iload_n 1, 1) := by decide +kernel
theorem dM_heldNow_38 : decode prog_14_method_90_code 38 = .ok (.iconst (-1), 1) := by decide +kernel
theorem dM_heldNow_39 : decode prog_14_method_90_code 39 = .ok (.ixor, 1) := by decide +kernel
theorem dM_heldNow_40 : decode prog_14_method_90_code 40 = .ok (.iand, 1) := by decide +kernel
theorem dM_heldNow_41 : decode prog_14_method_90_code 41 = .ok (.ifCond .eq (6), 3) := by decide +kernel
theorem dM_heldNow_44 : decode prog_14_method_90_code 44 = .ok (.iinc 2 (1), 3) := by decide +kernel
theorem dM_heldNow_47 : decode prog_14_method_90_code 47 = .ok (.iinc 3 (1), 3) := by decide +kernel
theorem dM_heldNow_50 : decode prog_14_method_90_code 50 = .ok (.goto (-46), 3) := by decide +kernel
theorem dM_heldNow_53 : decode prog_14_method_90_code 53 = .ok (.iload_n 2, 1) := by decide +kernel
theorem dM_heldNow_54 : decode prog_14_method_90_code 54 = .ok (.ireturn, 1) := by decide +kernel
theorem dM_held_0 : decode prog_14_method_94_code 0 = .ok (.aload_n 0, 1) := by decide +kernel
theorem dM_held_1 : decode prog_14_method_94_code 1 = .ok (.getfield 331, 3) := by decide +kernel
theorem dM_held_4 : decode prog_14_method_94_code 4 = .ok (.ifCond .ne (5), 3) := by decide +kernel
theorem dM_held_7 : decode prog_14_method_94_code 7 = .ok (.iconst (-1), 1) := by decide +kernel
theorem dM_held_8 : decode prog_14_method_94_code 8 = .ok (.ireturn, 1) := by decide +kernel
theorem dM_held_9 : decode prog_14_method_94_code 9 = .ok (.iconst (0), 1) := by decide +kernel
theorem dM_held_10 : decode prog_14_method_94_code 10 = .ok (.istore_n 1, 1) := by decide +kernel
theorem dM_held_11 : decode prog_14_method_94_code 11 = .ok (.iconst (1), 1) := by decide +kernel
theorem dM_held_12 : decode prog_14_method_94_code 12 = .ok (.istore_n 2, 1) := by decide +kernel
theorem dM_held_13 : decode prog_14_method_94_code 13 = .ok (.iload_n 2, 1) := by decide +kernel
theorem dM_held_14 : decode prog_14_method_94_code 14 = .ok (.aload_n 0, 1) := by decide +kernel
theorem dM_held_15 : decode prog_14_method_94_code 15 = .ok (.getfield 331, 3) := by decide +kernel
theorem dM_held_18 : decode prog_14_method_94_code 18 = .ok (.if_icmp .gt (131), 3) := by decide +kernel
theorem dM_held_21 : decode prog_14_method_94_code 21 = .ok (.iconst (0), 1) := by decide +kernel
theorem dM_held_22 : decode prog_14_method_94_code 22 = .ok (.istore_n 3, 1) := by decide +kernel
theorem dM_held_23 : decode prog_14_method_94_code 23 = .ok (.iconst (0), 1) := by decide +kernel
theorem dM_held_24 : decode prog_14_method_94_code 24 = .ok (.istore 4, 2) := by decide +kernel
theorem dM_held_26 : decode prog_14_method_94_code 26 = .ok (.iload 4, 2) := by decide +kernel
theorem dM_held_28 : decode prog_14_method_94_code 28 = .ok (.iload_n 2, 1) := by decide +kernel
theorem dM_held_29 : decode prog_14_method_94_code 29 = .ok (.if_icmp .ge (103), 3) := by decide +kernel
theorem dM_held_32 : decode prog_14_method_94_code 32 = .ok (.iload 4, 2) := by decide +kernel
theorem dM_held_34 : decode prog_14_method_94_code 34 = .ok (.aload_n 0, 1) := by decide +kernel
theorem dM_held_35 : decode prog_14_method_94_code 35 = .ok (.getfield 331, 3) := by decide +kernel
theorem dM_held_38 : decode prog_14_method_94_code 38 = .ok (.iconst (1), 1) := by decide +kernel
theorem dM_held_39 : decode prog_14_method_94_code 39 = .ok (.isub, 1) := by decide +kernel
theorem dM_held_40 : decode prog_14_method_94_code 40 = .ok (.if_icmp .ne (7), 3) := by decide +kernel
theorem dM_held_43 : decode prog_14_method_94_code 43 = .ok (.iconst (1), 1) := by decide +kernel
theorem dM_held_44 : decode prog_14_method_94_code 44 = .ok (.goto (4), 3) := by decide +kernel
theorem dM_held_47 : decode prog_14_method_94_code 47 = .ok (.iconst (0), 1) := by decide +kernel
theorem dM_held_48 : decode prog_14_method_94_code 48 = .ok (.istore 5, 2) := by decide +kernel
theorem dM_held_50 : decode prog_14_method_94_code 50 = .ok (.iload_n 2, 1) := by decide +kernel
theorem dM_held_51 : decode prog_14_method_94_code 51 = .ok (.istore 6, 2) := by decide +kernel
theorem dM_held_53 : decode prog_14_method_94_code 53 = .ok (.iload 6, 2) := by decide +kernel
theorem dM_held_55 : decode prog_14_method_94_code 55 = .ok (.aload_n 0, 1) := by decide +kernel
theorem dM_held_56 : decode prog_14_method_94_code 56 = .ok (.getfield 331, 3) := by decide +kernel
theorem dM_held_59 : decode prog_14_method_94_code 59 = .ok (.if_icmp .ge (59), 3) := by decide +kernel
theorem dM_held_62 : decode prog_14_method_94_code 62 = .ok (.iconst (0), 1) := by decide +kernel
theorem dM_held_63 : decode prog_14_method_94_code 63 = .ok (.istore 7, 2) := by decide +kernel
theorem dM_held_65 : decode prog_14_method_94_code 65 = .ok (.iload 7, 2) := by decide +kernel
theorem dM_held_67 : decode prog_14_method_94_code 67 = .ok (.aload_n 0, 1) := by decide +kernel
theorem dM_held_68 : decode prog_14_method_94_code 68 = .ok (.aload_n 0, 1) := by decide +kernel
theorem dM_held_69 : decode prog_14_method_94_code 69 = .ok (.getfield 100, 3) := by decide +kernel
theorem dM_held_72 : decode prog_14_method_94_code 72 = .ok (.iload 6, 2) := by decide +kernel
theorem dM_held_74 : decode prog_14_method_94_code 74 = .ok (.iaload, 1) := by decide +kernel
theorem dM_held_75 : decode prog_14_method_94_code 75 = .ok (.invokevirtual 328, 3) := by decide +kernel
theorem dM_held_78 : decode prog_14_method_94_code 78 = .ok (.if_icmp .ge (34), 3) := by decide +kernel
theorem dM_held_81 : decode prog_14_method_94_code 81 = .ok (.iload 5, 2) := by decide +kernel
theorem dM_held_83 : decode prog_14_method_94_code 83 = .ok (.ifCond .ne (16), 3) := by decide +kernel
theorem dM_held_86 : decode prog_14_method_94_code 86 = .ok (.aload_n 0, 1) := by decide +kernel
theorem dM_held_87 : decode prog_14_method_94_code 87 = .ok (.iload 6, 2) := by decide +kernel
theorem dM_held_89 : decode prog_14_method_94_code 89 = .ok (.iload 7, 2) := by decide +kernel
theorem dM_held_91 : decode prog_14_method_94_code 91 = .ok (.invokevirtual 377, 3) := by decide +kernel
theorem dM_held_94 : decode prog_14_method_94_code 94 = .ok (.iload 4, 2) := by decide +kernel
theorem dM_held_96 : decode prog_14_method_94_code 96 = .ok (.if_icmp .ne (7), 3) := by decide +kernel
theorem dM_held_99 : decode prog_14_method_94_code 99 = .ok (.iconst (1), 1) := by decide +kernel
theorem dM_held_100 : decode prog_14_method_94_code 100 = .ok (.goto (4), 3) := by decide +kernel
theorem dM_held_103 : decode prog_14_method_94_code 103 = .ok (.iconst (0), 1) := by decide +kernel
theorem dM_held_104 : decode prog_14_method_94_code 104 = .ok (.istore 5, 2) := by decide +kernel
theorem dM_held_106 : decode prog_14_method_94_code 106 = .ok (.iinc 7 (1), 3) := by decide +kernel
theorem dM_held_109 : decode prog_14_method_94_code 109 = .ok (.goto (-44), 3) := by decide +kernel
theorem dM_held_112 : decode prog_14_method_94_code 112 = .ok (.iinc 6 (1), 3) := by decide +kernel
theorem dM_held_115 : decode prog_14_method_94_code 115 = .ok (.goto (-62), 3) := by decide +kernel
theorem dM_held_118 : decode prog_14_method_94_code 118 = .ok (.iload 5, 2) := by decide +kernel
theorem dM_held_120 : decode prog_14_method_94_code 120 = .ok (.ifCond .eq (6), 3) := by decide +kernel
theorem dM_held_123 : decode prog_14_method_94_code 123 = .ok (.iinc 3 (1), 3) := by decide +kernel
theorem dM_held_126 : decode prog_14_method_94_code 126 = .ok (.iinc 4 (1), 3) := by decide +kernel
theorem dM_held_129 : decode prog_14_method_94_code 129 = .ok (.goto (-103), 3) := by decide +kernel
theorem dM_held_132 : decode prog_14_method_94_code 132 = .ok (.iload_n 3, 1) := by decide +kernel
theorem dM_held_133 : decode prog_14_method_94_code 133 = .ok (.iload_n 1, 1) := by decide +kernel
theorem dM_held_134 : decode prog_14_method_94_code 134 = .ok (.if_icmp .le (7), 3) := by decide +kernel
theorem dM_held_137 : decode prog_14_method_94_code 137 = .ok (.iload_n 3, 1) := by decide +kernel
theorem dM_held_138 : decode prog_14_method_94_code 138 = .ok (.goto (4), 3) := by decide +kernel
theorem dM_held_141 : decode prog_14_method_94_code 141 = .ok (.iload_n 1, 1) := by decide +kernel
theorem dM_held_142 : decode prog_14_method_94_code 142 = .ok (.istore_n 1, 1) := by decide +kernel
theorem dM_held_143 : decode prog_14_method_94_code 143 = .ok (.iinc 2 (1), 3) := by decide +kernel
theorem dM_held_146 : decode prog_14_method_94_code 146 = .ok (.goto (-133), 3) := by decide +kernel
theorem dM_held_149 : decode prog_14_method_94_code 149 = .ok (.iload_n 1, 1) := by decide +kernel
theorem dM_held_150 : decode prog_14_method_94_code 150 = .ok (.ireturn, 1) := by decide +kernel
theorem dM_pages_0 : decode prog_14_method_98_code 0 = .ok (.iload_n 1, 1) := by decide +kernel
theorem dM_pages_1 : decode prog_14_method_98_code 1 = .ok (.i2l, 1) := by decide +kernel
theorem dM_pages_2 : decode prog_14_method_98_code 2 = .ok (.lconst 1, 1) := by decide +kernel
theorem dM_pages_3 : decode prog_14_method_98_code 3 = .ok (.ldc2_w 439, 3) := by decide +kernel
theorem dM_pages_6 : decode prog_14_method_98_code 6 = .ok (.invokestatic 196, 3) := by decide +kernel
theorem dM_pages_9 : decode prog_14_method_98_code 9 = .ok (.ifCond .eq (14), 3) := by decide +kernel
theorem dM_pages_12 : decode prog_14_method_98_code 12 = .ok (.iload_n 2, 1) := by decide +kernel
theorem dM_pages_13 : decode prog_14_method_98_code 13 = .ok (.ifCond .lt (10), 3) := by decide +kernel
theorem dM_pages_16 : decode prog_14_method_98_code 16 = .ok (.aload_n 0, 1) := by decide +kernel
theorem dM_pages_17 : decode prog_14_method_98_code 17 = .ok (.getfield 331, 3) := by decide +kernel
theorem dM_pages_20 : decode prog_14_method_98_code 20 = .ok (.ifCond .ne (5), 3) := by decide +kernel
theorem dM_pages_23 : decode prog_14_method_98_code 23 = .ok (.iconst (-1), 1) := by decide +kernel
theorem dM_pages_24 : decode prog_14_method_98_code 24 = .ok (.ireturn, 1) := by decide +kernel
theorem dM_pages_25 : decode prog_14_method_98_code 25 = .ok (.aload_n 0, 1) := by decide +kernel
theorem dM_pages_26 : decode prog_14_method_98_code 26 = .ok (.getfield 331, 3) := by decide +kernel
theorem dM_pages_29 : decode prog_14_method_98_code 29 = .ok (.iload_n 1, 1) := by decide +kernel
theorem dM_pages_30 : decode prog_14_method_98_code 30 = .ok (.iadd, 1) := by decide +kernel
theorem dM_pages_31 : decode prog_14_method_98_code 31 = .ok (.iconst (1), 1) := by decide +kernel
theorem dM_pages_32 : decode prog_14_method_98_code 32 = .ok (.isub, 1) := by decide +kernel
theorem dM_pages_33 : decode prog_14_method_98_code 33 = .ok (.iload_n 1, 1) := by decide +kernel
theorem dM_pages_34 : decode prog_14_method_98_code 34 = .ok (.idiv, 1) := by decide +kernel
theorem dM_pages_35 : decode prog_14_method_98_code 35 = .ok (.istore_n 3, 1) := by decide +kernel
theorem dM_pages_36 : decode prog_14_method_98_code 36 = .ok (.iload_n 2, 1) := by decide +kernel
theorem dM_pages_37 : decode prog_14_method_98_code 37 = .ok (.ifCond .ne (5), 3) := by decide +kernel
theorem dM_pages_40 : decode prog_14_method_98_code 40 = .ok (.iload_n 3, 1) := by decide +kernel
theorem dM_pages_41 : decode prog_14_method_98_code 41 = .ok (.ireturn, 1) := by decide +kernel
theorem dM_pages_42 : decode prog_14_method_98_code 42 = .ok (.iload_n 2, 1) := by decide +kernel
theorem dM_pages_43 : decode prog_14_method_98_code 43 = .ok (.iconst (1), 1) := by decide +kernel
theorem dM_pages_44 : decode prog_14_method_98_code 44 = .ok (.iload_n 3, 1) := by decide +kernel
theorem dM_pages_45 : decode prog_14_method_98_code 45 = .ok (.iadd, 1) := by decide +kernel
theorem dM_pages_46 : decode prog_14_method_98_code 46 = .ok (.if_icmp .le (5), 3) := by decide +kernel
theorem dM_pages_49 : decode prog_14_method_98_code 49 = .ok (.iconst (-1), 1) := by decide +kernel
theorem dM_pages_50 : decode prog_14_method_98_code 50 = .ok (.ireturn, 1) := by decide +kernel
theorem dM_pages_51 : decode prog_14_method_98_code 51 = .ok (.aload_n 0, 1) := by decide +kernel
theorem dM_pages_52 : decode prog_14_method_98_code 52 = .ok (.iload_n 1, 1) := by decide +kernel
theorem dM_pages_53 : decode prog_14_method_98_code 53 = .ok (.iload_n 3, 1) := by decide +kernel
theorem dM_pages_54 : decode prog_14_method_98_code 54 = .ok (.invokevirtual 441, 3) := by decide +kernel
theorem dM_pages_57 : decode prog_14_method_98_code 57 = .ok (.iload_n 2, 1) := by decide +kernel
theorem dM_pages_58 : decode prog_14_method_98_code 58 = .ok (.iconst (1), 1) := by decide +kernel
theorem dM_pages_59 : decode prog_14_method_98_code 59 = .ok (.if_icmp .ne (10), 3) := by decide +kernel
theorem dM_pages_62 : decode prog_14_method_98_code 62 = .ok (.aload_n 0, 1) := by decide +kernel
theorem dM_pages_63 : decode prog_14_method_98_code 63 = .ok (.getfield 140, 3) := by decide +kernel
theorem dM_pages_66 : decode prog_14_method_98_code 66 = .ok (.iload_n 3, 1) := by decide +kernel
theorem dM_pages_67 : decode prog_14_method_98_code 67 = .ok (.iaload, 1) := by decide +kernel
theorem dM_pages_68 : decode prog_14_method_98_code 68 = .ok (.ireturn, 1) := by decide +kernel
theorem dM_pages_69 : decode prog_14_method_98_code 69 = .ok (.iconst (0), 1) := by decide +kernel
theorem dM_pages_70 : decode prog_14_method_98_code 70 = .ok (.istore 4, 2) := by decide +kernel
theorem dM_pages_72 : decode prog_14_method_98_code 72 = .ok (.iconst (0), 1) := by decide +kernel
theorem dM_pages_73 : decode prog_14_method_98_code 73 = .ok (.istore 5, 2) := by decide +kernel
theorem dM_pages_75 : decode prog_14_method_98_code 75 = .ok (.iload 5, 2) := by decide +kernel
theorem dM_pages_77 : decode prog_14_method_98_code 77 = .ok (.iload_n 2, 1) := by decide +kernel
theorem dM_pages_78 : decode prog_14_method_98_code 78 = .ok (.iconst (2), 1) := by decide +kernel
theorem dM_pages_79 : decode prog_14_method_98_code 79 = .ok (.isub, 1) := by decide +kernel
theorem dM_pages_80 : decode prog_14_method_98_code 80 = .ok (.if_icmp .ge (55), 3) := by decide +kernel
theorem dM_pages_83 : decode prog_14_method_98_code 83 = .ok (.iload 4, 2) := by decide +kernel
theorem dM_pages_85 : decode prog_14_method_98_code 85 = .ok (.iconst (1), 1) := by decide +kernel
theorem dM_pages_86 : decode prog_14_method_98_code 86 = .ok (.iadd, 1) := by decide +kernel
theorem dM_pages_87 : decode prog_14_method_98_code 87 = .ok (.istore 6, 2) := by decide +kernel
theorem dM_pages_89 : decode prog_14_method_98_code 89 = .ok (.aload_n 0, 1) := by decide +kernel
theorem dM_pages_90 : decode prog_14_method_98_code 90 = .ok (.iload 4, 2) := by decide +kernel
theorem dM_pages_92 : decode prog_14_method_98_code 92 = .ok (.iload 6, 2) := by decide +kernel
theorem dM_pages_94 : decode prog_14_method_98_code 94 = .ok (.iload_n 3, 1) := by decide +kernel
theorem dM_pages_95 : decode prog_14_method_98_code 95 = .ok (.iload 5, 2) := by decide +kernel
theorem dM_pages_97 : decode prog_14_method_98_code 97 = .ok (.isub, 1) := by decide +kernel
theorem dM_pages_98 : decode prog_14_method_98_code 98 = .ok (.invokevirtual 435, 3) := by decide +kernel
theorem dM_pages_101 : decode prog_14_method_98_code 101 = .ok (.aload_n 0, 1) := by decide +kernel
theorem dM_pages_102 : decode prog_14_method_98_code 102 = .ok (.getfield 140, 3) := by decide +kernel
theorem dM_pages_105 : decode prog_14_method_98_code 105 = .ok (.bipush (42), 2) := by decide +kernel
theorem dM_pages_107 : decode prog_14_method_98_code 107 = .ok (.iload 4, 2) := by decide +kernel
theorem dM_pages_109 : decode prog_14_method_98_code 109 = .ok (.imul, 1) := by decide +kernel
theorem dM_pages_110 : decode prog_14_method_98_code 110 = .ok (.iload_n 3, 1) := by decide +kernel
theorem dM_pages_111 : decode prog_14_method_98_code 111 = .ok (.iadd, 1) := by decide +kernel
theorem dM_pages_112 : decode prog_14_method_98_code 112 = .ok (.iload 5, 2) := by decide +kernel
theorem dM_pages_114 : decode prog_14_method_98_code 114 = .ok (.isub, 1) := by decide +kernel
theorem dM_pages_115 : decode prog_14_method_98_code 115 = .ok (.iaload, 1) := by decide +kernel
theorem dM_pages_116 : decode prog_14_method_98_code 116 = .ok (.if_icmp .eq (9), 3) := by decide +kernel
theorem dM_pages_119 : decode prog_14_method_98_code 119 = .ok (.iinc 6 (1), 3) := by decide +kernel
theorem dM_pages_122 : decode prog_14_method_98_code 122 = .ok (.goto (-33), 3) := by decide +kernel
theorem dM_pages_125 : decode prog_14_method_98_code 125 = .ok (.iload 6, 2) := by decide +kernel
theorem dM_pages_127 : decode prog_14_method_98_code 127 = .ok (.istore 4, 2) := by decide +kernel
theorem dM_pages_129 : decode prog_14_method_98_code 129 = .ok (.iinc 5 (1), 3) := by decide +kernel
theorem dM_pages_132 : decode prog_14_method_98_code 132 = .ok (.goto (-57), 3) := by decide +kernel
theorem dM_pages_135 : decode prog_14_method_98_code 135 = .ok (.iload 4, 2) := by decide +kernel
theorem dM_pages_137 : decode prog_14_method_98_code 137 = .ok (.ireturn, 1) := by decide +kernel
theorem dM_pagesOf_0 : decode prog_14_method_97_code 0 = .ok (.aload_n 0, 1) := by decide +kernel
theorem dM_pagesOf_1 : decode prog_14_method_97_code 1 = .ok (.getfield 331, 3) := by decide +kernel
theorem dM_pagesOf_4 : decode prog_14_method_97_code 4 = .ok (.istore_n 3, 1) := by decide +kernel
theorem dM_pagesOf_5 : decode prog_14_method_97_code 5 = .ok (.iload_n 3, 1) := by decide +kernel
theorem dM_pagesOf_6 : decode prog_14_method_97_code 6 = .ok (.ifCond .lt (118), 3) := by decide +kernel
theorem dM_pagesOf_9 : decode prog_14_method_97_code 9 = .ok (.iconst (0), 1) := by decide +kernel
theorem dM_pagesOf_10 : decode prog_14_method_97_code 10 = .ok (.istore 4, 2) := by decide +kernel
theorem dM_pagesOf_12 : decode prog_14_method_97_code 12 = .ok (.iload 4, 2) := by decide +kernel
theorem dM_pagesOf_14 : decode prog_14_method_97_code 14 = .ok (.iload_n 2, 1) := by decide +kernel
theorem dM_pagesOf_15 : decode prog_14_method_97_code 15 = .ok (.if_icmp .gt (103), 3) := by decide +kernel
theorem dM_pagesOf_18 : decode prog_14_method_97_code 18 = .ok (.iload_n 3, 1) := by decide +kernel
theorem dM_pagesOf_19 : decode prog_14_method_97_code 19 = .ok (.aload_n 0, 1) := by decide +kernel
theorem dM_pagesOf_20 : decode prog_14_method_97_code 20 = .ok (.getfield 331, 3) := by decide +kernel
theorem dM_pagesOf_23 : decode prog_14_method_97_code 23 = .ok (.if_icmp .ne (12), 3) := by decide +kernel
theorem dM_pagesOf_26 : decode prog_14_method_97_code 26 = .ok (.iload 4, 2) := by decide +kernel
theorem dM_pagesOf_28 : decode prog_14_method_97_code 28 = .ok (.ifCond .ne (7), 3) := by decide +kernel
theorem dM_pagesOf_31 : decode prog_14_method_97_code 31 = .ok (.iconst (0), 1) := by decide +kernel
theorem dM_pagesOf_32 : decode prog_14_method_97_code 32 = .ok (.goto (6), 3) := by decide +kernel
theorem dM_pagesOf_35 : decode prog_14_method_97_code 35 = .ok (.sipush (10000), 3) := by decide +kernel
theorem dM_pagesOf_38 : decode prog_14_method_97_code 38 = .ok (.istore 5, 2) := by decide +kernel
theorem dM_pagesOf_40 : decode prog_14_method_97_code 40 = .ok (.iload_n 3, 1) := by decide +kernel
theorem dM_pagesOf_41 : decode prog_14_method_97_code 41 = .ok (.iconst (1), 1) := by decide +kernel
theorem dM_pagesOf_42 : decode prog_14_method_97_code 42 = .ok (.iadd, 1) := by decide +kernel
theorem dM_pagesOf_43 : decode prog_14_method_97_code 43 = .ok (.istore 6, 2) := by decide +kernel
theorem dM_pagesOf_45 : decode prog_14_method_97_code 45 = .ok (.iload 6, 2) := by decide +kernel
theorem dM_pagesOf_47 : decode prog_14_method_97_code 47 = .ok (.iload_n 3, 1) := by decide +kernel
theorem dM_pagesOf_48 : decode prog_14_method_97_code 48 = .ok (.iload_n 1, 1) := by decide +kernel
theorem dM_pagesOf_49 : decode prog_14_method_97_code 49 = .ok (.iadd, 1) := by decide +kernel
theorem dM_pagesOf_50 : decode prog_14_method_97_code 50 = .ok (.if_icmp .gt (48), 3) := by decide +kernel
theorem dM_pagesOf_53 : decode prog_14_method_97_code 53 = .ok (.iload 6, 2) := by decide +kernel
theorem dM_pagesOf_55 : decode prog_14_method_97_code 55 = .ok (.aload_n 0, 1) := by decide +kernel
theorem dM_pagesOf_56 : decode prog_14_method_97_code 56 = .ok (.getfield 331, 3) := by decide +kernel
theorem dM_pagesOf_59 : decode prog_14_method_97_code 59 = .ok (.if_icmp .gt (39), 3) := by decide +kernel
theorem dM_pagesOf_62 : decode prog_14_method_97_code 62 = .ok (.iload 4, 2) := by decide +kernel
theorem dM_pagesOf_64 : decode prog_14_method_97_code 64 = .ok (.ifCond .le (34), 3) := by decide +kernel
theorem dM_pagesOf_67 : decode prog_14_method_97_code 67 = .ok (.aload_n 0, 1) := by decide +kernel
theorem dM_pagesOf_68 : decode prog_14_method_97_code 68 = .ok (.iload_n 3, 1) := by decide +kernel
theorem dM_pagesOf_69 : decode prog_14_method_97_code 69 = .ok (.iload 6, 2) := by decide +kernel
theorem dM_pagesOf_71 : decode prog_14_method_97_code 71 = .ok (.iload 4, 2) := by decide +kernel
theorem dM_pagesOf_73 : decode prog_14_method_97_code 73 = .ok (.invokevirtual 435, 3) := by decide +kernel
theorem dM_pagesOf_76 : decode prog_14_method_97_code 76 = .ok (.iload 5, 2) := by decide +kernel
theorem dM_pagesOf_78 : decode prog_14_method_97_code 78 = .ok (.if_icmp .ge (14), 3) := by decide +kernel
theorem dM_pagesOf_81 : decode prog_14_method_97_code 81 = .ok (.aload_n 0, 1) := by decide +kernel
theorem dM_pagesOf_82 : decode prog_14_method_97_code 82 = .ok (.iload_n 3, 1) := by decide +kernel
theorem dM_pagesOf_83 : decode prog_14_method_97_code 83 = .ok (.iload 6, 2) := by decide +kernel
theorem dM_pagesOf_85 : decode prog_14_method_97_code 85 = .ok (.iload 4, 2) := by decide +kernel
theorem dM_pagesOf_87 : decode prog_14_method_97_code 87 = .ok (.invokevirtual 435, 3) := by decide +kernel
theorem dM_pagesOf_90 : decode prog_14_method_97_code 90 = .ok (.istore 5, 2) := by decide +kernel
theorem dM_pagesOf_92 : decode prog_14_method_97_code 92 = .ok (.iinc 6 (1), 3) := by decide +kernel
theorem dM_pagesOf_95 : decode prog_14_method_97_code 95 = .ok (.goto (-50), 3) := by decide +kernel
theorem dM_pagesOf_98 : decode prog_14_method_97_code 98 = .ok (.aload_n 0, 1) := by decide +kernel
theorem dM_pagesOf_99 : decode prog_14_method_97_code 99 = .ok (.getfield 140, 3) := by decide +kernel
theorem dM_pagesOf_102 : decode prog_14_method_97_code 102 = .ok (.bipush (42), 2) := by decide +kernel
theorem dM_pagesOf_104 : decode prog_14_method_97_code 104 = .ok (.iload_n 3, 1) := by decide +kernel
theorem dM_pagesOf_105 : decode prog_14_method_97_code 105 = .ok (.imul, 1) := by decide +kernel
theorem dM_pagesOf_106 : decode prog_14_method_97_code 106 = .ok (.iload 4, 2) := by decide +kernel
theorem dM_pagesOf_108 : decode prog_14_method_97_code 108 = .ok (.iadd, 1) := by decide +kernel
theorem dM_pagesOf_109 : decode prog_14_method_97_code 109 = .ok (.iload 5, 2) := by decide +kernel
theorem dM_pagesOf_111 : decode prog_14_method_97_code 111 = .ok (.iastore, 1) := by decide +kernel
theorem dM_pagesOf_112 : decode prog_14_method_97_code 112 = .ok (.iinc 4 (1), 3) := by decide +kernel
theorem dM_pagesOf_115 : decode prog_14_method_97_code 115 = .ok (.goto (-103), 3) := by decide +kernel
theorem dM_pagesOf_118 : decode prog_14_method_97_code 118 = .ok (.iinc 3 (-1), 3) := by decide +kernel
theorem dM_pagesOf_121 : decode prog_14_method_97_code 121 = .ok (.goto (-116), 3) := by decide +kernel
theorem dM_pagesOf_124 : decode prog_14_method_97_code 124 = .ok (.return_, 1) := by decide +kernel
theorem dM_looksBy_0 : decode prog_14_method_96_code 0 = .ok (.aload_n 0, 1) := by decide +kernel
theorem dM_looksBy_1 : decode prog_14_method_96_code 1 = .ok (.getfield 140, 3) := by decide +kernel
theorem dM_looksBy_4 : decode prog_14_method_96_code 4 = .ok (.bipush (42), 2) := by decide +kernel
theorem dM_looksBy_6 : decode prog_14_method_96_code 6 = .ok (.iload_n 2, 1) := by decide +kernel
theorem dM_looksBy_7 : decode prog_14_method_96_code 7 = .ok (.imul, 1) := by decide +kernel
theorem dM_looksBy_8 : decode prog_14_method_96_code 8 = .ok (.iload_n 3, 1) := by decide +kernel
theorem dM_looksBy_9 : decode prog_14_method_96_code 9 = .ok (.iadd, 1) := by decide +kernel
theorem dM_looksBy_10 : decode prog_14_method_96_code 10 = .ok (.iconst (1), 1) := by decide +kernel
theorem dM_looksBy_11 : decode prog_14_method_96_code 11 = .ok (.isub, 1) := by decide +kernel
theorem dM_looksBy_12 : decode prog_14_method_96_code 12 = .ok (.iaload, 1) := by decide +kernel
theorem dM_looksBy_13 : decode prog_14_method_96_code 13 = .ok (.sipush (10000), 3) := by decide +kernel
theorem dM_looksBy_16 : decode prog_14_method_96_code 16 = .ok (.if_icmp .ne (9), 3) := by decide +kernel
theorem dM_looksBy_19 : decode prog_14_method_96_code 19 = .ok (.sipush (10000), 3) := by decide +kernel
theorem dM_looksBy_22 : decode prog_14_method_96_code 22 = .ok (.goto (23), 3) := by decide +kernel
theorem dM_looksBy_25 : decode prog_14_method_96_code 25 = .ok (.aload_n 0, 1) := by decide +kernel
theorem dM_looksBy_26 : decode prog_14_method_96_code 26 = .ok (.iload_n 1, 1) := by decide +kernel
theorem dM_looksBy_27 : decode prog_14_method_96_code 27 = .ok (.iload_n 2, 1) := by decide +kernel
theorem dM_looksBy_28 : decode prog_14_method_96_code 28 = .ok (.invokevirtual 432, 3) := by decide +kernel
theorem dM_looksBy_31 : decode prog_14_method_96_code 31 = .ok (.aload_n 0, 1) := by decide +kernel
theorem dM_looksBy_32 : decode prog_14_method_96_code 32 = .ok (.getfield 140, 3) := by decide +kernel
theorem dM_looksBy_35 : decode prog_14_method_96_code 35 = .ok (.bipush (42), 2) := by decide +kernel
theorem dM_looksBy_37 : decode prog_14_method_96_code 37 = .ok (.iload_n 2, 1) := by decide +kernel
theorem dM_looksBy_38 : decode prog_14_method_96_code 38 = .ok (.imul, 1) := by decide +kernel
theorem dM_looksBy_39 : decode prog_14_method_96_code 39 = .ok (.iload_n 3, 1) := by decide +kernel
theorem dM_looksBy_40 : decode prog_14_method_96_code 40 = .ok (.iadd, 1) := by decide +kernel
theorem dM_looksBy_41 : decode prog_14_method_96_code 41 = .ok (.iconst (1), 1) := by decide +kernel
theorem dM_looksBy_42 : decode prog_14_method_96_code 42 = .ok (.isub, 1) := by decide +kernel
theorem dM_looksBy_43 : decode prog_14_method_96_code 43 = .ok (.iaload, 1) := by decide +kernel
theorem dM_looksBy_44 : decode prog_14_method_96_code 44 = .ok (.iadd, 1) := by decide +kernel
theorem dM_looksBy_45 : decode prog_14_method_96_code 45 = .ok (.ireturn, 1) := by decide +kernel
theorem dM_looksOf_0 : decode prog_14_method_95_code 0 = .ok (.iconst (0), 1) := by decide +kernel
theorem dM_looksOf_1 : decode prog_14_method_95_code 1 = .ok (.istore_n 3, 1) := by decide +kernel
theorem dM_looksOf_2 : decode prog_14_method_95_code 2 = .ok (.iload_n 1, 1) := by decide +kernel
theorem dM_looksOf_3 : decode prog_14_method_95_code 3 = .ok (.istore 4, 2) := by decide +kernel
theorem dM_looksOf_5 : decode prog_14_method_95_code 5 = .ok (.iload 4, 2) := by decide +kernel
theorem dM_looksOf_7 : decode prog_14_method_95_code 7 = .ok (.iload_n 2, 1) := by decide +kernel
theorem dM_looksOf_8 : decode prog_14_method_95_code 8 = .ok (.if_icmp .ge (49), 3) := by decide +kernel
theorem dM_looksOf_11 : decode prog_14_method_95_code 11 = .ok (.iconst (0), 1) := by decide +kernel
theorem dM_looksOf_12 : decode prog_14_method_95_code 12 = .ok (.istore 5, 2) := by decide +kernel
theorem dM_looksOf_14 : decode prog_14_method_95_code 14 = .ok (.iload 5, 2) := by decide +kernel
theorem dM_looksOf_16 : decode prog_14_method_95_code 16 = .ok (.aload_n 0, 1) := by decide +kernel
theorem dM_looksOf_17 : decode prog_14_method_95_code 17 = .ok (.aload_n 0, 1) := by decide +kernel
theorem dM_looksOf_18 : decode prog_14_method_95_code 18 = .ok (.getfield 100, 3) := by decide +kernel
theorem dM_looksOf_21 : decode prog_14_method_95_code 21 = .ok (.iload 4, 2) := by decide +kernel
theorem dM_looksOf_23 : decode prog_14_method_95_code 23 = .ok (.iaload, 1) := by decide +kernel
theorem dM_looksOf_24 : decode prog_14_method_95_code 24 = .ok (.invokevirtual 328, 3) := by decide +kernel
theorem dM_looksOf_27 : decode prog_14_method_95_code 27 = .ok (.if_icmp .ge (24), 3) := by decide +kernel
theorem dM_looksOf_30 : decode prog_14_method_95_code 30 = .ok (.aload_n 0, 1) := by decide +kernel
theorem dM_looksOf_31 : decode prog_14_method_95_code 31 = .ok (.iload 4, 2) := by decide +kernel
theorem dM_looksOf_33 : decode prog_14_method_95_code 33 = .ok (.iload 5, 2) := by decide +kernel
theorem dM_looksOf_35 : decode prog_14_method_95_code 35 = .ok (.invokevirtual 377, 3) := by decide +kernel
theorem dM_looksOf_38 : decode prog_14_method_95_code 38 = .ok (.iload_n 1, 1) := by decide +kernel
theorem dM_looksOf_39 : decode prog_14_method_95_code 39 = .ok (.if_icmp .ge (6), 3) := by decide +kernel
theorem dM_looksOf_42 : decode prog_14_method_95_code 42 = .ok (.iinc 3 (1), 3) := by decide +kernel
theorem dM_looksOf_45 : decode prog_14_method_95_code 45 = .ok (.iinc 5 (1), 3) := by decide +kernel
theorem dM_looksOf_48 : decode prog_14_method_95_code 48 = .ok (.goto (-34), 3) := by decide +kernel
theorem dM_looksOf_51 : decode prog_14_method_95_code 51 = .ok (.iinc 4 (1), 3) := by decide +kernel
theorem dM_looksOf_54 : decode prog_14_method_95_code 54 = .ok (.goto (-49), 3) := by decide +kernel
theorem dM_looksOf_57 : decode prog_14_method_95_code 57 = .ok (.iload_n 3, 1) := by decide +kernel
theorem dM_looksOf_58 : decode prog_14_method_95_code 58 = .ok (.ireturn, 1) := by decide +kernel
theorem dM_blame_0 : decode prog_14_method_99_code 0 = .ok (.aload_n 0, 1) := by decide +kernel
theorem dM_blame_1 : decode prog_14_method_99_code 1 = .ok (.iload_n 1, 1) := by decide +kernel
theorem dM_blame_2 : decode prog_14_method_99_code 2 = .ok (.invokevirtual 362, 3) := by decide +kernel
theorem dM_blame_5 : decode prog_14_method_99_code 5 = .ok (.ifCond .ne (5), 3) := by decide +kernel
theorem dM_blame_8 : decode prog_14_method_99_code 8 = .ok (.iconst (-1), 1) := by decide +kernel
theorem dM_blame_9 : decode prog_14_method_99_code 9 = .ok (.ireturn, 1) := by decide +kernel
theorem dM_blame_10 : decode prog_14_method_99_code 10 = .ok (.aload_n 0, 1) := by decide +kernel
theorem dM_blame_11 : decode prog_14_method_99_code 11 = .ok (.getfield 106, 3) := by decide +kernel
theorem dM_blame_14 : decode prog_14_method_99_code 14 = .ok (.iload_n 1, 1) := by decide +kernel
theorem dM_blame_15 : decode prog_14_method_99_code 15 = .ok (.iload_n 2, 1) := by decide +kernel
theorem dM_blame_16 : decode prog_14_method_99_code 16 = .ok (.bastore, 1) := by decide +kernel
theorem dM_blame_17 : decode prog_14_method_99_code 17 = .ok (.aload_n 0, 1) := by decide +kernel
theorem dM_blame_18 : decode prog_14_method_99_code 18 = .ok (.invokevirtual 352, 3) := by decide +kernel
theorem dM_blame_21 : decode prog_14_method_99_code 21 = .ok (.ireturn, 1) := by decide +kernel
theorem dM_stands_0 : decode prog_14_method_100_code 0 = .ok (.aload_n 0, 1) := by decide +kernel
theorem dM_stands_1 : decode prog_14_method_100_code 1 = .ok (.invokevirtual 294, 3) := by decide +kernel
theorem dM_stands_4 : decode prog_14_method_100_code 4 = .ok (.ifCond .ne (5), 3) := by decide +kernel
theorem dM_stands_7 : decode prog_14_method_100_code 7 = .ok (.iconst (-1), 1) := by decide +kernel
theorem dM_stands_8 : decode prog_14_method_100_code 8 = .ok (.ireturn, 1) := by decide +kernel
theorem dM_stands_9 : decode prog_14_method_100_code 9 = .ok (.aload_n 0, 1) := by decide +kernel
theorem dM_stands_10 : decode prog_14_method_100_code 10 = .ok (.invokevirtual 352, 3) := by decide +kernel
theorem dM_stands_13 : decode prog_14_method_100_code 13 = .ok (.istore_n 1, 1) := by decide +kernel
theorem dM_stands_14 : decode prog_14_method_100_code 14 = .ok (.iconst (0), 1) := by decide +kernel
theorem dM_stands_15 : decode prog_14_method_100_code 15 = .ok (.istore_n 2, 1) := by decide +kernel
theorem dM_stands_16 : decode prog_14_method_100_code 16 = .ok (.iload_n 2, 1) := by decide +kernel
theorem dM_stands_17 : decode prog_14_method_100_code 17 = .ok (.aload_n 0, 1) := by decide +kernel
theorem dM_stands_18 : decode prog_14_method_100_code 18 = .ok (.invokevirtual 294, 3) := by decide +kernel
theorem dM_stands_21 : decode prog_14_method_100_code 21 = .ok (.if_icmp .ge (38), 3) := by decide +kernel
theorem dM_stands_24 : decode prog_14_method_100_code 24 = .ok (.aload_n 0, 1) := by decide +kernel
theorem dM_stands_25 : decode prog_14_method_100_code 25 = .ok (.getfield 94, 3) := by decide +kernel
theorem dM_stands_28 : decode prog_14_method_100_code 28 = .ok (.iload_n 2, 1) := by decide +kernel
theorem dM_stands_29 : decode prog_14_method_100_code 29 = .ok (.iaload, 1) := by decide +kernel
theorem dM_stands_30 : decode prog_14_method_100_code 30 = .ok (.aload_n 0, 1) := by decide +kernel
theorem dM_stands_31 : decode prog_14_method_100_code 31 = .ok (.getfield 94, 3) := by decide +kernel
theorem dM_stands_34 : decode prog_14_method_100_code 34 = .ok (.aload_n 0, 1) := by decide +kernel
theorem dM_stands_35 : decode prog_14_method_100_code 35 = .ok (.getfield 288, 3) := by decide +kernel
theorem dM_stands_38 : decode prog_14_method_100_code 38 = .ok (.iaload, 1) := by decide +kernel
theorem dM_stands_39 : decode prog_14_method_100_code 39 = .ok (.if_icmp .ne (14), 3) := by decide +kernel
theorem dM_stands_42 : decode prog_14_method_100_code 42 = .ok (.aload_n 0, 1) := by decide +kernel
theorem dM_stands_43 : decode prog_14_method_100_code 43 = .ok (.getfield 110, 3) := by decide +kernel
theorem dM_stands_46 : decode prog_14_method_100_code 46 = .ok (.iload_n 2, 1) := by decide +kernel
theorem dM_stands_47 : decode prog_14_method_100_code 47 = .ok (.baload, 1) := by decide +kernel
theorem dM_stands_48 : decode prog_14_method_100_code 48 = .ok (.ifCond .ne (5), 3) := by decide +kernel
theorem dM_stands_51 : decode prog_14_method_100_code 51 = .ok (.iconst (1), 1) := by decide +kernel
theorem dM_stands_52 : decode prog_14_method_100_code 52 = .ok (.ireturn, 1) := by decide +kernel
theorem dM_stands_53 : decode prog_14_method_100_code 53 = .ok (.iinc 2 (1), 3) := by decide +kernel
theorem dM_stands_56 : decode prog_14_method_100_code 56 = .ok (.goto (-40), 3) := by decide +kernel
theorem dM_stands_59 : decode prog_14_method_100_code 59 = .ok (.iconst (0), 1) := by decide +kernel
theorem dM_stands_60 : decode prog_14_method_100_code 60 = .ok (.ireturn, 1) := by decide +kernel
theorem dM_fewest_0 : decode prog_14_method_107_code 0 = .ok (.aload_n 0, 1) := by decide +kernel
theorem dM_fewest_1 : decode prog_14_method_107_code 1 = .ok (.invokevirtual 294, 3) := by decide +kernel
theorem dM_fewest_4 : decode prog_14_method_107_code 4 = .ok (.ifCond .eq (18), 3) := by decide +kernel
theorem dM_fewest_7 : decode prog_14_method_107_code 7 = .ok (.iload_n 1, 1) := by decide +kernel
theorem dM_fewest_8 : decode prog_14_method_107_code 8 = .ok (.iconst (-1), 1) := by decide +kernel
theorem dM_fewest_9 : decode prog_14_method_107_code 9 = .ok (.if_icmp .lt (13), 3) := by decide +kernel
theorem dM_fewest_12 : decode prog_14_method_107_code 12 = .ok (.aload_n 0, 1) := by decide +kernel
theorem dM_fewest_13 : decode prog_14_method_107_code 13 = .ok (.invokevirtual 457, 3) := by decide +kernel
theorem dM_fewest_16 : decode prog_14_method_107_code 16 = .ok (.sipush (4096), 3) := by decide +kernel
theorem dM_fewest_19 : decode prog_14_method_107_code 19 = .ok (.if_icmp .le (5), 3) := by decide +kernel
theorem dM_fewest_22 : decode prog_14_method_107_code 22 = .ok (.iconst (-1), 1) := by decide +kernel
theorem dM_fewest_23 : decode prog_14_method_107_code 23 = .ok (.ireturn, 1) := by decide +kernel
theorem dM_fewest_24 : decode prog_14_method_107_code 24 = .ok (.aload_n 0, 1) := by decide +kernel
theorem dM_fewest_25 : decode prog_14_method_107_code 25 = .ok (.invokevirtual 460, 3) := by decide +kernel
theorem dM_fewest_28 : decode prog_14_method_107_code 28 = .ok (.lstore_n 2, 1) := by decide +kernel
theorem dM_fewest_29 : decode prog_14_method_107_code 29 = .ok (.lload_n 2, 1) := by decide +kernel
theorem dM_fewest_30 : decode prog_14_method_107_code 30 = .ok (.lconst 0, 1) := by decide +kernel
theorem dM_fewest_31 : decode prog_14_method_107_code 31 = .ok (.lcmp, 1) := by decide +kernel
theorem dM_fewest_32 : decode prog_14_method_107_code 32 = .ok (.ifCond .ne (5), 3) := by decide +kernel
theorem dM_fewest_35 : decode prog_14_method_107_code 35 = .ok (.iconst (-1), 1) := by decide +kernel
theorem dM_fewest_36 : decode prog_14_method_107_code 36 = .ok (.ireturn, 1) := by decide +kernel
theorem dM_fewest_37 : decode prog_14_method_107_code 37 = .ok (.iload_n 1, 1) := by decide +kernel
theorem dM_fewest_38 : decode prog_14_method_107_code 38 = .ok (.iconst (-1), 1) := by decide +kernel
theorem dM_fewest_39 : decode prog_14_method_107_code 39 = .ok (.if_icmp .ne (8), 3) := by decide +kernel
theorem dM_fewest_42 : decode prog_14_method_107_code 42 = .ok (.lload_n 2, 1) := by decide +kernel
theorem dM_fewest_43 : decode prog_14_method_107_code 43 = .ok (.invokestatic 450, 3) := by decide +kernel
theorem dM_fewest_46 : decode prog_14_method_107_code 46 = .ok (.ireturn, 1) := by decide +kernel
theorem dM_fewest_47 : decode prog_14_method_107_code 47 = .ok (.iconst (0), 1) := by decide +kernel
theorem dM_fewest_48 : decode prog_14_method_107_code 48 = .ok (.istore 4, 2) := by decide +kernel
theorem dM_fewest_50 : decode prog_14_method_107_code 50 = .ok (.iconst (0), 1) := by decide +kernel
theorem dM_fewest_51 : decode prog_14_method_107_code 51 = .ok (.istore 5, 2) := by decide +kernel
theorem dM_fewest_53 : decode prog_14_method_107_code 53 = .ok (.iload 5, 2) := by decide +kernel
theorem dM_fewest_55 : decode prog_14_method_107_code 55 = .ok (.aload_n 0, 1) := by decide +kernel
theorem dM_fewest_56 : decode prog_14_method_107_code 56 = .ok (.invokevirtual 294, 3) := by decide +kernel
theorem dM_fewest_59 : decode prog_14_method_107_code 59 = .ok (.if_icmp .ge (35), 3) := by decide +kernel
theorem dM_fewest_62 : decode prog_14_method_107_code 62 = .ok (.lload_n 2, 1) := by decide +kernel
theorem dM_fewest_63 : decode prog_14_method_107_code 63 = .ok (.iload 5, 2) := by decide +kernel
theorem dM_fewest_65 : decode prog_14_method_107_code 65 = .ok (.lshr, 1) := by decide +kernel
theorem dM_fewest_66 : decode prog_14_method_107_code 66 = .ok (.lconst 1, 1) := by decide +kernel
theorem dM_fewest_67 : decode prog_14_method_107_code 67 = .ok (.land, 1) := by decide +kernel
theorem dM_fewest_68 : decode prog_14_method_107_code 68 = .ok (.lconst 0, 1) := by decide +kernel
theorem dM_fewest_69 : decode prog_14_method_107_code 69 = .ok (.lcmp, 1) := by decide +kernel
theorem dM_fewest_70 : decode prog_14_method_107_code 70 = .ok (.ifCond .ne (6), 3) := by decide +kernel
theorem dM_fewest_73 : decode prog_14_method_107_code 73 = .ok (.goto (15), 3) := by decide +kernel
theorem dM_fewest_76 : decode prog_14_method_107_code 76 = .ok (.iload 4, 2) := by decide +kernel
theorem dM_fewest_78 : decode prog_14_method_107_code 78 = .ok (.iload_n 1, 1) := by decide +kernel
theorem dM_fewest_79 : decode prog_14_method_107_code 79 = .ok (.if_icmp .ne (6), 3) := by decide +kernel
theorem dM_fewest_82 : decode prog_14_method_107_code 82 = .ok (.iload 5, 2) := by decide +kernel
theorem dM_fewest_84 : decode prog_14_method_107_code 84 = .ok (.ireturn, 1) := by decide +kernel
theorem dM_fewest_85 : decode prog_14_method_107_code 85 = .ok (.iinc 4 (1), 3) := by decide +kernel
theorem dM_fewest_88 : decode prog_14_method_107_code 88 = .ok (.iinc 5 (1), 3) := by decide +kernel
theorem dM_fewest_91 : decode prog_14_method_107_code 91 = .ok (.goto (-38), 3) := by decide +kernel
theorem dM_fewest_94 : decode prog_14_method_107_code 94 = .ok (.iconst (-1), 1) := by decide +kernel
theorem dM_fewest_95 : decode prog_14_method_107_code 95 = .ok (.ireturn, 1) := by decide +kernel
theorem dM_waysMany_0 : decode prog_14_method_102_code 0 = .ok (.iconst (1), 1) := by decide +kernel
theorem dM_waysMany_1 : decode prog_14_method_102_code 1 = .ok (.istore_n 1, 1) := by decide +kernel
theorem dM_waysMany_2 : decode prog_14_method_102_code 2 = .ok (.iconst (0), 1) := by decide +kernel
theorem dM_waysMany_3 : decode prog_14_method_102_code 3 = .ok (.istore_n 2, 1) := by decide +kernel
theorem dM_waysMany_4 : decode prog_14_method_102_code 4 = .ok (.iload_n 2, 1) := by decide +kernel
theorem dM_waysMany_5 : decode prog_14_method_102_code 5 = .ok (.aload_n 0, 1) := by decide +kernel
theorem dM_waysMany_6 : decode prog_14_method_102_code 6 = .ok (.invokevirtual 294, 3) := by decide +kernel
theorem dM_waysMany_9 : decode prog_14_method_102_code 9 = .ok (.if_icmp .ge (76), 3) := by decide +kernel
theorem dM_waysMany_12 : decode prog_14_method_102_code 12 = .ok (.iconst (0), 1) := by decide +kernel
theorem dM_waysMany_13 : decode prog_14_method_102_code 13 = .ok (.istore_n 3, 1) := by decide +kernel
theorem dM_waysMany_14 : decode prog_14_method_102_code 14 = .ok (.iload_n 2, 1) := by decide +kernel
theorem dM_waysMany_15 : decode prog_14_method_102_code 15 = .ok (.istore 4, 2) := by decide +kernel
theorem dM_waysMany_17 : decode prog_14_method_102_code 17 = .ok (.iload 4, 2) := by decide +kernel
theorem dM_waysMany_19 : decode prog_14_method_102_code 19 = .ok (.aload_n 0, 1) := by decide +kernel
theorem dM_waysMany_20 : decode prog_14_method_102_code 20 = .ok (.invokevirtual 294, 3) := by decide +kernel
theorem dM_waysMany_23 : decode prog_14_method_102_code 23 = .ok (.if_icmp .ge (37), 3) := by decide +kernel
theorem dM_waysMany_26 : decode prog_14_method_102_code 26 = .ok (.aload_n 0, 1) := by decide +kernel
theorem dM_waysMany_27 : decode prog_14_method_102_code 27 = .ok (.getfield 94, 3) := by decide +kernel
theorem dM_waysMany_30 : decode prog_14_method_102_code 30 = .ok (.iload 4, 2) := by decide +kernel
theorem dM_waysMany_32 : decode prog_14_method_102_code 32 = .ok (.iaload, 1) := by decide +kernel
theorem dM_waysMany_33 : decode prog_14_method_102_code 33 = .ok (.iload_n 2, 1) := by decide +kernel
theorem dM_waysMany_34 : decode prog_14_method_102_code 34 = .ok (.if_icmp .ne (20), 3) := by decide +kernel
theorem dM_waysMany_37 : decode prog_14_method_102_code 37 = .ok (.aload_n 0, 1) := by decide +kernel
theorem dM_waysMany_38 : decode prog_14_method_102_code 38 = .ok (.getfield 106, 3) := by decide +kernel
theorem dM_waysMany_41 : decode prog_14_method_102_code 41 = .ok (.aload_n 0, 1) := by decide +kernel
theorem dM_waysMany_42 : decode prog_14_method_102_code 42 = .ok (.iload 4, 2) := by decide +kernel
theorem dM_waysMany_44 : decode prog_14_method_102_code 44 = .ok (.invokevirtual 300, 3) := by decide +kernel
theorem dM_waysMany_47 : decode prog_14_method_102_code 47 = .ok (.baload, 1) := by decide +kernel
theorem dM_waysMany_48 : decode prog_14_method_102_code 48 = .ok (.ifCond .ne (6), 3) := by decide +kernel
theorem dM_waysMany_51 : decode prog_14_method_102_code 51 = .ok (.iinc 3 (1), 3) := by decide +kernel
theorem dM_waysMany_54 : decode prog_14_method_102_code 54 = .ok (.iinc 4 (1), 3) := by decide +kernel
theorem dM_waysMany_57 : decode prog_14_method_102_code 57 = .ok (.goto (-40), 3) := by decide +kernel
theorem dM_waysMany_60 : decode prog_14_method_102_code 60 = .ok (.iload_n 3, 1) := by decide +kernel
theorem dM_waysMany_61 : decode prog_14_method_102_code 61 = .ok (.ifCond .le (18), 3) := by decide +kernel
theorem dM_waysMany_64 : decode prog_14_method_102_code 64 = .ok (.iload_n 1, 1) := by decide +kernel
theorem dM_waysMany_65 : decode prog_14_method_102_code 65 = .ok (.sipush (4096), 3) := by decide +kernel
theorem dM_waysMany_68 : decode prog_14_method_102_code 68 = .ok (.if_icmp .le (7), 3) := by decide +kernel
theorem dM_waysMany_71 : decode prog_14_method_102_code 71 = .ok (.iload_n 1, 1) := by decide +kernel
theorem dM_waysMany_72 : decode prog_14_method_102_code 72 = .ok (.goto (6), 3) := by decide +kernel
theorem dM_waysMany_75 : decode prog_14_method_102_code 75 = .ok (.iload_n 1, 1) := by decide +kernel
theorem dM_waysMany_76 : decode prog_14_method_102_code 76 = .ok (.iload_n 3, 1) := by decide +kernel
theorem dM_waysMany_77 : decode prog_14_method_102_code 77 = .ok (.imul, 1) := by decide +kernel
theorem dM_waysMany_78 : decode prog_14_method_102_code 78 = .ok (.istore_n 1, 1) := by decide +kernel
theorem dM_waysMany_79 : decode prog_14_method_102_code 79 = .ok (.iinc 2 (1), 3) := by decide +kernel
theorem dM_waysMany_82 : decode prog_14_method_102_code 82 = .ok (.goto (-78), 3) := by decide +kernel
theorem dM_waysMany_85 : decode prog_14_method_102_code 85 = .ok (.iload_n 1, 1) := by decide +kernel
theorem dM_waysMany_86 : decode prog_14_method_102_code 86 = .ok (.ireturn, 1) := by decide +kernel
theorem dM_fewestOf_0 : decode prog_14_method_106_code 0 = .ok (.lconst 0, 1) := by decide +kernel
theorem dM_fewestOf_1 : decode prog_14_method_106_code 1 = .ok (.lstore_n 1, 1) := by decide +kernel
theorem dM_fewestOf_2 : decode prog_14_method_106_code 2 = .ok (.iconst (0), 1) := by decide +kernel
theorem dM_fewestOf_3 : decode prog_14_method_106_code 3 = .ok (.istore_n 3, 1) := by decide +kernel
theorem dM_fewestOf_4 : decode prog_14_method_106_code 4 = .ok (.iload_n 3, 1) := by decide +kernel
theorem dM_fewestOf_5 : decode prog_14_method_106_code 5 = .ok (.aload_n 0, 1) := by decide +kernel
theorem dM_fewestOf_6 : decode prog_14_method_106_code 6 = .ok (.invokevirtual 294, 3) := by decide +kernel
theorem dM_fewestOf_9 : decode prog_14_method_106_code 9 = .ok (.if_icmp .ge (37), 3) := by decide +kernel
theorem dM_fewestOf_12 : decode prog_14_method_106_code 12 = .ok (.aload_n 0, 1) := by decide +kernel
theorem dM_fewestOf_13 : decode prog_14_method_106_code 13 = .ok (.getfield 143, 3) := by decide +kernel
theorem dM_fewestOf_16 : decode prog_14_method_106_code 16 = .ok (.iload_n 3, 1) := by decide +kernel
theorem dM_fewestOf_17 : decode prog_14_method_106_code 17 = .ok (.aload_n 0, 1) := by decide +kernel
theorem dM_fewestOf_18 : decode prog_14_method_106_code 18 = .ok (.getfield 94, 3) := by decide +kernel
theorem dM_fewestOf_21 : decode prog_14_method_106_code 21 = .ok (.iload_n 3, 1) := by decide +kernel
theorem dM_fewestOf_22 : decode prog_14_method_106_code 22 = .ok (.iaload, 1) := by decide +kernel
theorem dM_fewestOf_23 : decode prog_14_method_106_code 23 = .ok (.iload_n 3, 1) := by decide +kernel
theorem dM_fewestOf_24 : decode prog_14_method_106_code 24 = .ok (.if_icmp .ne (14), 3) := by decide +kernel
theorem dM_fewestOf_27 : decode prog_14_method_106_code 27 = .ok (.aload_n 0, 1) := by decide +kernel
theorem dM_fewestOf_28 : decode prog_14_method_106_code 28 = .ok (.iload_n 3, 1) := by decide +kernel
theorem dM_fewestOf_29 : decode prog_14_method_106_code 29 = .ok (.iload_n 3, 1) := by decide +kernel
theorem dM_fewestOf_30 : decode prog_14_method_106_code 30 = .ok (.iconst (1), 1) := by decide +kernel
theorem dM_fewestOf_31 : decode prog_14_method_106_code 31 = .ok (.isub, 1) := by decide +kernel
theorem dM_fewestOf_32 : decode prog_14_method_106_code 32 = .ok (.invokevirtual 444, 3) := by decide +kernel
theorem dM_fewestOf_35 : decode prog_14_method_106_code 35 = .ok (.goto (4), 3) := by decide +kernel
theorem dM_fewestOf_38 : decode prog_14_method_106_code 38 = .ok (.iconst (-1), 1) := by decide +kernel
theorem dM_fewestOf_39 : decode prog_14_method_106_code 39 = .ok (.iastore, 1) := by decide +kernel
theorem dM_fewestOf_40 : decode prog_14_method_106_code 40 = .ok (.iinc 3 (1), 3) := by decide +kernel
theorem dM_fewestOf_43 : decode prog_14_method_106_code 43 = .ok (.goto (-39), 3) := by decide +kernel
theorem dM_fewestOf_46 : decode prog_14_method_106_code 46 = .ok (.iconst (1), 1) := by decide +kernel
theorem dM_fewestOf_47 : decode prog_14_method_106_code 47 = .ok (.istore_n 3, 1) := by decide +kernel
theorem dM_fewestOf_48 : decode prog_14_method_106_code 48 = .ok (.iload_n 3, 1) := by decide +kernel
theorem dM_fewestOf_49 : decode prog_14_method_106_code 49 = .ok (.ifCond .eq (66), 3) := by decide +kernel
theorem dM_fewestOf_52 : decode prog_14_method_106_code 52 = .ok (.aload_n 0, 1) := by decide +kernel
theorem dM_fewestOf_53 : decode prog_14_method_106_code 53 = .ok (.invokevirtual 447, 3) := by decide +kernel
theorem dM_fewestOf_56 : decode prog_14_method_106_code 56 = .ok (.lstore 4, 2) := by decide +kernel
theorem dM_fewestOf_58 : decode prog_14_method_106_code 58 = .ok (.lload_n 1, 1) := by decide +kernel
theorem dM_fewestOf_59 : decode prog_14_method_106_code 59 = .ok (.lconst 0, 1) := by decide +kernel
theorem dM_fewestOf_60 : decode prog_14_method_106_code 60 = .ok (.lcmp, 1) := by decide +kernel
theorem dM_fewestOf_61 : decode prog_14_method_106_code 61 = .ok (.ifCond .ne (7), 3) := by decide +kernel
theorem dM_fewestOf_64 : decode prog_14_method_106_code 64 = .ok (.iconst (-1), 1) := by decide +kernel
theorem dM_fewestOf_65 : decode prog_14_method_106_code 65 = .ok (.goto (13), 3) := by decide +kernel
theorem dM_fewestOf_68 : decode prog_14_method_106_code 68 = .ok (.lload 4, 2) := by decide +kernel
theorem dM_fewestOf_70 : decode prog_14_method_106_code 70 = .ok (.invokestatic 450, 3) := by decide +kernel
theorem dM_fewestOf_73 : decode prog_14_method_106_code 73 = .ok (.lload_n 1, 1) := by decide +kernel
theorem dM_fewestOf_74 : decode prog_14_method_106_code 74 = .ok (.invokestatic 450, 3) := by decide +kernel
theorem dM_fewestOf_77 : decode prog_14_method_106_code 77 = .ok (.isub, 1) := by decide +kernel
theorem dM_fewestOf_78 : decode prog_14_method_106_code 78 = .ok (.istore 6, 2) := by decide +kernel
theorem dM_fewestOf_80 : decode prog_14_method_106_code 80 = .ok (.lload 4, 2) := by decide +kernel
theorem dM_fewestOf_82 : decode prog_14_method_106_code 82 = .ok (.lconst 0, 1) := by decide +kernel
theorem dM_fewestOf_83 : decode prog_14_method_106_code 83 = .ok (.lcmp, 1) := by decide +kernel
theorem dM_fewestOf_84 : decode prog_14_method_106_code 84 = .ok (.ifCond .eq (23), 3) := by decide +kernel
theorem dM_fewestOf_87 : decode prog_14_method_106_code 87 = .ok (.iload 6, 2) := by decide +kernel
theorem dM_fewestOf_89 : decode prog_14_method_106_code 89 = .ok (.ifCond .lt (15), 3) := by decide +kernel
theorem dM_fewestOf_92 : decode prog_14_method_106_code 92 = .ok (.iload 6, 2) := by decide +kernel
theorem dM_fewestOf_94 : decode prog_14_method_106_code 94 = .ok (.ifCond .ne (13), 3) := by decide +kernel
theorem dM_fewestOf_97 : decode prog_14_method_106_code 97 = .ok (.lload 4, 2) := by decide +kernel
theorem dM_fewestOf_99 : decode prog_14_method_106_code 99 = .ok (.lload_n 1, 1) := by decide +kernel
theorem dM_fewestOf_100 : decode prog_14_method_106_code 100 = .ok (.lcmp, 1) := by decide +kernel
theorem dM_fewestOf_101 : decode prog_14_method_106_code 101 = .ok (.ifCond .ge (6), 3) := by decide +kernel
theorem dM_fewestOf_104 : decode prog_14_method_106_code 104 = .ok (.lload 4, 2) := by decide +kernel
theorem dM_fewestOf_106 : decode prog_14_method_106_code 106 = .ok (.lstore_n 1, 1) := by decide +kernel
theorem dM_fewestOf_107 : decode prog_14_method_106_code 107 = .ok (.aload_n 0, 1) := by decide +kernel
theorem dM_fewestOf_108 : decode prog_14_method_106_code 108 = .ok (.invokevirtual 454, 3) := by decide +kernel
theorem dM_fewestOf_111 : decode prog_14_method_106_code 111 = .ok (.istore_n 3, 1) := by decide +kernel
theorem dM_fewestOf_112 : decode prog_14_method_106_code 112 = .ok (.goto (-64), 3) := by decide +kernel
theorem dM_fewestOf_115 : decode prog_14_method_106_code 115 = .ok (.lload_n 1, 1) := by decide +kernel
theorem dM_fewestOf_116 : decode prog_14_method_106_code 116 = .ok (.lreturn, 1) := by decide +kernel
theorem dM_nextOf_0 : decode prog_14_method_101_code 0 = .ok (.iload_n 2, 1) := by decide +kernel
theorem dM_nextOf_1 : decode prog_14_method_101_code 1 = .ok (.iconst (1), 1) := by decide +kernel
theorem dM_nextOf_2 : decode prog_14_method_101_code 2 = .ok (.iadd, 1) := by decide +kernel
theorem dM_nextOf_3 : decode prog_14_method_101_code 3 = .ok (.istore_n 3, 1) := by decide +kernel
theorem dM_nextOf_4 : decode prog_14_method_101_code 4 = .ok (.iload_n 3, 1) := by decide +kernel
theorem dM_nextOf_5 : decode prog_14_method_101_code 5 = .ok (.aload_n 0, 1) := by decide +kernel
theorem dM_nextOf_6 : decode prog_14_method_101_code 6 = .ok (.invokevirtual 294, 3) := by decide +kernel
theorem dM_nextOf_9 : decode prog_14_method_101_code 9 = .ok (.if_icmp .ge (34), 3) := by decide +kernel
theorem dM_nextOf_12 : decode prog_14_method_101_code 12 = .ok (.aload_n 0, 1) := by decide +kernel
theorem dM_nextOf_13 : decode prog_14_method_101_code 13 = .ok (.getfield 94, 3) := by decide +kernel
theorem dM_nextOf_16 : decode prog_14_method_101_code 16 = .ok (.iload_n 3, 1) := by decide +kernel
theorem dM_nextOf_17 : decode prog_14_method_101_code 17 = .ok (.iaload, 1) := by decide +kernel
theorem dM_nextOf_18 : decode prog_14_method_101_code 18 = .ok (.iload_n 1, 1) := by decide +kernel
theorem dM_nextOf_19 : decode prog_14_method_101_code 19 = .ok (.if_icmp .ne (18), 3) := by decide +kernel
theorem dM_nextOf_22 : decode prog_14_method_101_code 22 = .ok (.aload_n 0, 1) := by decide +kernel
theorem dM_nextOf_23 : decode prog_14_method_101_code 23 = .ok (.getfield 106, 3) := by decide +kernel
theorem dM_nextOf_26 : decode prog_14_method_101_code 26 = .ok (.aload_n 0, 1) := by decide +kernel
theorem dM_nextOf_27 : decode prog_14_method_101_code 27 = .ok (.iload_n 3, 1) := by decide +kernel
theorem dM_nextOf_28 : decode prog_14_method_101_code 28 = .ok (.invokevirtual 300, 3) := by decide +kernel
theorem dM_nextOf_31 : decode prog_14_method_101_code 31 = .ok (.baload, 1) := by decide +kernel
theorem dM_nextOf_32 : decode prog_14_method_101_code 32 = .ok (.ifCond .ne (5), 3) := by decide +kernel
theorem dM_nextOf_35 : decode prog_14_method_101_code 35 = .ok (.iload_n 3, 1) := by decide +kernel
theorem dM_nextOf_36 : decode prog_14_method_101_code 36 = .ok (.ireturn, 1) := by decide +kernel
theorem dM_nextOf_37 : decode prog_14_method_101_code 37 = .ok (.iinc 3 (1), 3) := by decide +kernel
theorem dM_nextOf_40 : decode prog_14_method_101_code 40 = .ok (.goto (-36), 3) := by decide +kernel
theorem dM_nextOf_43 : decode prog_14_method_101_code 43 = .ok (.iconst (-1), 1) := by decide +kernel
theorem dM_nextOf_44 : decode prog_14_method_101_code 44 = .ok (.ireturn, 1) := by decide +kernel
theorem dM_heldUp_0 : decode prog_14_method_103_code 0 = .ok (.aload_n 0, 1) := by decide +kernel
theorem dM_heldUp_1 : decode prog_14_method_103_code 1 = .ok (.getfield 143, 3) := by decide +kernel
theorem dM_heldUp_4 : decode prog_14_method_103_code 4 = .ok (.aload_n 0, 1) := by decide +kernel
theorem dM_heldUp_5 : decode prog_14_method_103_code 5 = .ok (.getfield 94, 3) := by decide +kernel
theorem dM_heldUp_8 : decode prog_14_method_103_code 8 = .ok (.aload_n 0, 1) := by decide +kernel
theorem dM_heldUp_9 : decode prog_14_method_103_code 9 = .ok (.getfield 288, 3) := by decide +kernel
theorem dM_heldUp_12 : decode prog_14_method_103_code 12 = .ok (.iaload, 1) := by decide +kernel
theorem dM_heldUp_13 : decode prog_14_method_103_code 13 = .ok (.iaload, 1) := by decide +kernel
theorem dM_heldUp_14 : decode prog_14_method_103_code 14 = .ok (.iconst (-1), 1) := by decide +kernel
theorem dM_heldUp_15 : decode prog_14_method_103_code 15 = .ok (.if_icmp .ne (5), 3) := by decide +kernel
theorem dM_heldUp_18 : decode prog_14_method_103_code 18 = .ok (.lconst 0, 1) := by decide +kernel
theorem dM_heldUp_19 : decode prog_14_method_103_code 19 = .ok (.lreturn, 1) := by decide +kernel
theorem dM_heldUp_20 : decode prog_14_method_103_code 20 = .ok (.lconst 1, 1) := by decide +kernel
theorem dM_heldUp_21 : decode prog_14_method_103_code 21 = .ok (.aload_n 0, 1) := by decide +kernel
theorem dM_heldUp_22 : decode prog_14_method_103_code 22 = .ok (.getfield 143, 3) := by decide +kernel
theorem dM_heldUp_25 : decode prog_14_method_103_code 25 = .ok (.aload_n 0, 1) := by decide +kernel
theorem dM_heldUp_26 : decode prog_14_method_103_code 26 = .ok (.getfield 94, 3) := by decide +kernel
theorem dM_heldUp_29 : decode prog_14_method_103_code 29 = .ok (.aload_n 0, 1) := by decide +kernel
theorem dM_heldUp_30 : decode prog_14_method_103_code 30 = .ok (.getfield 288, 3) := by decide +kernel
theorem dM_heldUp_33 : decode prog_14_method_103_code 33 = .ok (.iaload, 1) := by decide +kernel
theorem dM_heldUp_34 : decode prog_14_method_103_code 34 = .ok (.iaload, 1) := by decide +kernel
theorem dM_heldUp_35 : decode prog_14_method_103_code 35 = .ok (.lshl, 1) := by decide +kernel
theorem dM_heldUp_36 : decode prog_14_method_103_code 36 = .ok (.lstore_n 1, 1) := by decide +kernel
theorem dM_heldUp_37 : decode prog_14_method_103_code 37 = .ok (.aload_n 0, 1) := by decide +kernel
theorem dM_heldUp_38 : decode prog_14_method_103_code 38 = .ok (.invokevirtual 294, 3) := by decide +kernel
theorem dM_heldUp_41 : decode prog_14_method_103_code 41 = .ok (.iconst (1), 1) := by decide +kernel
theorem dM_heldUp_42 : decode prog_14_method_103_code 42 = .ok (.isub, 1) := by decide +kernel
theorem dM_heldUp_43 : decode prog_14_method_103_code 43 = .ok (.istore_n 3, 1) := by decide +kernel
theorem dM_heldUp_44 : decode prog_14_method_103_code 44 = .ok (.iload_n 3, 1) := by decide +kernel
theorem dM_heldUp_45 : decode prog_14_method_103_code 45 = .ok (.ifCond .lt (81), 3) := by decide +kernel
theorem dM_heldUp_48 : decode prog_14_method_103_code 48 = .ok (.lload_n 1, 1) := by decide +kernel
theorem dM_heldUp_49 : decode prog_14_method_103_code 49 = .ok (.iload_n 3, 1) := by decide +kernel
theorem dM_heldUp_50 : decode prog_14_method_103_code 50 = .ok (.lshr, 1) := by decide +kernel
theorem dM_heldUp_51 : decode prog_14_method_103_code 51 = .ok (.lconst 1, 1) := by decide +kernel
theorem dM_heldUp_52 : decode prog_14_method_103_code 52 = .ok (.land, 1) := by decide +kernel
theorem dM_heldUp_53 : decode prog_14_method_103_code 53 = .ok (.lconst 0, 1) := by decide +kernel
theorem dM_heldUp_54 : decode prog_14_method_103_code 54 = .ok (.lcmp, 1) := by decide +kernel
theorem dM_heldUp_55 : decode prog_14_method_103_code 55 = .ok (.ifCond .ne (6), 3) := by decide +kernel
theorem dM_heldUp_58 : decode prog_14_method_103_code 58 = .ok (.goto (62), 3) := by decide +kernel
theorem dM_heldUp_61 : decode prog_14_method_103_code 61 = .ok (.iconst (0), 1) := by decide +kernel
theorem dM_heldUp_62 : decode prog_14_method_103_code 62 = .ok (.istore 4, 2) := by decide +kernel
theorem dM_heldUp_64 : decode prog_14_method_103_code 64 = .ok (.iload 4, 2) := by decide +kernel
theorem dM_heldUp_66 : decode prog_14_method_103_code 66 = .ok (.aload_n 0, 1) := by decide +kernel
theorem dM_heldUp_67 : decode prog_14_method_103_code 67 = .ok (.iload_n 3, 1) := by decide +kernel
theorem dM_heldUp_68 : decode prog_14_method_103_code 68 = .ok (.invokevirtual 328, 3) := by decide +kernel
theorem dM_heldUp_71 : decode prog_14_method_103_code 71 = .ok (.if_icmp .ge (49), 3) := by decide +kernel
theorem dM_heldUp_74 : decode prog_14_method_103_code 74 = .ok (.aload_n 0, 1) := by decide +kernel
theorem dM_heldUp_75 : decode prog_14_method_103_code 75 = .ok (.getfield 143, 3) := by decide +kernel
theorem dM_heldUp_78 : decode prog_14_method_103_code 78 = .ok (.aload_n 0, 1) := by decide +kernel
theorem dM_heldUp_79 : decode prog_14_method_103_code 79 = .ok (.getfield 94, 3) := by decide +kernel
theorem dM_heldUp_82 : decode prog_14_method_103_code 82 = .ok (.aload_n 0, 1) := by decide +kernel
theorem dM_heldUp_83 : decode prog_14_method_103_code 83 = .ok (.iload_n 3, 1) := by decide +kernel
theorem dM_heldUp_84 : decode prog_14_method_103_code 84 = .ok (.iload 4, 2) := by decide +kernel
theorem dM_heldUp_86 : decode prog_14_method_103_code 86 = .ok (.invokevirtual 319, 3) := by decide +kernel
theorem dM_heldUp_89 : decode prog_14_method_103_code 89 = .ok (.iaload, 1) := by decide +kernel
theorem dM_heldUp_90 : decode prog_14_method_103_code 90 = .ok (.iaload, 1) := by decide +kernel
theorem dM_heldUp_91 : decode prog_14_method_103_code 91 = .ok (.istore 5, 2) := by decide +kernel
theorem dM_heldUp_93 : decode prog_14_method_103_code 93 = .ok (.iload 5, 2) := by decide +kernel
theorem dM_heldUp_95 : decode prog_14_method_103_code 95 = .ok (.iconst (-1), 1) := by decide +kernel
theorem dM_heldUp_96 : decode prog_14_method_103_code 96 = .ok (.if_icmp .eq (9), 3) := by decide +kernel
theorem dM_heldUp_99 : decode prog_14_method_103_code 99 = .ok (.iload 5, 2) := by decide +kernel
theorem dM_heldUp_101 : decode prog_14_method_103_code 101 = .ok (.iload_n 3, 1) := by decide +kernel
theorem dM_heldUp_102 : decode prog_14_method_103_code 102 = .ok (.if_icmp .lt (5), 3) := by decide +kernel
theorem dM_heldUp_105 : decode prog_14_method_103_code 105 = .ok (.lconst 0, 1) := by decide +kernel
theorem dM_heldUp_106 : decode prog_14_method_103_code 106 = .ok (.lreturn, 1) := by decide +kernel
theorem dM_heldUp_107 : decode prog_14_method_103_code 107 = .ok (.lload_n 1, 1) := by decide +kernel
theorem dM_heldUp_108 : decode prog_14_method_103_code 108 = .ok (.lconst 1, 1) := by decide +kernel
theorem dM_heldUp_109 : decode prog_14_method_103_code 109 = .ok (.iload 5, 2) := by decide +kernel
theorem dM_heldUp_111 : decode prog_14_method_103_code 111 = .ok (.lshl, 1) := by decide +kernel
theorem dM_heldUp_112 : decode prog_14_method_103_code 112 = .ok (.lor, 1) := by decide +kernel
theorem dM_heldUp_113 : decode prog_14_method_103_code 113 = .ok (.lstore_n 1, 1) := by decide +kernel
theorem dM_heldUp_114 : decode prog_14_method_103_code 114 = .ok (.iinc 4 (1), 3) := by decide +kernel
theorem dM_heldUp_117 : decode prog_14_method_103_code 117 = .ok (.goto (-53), 3) := by decide +kernel
theorem dM_heldUp_120 : decode prog_14_method_103_code 120 = .ok (.iinc 3 (-1), 3) := by decide +kernel
theorem dM_heldUp_123 : decode prog_14_method_103_code 123 = .ok (.goto (-79), 3) := by decide +kernel
theorem dM_heldUp_126 : decode prog_14_method_103_code 126 = .ok (.lload_n 1, 1) := by decide +kernel
theorem dM_heldUp_127 : decode prog_14_method_103_code 127 = .ok (.lreturn, 1) := by decide +kernel
theorem dM_bitsOf_0 : decode prog_14_method_104_code 0 = .ok (.iconst (0), 1) := by decide +kernel
theorem dM_bitsOf_1 : decode prog_14_method_104_code 1 = .ok (.istore_n 2, 1) := by decide +kernel
theorem dM_bitsOf_2 : decode prog_14_method_104_code 2 = .ok (.lload_n 0, 1) := by decide +kernel
theorem dM_bitsOf_3 : decode prog_14_method_104_code 3 = .ok (.lstore_n 3, 1) := by decide +kernel
theorem dM_bitsOf_4 : decode prog_14_method_104_code 4 = .ok (.lload_n 3, 1) := by decide +kernel
theorem dM_bitsOf_5 : decode prog_14_method_104_code 5 = .ok (.lconst 0, 1) := by decide +kernel
theorem dM_bitsOf_6 : decode prog_14_method_104_code 6 = .ok (.lcmp, 1) := by decide +kernel
theorem dM_bitsOf_7 : decode prog_14_method_104_code 7 = .ok (.ifCond .eq (15), 3) := by decide +kernel
theorem dM_bitsOf_10 : decode prog_14_method_104_code 10 = .ok (.iinc 2 (1), 3) := by decide +kernel
theorem dM_bitsOf_13 : decode prog_14_method_104_code 13 = .ok (.lload_n 3, 1) := by decide +kernel
theorem dM_bitsOf_14 : decode prog_14_method_104_code 14 = .ok (.lload_n 3, 1) := by decide +kernel
theorem dM_bitsOf_15 : decode prog_14_method_104_code 15 = .ok (.lconst 1, 1) := by decide +kernel
theorem dM_bitsOf_16 : decode prog_14_method_104_code 16 = .ok (.lsub, 1) := by decide +kernel
theorem dM_bitsOf_17 : decode prog_14_method_104_code 17 = .ok (.land, 1) := by decide +kernel
theorem dM_bitsOf_18 : decode prog_14_method_104_code 18 = .ok (.lstore_n 3, 1) := by decide +kernel
theorem dM_bitsOf_19 : decode prog_14_method_104_code 19 = .ok (.goto (-15), 3) := by decide +kernel
theorem dM_bitsOf_22 : decode prog_14_method_104_code 22 = .ok (.iload_n 2, 1) := by decide +kernel
theorem dM_bitsOf_23 : decode prog_14_method_104_code 23 = .ok (.ireturn, 1) := by decide +kernel
theorem dM_isNextWay_0 : decode prog_14_method_105_code 0 = .ok (.iconst (0), 1) := by decide +kernel
theorem dM_isNextWay_1 : decode prog_14_method_105_code 1 = .ok (.istore_n 1, 1) := by decide +kernel
theorem dM_isNextWay_2 : decode prog_14_method_105_code 2 = .ok (.iload_n 1, 1) := by decide +kernel
theorem dM_isNextWay_3 : decode prog_14_method_105_code 3 = .ok (.aload_n 0, 1) := by decide +kernel
theorem dM_isNextWay_4 : decode prog_14_method_105_code 4 = .ok (.invokevirtual 294, 3) := by decide +kernel
theorem dM_isNextWay_7 : decode prog_14_method_105_code 7 = .ok (.if_icmp .ge (72), 3) := by decide +kernel
theorem dM_isNextWay_10 : decode prog_14_method_105_code 10 = .ok (.aload_n 0, 1) := by decide +kernel
theorem dM_isNextWay_11 : decode prog_14_method_105_code 11 = .ok (.getfield 94, 3) := by decide +kernel
theorem dM_isNextWay_14 : decode prog_14_method_105_code 14 = .ok (.iload_n 1, 1) := by decide +kernel
theorem dM_isNextWay_15 : decode prog_14_method_105_code 15 = .ok (.iaload, 1) := by decide +kernel
theorem dM_isNextWay_16 : decode prog_14_method_105_code 16 = .ok (.iload_n 1, 1) := by decide +kernel
theorem dM_isNextWay_17 : decode prog_14_method_105_code 17 = .ok (.if_icmp .ne (56), 3) := by decide +kernel
theorem dM_isNextWay_20 : decode prog_14_method_105_code 20 = .ok (.aload_n 0, 1) := by decide +kernel
theorem dM_isNextWay_21 : decode prog_14_method_105_code 21 = .ok (.getfield 143, 3) := by decide +kernel
theorem dM_isNextWay_24 : decode prog_14_method_105_code 24 = .ok (.iload_n 1, 1) := by decide +kernel
theorem dM_isNextWay_25 : decode prog_14_method_105_code 25 = .ok (.iaload, 1) := by decide +kernel
theorem dM_isNextWay_26 : decode prog_14_method_105_code 26 = .ok (.iconst (-1), 1) := by decide +kernel
theorem dM_isNextWay_27 : decode prog_14_method_105_code 27 = .ok (.if_icmp .ne (6), 3) := by decide +kernel
theorem dM_isNextWay_30 : decode prog_14_method_105_code 30 = .ok (.goto (43), 3) := by decide +kernel
theorem dM_isNextWay_33 : decode prog_14_method_105_code 33 = .ok (.aload_n 0, 1) := by decide +kernel
theorem dM_isNextWay_34 : decode prog_14_method_105_code 34 = .ok (.iload_n 1, 1) := by decide +kernel
theorem dM_isNextWay_35 : decode prog_14_method_105_code 35 = .ok (.aload_n 0, 1) := by decide +kernel
theorem dM_isNextWay_36 : decode prog_14_method_105_code 36 = .ok (.getfield 143, 3) := by decide +kernel
theorem dM_isNextWay_39 : decode prog_14_method_105_code 39 = .ok (.iload_n 1, 1) := by decide +kernel
theorem dM_isNextWay_40 : decode prog_14_method_105_code 40 = .ok (.iaload, 1) := by decide +kernel
theorem dM_isNextWay_41 : decode prog_14_method_105_code 41 = .ok (.invokevirtual 444, 3) := by decide +kernel
theorem dM_isNextWay_44 : decode prog_14_method_105_code 44 = .ok (.istore_n 2, 1) := by decide +kernel
theorem dM_isNextWay_45 : decode prog_14_method_105_code 45 = .ok (.iload_n 2, 1) := by decide +kernel
theorem dM_isNextWay_46 : decode prog_14_method_105_code 46 = .ok (.iconst (-1), 1) := by decide +kernel
theorem dM_isNextWay_47 : decode prog_14_method_105_code 47 = .ok (.if_icmp .eq (12), 3) := by decide +kernel
theorem dM_isNextWay_50 : decode prog_14_method_105_code 50 = .ok (.aload_n 0, 1) := by decide +kernel
theorem dM_isNextWay_51 : decode prog_14_method_105_code 51 = .ok (.getfield 143, 3) := by decide +kernel
theorem dM_isNextWay_54 : decode prog_14_method_105_code 54 = .ok (.iload_n 1, 1) := by decide +kernel
theorem dM_isNextWay_55 : decode prog_14_method_105_code 55 = .ok (.iload_n 2, 1) := by decide +kernel
theorem dM_isNextWay_56 : decode prog_14_method_105_code 56 = .ok (.iastore, 1) := by decide +kernel
theorem dM_isNextWay_57 : decode prog_14_method_105_code 57 = .ok (.iconst (1), 1) := by decide +kernel
theorem dM_isNextWay_58 : decode prog_14_method_105_code 58 = .ok (.ireturn, 1) := by decide +kernel
theorem dM_isNextWay_59 : decode prog_14_method_105_code 59 = .ok (.aload_n 0, 1) := by decide +kernel
theorem dM_isNextWay_60 : decode prog_14_method_105_code 60 = .ok (.getfield 143, 3) := by decide +kernel
theorem dM_isNextWay_63 : decode prog_14_method_105_code 63 = .ok (.iload_n 1, 1) := by decide +kernel
theorem dM_isNextWay_64 : decode prog_14_method_105_code 64 = .ok (.aload_n 0, 1) := by decide +kernel
theorem dM_isNextWay_65 : decode prog_14_method_105_code 65 = .ok (.iload_n 1, 1) := by decide +kernel
theorem dM_isNextWay_66 : decode prog_14_method_105_code 66 = .ok (.iload_n 1, 1) := by decide +kernel
theorem dM_isNextWay_67 : decode prog_14_method_105_code 67 = .ok (.iconst (1), 1) := by decide +kernel
theorem dM_isNextWay_68 : decode prog_14_method_105_code 68 = .ok (.isub, 1) := by decide +kernel
theorem dM_isNextWay_69 : decode prog_14_method_105_code 69 = .ok (.invokevirtual 444, 3) := by decide +kernel
theorem dM_isNextWay_72 : decode prog_14_method_105_code 72 = .ok (.iastore, 1) := by decide +kernel
theorem dM_isNextWay_73 : decode prog_14_method_105_code 73 = .ok (.iinc 1 (1), 3) := by decide +kernel
theorem dM_isNextWay_76 : decode prog_14_method_105_code 76 = .ok (.goto (-74), 3) := by decide +kernel
theorem dM_isNextWay_79 : decode prog_14_method_105_code 79 = .ok (.iconst (0), 1) := by decide +kernel
theorem dM_isNextWay_80 : decode prog_14_method_105_code 80 = .ok (.ireturn, 1) := by decide +kernel
theorem dM_ask_0 : decode prog_14_method_111_code 0 = .ok (.aload_n 0, 1) := by decide +kernel
theorem dM_ask_1 : decode prog_14_method_111_code 1 = .ok (.iload_n 1, 1) := by decide +kernel
theorem dM_ask_2 : decode prog_14_method_111_code 2 = .ok (.invokevirtual 466, 3) := by decide +kernel
theorem dM_ask_5 : decode prog_14_method_111_code 5 = .ok (.ifCond .ne (5), 3) := by decide +kernel
theorem dM_ask_8 : decode prog_14_method_111_code 8 = .ok (.iconst (-1), 1) := by decide +kernel
theorem dM_ask_9 : decode prog_14_method_111_code 9 = .ok (.ireturn, 1) := by decide +kernel
theorem dM_ask_10 : decode prog_14_method_111_code 10 = .ok (.aload_n 0, 1) := by decide +kernel
theorem dM_ask_11 : decode prog_14_method_111_code 11 = .ok (.getfield 113, 3) := by decide +kernel
theorem dM_ask_14 : decode prog_14_method_111_code 14 = .ok (.iload_n 1, 1) := by decide +kernel
theorem dM_ask_15 : decode prog_14_method_111_code 15 = .ok (.iload_n 2, 1) := by decide +kernel
theorem dM_ask_16 : decode prog_14_method_111_code 16 = .ok (.bastore, 1) := by decide +kernel
theorem dM_ask_17 : decode prog_14_method_111_code 17 = .ok (.aload_n 0, 1) := by decide +kernel
theorem dM_ask_18 : decode prog_14_method_111_code 18 = .ok (.invokevirtual 355, 3) := by decide +kernel
theorem dM_ask_21 : decode prog_14_method_111_code 21 = .ok (.ireturn, 1) := by decide +kernel
theorem dM_isReader_0 : decode prog_14_method_108_code 0 = .ok (.iload_n 1, 1) := by decide +kernel
theorem dM_isReader_1 : decode prog_14_method_108_code 1 = .ok (.i2l, 1) := by decide +kernel
theorem dM_isReader_2 : decode prog_14_method_108_code 2 = .ok (.lconst 0, 1) := by decide +kernel
theorem dM_isReader_3 : decode prog_14_method_108_code 3 = .ok (.aload_n 0, 1) := by decide +kernel
theorem dM_isReader_4 : decode prog_14_method_108_code 4 = .ok (.invokevirtual 334, 3) := by decide +kernel
theorem dM_isReader_7 : decode prog_14_method_108_code 7 = .ok (.iconst (1), 1) := by decide +kernel
theorem dM_isReader_8 : decode prog_14_method_108_code 8 = .ok (.isub, 1) := by decide +kernel
theorem dM_isReader_9 : decode prog_14_method_108_code 9 = .ok (.i2l, 1) := by decide +kernel
theorem dM_isReader_10 : decode prog_14_method_108_code 10 = .ok (.invokestatic 196, 3) := by decide +kernel
theorem dM_isReader_13 : decode prog_14_method_108_code 13 = .ok (.ireturn, 1) := by decide +kernel
theorem dM_least_0 : decode prog_14_method_113_code 0 = .ok (.aload_n 0, 1) := by decide +kernel
theorem dM_least_1 : decode prog_14_method_113_code 1 = .ok (.invokevirtual 294, 3) := by decide +kernel
theorem dM_least_4 : decode prog_14_method_113_code 4 = .ok (.ifCond .eq (13), 3) := by decide +kernel
theorem dM_least_7 : decode prog_14_method_113_code 7 = .ok (.iload_n 1, 1) := by decide +kernel
theorem dM_least_8 : decode prog_14_method_113_code 8 = .ok (.i2l, 1) := by decide +kernel
theorem dM_least_9 : decode prog_14_method_113_code 9 = .ok (.lconst 0, 1) := by decide +kernel
theorem dM_least_10 : decode prog_14_method_113_code 10 = .ok (.lconst 1, 1) := by decide +kernel
theorem dM_least_11 : decode prog_14_method_113_code 11 = .ok (.invokestatic 196, 3) := by decide +kernel
theorem dM_least_14 : decode prog_14_method_113_code 14 = .ok (.ifCond .ne (5), 3) := by decide +kernel
theorem dM_least_17 : decode prog_14_method_113_code 17 = .ok (.iconst (-1), 1) := by decide +kernel
theorem dM_least_18 : decode prog_14_method_113_code 18 = .ok (.ireturn, 1) := by decide +kernel
theorem dM_least_19 : decode prog_14_method_113_code 19 = .ok (.aload_n 0, 1) := by decide +kernel
theorem dM_least_20 : decode prog_14_method_113_code 20 = .ok (.iconst (-1), 1) := by decide +kernel
theorem dM_least_21 : decode prog_14_method_113_code 21 = .ok (.invokevirtual 469, 3) := by decide +kernel
theorem dM_least_24 : decode prog_14_method_113_code 24 = .ok (.istore_n 2, 1) := by decide +kernel
theorem dM_least_25 : decode prog_14_method_113_code 25 = .ok (.iload_n 1, 1) := by decide +kernel
theorem dM_least_26 : decode prog_14_method_113_code 26 = .ok (.ifCond .ne (12), 3) := by decide +kernel
theorem dM_least_29 : decode prog_14_method_113_code 29 = .ok (.aload_n 0, 1) := by decide +kernel
theorem dM_least_30 : decode prog_14_method_113_code 30 = .ok (.iload_n 2, 1) := by decide +kernel
theorem dM_least_31 : decode prog_14_method_113_code 31 = .ok (.iconst (-1), 1) := by decide +kernel
theorem dM_least_32 : decode prog_14_method_113_code 32 = .ok (.invokevirtual 374, 3) := by decide +kernel
theorem dM_least_35 : decode prog_14_method_113_code 35 = .ok (.goto (4), 3) := by decide +kernel
theorem dM_least_38 : decode prog_14_method_113_code 38 = .ok (.iload_n 2, 1) := by decide +kernel
theorem dM_least_39 : decode prog_14_method_113_code 39 = .ok (.ireturn, 1) := by decide +kernel
theorem dM_leastBy_0 : decode prog_14_method_112_code 0 = .ok (.iconst (-1), 1) := by decide +kernel
theorem dM_leastBy_1 : decode prog_14_method_112_code 1 = .ok (.istore_n 2, 1) := by decide +kernel
theorem dM_leastBy_2 : decode prog_14_method_112_code 2 = .ok (.iconst (0), 1) := by decide +kernel
theorem dM_leastBy_3 : decode prog_14_method_112_code 3 = .ok (.istore_n 3, 1) := by decide +kernel
theorem dM_leastBy_4 : decode prog_14_method_112_code 4 = .ok (.iload_n 3, 1) := by decide +kernel
theorem dM_leastBy_5 : decode prog_14_method_112_code 5 = .ok (.aload_n 0, 1) := by decide +kernel
theorem dM_leastBy_6 : decode prog_14_method_112_code 6 = .ok (.invokevirtual 294, 3) := by decide +kernel
theorem dM_leastBy_9 : decode prog_14_method_112_code 9 = .ok (.if_icmp .ge (39), 3) := by decide +kernel
theorem dM_leastBy_12 : decode prog_14_method_112_code 12 = .ok (.aload_n 0, 1) := by decide +kernel
theorem dM_leastBy_13 : decode prog_14_method_112_code 13 = .ok (.iload_n 3, 1) := by decide +kernel
theorem dM_leastBy_14 : decode prog_14_method_112_code 14 = .ok (.invokevirtual 340, 3) := by decide +kernel
theorem dM_leastBy_17 : decode prog_14_method_112_code 17 = .ok (.ifCond .eq (25), 3) := by decide +kernel
theorem dM_leastBy_20 : decode prog_14_method_112_code 20 = .ok (.iload_n 2, 1) := by decide +kernel
theorem dM_leastBy_21 : decode prog_14_method_112_code 21 = .ok (.iconst (-1), 1) := by decide +kernel
theorem dM_leastBy_22 : decode prog_14_method_112_code 22 = .ok (.if_icmp .eq (18), 3) := by decide +kernel
theorem dM_leastBy_25 : decode prog_14_method_112_code 25 = .ok (.aload_n 0, 1) := by decide +kernel
theorem dM_leastBy_26 : decode prog_14_method_112_code 26 = .ok (.iload_n 3, 1) := by decide +kernel
theorem dM_leastBy_27 : decode prog_14_method_112_code 27 = .ok (.iload_n 1, 1) := by decide +kernel
theorem dM_leastBy_28 : decode prog_14_method_112_code 28 = .ok (.invokevirtual 374, 3) := by decide +kernel
theorem dM_leastBy_31 : decode prog_14_method_112_code 31 = .ok (.aload_n 0, 1) := by decide +kernel
theorem dM_leastBy_32 : decode prog_14_method_112_code 32 = .ok (.iload_n 2, 1) := by decide +kernel
theorem dM_leastBy_33 : decode prog_14_method_112_code 33 = .ok (.iload_n 1, 1) := by decide +kernel
theorem dM_leastBy_34 : decode prog_14_method_112_code 34 = .ok (.invokevirtual 374, 3) := by decide +kernel
theorem dM_leastBy_37 : decode prog_14_method_112_code 37 = .ok (.if_icmp .ge (5), 3) := by decide +kernel
theorem dM_leastBy_40 : decode prog_14_method_112_code 40 = .ok (.iload_n 3, 1) := by decide +kernel
theorem dM_leastBy_41 : decode prog_14_method_112_code 41 = .ok (.istore_n 2, 1) := by decide +kernel
theorem dM_leastBy_42 : decode prog_14_method_112_code 42 = .ok (.iinc 3 (1), 3) := by decide +kernel
theorem dM_leastBy_45 : decode prog_14_method_112_code 45 = .ok (.goto (-41), 3) := by decide +kernel
theorem dM_leastBy_48 : decode prog_14_method_112_code 48 = .ok (.iload_n 2, 1) := by decide +kernel
theorem dM_leastBy_49 : decode prog_14_method_112_code 49 = .ok (.ireturn, 1) := by decide +kernel
theorem dM_whom_0 : decode prog_14_method_114_code 0 = .ok (.aload_n 0, 1) := by decide +kernel
theorem dM_whom_1 : decode prog_14_method_114_code 1 = .ok (.invokevirtual 294, 3) := by decide +kernel
theorem dM_whom_4 : decode prog_14_method_114_code 4 = .ok (.ifCond .ne (5), 3) := by decide +kernel
theorem dM_whom_7 : decode prog_14_method_114_code 7 = .ok (.iconst (-1), 1) := by decide +kernel
theorem dM_whom_8 : decode prog_14_method_114_code 8 = .ok (.ireturn, 1) := by decide +kernel
theorem dM_whom_9 : decode prog_14_method_114_code 9 = .ok (.iconst (-1), 1) := by decide +kernel
theorem dM_whom_10 : decode prog_14_method_114_code 10 = .ok (.istore_n 1, 1) := by decide +kernel
theorem dM_whom_11 : decode prog_14_method_114_code 11 = .ok (.iconst (-1), 1) := by decide +kernel
theorem dM_whom_12 : decode prog_14_method_114_code 12 = .ok (.istore_n 2, 1) := by decide +kernel
theorem dM_whom_13 : decode prog_14_method_114_code 13 = .ok (.iconst (0), 1) := by decide +kernel
theorem dM_whom_14 : decode prog_14_method_114_code 14 = .ok (.istore_n 3, 1) := by decide +kernel
theorem dM_whom_15 : decode prog_14_method_114_code 15 = .ok (.iload_n 3, 1) := by decide +kernel
theorem dM_whom_16 : decode prog_14_method_114_code 16 = .ok (.aload_n 0, 1) := by decide +kernel
theorem dM_whom_17 : decode prog_14_method_114_code 17 = .ok (.invokevirtual 334, 3) := by decide +kernel
theorem dM_whom_20 : decode prog_14_method_114_code 20 = .ok (.if_icmp .ge (47), 3) := by decide +kernel
theorem dM_whom_23 : decode prog_14_method_114_code 23 = .ok (.aload_n 0, 1) := by decide +kernel
theorem dM_whom_24 : decode prog_14_method_114_code 24 = .ok (.getfield 113, 3) := by decide +kernel
theorem dM_whom_27 : decode prog_14_method_114_code 27 = .ok (.iload_n 3, 1) := by decide +kernel
theorem dM_whom_28 : decode prog_14_method_114_code 28 = .ok (.baload, 1) := by decide +kernel
theorem dM_whom_29 : decode prog_14_method_114_code 29 = .ok (.ifCond .eq (6), 3) := by decide +kernel
theorem dM_whom_32 : decode prog_14_method_114_code 32 = .ok (.goto (29), 3) := by decide +kernel
theorem dM_whom_35 : decode prog_14_method_114_code 35 = .ok (.aload_n 0, 1) := by decide +kernel
theorem dM_whom_36 : decode prog_14_method_114_code 36 = .ok (.aload_n 0, 1) := by decide +kernel
theorem dM_whom_37 : decode prog_14_method_114_code 37 = .ok (.iload_n 3, 1) := by decide +kernel
theorem dM_whom_38 : decode prog_14_method_114_code 38 = .ok (.invokevirtual 469, 3) := by decide +kernel
theorem dM_whom_41 : decode prog_14_method_114_code 41 = .ok (.iload_n 3, 1) := by decide +kernel
theorem dM_whom_42 : decode prog_14_method_114_code 42 = .ok (.invokevirtual 374, 3) := by decide +kernel
theorem dM_whom_45 : decode prog_14_method_114_code 45 = .ok (.istore 4, 2) := by decide +kernel
theorem dM_whom_47 : decode prog_14_method_114_code 47 = .ok (.iload 4, 2) := by decide +kernel
theorem dM_whom_49 : decode prog_14_method_114_code 49 = .ok (.iload_n 2, 1) := by decide +kernel
theorem dM_whom_50 : decode prog_14_method_114_code 50 = .ok (.if_icmp .gt (6), 3) := by decide +kernel
theorem dM_whom_53 : decode prog_14_method_114_code 53 = .ok (.goto (8), 3) := by decide +kernel
theorem dM_whom_56 : decode prog_14_method_114_code 56 = .ok (.iload_n 3, 1) := by decide +kernel
theorem dM_whom_57 : decode prog_14_method_114_code 57 = .ok (.istore_n 1, 1) := by decide +kernel
theorem dM_whom_58 : decode prog_14_method_114_code 58 = .ok (.iload 4, 2) := by decide +kernel
theorem dM_whom_60 : decode prog_14_method_114_code 60 = .ok (.istore_n 2, 1) := by decide +kernel
theorem dM_whom_61 : decode prog_14_method_114_code 61 = .ok (.iinc 3 (1), 3) := by decide +kernel
theorem dM_whom_64 : decode prog_14_method_114_code 64 = .ok (.goto (-49), 3) := by decide +kernel
theorem dM_whom_67 : decode prog_14_method_114_code 67 = .ok (.iload_n 1, 1) := by decide +kernel
theorem dM_whom_68 : decode prog_14_method_114_code 68 = .ok (.ireturn, 1) := by decide +kernel
theorem dM_seed_0 : decode prog_14_method_115_code 0 = .ok (.iload_n 1, 1) := by decide +kernel
theorem dM_seed_1 : decode prog_14_method_115_code 1 = .ok (.ifCond .ge (5), 3) := by decide +kernel
theorem dM_seed_4 : decode prog_14_method_115_code 4 = .ok (.iconst (0), 1) := by decide +kernel
theorem dM_seed_5 : decode prog_14_method_115_code 5 = .ok (.ireturn, 1) := by decide +kernel
theorem dM_seed_6 : decode prog_14_method_115_code 6 = .ok (.aload_n 0, 1) := by decide +kernel
theorem dM_seed_7 : decode prog_14_method_115_code 7 = .ok (.iload_n 1, 1) := by decide +kernel
theorem dM_seed_8 : decode prog_14_method_115_code 8 = .ok (.i2l, 1) := by decide +kernel
theorem dM_seed_9 : decode prog_14_method_115_code 9 = .ok (.putfield 146, 3) := by decide +kernel
theorem dM_seed_12 : decode prog_14_method_115_code 12 = .ok (.iconst (1), 1) := by decide +kernel
theorem dM_seed_13 : decode prog_14_method_115_code 13 = .ok (.ireturn, 1) := by decide +kernel
theorem dM_trials_0 : decode prog_14_method_117_code 0 = .ok (.aload_n 0, 1) := by decide +kernel
theorem dM_trials_1 : decode prog_14_method_117_code 1 = .ok (.iload_n 1, 1) := by decide +kernel
theorem dM_trials_2 : decode prog_14_method_117_code 2 = .ok (.invokevirtual 368, 3) := by decide +kernel
theorem dM_trials_5 : decode prog_14_method_117_code 5 = .ok (.ifCond .eq (15), 3) := by decide +kernel
theorem dM_trials_8 : decode prog_14_method_117_code 8 = .ok (.iload_n 2, 1) := by decide +kernel
theorem dM_trials_9 : decode prog_14_method_117_code 9 = .ok (.i2l, 1) := by decide +kernel
theorem dM_trials_10 : decode prog_14_method_117_code 10 = .ok (.lconst 1, 1) := by decide +kernel
theorem dM_trials_11 : decode prog_14_method_117_code 11 = .ok (.ldc2_w 480, 3) := by decide +kernel
theorem dM_trials_14 : decode prog_14_method_117_code 14 = .ok (.invokestatic 196, 3) := by decide +kernel
theorem dM_trials_17 : decode prog_14_method_117_code 17 = .ok (.ifCond .ne (5), 3) := by decide +kernel
theorem dM_trials_20 : decode prog_14_method_117_code 20 = .ok (.iconst (-1), 1) := by decide +kernel
theorem dM_trials_21 : decode prog_14_method_117_code 21 = .ok (.ireturn, 1) := by decide +kernel
theorem dM_trials_22 : decode prog_14_method_117_code 22 = .ok (.iconst (0), 1) := by decide +kernel
theorem dM_trials_23 : decode prog_14_method_117_code 23 = .ok (.istore_n 3, 1) := by decide +kernel
theorem dM_trials_24 : decode prog_14_method_117_code 24 = .ok (.iconst (0), 1) := by decide +kernel
theorem dM_trials_25 : decode prog_14_method_117_code 25 = .ok (.istore 4, 2) := by decide +kernel
theorem dM_trials_27 : decode prog_14_method_117_code 27 = .ok (.iload 4, 2) := by decide +kernel
theorem dM_trials_29 : decode prog_14_method_117_code 29 = .ok (.iload_n 2, 1) := by decide +kernel
theorem dM_trials_30 : decode prog_14_method_117_code 30 = .ok (.if_icmp .ge (80), 3) := by decide +kernel
theorem dM_trials_33 : decode prog_14_method_117_code 33 = .ok (.iconst (0), 1) := by decide +kernel
theorem dM_trials_34 : decode prog_14_method_117_code 34 = .ok (.istore 5, 2) := by decide +kernel
theorem dM_trials_36 : decode prog_14_method_117_code 36 = .ok (.iconst (0), 1) := by decide +kernel
theorem dM_trials_37 : decode prog_14_method_117_code 37 = .ok (.istore 6, 2) := by decide +kernel
theorem dM_trials_39 : decode prog_14_method_117_code 39 = .ok (.iload 6, 2) := by decide +kernel
theorem dM_trials_41 : decode prog_14_method_117_code 41 = .ok (.aload_n 0, 1) := by decide +kernel
theorem dM_trials_42 : decode prog_14_method_117_code 42 = .ok (.invokevirtual 334, 3) := by decide +kernel
theorem dM_trials_45 : decode prog_14_method_117_code 45 = .ok (.if_icmp .ge (51), 3) := by decide +kernel
theorem dM_trials_48 : decode prog_14_method_117_code 48 = .ok (.aload_n 0, 1) := by decide +kernel
theorem dM_trials_49 : decode prog_14_method_117_code 49 = .ok (.getfield 113, 3) := by decide +kernel
theorem dM_trials_52 : decode prog_14_method_117_code 52 = .ok (.iload 6, 2) := by decide +kernel
theorem dM_trials_54 : decode prog_14_method_117_code 54 = .ok (.baload, 1) := by decide +kernel
theorem dM_trials_55 : decode prog_14_method_117_code 55 = .ok (.ifCond .eq (35), 3) := by decide +kernel
theorem dM_trials_58 : decode prog_14_method_117_code 58 = .ok (.aload_n 0, 1) := by decide +kernel
theorem dM_trials_59 : decode prog_14_method_117_code 59 = .ok (.iload 6, 2) := by decide +kernel
theorem dM_trials_61 : decode prog_14_method_117_code 61 = .ok (.iload_n 1, 1) := by decide +kernel
theorem dM_trials_62 : decode prog_14_method_117_code 62 = .ok (.invokevirtual 463, 3) := by decide +kernel
theorem dM_trials_65 : decode prog_14_method_117_code 65 = .ok (.ifCond .eq (25), 3) := by decide +kernel
theorem dM_trials_68 : decode prog_14_method_117_code 68 = .ok (.aload_n 0, 1) := by decide +kernel
theorem dM_trials_69 : decode prog_14_method_117_code 69 = .ok (.bipush (100), 2) := by decide +kernel
theorem dM_trials_71 : decode prog_14_method_117_code 71 = .ok (.invokevirtual 482, 3) := by decide +kernel
theorem dM_trials_74 : decode prog_14_method_117_code 74 = .ok (.aload_n 0, 1) := by decide +kernel
theorem dM_trials_75 : decode prog_14_method_117_code 75 = .ok (.getfield 73, 3) := by decide +kernel
theorem dM_trials_78 : decode prog_14_method_117_code 78 = .ok (.bipush (6), 2) := by decide +kernel
theorem dM_trials_80 : decode prog_14_method_117_code 80 = .ok (.iload 6, 2) := by decide +kernel
theorem dM_trials_82 : decode prog_14_method_117_code 82 = .ok (.iadd, 1) := by decide +kernel
theorem dM_trials_83 : decode prog_14_method_117_code 83 = .ok (.iaload, 1) := by decide +kernel
theorem dM_trials_84 : decode prog_14_method_117_code 84 = .ok (.if_icmp .ge (6), 3) := by decide +kernel
theorem dM_trials_87 : decode prog_14_method_117_code 87 = .ok (.iconst (1), 1) := by decide +kernel
theorem dM_trials_88 : decode prog_14_method_117_code 88 = .ok (.istore 5, 2) := by decide +kernel
theorem dM_trials_90 : decode prog_14_method_117_code 90 = .ok (.iinc 6 (1), 3) := by decide +kernel
theorem dM_trials_93 : decode prog_14_method_117_code 93 = .ok (.goto (-54), 3) := by decide +kernel
theorem dM_trials_96 : decode prog_14_method_117_code 96 = .ok (.iload 5, 2) := by decide +kernel
theorem dM_trials_98 : decode prog_14_method_117_code 98 = .ok (.ifCond .eq (6), 3) := by decide +kernel
theorem dM_trials_101 : decode prog_14_method_117_code 101 = .ok (.iinc 3 (1), 3) := by decide +kernel
theorem dM_trials_104 : decode prog_14_method_117_code 104 = .ok (.iinc 4 (1), 3) := by decide +kernel
theorem dM_trials_107 : decode prog_14_method_117_code 107 = .ok (.goto (-80), 3) := by decide +kernel
theorem dM_trials_110 : decode prog_14_method_117_code 110 = .ok (.iload_n 3, 1) := by decide +kernel
theorem dM_trials_111 : decode prog_14_method_117_code 111 = .ok (.ireturn, 1) := by decide +kernel
theorem dM_drawOf_0 : decode prog_14_method_116_code 0 = .ok (.aload_n 0, 1) := by decide +kernel
theorem dM_drawOf_1 : decode prog_14_method_116_code 1 = .ok (.ldc2_w 472, 3) := by decide +kernel
theorem dM_drawOf_4 : decode prog_14_method_116_code 4 = .ok (.aload_n 0, 1) := by decide +kernel
theorem dM_drawOf_5 : decode prog_14_method_116_code 5 = .ok (.getfield 146, 3) := by decide +kernel
theorem dM_drawOf_8 : decode prog_14_method_116_code 8 = .ok (.lmul, 1) := by decide +kernel
theorem dM_drawOf_9 : decode prog_14_method_116_code 9 = .ok (.ldc2_w 474, 3) := by decide +kernel
theorem dM_drawOf_12 : decode prog_14_method_116_code 12 = .ok (.ladd, 1) := by decide +kernel
theorem dM_drawOf_13 : decode prog_14_method_116_code 13 = .ok (.ldc2_w 476, 3) := by decide +kernel
theorem dM_drawOf_16 : decode prog_14_method_116_code 16 = .ok (.lrem, 1) := by decide +kernel
theorem dM_drawOf_17 : decode prog_14_method_116_code 17 = .ok (.putfield 146, 3) := by decide +kernel
theorem dM_drawOf_20 : decode prog_14_method_116_code 20 = .ok (.aload_n 0, 1) := by decide +kernel
theorem dM_drawOf_21 : decode prog_14_method_116_code 21 = .ok (.getfield 146, 3) := by decide +kernel
theorem dM_drawOf_24 : decode prog_14_method_116_code 24 = .ok (.ldc2_w 478, 3) := by decide +kernel
theorem dM_drawOf_27 : decode prog_14_method_116_code 27 = .ok (.ldiv, 1) := by decide +kernel
theorem dM_drawOf_28 : decode prog_14_method_116_code 28 = .ok (.iload_n 1, 1) := by decide +kernel
theorem dM_drawOf_29 : decode prog_14_method_116_code 29 = .ok (.i2l, 1) := by decide +kernel
theorem dM_drawOf_30 : decode prog_14_method_116_code 30 = .ok (.lrem, 1) := by decide +kernel
theorem dM_drawOf_31 : decode prog_14_method_116_code 31 = .ok (.l2i, 1) := by decide +kernel
theorem dM_drawOf_32 : decode prog_14_method_116_code 32 = .ok (.ireturn, 1) := by decide +kernel
theorem dM_image_0 : decode prog_14_method_120_code 0 = .ok (.iconst (0), 1) := by decide +kernel
theorem dM_image_1 : decode prog_14_method_120_code 1 = .ok (.istore_n 1, 1) := by decide +kernel
theorem dM_image_2 : decode prog_14_method_120_code 2 = .ok (.iconst (0), 1) := by decide +kernel
theorem dM_image_3 : decode prog_14_method_120_code 3 = .ok (.istore_n 2, 1) := by decide +kernel
theorem dM_image_4 : decode prog_14_method_120_code 4 = .ok (.iload_n 2, 1) := by decide +kernel
theorem dM_image_5 : decode prog_14_method_120_code 5 = .ok (.aload_n 0, 1) := by decide +kernel
theorem dM_image_6 : decode prog_14_method_120_code 6 = .ok (.invokevirtual 334, 3) := by decide +kernel
theorem dM_image_9 : decode prog_14_method_120_code 9 = .ok (.if_icmp .ge (24), 3) := by decide +kernel
theorem dM_image_12 : decode prog_14_method_120_code 12 = .ok (.aload_n 0, 1) := by decide +kernel
theorem dM_image_13 : decode prog_14_method_120_code 13 = .ok (.getfield 113, 3) := by decide +kernel
theorem dM_image_16 : decode prog_14_method_120_code 16 = .ok (.iload_n 2, 1) := by decide +kernel
theorem dM_image_17 : decode prog_14_method_120_code 17 = .ok (.baload, 1) := by decide +kernel
theorem dM_image_18 : decode prog_14_method_120_code 18 = .ok (.ifCond .eq (9), 3) := by decide +kernel
theorem dM_image_21 : decode prog_14_method_120_code 21 = .ok (.iload_n 1, 1) := by decide +kernel
theorem dM_image_22 : decode prog_14_method_120_code 22 = .ok (.iconst (1), 1) := by decide +kernel
theorem dM_image_23 : decode prog_14_method_120_code 23 = .ok (.iload_n 2, 1) := by decide +kernel
theorem dM_image_24 : decode prog_14_method_120_code 24 = .ok (.ishl, 1) := by decide +kernel
theorem dM_image_25 : decode prog_14_method_120_code 25 = .ok (.ior, 1) := by decide +kernel
theorem dM_image_26 : decode prog_14_method_120_code 26 = .ok (.istore_n 1, 1) := by decide +kernel
theorem dM_image_27 : decode prog_14_method_120_code 27 = .ok (.iinc 2 (1), 3) := by decide +kernel
theorem dM_image_30 : decode prog_14_method_120_code 30 = .ok (.goto (-26), 3) := by decide +kernel
theorem dM_image_33 : decode prog_14_method_120_code 33 = .ok (.aload_n 0, 1) := by decide +kernel
theorem dM_image_34 : decode prog_14_method_120_code 34 = .ok (.getfield 150, 3) := by decide +kernel
theorem dM_image_37 : decode prog_14_method_120_code 37 = .ok (.iconst (0), 1) := by decide +kernel
theorem dM_image_38 : decode prog_14_method_120_code 38 = .ok (.aload_n 0, 1) := by decide +kernel
theorem dM_image_39 : decode prog_14_method_120_code 39 = .ok (.invokevirtual 485, 3) := by decide +kernel
theorem dM_image_42 : decode prog_14_method_120_code 42 = .ok (.sipush (256), 3) := by decide +kernel
theorem dM_image_45 : decode prog_14_method_120_code 45 = .ok (.idiv, 1) := by decide +kernel
theorem dM_image_46 : decode prog_14_method_120_code 46 = .ok (.iastore, 1) := by decide +kernel
theorem dM_image_47 : decode prog_14_method_120_code 47 = .ok (.aload_n 0, 1) := by decide +kernel
theorem dM_image_48 : decode prog_14_method_120_code 48 = .ok (.getfield 150, 3) := by decide +kernel
theorem dM_image_51 : decode prog_14_method_120_code 51 = .ok (.iconst (1), 1) := by decide +kernel
theorem dM_image_52 : decode prog_14_method_120_code 52 = .ok (.aload_n 0, 1) := by decide +kernel
theorem dM_image_53 : decode prog_14_method_120_code 53 = .ok (.invokevirtual 485, 3) := by decide +kernel
theorem dM_image_56 : decode prog_14_method_120_code 56 = .ok (.sipush (256), 3) := by decide +kernel
theorem dM_image_59 : decode prog_14_method_120_code 59 = .ok (.irem, 1) := by decide +kernel
theorem dM_image_60 : decode prog_14_method_120_code 60 = .ok (.iastore, 1) := by decide +kernel
theorem dM_image_61 : decode prog_14_method_120_code 61 = .ok (.aload_n 0, 1) := by decide +kernel
theorem dM_image_62 : decode prog_14_method_120_code 62 = .ok (.getfield 150, 3) := by decide +kernel
theorem dM_image_65 : decode prog_14_method_120_code 65 = .ok (.iconst (2), 1) := by decide +kernel
theorem dM_image_66 : decode prog_14_method_120_code 66 = .ok (.iload_n 1, 1) := by decide +kernel
theorem dM_image_67 : decode prog_14_method_120_code 67 = .ok (.iastore, 1) := by decide +kernel
theorem dM_image_68 : decode prog_14_method_120_code 68 = .ok (.aload_n 0, 1) := by decide +kernel
theorem dM_image_69 : decode prog_14_method_120_code 69 = .ok (.getfield 150, 3) := by decide +kernel
theorem dM_image_72 : decode prog_14_method_120_code 72 = .ok (.iconst (3), 1) := by decide +kernel
theorem dM_image_73 : decode prog_14_method_120_code 73 = .ok (.aload_n 0, 1) := by decide +kernel
theorem dM_image_74 : decode prog_14_method_120_code 74 = .ok (.getfield 150, 3) := by decide +kernel
theorem dM_image_77 : decode prog_14_method_120_code 77 = .ok (.iconst (0), 1) := by decide +kernel
theorem dM_image_78 : decode prog_14_method_120_code 78 = .ok (.iaload, 1) := by decide +kernel
theorem dM_image_79 : decode prog_14_method_120_code 79 = .ok (.aload_n 0, 1) := by decide +kernel
theorem dM_image_80 : decode prog_14_method_120_code 80 = .ok (.getfield 150, 3) := by decide +kernel
theorem dM_image_83 : decode prog_14_method_120_code 83 = .ok (.iconst (1), 1) := by decide +kernel
theorem dM_image_84 : decode prog_14_method_120_code 84 = .ok (.iaload, 1) := by decide +kernel
theorem dM_image_85 : decode prog_14_method_120_code 85 = .ok (.aload_n 0, 1) := by decide +kernel
theorem dM_image_86 : decode prog_14_method_120_code 86 = .ok (.getfield 150, 3) := by decide +kernel
theorem dM_image_89 : decode prog_14_method_120_code 89 = .ok (.iconst (2), 1) := by decide +kernel
theorem dM_image_90 : decode prog_14_method_120_code 90 = .ok (.iaload, 1) := by decide +kernel
theorem dM_image_91 : decode prog_14_method_120_code 91 = .ok (.invokestatic 488, 3) := by decide +kernel
theorem dM_image_94 : decode prog_14_method_120_code 94 = .ok (.iastore, 1) := by decide +kernel
theorem dM_image_95 : decode prog_14_method_120_code 95 = .ok (.aload_n 0, 1) := by decide +kernel
theorem dM_image_96 : decode prog_14_method_120_code 96 = .ok (.iconst (4), 1) := by decide +kernel
theorem dM_image_97 : decode prog_14_method_120_code 97 = .ok (.putfield 491, 3) := by decide +kernel
theorem dM_image_100 : decode prog_14_method_120_code 100 = .ok (.aload_n 0, 1) := by decide +kernel
theorem dM_image_101 : decode prog_14_method_120_code 101 = .ok (.getfield 491, 3) := by decide +kernel
theorem dM_image_104 : decode prog_14_method_120_code 104 = .ok (.ireturn, 1) := by decide +kernel
theorem dM_wrongBits_0 : decode prog_14_method_118_code 0 = .ok (.iconst (0), 1) := by decide +kernel
theorem dM_wrongBits_1 : decode prog_14_method_118_code 1 = .ok (.istore_n 1, 1) := by decide +kernel
theorem dM_wrongBits_2 : decode prog_14_method_118_code 2 = .ok (.iconst (0), 1) := by decide +kernel
theorem dM_wrongBits_3 : decode prog_14_method_118_code 3 = .ok (.istore_n 2, 1) := by decide +kernel
theorem dM_wrongBits_4 : decode prog_14_method_118_code 4 = .ok (.iload_n 2, 1) := by decide +kernel
theorem dM_wrongBits_5 : decode prog_14_method_118_code 5 = .ok (.aload_n 0, 1) := by decide +kernel
theorem dM_wrongBits_6 : decode prog_14_method_118_code 6 = .ok (.invokevirtual 297, 3) := by decide +kernel
theorem dM_wrongBits_9 : decode prog_14_method_118_code 9 = .ok (.if_icmp .ge (24), 3) := by decide +kernel
theorem dM_wrongBits_12 : decode prog_14_method_118_code 12 = .ok (.aload_n 0, 1) := by decide +kernel
theorem dM_wrongBits_13 : decode prog_14_method_118_code 13 = .ok (.getfield 106, 3) := by decide +kernel
theorem dM_wrongBits_16 : decode prog_14_method_118_code 16 = .ok (.iload_n 2, 1) := by decide +kernel
theorem dM_wrongBits_17 : decode prog_14_method_118_code 17 = .ok (.baload, 1) := by decide +kernel
theorem dM_wrongBits_18 : decode prog_14_method_118_code 18 = .ok (.ifCond .eq (9), 3) := by decide +kernel
theorem dM_wrongBits_21 : decode prog_14_method_118_code 21 = .ok (.iload_n 1, 1) := by decide +kernel
theorem dM_wrongBits_22 : decode prog_14_method_118_code 22 = .ok (.iconst (1), 1) := by decide +kernel
theorem dM_wrongBits_23 : decode prog_14_method_118_code 23 = .ok (.iload_n 2, 1) := by decide +kernel
theorem dM_wrongBits_24 : decode prog_14_method_118_code 24 = .ok (.ishl, 1) := by decide +kernel
theorem dM_wrongBits_25 : decode prog_14_method_118_code 25 = .ok (.ior, 1) := by decide +kernel
theorem dM_wrongBits_26 : decode prog_14_method_118_code 26 = .ok (.istore_n 1, 1) := by decide +kernel
theorem dM_wrongBits_27 : decode prog_14_method_118_code 27 = .ok (.iinc 2 (1), 3) := by decide +kernel
theorem dM_wrongBits_30 : decode prog_14_method_118_code 30 = .ok (.goto (-26), 3) := by decide +kernel
theorem dM_wrongBits_33 : decode prog_14_method_118_code 33 = .ok (.iload_n 1, 1) := by decide +kernel
theorem dM_wrongBits_34 : decode prog_14_method_118_code 34 = .ok (.ireturn, 1) := by decide +kernel
theorem dM_checked_0 : decode prog_14_method_119_code 0 = .ok (.sipush (427), 3) := by decide +kernel
theorem dM_checked_3 : decode prog_14_method_119_code 3 = .ok (.iload_n 0, 1) := by decide +kernel
theorem dM_checked_4 : decode prog_14_method_119_code 4 = .ok (.iadd, 1) := by decide +kernel
theorem dM_checked_5 : decode prog_14_method_119_code 5 = .ok (.sipush (247), 3) := by decide +kernel
theorem dM_checked_8 : decode prog_14_method_119_code 8 = .ok (.irem, 1) := by decide +kernel
theorem dM_checked_9 : decode prog_14_method_119_code 9 = .ok (.istore_n 3, 1) := by decide +kernel
theorem dM_checked_10 : decode prog_14_method_119_code 10 = .ok (.bipush (7), 2) := by decide +kernel
theorem dM_checked_12 : decode prog_14_method_119_code 12 = .ok (.iload_n 3, 1) := by decide +kernel
theorem dM_checked_13 : decode prog_14_method_119_code 13 = .ok (.imul, 1) := by decide +kernel
theorem dM_checked_14 : decode prog_14_method_119_code 14 = .ok (.iload_n 1, 1) := by decide +kernel
theorem dM_checked_15 : decode prog_14_method_119_code 15 = .ok (.iadd, 1) := by decide +kernel
theorem dM_checked_16 : decode prog_14_method_119_code 16 = .ok (.sipush (247), 3) := by decide +kernel
theorem dM_checked_19 : decode prog_14_method_119_code 19 = .ok (.irem, 1) := by decide +kernel
theorem dM_checked_20 : decode prog_14_method_119_code 20 = .ok (.istore_n 3, 1) := by decide +kernel
theorem dM_checked_21 : decode prog_14_method_119_code 21 = .ok (.bipush (7), 2) := by decide +kernel
theorem dM_checked_23 : decode prog_14_method_119_code 23 = .ok (.iload_n 3, 1) := by decide +kernel
theorem dM_checked_24 : decode prog_14_method_119_code 24 = .ok (.imul, 1) := by decide +kernel
theorem dM_checked_25 : decode prog_14_method_119_code 25 = .ok (.iload_n 2, 1) := by decide +kernel
theorem dM_checked_26 : decode prog_14_method_119_code 26 = .ok (.iadd, 1) := by decide +kernel
theorem dM_checked_27 : decode prog_14_method_119_code 27 = .ok (.sipush (247), 3) := by decide +kernel
theorem dM_checked_30 : decode prog_14_method_119_code 30 = .ok (.irem, 1) := by decide +kernel
theorem dM_checked_31 : decode prog_14_method_119_code 31 = .ok (.ireturn, 1) := by decide +kernel
theorem dM_octet_0 : decode prog_14_method_121_code 0 = .ok (.iload_n 1, 1) := by decide +kernel
theorem dM_octet_1 : decode prog_14_method_121_code 1 = .ok (.ifCond .lt (20), 3) := by decide +kernel
theorem dM_octet_4 : decode prog_14_method_121_code 4 = .ok (.iload_n 1, 1) := by decide +kernel
theorem dM_octet_5 : decode prog_14_method_121_code 5 = .ok (.aload_n 0, 1) := by decide +kernel
theorem dM_octet_6 : decode prog_14_method_121_code 6 = .ok (.getfield 491, 3) := by decide +kernel
theorem dM_octet_9 : decode prog_14_method_121_code 9 = .ok (.if_icmp .ge (12), 3) := by decide +kernel
theorem dM_octet_12 : decode prog_14_method_121_code 12 = .ok (.aload_n 0, 1) := by decide +kernel
theorem dM_octet_13 : decode prog_14_method_121_code 13 = .ok (.getfield 150, 3) := by decide +kernel
theorem dM_octet_16 : decode prog_14_method_121_code 16 = .ok (.iload_n 1, 1) := by decide +kernel
theorem dM_octet_17 : decode prog_14_method_121_code 17 = .ok (.iaload, 1) := by decide +kernel
theorem dM_octet_18 : decode prog_14_method_121_code 18 = .ok (.goto (4), 3) := by decide +kernel
theorem dM_octet_21 : decode prog_14_method_121_code 21 = .ok (.iconst (-1), 1) := by decide +kernel
theorem dM_octet_22 : decode prog_14_method_121_code 22 = .ok (.ireturn, 1) := by decide +kernel
theorem dM_on_0 : decode prog_14_method_122_code 0 = .ok (.aload_n 0, 1) := by decide +kernel
theorem dM_on_1 : decode prog_14_method_122_code 1 = .ok (.getfield 153, 3) := by decide +kernel
theorem dM_on_4 : decode prog_14_method_122_code 4 = .ok (.istore_n 1, 1) := by decide +kernel
theorem dM_on_5 : decode prog_14_method_122_code 5 = .ok (.aload_n 0, 1) := by decide +kernel
theorem dM_on_6 : decode prog_14_method_122_code 6 = .ok (.iconst (0), 1) := by decide +kernel
theorem dM_on_7 : decode prog_14_method_122_code 7 = .ok (.putfield 153, 3) := by decide +kernel
theorem dM_on_10 : decode prog_14_method_122_code 10 = .ok (.iload_n 1, 1) := by decide +kernel
theorem dM_on_11 : decode prog_14_method_122_code 11 = .ok (.iconst (4), 1) := by decide +kernel
theorem dM_on_12 : decode prog_14_method_122_code 12 = .ok (.if_icmp .ne (33), 3) := by decide +kernel
theorem dM_on_15 : decode prog_14_method_122_code 15 = .ok (.aload_n 0, 1) := by decide +kernel
theorem dM_on_16 : decode prog_14_method_122_code 16 = .ok (.getfield 7, 3) := by decide +kernel
theorem dM_on_19 : decode prog_14_method_122_code 19 = .ok (.iconst (3), 1) := by decide +kernel
theorem dM_on_20 : decode prog_14_method_122_code 20 = .ok (.iaload, 1) := by decide +kernel
theorem dM_on_21 : decode prog_14_method_122_code 21 = .ok (.aload_n 0, 1) := by decide +kernel
theorem dM_on_22 : decode prog_14_method_122_code 22 = .ok (.getfield 7, 3) := by decide +kernel
theorem dM_on_25 : decode prog_14_method_122_code 25 = .ok (.iconst (0), 1) := by decide +kernel
theorem dM_on_26 : decode prog_14_method_122_code 26 = .ok (.iaload, 1) := by decide +kernel
theorem dM_on_27 : decode prog_14_method_122_code 27 = .ok (.aload_n 0, 1) := by decide +kernel
theorem dM_on_28 : decode prog_14_method_122_code 28 = .ok (.getfield 7, 3) := by decide +kernel
theorem dM_on_31 : decode prog_14_method_122_code 31 = .ok (.iconst (1), 1) := by decide +kernel
theorem dM_on_32 : decode prog_14_method_122_code 32 = .ok (.iaload, 1) := by decide +kernel
theorem dM_on_33 : decode prog_14_method_122_code 33 = .ok (.aload_n 0, 1) := by decide +kernel
theorem dM_on_34 : decode prog_14_method_122_code 34 = .ok (.getfield 7, 3) := by decide +kernel
theorem dM_on_37 : decode prog_14_method_122_code 37 = .ok (.iconst (2), 1) := by decide +kernel
theorem dM_on_38 : decode prog_14_method_122_code 38 = .ok (.iaload, 1) := by decide +kernel
theorem dM_on_39 : decode prog_14_method_122_code 39 = .ok (.invokestatic 488, 3) := by decide +kernel
theorem dM_on_42 : decode prog_14_method_122_code 42 = .ok (.if_icmp .eq (5), 3) := by decide +kernel
theorem dM_on_45 : decode prog_14_method_122_code 45 = .ok (.iconst (0), 1) := by decide +kernel
theorem dM_on_46 : decode prog_14_method_122_code 46 = .ok (.ireturn, 1) := by decide +kernel
theorem dM_on_47 : decode prog_14_method_122_code 47 = .ok (.sipush (256), 3) := by decide +kernel
theorem dM_on_50 : decode prog_14_method_122_code 50 = .ok (.aload_n 0, 1) := by decide +kernel
theorem dM_on_51 : decode prog_14_method_122_code 51 = .ok (.getfield 7, 3) := by decide +kernel
theorem dM_on_54 : decode prog_14_method_122_code 54 = .ok (.iconst (0), 1) := by decide +kernel
theorem dM_on_55 : decode prog_14_method_122_code 55 = .ok (.iaload, 1) := by decide +kernel
theorem dM_on_56 : decode prog_14_method_122_code 56 = .ok (.imul, 1) := by decide +kernel
theorem dM_on_57 : decode prog_14_method_122_code 57 = .ok (.aload_n 0, 1) := by decide +kernel
theorem dM_on_58 : decode prog_14_method_122_code 58 = .ok (.getfield 7, 3) := by decide +kernel
theorem dM_on_61 : decode prog_14_method_122_code 61 = .ok (.iconst (1), 1) := by decide +kernel
theorem dM_on_62 : decode prog_14_method_122_code 62 = .ok (.iaload, 1) := by decide +kernel
theorem dM_on_63 : decode prog_14_method_122_code 63 = .ok (.iadd, 1) := by decide +kernel
theorem dM_on_64 : decode prog_14_method_122_code 64 = .ok (.istore_n 2, 1) := by decide +kernel
theorem dM_on_65 : decode prog_14_method_122_code 65 = .ok (.iload_n 2, 1) := by decide +kernel
theorem dM_on_66 : decode prog_14_method_122_code 66 = .ok (.aload_n 0, 1) := by decide +kernel
theorem dM_on_67 : decode prog_14_method_122_code 67 = .ok (.invokevirtual 297, 3) := by decide +kernel
theorem dM_on_70 : decode prog_14_method_122_code 70 = .ok (.ishr, 1) := by decide +kernel
theorem dM_on_71 : decode prog_14_method_122_code 71 = .ok (.ifCond .ne (17), 3) := by decide +kernel
theorem dM_on_74 : decode prog_14_method_122_code 74 = .ok (.aload_n 0, 1) := by decide +kernel
theorem dM_on_75 : decode prog_14_method_122_code 75 = .ok (.getfield 7, 3) := by decide +kernel
theorem dM_on_78 : decode prog_14_method_122_code 78 = .ok (.iconst (2), 1) := by decide +kernel
theorem dM_on_79 : decode prog_14_method_122_code 79 = .ok (.iaload, 1) := by decide +kernel
theorem dM_on_80 : decode prog_14_method_122_code 80 = .ok (.aload_n 0, 1) := by decide +kernel
theorem dM_on_81 : decode prog_14_method_122_code 81 = .ok (.invokevirtual 334, 3) := by decide +kernel
theorem dM_on_84 : decode prog_14_method_122_code 84 = .ok (.ishr, 1) := by decide +kernel
theorem dM_on_85 : decode prog_14_method_122_code 85 = .ok (.ifCond .eq (5), 3) := by decide +kernel
theorem dM_on_88 : decode prog_14_method_122_code 88 = .ok (.iconst (0), 1) := by decide +kernel
theorem dM_on_89 : decode prog_14_method_122_code 89 = .ok (.ireturn, 1) := by decide +kernel
theorem dM_on_90 : decode prog_14_method_122_code 90 = .ok (.iconst (0), 1) := by decide +kernel
theorem dM_on_91 : decode prog_14_method_122_code 91 = .ok (.istore_n 3, 1) := by decide +kernel
theorem dM_on_92 : decode prog_14_method_122_code 92 = .ok (.iload_n 3, 1) := by decide +kernel
theorem dM_on_93 : decode prog_14_method_122_code 93 = .ok (.bipush (12), 2) := by decide +kernel
theorem dM_on_95 : decode prog_14_method_122_code 95 = .ok (.if_icmp .ge (29), 3) := by decide +kernel
theorem dM_on_98 : decode prog_14_method_122_code 98 = .ok (.aload_n 0, 1) := by decide +kernel
theorem dM_on_99 : decode prog_14_method_122_code 99 = .ok (.getfield 106, 3) := by decide +kernel
theorem dM_on_102 : decode prog_14_method_122_code 102 = .ok (.iload_n 3, 1) := by decide +kernel
theorem dM_on_103 : decode prog_14_method_122_code 103 = .ok (.iload_n 2, 1) := by decide +kernel
theorem dM_on_104 : decode prog_14_method_122_code 104 = .ok (.iload_n 3, 1) := by decide +kernel
theorem dM_on_105 : decode prog_14_method_122_code 105 = .ok (.ishr, 1) := by decide +kernel
theorem dM_on_106 : decode prog_14_method_122_code 106 = .ok (.iconst (1), 1) := by decide +kernel
theorem dM_on_107 : decode prog_14_method_122_code 107 = .ok (.iand, 1) := by decide +kernel
theorem dM_on_108 : decode prog_14_method_122_code 108 = .ok (.iconst (1), 1) := by decide +kernel
theorem dM_on_109 : decode prog_14_method_122_code 109 = .ok (.if_icmp .ne (7), 3) := by decide +kernel
theorem dM_on_112 : decode prog_14_method_122_code 112 = .ok (.iconst (1), 1) := by decide +kernel
theorem dM_on_113 : decode prog_14_method_122_code 113 = .ok (.goto (4), 3) := by decide +kernel
theorem dM_on_116 : decode prog_14_method_122_code 116 = .ok (.iconst (0), 1) := by decide +kernel
theorem dM_on_117 : decode prog_14_method_122_code 117 = .ok (.bastore, 1) := by decide +kernel
theorem dM_on_118 : decode prog_14_method_122_code 118 = .ok (.iinc 3 (1), 3) := by decide +kernel
theorem dM_on_121 : decode prog_14_method_122_code 121 = .ok (.goto (-29), 3) := by decide +kernel
theorem dM_on_124 : decode prog_14_method_122_code 124 = .ok (.iconst (0), 1) := by decide +kernel
theorem dM_on_125 : decode prog_14_method_122_code 125 = .ok (.istore_n 3, 1) := by decide +kernel
theorem dM_on_126 : decode prog_14_method_122_code 126 = .ok (.iload_n 3, 1) := by decide +kernel
theorem dM_on_127 : decode prog_14_method_122_code 127 = .ok (.bipush (6), 2) := by decide +kernel
theorem dM_on_129 : decode prog_14_method_122_code 129 = .ok (.if_icmp .ge (34), 3) := by decide +kernel
theorem dM_on_132 : decode prog_14_method_122_code 132 = .ok (.aload_n 0, 1) := by decide +kernel
theorem dM_on_133 : decode prog_14_method_122_code 133 = .ok (.getfield 113, 3) := by decide +kernel
theorem dM_on_136 : decode prog_14_method_122_code 136 = .ok (.iload_n 3, 1) := by decide +kernel
theorem dM_on_137 : decode prog_14_method_122_code 137 = .ok (.aload_n 0, 1) := by decide +kernel
theorem dM_on_138 : decode prog_14_method_122_code 138 = .ok (.getfield 7, 3) := by decide +kernel
theorem dM_on_141 : decode prog_14_method_122_code 141 = .ok (.iconst (2), 1) := by decide +kernel
theorem dM_on_142 : decode prog_14_method_122_code 142 = .ok (.iaload, 1) := by decide +kernel
theorem dM_on_143 : decode prog_14_method_122_code 143 = .ok (.iload_n 3, 1) := by decide +kernel
theorem dM_on_144 : decode prog_14_method_122_code 144 = .ok (.ishr, 1) := by decide +kernel
theorem dM_on_145 : decode prog_14_method_122_code 145 = .ok (.iconst (1), 1) := by decide +kernel
theorem dM_on_146 : decode prog_14_method_122_code 146 = .ok (.iand, 1) := by decide +kernel
theorem dM_on_147 : decode prog_14_method_122_code 147 = .ok (.iconst (1), 1) := by decide +kernel
theorem dM_on_148 : decode prog_14_method_122_code 148 = .ok (.if_icmp .ne (7), 3) := by decide +kernel
theorem dM_on_151 : decode prog_14_method_122_code 151 = .ok (.iconst (1), 1) := by decide +kernel
theorem dM_on_152 : decode prog_14_method_122_code 152 = .ok (.goto (4), 3) := by decide +kernel
theorem dM_on_155 : decode prog_14_method_122_code 155 = .ok (.iconst (0), 1) := by decide +kernel
theorem dM_on_156 : decode prog_14_method_122_code 156 = .ok (.bastore, 1) := by decide +kernel
theorem dM_on_157 : decode prog_14_method_122_code 157 = .ok (.iinc 3 (1), 3) := by decide +kernel
theorem dM_on_160 : decode prog_14_method_122_code 160 = .ok (.goto (-34), 3) := by decide +kernel
theorem dM_on_163 : decode prog_14_method_122_code 163 = .ok (.iconst (1), 1) := by decide +kernel
theorem dM_on_164 : decode prog_14_method_122_code 164 = .ok (.ireturn, 1) := by decide +kernel
