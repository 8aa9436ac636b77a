theorem dX8_init_0 : decode cX8_init 0 = .ok (.aload_n 0, 1) := by decide +kernel
theorem dX8_init_1 : decode cX8_init 1 = .ok (.invokespecial 3, 3) := by decide +kernel
theorem dX8_init_4 : decode cX8_init 4 = .ok (.aload_n 0, 1) := by decide +kernel
theorem dX8_init_5 : decode cX8_init 5 = .ok (.bipush 6, 2) := by decide +kernel
theorem dX8_init_7 : decode cX8_init 7 = .ok (.newarray .int, 2) := by decide +kernel
theorem dX8_init_9 : decode cX8_init 9 = .ok (.putfield 9, 3) := by decide +kernel
theorem dX8_init_12 : decode cX8_init 12 = .ok (.aload_n 0, 1) := by decide +kernel
theorem dX8_init_13 : decode cX8_init 13 = .ok (.bipush 6, 2) := by decide +kernel
theorem dX8_init_15 : decode cX8_init 15 = .ok (.newarray .int, 2) := by decide +kernel
theorem dX8_init_17 : decode cX8_init 17 = .ok (.putfield 15, 3) := by decide +kernel
theorem dX8_init_20 : decode cX8_init 20 = .ok (.aload_n 0, 1) := by decide +kernel
theorem dX8_init_21 : decode cX8_init 21 = .ok (.bipush 6, 2) := by decide +kernel
theorem dX8_init_23 : decode cX8_init 23 = .ok (.newarray .int, 2) := by decide +kernel
theorem dX8_init_25 : decode cX8_init 25 = .ok (.putfield 18, 3) := by decide +kernel
theorem dX8_init_28 : decode cX8_init 28 = .ok (.aload_n 0, 1) := by decide +kernel
theorem dX8_init_29 : decode cX8_init 29 = .ok (.bipush 6, 2) := by decide +kernel
theorem dX8_init_31 : decode cX8_init 31 = .ok (.newarray .int, 2) := by decide +kernel
theorem dX8_init_33 : decode cX8_init 33 = .ok (.putfield 21, 3) := by decide +kernel
theorem dX8_init_36 : decode cX8_init 36 = .ok (.aload_n 0, 1) := by decide +kernel
theorem dX8_init_37 : decode cX8_init 37 = .ok (.bipush 6, 2) := by decide +kernel
theorem dX8_init_39 : decode cX8_init 39 = .ok (.newarray .int, 2) := by decide +kernel
theorem dX8_init_41 : decode cX8_init 41 = .ok (.putfield 24, 3) := by decide +kernel
theorem dX8_init_44 : decode cX8_init 44 = .ok (.aload_n 0, 1) := by decide +kernel
theorem dX8_init_45 : decode cX8_init 45 = .ok (.bipush 24, 2) := by decide +kernel
theorem dX8_init_47 : decode cX8_init 47 = .ok (.newarray .int, 2) := by decide +kernel
theorem dX8_init_49 : decode cX8_init 49 = .ok (.putfield 27, 3) := by decide +kernel
theorem dX8_init_52 : decode cX8_init 52 = .ok (.aload_n 0, 1) := by decide +kernel
theorem dX8_init_53 : decode cX8_init 53 = .ok (.bipush 36, 2) := by decide +kernel
theorem dX8_init_55 : decode cX8_init 55 = .ok (.newarray .int, 2) := by decide +kernel
theorem dX8_init_57 : decode cX8_init 57 = .ok (.putfield 30, 3) := by decide +kernel
theorem dX8_init_60 : decode cX8_init 60 = .ok (.aload_n 0, 1) := by decide +kernel
theorem dX8_init_61 : decode cX8_init 61 = .ok (.bipush 100, 2) := by decide +kernel
theorem dX8_init_63 : decode cX8_init 63 = .ok (.newarray .int, 2) := by decide +kernel
theorem dX8_init_65 : decode cX8_init 65 = .ok (.putfield 33, 3) := by decide +kernel
theorem dX8_init_68 : decode cX8_init 68 = .ok (.aload_n 0, 1) := by decide +kernel
theorem dX8_init_69 : decode cX8_init 69 = .ok (.bipush 6, 2) := by decide +kernel
theorem dX8_init_71 : decode cX8_init 71 = .ok (.newarray .int, 2) := by decide +kernel
theorem dX8_init_73 : decode cX8_init 73 = .ok (.putfield 36, 3) := by decide +kernel
theorem dX8_init_76 : decode cX8_init 76 = .ok (.aload_n 0, 1) := by decide +kernel
theorem dX8_init_77 : decode cX8_init 77 = .ok (.bipush 61, 2) := by decide +kernel
theorem dX8_init_79 : decode cX8_init 79 = .ok (.newarray .int, 2) := by decide +kernel
theorem dX8_init_81 : decode cX8_init 81 = .ok (.putfield 39, 3) := by decide +kernel
theorem dX8_init_84 : decode cX8_init 84 = .ok (.aload_n 0, 1) := by decide +kernel
theorem dX8_init_85 : decode cX8_init 85 = .ok (.bipush 61, 2) := by decide +kernel
theorem dX8_init_87 : decode cX8_init 87 = .ok (.newarray .int, 2) := by decide +kernel
theorem dX8_init_89 : decode cX8_init 89 = .ok (.putfield 42, 3) := by decide +kernel
theorem dX8_init_92 : decode cX8_init 92 = .ok (.aload_n 0, 1) := by decide +kernel
theorem dX8_init_93 : decode cX8_init 93 = .ok (.bipush 61, 2) := by decide +kernel
theorem dX8_init_95 : decode cX8_init 95 = .ok (.newarray .int, 2) := by decide +kernel
theorem dX8_init_97 : decode cX8_init 97 = .ok (.putfield 45, 3) := by decide +kernel
theorem dX8_init_100 : decode cX8_init 100 = .ok (.aload_n 0, 1) := by decide +kernel
theorem dX8_init_101 : decode cX8_init 101 = .ok (.bipush 61, 2) := by decide +kernel
theorem dX8_init_103 : decode cX8_init 103 = .ok (.newarray .int, 2) := by decide +kernel
theorem dX8_init_105 : decode cX8_init 105 = .ok (.putfield 48, 3) := by decide +kernel
theorem dX8_init_108 : decode cX8_init 108 = .ok (.aload_n 0, 1) := by decide +kernel
theorem dX8_init_109 : decode cX8_init 109 = .ok (.sipush 800, 3) := by decide +kernel
theorem dX8_init_112 : decode cX8_init 112 = .ok (.newarray .int, 2) := by decide +kernel
theorem dX8_init_114 : decode cX8_init 114 = .ok (.putfield 51, 3) := by decide +kernel
theorem dX8_init_117 : decode cX8_init 117 = .ok (.aload_n 0, 1) := by decide +kernel
theorem dX8_init_118 : decode cX8_init 118 = .ok (.bipush 110, 2) := by decide +kernel
theorem dX8_init_120 : decode cX8_init 120 = .ok (.newarray .boolean, 2) := by decide +kernel
theorem dX8_init_122 : decode cX8_init 122 = .ok (.putfield 54, 3) := by decide +kernel
theorem dX8_init_125 : decode cX8_init 125 = .ok (.aload_n 0, 1) := by decide +kernel
theorem dX8_init_126 : decode cX8_init 126 = .ok (.iconst 5, 1) := by decide +kernel
theorem dX8_init_127 : decode cX8_init 127 = .ok (.newarray .int, 2) := by decide +kernel
theorem dX8_init_129 : decode cX8_init 129 = .ok (.putfield 58, 3) := by decide +kernel
theorem dX8_init_132 : decode cX8_init 132 = .ok (.aload_n 0, 1) := by decide +kernel
theorem dX8_init_133 : decode cX8_init 133 = .ok (.iconst 5, 1) := by decide +kernel
theorem dX8_init_134 : decode cX8_init 134 = .ok (.newarray .int, 2) := by decide +kernel
theorem dX8_init_136 : decode cX8_init 136 = .ok (.putfield 61, 3) := by decide +kernel
theorem dX8_init_139 : decode cX8_init 139 = .ok (.aload_n 0, 1) := by decide +kernel
theorem dX8_init_140 : decode cX8_init 140 = .ok (.iconst 5, 1) := by decide +kernel
theorem dX8_init_141 : decode cX8_init 141 = .ok (.newarray .int, 2) := by decide +kernel
theorem dX8_init_143 : decode cX8_init 143 = .ok (.putfield 64, 3) := by decide +kernel
theorem dX8_init_146 : decode cX8_init 146 = .ok (.aload_n 0, 1) := by decide +kernel
theorem dX8_init_147 : decode cX8_init 147 = .ok (.iconst 5, 1) := by decide +kernel
theorem dX8_init_148 : decode cX8_init 148 = .ok (.newarray .int, 2) := by decide +kernel
theorem dX8_init_150 : decode cX8_init 150 = .ok (.putfield 67, 3) := by decide +kernel
theorem dX8_init_153 : decode cX8_init 153 = .ok (.aload_n 0, 1) := by decide +kernel
theorem dX8_init_154 : decode cX8_init 154 = .ok (.bipush 10, 2) := by decide +kernel
theorem dX8_init_156 : decode cX8_init 156 = .ok (.newarray .int, 2) := by decide +kernel
theorem dX8_init_158 : decode cX8_init 158 = .ok (.putfield 70, 3) := by decide +kernel
theorem dX8_init_161 : decode cX8_init 161 = .ok (.aload_n 0, 1) := by decide +kernel
theorem dX8_init_162 : decode cX8_init 162 = .ok (.bipush 10, 2) := by decide +kernel
theorem dX8_init_164 : decode cX8_init 164 = .ok (.newarray .int, 2) := by decide +kernel
theorem dX8_init_166 : decode cX8_init 166 = .ok (.putfield 73, 3) := by decide +kernel
theorem dX8_init_169 : decode cX8_init 169 = .ok (.aload_n 0, 1) := by decide +kernel
theorem dX8_init_170 : decode cX8_init 170 = .ok (.bipush 8, 2) := by decide +kernel
theorem dX8_init_172 : decode cX8_init 172 = .ok (.newarray .int, 2) := by decide +kernel
theorem dX8_init_174 : decode cX8_init 174 = .ok (.putfield 76, 3) := by decide +kernel
theorem dX8_init_177 : decode cX8_init 177 = .ok (.aload_n 0, 1) := by decide +kernel
theorem dX8_init_178 : decode cX8_init 178 = .ok (.bipush 8, 2) := by decide +kernel
theorem dX8_init_180 : decode cX8_init 180 = .ok (.newarray .int, 2) := by decide +kernel
theorem dX8_init_182 : decode cX8_init 182 = .ok (.putfield 79, 3) := by decide +kernel
theorem dX8_init_185 : decode cX8_init 185 = .ok (.aload_n 0, 1) := by decide +kernel
theorem dX8_init_186 : decode cX8_init 186 = .ok (.bipush 8, 2) := by decide +kernel
theorem dX8_init_188 : decode cX8_init 188 = .ok (.newarray .int, 2) := by decide +kernel
theorem dX8_init_190 : decode cX8_init 190 = .ok (.putfield 82, 3) := by decide +kernel
theorem dX8_init_193 : decode cX8_init 193 = .ok (.aload_n 0, 1) := by decide +kernel
theorem dX8_init_194 : decode cX8_init 194 = .ok (.bipush 20, 2) := by decide +kernel
theorem dX8_init_196 : decode cX8_init 196 = .ok (.newarray .int, 2) := by decide +kernel
theorem dX8_init_198 : decode cX8_init 198 = .ok (.putfield 85, 3) := by decide +kernel
theorem dX8_init_201 : decode cX8_init 201 = .ok (.aload_n 0, 1) := by decide +kernel
theorem dX8_init_202 : decode cX8_init 202 = .ok (.sipush 163, 3) := by decide +kernel
theorem dX8_init_205 : decode cX8_init 205 = .ok (.newarray .int, 2) := by decide +kernel
theorem dX8_init_207 : decode cX8_init 207 = .ok (.putfield 88, 3) := by decide +kernel
theorem dX8_init_210 : decode cX8_init 210 = .ok (.aload_n 0, 1) := by decide +kernel
theorem dX8_init_211 : decode cX8_init 211 = .ok (.sipush 163, 3) := by decide +kernel
theorem dX8_init_214 : decode cX8_init 214 = .ok (.newarray .int, 2) := by decide +kernel
theorem dX8_init_216 : decode cX8_init 216 = .ok (.putfield 91, 3) := by decide +kernel
theorem dX8_init_219 : decode cX8_init 219 = .ok (.aload_n 0, 1) := by decide +kernel
theorem dX8_init_220 : decode cX8_init 220 = .ok (.bipush 6, 2) := by decide +kernel
theorem dX8_init_222 : decode cX8_init 222 = .ok (.newarray .int, 2) := by decide +kernel
theorem dX8_init_224 : decode cX8_init 224 = .ok (.putfield 94, 3) := by decide +kernel
theorem dX8_init_227 : decode cX8_init 227 = .ok (.aload_n 0, 1) := by decide +kernel
theorem dX8_init_228 : decode cX8_init 228 = .ok (.bipush 6, 2) := by decide +kernel
theorem dX8_init_230 : decode cX8_init 230 = .ok (.newarray .int, 2) := by decide +kernel
theorem dX8_init_232 : decode cX8_init 232 = .ok (.putfield 97, 3) := by decide +kernel
theorem dX8_init_235 : decode cX8_init 235 = .ok (.aload_n 0, 1) := by decide +kernel
theorem dX8_init_236 : decode cX8_init 236 = .ok (.bipush 6, 2) := by decide +kernel
theorem dX8_init_238 : decode cX8_init 238 = .ok (.newarray .int, 2) := by decide +kernel
theorem dX8_init_240 : decode cX8_init 240 = .ok (.putfield 100, 3) := by decide +kernel
theorem dX8_init_243 : decode cX8_init 243 = .ok (.aload_n 0, 1) := by decide +kernel
theorem dX8_init_244 : decode cX8_init 244 = .ok (.bipush 6, 2) := by decide +kernel
theorem dX8_init_246 : decode cX8_init 246 = .ok (.newarray .int, 2) := by decide +kernel
theorem dX8_init_248 : decode cX8_init 248 = .ok (.putfield 103, 3) := by decide +kernel
theorem dX8_init_251 : decode cX8_init 251 = .ok (.aload_n 0, 1) := by decide +kernel
theorem dX8_init_252 : decode cX8_init 252 = .ok (.sipush 360, 3) := by decide +kernel
theorem dX8_init_255 : decode cX8_init 255 = .ok (.newarray .long, 2) := by decide +kernel
theorem dX8_init_257 : decode cX8_init 257 = .ok (.putfield 106, 3) := by decide +kernel
theorem dX8_init_260 : decode cX8_init 260 = .ok (.aload_n 0, 1) := by decide +kernel
theorem dX8_init_261 : decode cX8_init 261 = .ok (.iconst (-1), 1) := by decide +kernel
theorem dX8_init_262 : decode cX8_init 262 = .ok (.putfield 110, 3) := by decide +kernel
theorem dX8_init_265 : decode cX8_init 265 = .ok (.iconst 0, 1) := by decide +kernel
theorem dX8_init_266 : decode cX8_init 266 = .ok (.istore_n 1, 1) := by decide +kernel
theorem dX8_init_267 : decode cX8_init 267 = .ok (.iload_n 1, 1) := by decide +kernel
theorem dX8_init_268 : decode cX8_init 268 = .ok (.bipush 6, 2) := by decide +kernel
theorem dX8_init_270 : decode cX8_init 270 = .ok (.if_icmp .ge 16, 3) := by decide +kernel
theorem dX8_init_273 : decode cX8_init 273 = .ok (.aload_n 0, 1) := by decide +kernel
theorem dX8_init_274 : decode cX8_init 274 = .ok (.getfield 100, 3) := by decide +kernel
theorem dX8_init_277 : decode cX8_init 277 = .ok (.iload_n 1, 1) := by decide +kernel
theorem dX8_init_278 : decode cX8_init 278 = .ok (.iconst (-1), 1) := by decide +kernel
theorem dX8_init_279 : decode cX8_init 279 = .ok (.iastore, 1) := by decide +kernel
theorem dX8_init_280 : decode cX8_init 280 = .ok (.iinc 1 1, 3) := by decide +kernel
theorem dX8_init_283 : decode cX8_init 283 = .ok (.goto (-16), 3) := by decide +kernel
theorem dX8_init_286 : decode cX8_init 286 = .ok (.return_, 1) := by decide +kernel
theorem dX8_within_0 : decode cX8_within 0 = .ok (.iload_n 0, 1) := by decide +kernel
theorem dX8_within_1 : decode cX8_within 1 = .ok (.iload_n 1, 1) := by decide +kernel
theorem dX8_within_2 : decode cX8_within 2 = .ok (.if_icmp .lt 12, 3) := by decide +kernel
theorem dX8_within_5 : decode cX8_within 5 = .ok (.iload_n 0, 1) := by decide +kernel
theorem dX8_within_6 : decode cX8_within 6 = .ok (.iload_n 2, 1) := by decide +kernel
theorem dX8_within_7 : decode cX8_within 7 = .ok (.if_icmp .gt 7, 3) := by decide +kernel
theorem dX8_within_10 : decode cX8_within 10 = .ok (.iconst 1, 1) := by decide +kernel
theorem dX8_within_11 : decode cX8_within 11 = .ok (.goto 4, 3) := by decide +kernel
theorem dX8_within_14 : decode cX8_within 14 = .ok (.iconst 0, 1) := by decide +kernel
theorem dX8_within_15 : decode cX8_within 15 = .ok (.ireturn, 1) := by decide +kernel
theorem dX8_isOne_0 : decode cX8_isOne 0 = .ok (.iload_n 1, 1) := by decide +kernel
theorem dX8_isOne_1 : decode cX8_isOne 1 = .ok (.iconst 0, 1) := by decide +kernel
theorem dX8_isOne_2 : decode cX8_isOne 2 = .ok (.aload_n 0, 1) := by decide +kernel
theorem dX8_isOne_3 : decode cX8_isOne 3 = .ok (.getfield 114, 3) := by decide +kernel
theorem dX8_isOne_6 : decode cX8_isOne 6 = .ok (.iconst 1, 1) := by decide +kernel
theorem dX8_isOne_7 : decode cX8_isOne 7 = .ok (.isub, 1) := by decide +kernel
theorem dX8_isOne_8 : decode cX8_isOne 8 = .ok (.invokestatic 117, 3) := by decide +kernel
theorem dX8_isOne_11 : decode cX8_isOne 11 = .ok (.ireturn, 1) := by decide +kernel
theorem dX8_are_0 : decode cX8_are 0 = .ok (.aload_n 0, 1) := by decide +kernel
theorem dX8_are_1 : decode cX8_are 1 = .ok (.iload_n 1, 1) := by decide +kernel
theorem dX8_are_2 : decode cX8_are 2 = .ok (.invokevirtual 121, 3) := by decide +kernel
theorem dX8_are_5 : decode cX8_are 5 = .ok (.ifCond .eq 15, 3) := by decide +kernel
theorem dX8_are_8 : decode cX8_are 8 = .ok (.aload_n 0, 1) := by decide +kernel
theorem dX8_are_9 : decode cX8_are 9 = .ok (.iload_n 2, 1) := by decide +kernel
theorem dX8_are_10 : decode cX8_are 10 = .ok (.invokevirtual 121, 3) := by decide +kernel
theorem dX8_are_13 : decode cX8_are 13 = .ok (.ifCond .eq 7, 3) := by decide +kernel
theorem dX8_are_16 : decode cX8_are 16 = .ok (.iconst 1, 1) := by decide +kernel
theorem dX8_are_17 : decode cX8_are 17 = .ok (.goto 4, 3) := by decide +kernel
theorem dX8_are_20 : decode cX8_are 20 = .ok (.iconst 0, 1) := by decide +kernel
theorem dX8_are_21 : decode cX8_are 21 = .ok (.ireturn, 1) := by decide +kernel
theorem dX8_one_0 : decode cX8_one 0 = .ok (.iload_n 1, 1) := by decide +kernel
theorem dX8_one_1 : decode cX8_one 1 = .ok (.iconst 0, 1) := by decide +kernel
theorem dX8_one_2 : decode cX8_one 2 = .ok (.bipush 6, 2) := by decide +kernel
theorem dX8_one_4 : decode cX8_one 4 = .ok (.invokestatic 117, 3) := by decide +kernel
theorem dX8_one_7 : decode cX8_one 7 = .ok (.ifCond .ne 5, 3) := by decide +kernel
theorem dX8_one_10 : decode cX8_one 10 = .ok (.iconst (-1), 1) := by decide +kernel
theorem dX8_one_11 : decode cX8_one 11 = .ok (.ireturn, 1) := by decide +kernel
theorem dX8_one_12 : decode cX8_one 12 = .ok (.iload_n 2, 1) := by decide +kernel
theorem dX8_one_13 : decode cX8_one 13 = .ok (.iconst 0, 1) := by decide +kernel
theorem dX8_one_14 : decode cX8_one 14 = .ok (.bipush 9, 2) := by decide +kernel
theorem dX8_one_16 : decode cX8_one 16 = .ok (.invokestatic 117, 3) := by decide +kernel
theorem dX8_one_19 : decode cX8_one 19 = .ok (.ifCond .ne 6, 3) := by decide +kernel
theorem dX8_one_22 : decode cX8_one 22 = .ok (.bipush (-2), 2) := by decide +kernel
theorem dX8_one_24 : decode cX8_one 24 = .ok (.ireturn, 1) := by decide +kernel
theorem dX8_one_25 : decode cX8_one 25 = .ok (.aload_n 0, 1) := by decide +kernel
theorem dX8_one_26 : decode cX8_one 26 = .ok (.getfield 114, 3) := by decide +kernel
theorem dX8_one_29 : decode cX8_one 29 = .ok (.bipush 6, 2) := by decide +kernel
theorem dX8_one_31 : decode cX8_one 31 = .ok (.if_icmp .ne 6, 3) := by decide +kernel
theorem dX8_one_34 : decode cX8_one 34 = .ok (.bipush (-4), 2) := by decide +kernel
theorem dX8_one_36 : decode cX8_one 36 = .ok (.ireturn, 1) := by decide +kernel
theorem dX8_one_37 : decode cX8_one 37 = .ok (.aload_n 0, 1) := by decide +kernel
theorem dX8_one_38 : decode cX8_one 38 = .ok (.getfield 114, 3) := by decide +kernel
theorem dX8_one_41 : decode cX8_one 41 = .ok (.istore_n 3, 1) := by decide +kernel
theorem dX8_one_42 : decode cX8_one 42 = .ok (.aload_n 0, 1) := by decide +kernel
theorem dX8_one_43 : decode cX8_one 43 = .ok (.getfield 9, 3) := by decide +kernel
theorem dX8_one_46 : decode cX8_one 46 = .ok (.iload_n 3, 1) := by decide +kernel
theorem dX8_one_47 : decode cX8_one 47 = .ok (.iload_n 1, 1) := by decide +kernel
theorem dX8_one_48 : decode cX8_one 48 = .ok (.iastore, 1) := by decide +kernel
theorem dX8_one_49 : decode cX8_one 49 = .ok (.aload_n 0, 1) := by decide +kernel
theorem dX8_one_50 : decode cX8_one 50 = .ok (.getfield 15, 3) := by decide +kernel
theorem dX8_one_53 : decode cX8_one 53 = .ok (.iload_n 3, 1) := by decide +kernel
theorem dX8_one_54 : decode cX8_one 54 = .ok (.iload_n 2, 1) := by decide +kernel
theorem dX8_one_55 : decode cX8_one 55 = .ok (.iastore, 1) := by decide +kernel
theorem dX8_one_56 : decode cX8_one 56 = .ok (.aload_n 0, 1) := by decide +kernel
theorem dX8_one_57 : decode cX8_one 57 = .ok (.getfield 18, 3) := by decide +kernel
theorem dX8_one_60 : decode cX8_one 60 = .ok (.iload_n 3, 1) := by decide +kernel
theorem dX8_one_61 : decode cX8_one 61 = .ok (.iconst 0, 1) := by decide +kernel
theorem dX8_one_62 : decode cX8_one 62 = .ok (.iastore, 1) := by decide +kernel
theorem dX8_one_63 : decode cX8_one 63 = .ok (.aload_n 0, 1) := by decide +kernel
theorem dX8_one_64 : decode cX8_one 64 = .ok (.getfield 21, 3) := by decide +kernel
theorem dX8_one_67 : decode cX8_one 67 = .ok (.iload_n 3, 1) := by decide +kernel
theorem dX8_one_68 : decode cX8_one 68 = .ok (.iconst 0, 1) := by decide +kernel
theorem dX8_one_69 : decode cX8_one 69 = .ok (.iastore, 1) := by decide +kernel
theorem dX8_one_70 : decode cX8_one 70 = .ok (.aload_n 0, 1) := by decide +kernel
theorem dX8_one_71 : decode cX8_one 71 = .ok (.getfield 24, 3) := by decide +kernel
theorem dX8_one_74 : decode cX8_one 74 = .ok (.iload_n 3, 1) := by decide +kernel
theorem dX8_one_75 : decode cX8_one 75 = .ok (.iconst 0, 1) := by decide +kernel
theorem dX8_one_76 : decode cX8_one 76 = .ok (.iastore, 1) := by decide +kernel
theorem dX8_one_77 : decode cX8_one 77 = .ok (.iconst 0, 1) := by decide +kernel
theorem dX8_one_78 : decode cX8_one 78 = .ok (.istore 4, 2) := by decide +kernel
theorem dX8_one_80 : decode cX8_one 80 = .ok (.iload 4, 2) := by decide +kernel
theorem dX8_one_82 : decode cX8_one 82 = .ok (.iconst 4, 1) := by decide +kernel
theorem dX8_one_83 : decode cX8_one 83 = .ok (.if_icmp .ge 21, 3) := by decide +kernel
theorem dX8_one_86 : decode cX8_one 86 = .ok (.aload_n 0, 1) := by decide +kernel
theorem dX8_one_87 : decode cX8_one 87 = .ok (.getfield 27, 3) := by decide +kernel
theorem dX8_one_90 : decode cX8_one 90 = .ok (.iconst 4, 1) := by decide +kernel
theorem dX8_one_91 : decode cX8_one 91 = .ok (.iload_n 3, 1) := by decide +kernel
theorem dX8_one_92 : decode cX8_one 92 = .ok (.imul, 1) := by decide +kernel
theorem dX8_one_93 : decode cX8_one 93 = .ok (.iload 4, 2) := by decide +kernel
theorem dX8_one_95 : decode cX8_one 95 = .ok (.iadd, 1) := by decide +kernel
theorem dX8_one_96 : decode cX8_one 96 = .ok (.iconst 0, 1) := by decide +kernel
theorem dX8_one_97 : decode cX8_one 97 = .ok (.iastore, 1) := by decide +kernel
theorem dX8_one_98 : decode cX8_one 98 = .ok (.iinc 4 1, 3) := by decide +kernel
theorem dX8_one_101 : decode cX8_one 101 = .ok (.goto (-21), 3) := by decide +kernel
theorem dX8_one_104 : decode cX8_one 104 = .ok (.iconst 0, 1) := by decide +kernel
theorem dX8_one_105 : decode cX8_one 105 = .ok (.istore 4, 2) := by decide +kernel
theorem dX8_one_107 : decode cX8_one 107 = .ok (.iload 4, 2) := by decide +kernel
theorem dX8_one_109 : decode cX8_one 109 = .ok (.bipush 6, 2) := by decide +kernel
theorem dX8_one_111 : decode cX8_one 111 = .ok (.if_icmp .ge 35, 3) := by decide +kernel
theorem dX8_one_114 : decode cX8_one 114 = .ok (.aload_n 0, 1) := by decide +kernel
theorem dX8_one_115 : decode cX8_one 115 = .ok (.getfield 30, 3) := by decide +kernel
theorem dX8_one_118 : decode cX8_one 118 = .ok (.bipush 6, 2) := by decide +kernel
theorem dX8_one_120 : decode cX8_one 120 = .ok (.iload_n 3, 1) := by decide +kernel
theorem dX8_one_121 : decode cX8_one 121 = .ok (.imul, 1) := by decide +kernel
theorem dX8_one_122 : decode cX8_one 122 = .ok (.iload 4, 2) := by decide +kernel
theorem dX8_one_124 : decode cX8_one 124 = .ok (.iadd, 1) := by decide +kernel
theorem dX8_one_125 : decode cX8_one 125 = .ok (.iconst 0, 1) := by decide +kernel
theorem dX8_one_126 : decode cX8_one 126 = .ok (.iastore, 1) := by decide +kernel
theorem dX8_one_127 : decode cX8_one 127 = .ok (.aload_n 0, 1) := by decide +kernel
theorem dX8_one_128 : decode cX8_one 128 = .ok (.getfield 30, 3) := by decide +kernel
theorem dX8_one_131 : decode cX8_one 131 = .ok (.bipush 6, 2) := by decide +kernel
theorem dX8_one_133 : decode cX8_one 133 = .ok (.iload 4, 2) := by decide +kernel
theorem dX8_one_135 : decode cX8_one 135 = .ok (.imul, 1) := by decide +kernel
theorem dX8_one_136 : decode cX8_one 136 = .ok (.iload_n 3, 1) := by decide +kernel
theorem dX8_one_137 : decode cX8_one 137 = .ok (.iadd, 1) := by decide +kernel
theorem dX8_one_138 : decode cX8_one 138 = .ok (.iconst 0, 1) := by decide +kernel
theorem dX8_one_139 : decode cX8_one 139 = .ok (.iastore, 1) := by decide +kernel
theorem dX8_one_140 : decode cX8_one 140 = .ok (.iinc 4 1, 3) := by decide +kernel
theorem dX8_one_143 : decode cX8_one 143 = .ok (.goto (-36), 3) := by decide +kernel
theorem dX8_one_146 : decode cX8_one 146 = .ok (.aload_n 0, 1) := by decide +kernel
theorem dX8_one_147 : decode cX8_one 147 = .ok (.dup, 1) := by decide +kernel
theorem dX8_one_148 : decode cX8_one 148 = .ok (.getfield 114, 3) := by decide +kernel
theorem dX8_one_151 : decode cX8_one 151 = .ok (.dup_x1, 1) := by decide +kernel
theorem dX8_one_152 : decode cX8_one 152 = .ok (.iconst 1, 1) := by decide +kernel
theorem dX8_one_153 : decode cX8_one 153 = .ok (.iadd, 1) := by decide +kernel
theorem dX8_one_154 : decode cX8_one 154 = .ok (.putfield 114, 3) := by decide +kernel
theorem dX8_one_157 : decode cX8_one 157 = .ok (.ireturn, 1) := by decide +kernel
theorem dX8_of_0 : decode cX8_of 0 = .ok (.aload_n 0, 1) := by decide +kernel
theorem dX8_of_1 : decode cX8_of 1 = .ok (.iload_n 1, 1) := by decide +kernel
theorem dX8_of_2 : decode cX8_of 2 = .ok (.invokevirtual 121, 3) := by decide +kernel
theorem dX8_of_5 : decode cX8_of 5 = .ok (.ifCond .ne 5, 3) := by decide +kernel
theorem dX8_of_8 : decode cX8_of 8 = .ok (.iconst (-1), 1) := by decide +kernel
theorem dX8_of_9 : decode cX8_of 9 = .ok (.ireturn, 1) := by decide +kernel
theorem dX8_of_10 : decode cX8_of 10 = .ok (.iload_n 2, 1) := by decide +kernel
theorem dX8_of_11 : decode cX8_of 11 = .ok (.tableswitch 92 0 6 #[41, 48, 55, 62, 69, 76, 86], 41) := by decide +kernel
theorem dX8_of_52 : decode cX8_of 52 = .ok (.aload_n 0, 1) := by decide +kernel
theorem dX8_of_53 : decode cX8_of 53 = .ok (.getfield 9, 3) := by decide +kernel
theorem dX8_of_56 : decode cX8_of 56 = .ok (.iload_n 1, 1) := by decide +kernel
theorem dX8_of_57 : decode cX8_of 57 = .ok (.iaload, 1) := by decide +kernel
theorem dX8_of_58 : decode cX8_of 58 = .ok (.ireturn, 1) := by decide +kernel
theorem dX8_of_59 : decode cX8_of 59 = .ok (.aload_n 0, 1) := by decide +kernel
theorem dX8_of_60 : decode cX8_of 60 = .ok (.getfield 15, 3) := by decide +kernel
theorem dX8_of_63 : decode cX8_of 63 = .ok (.iload_n 1, 1) := by decide +kernel
theorem dX8_of_64 : decode cX8_of 64 = .ok (.iaload, 1) := by decide +kernel
theorem dX8_of_65 : decode cX8_of 65 = .ok (.ireturn, 1) := by decide +kernel
theorem dX8_of_66 : decode cX8_of 66 = .ok (.aload_n 0, 1) := by decide +kernel
theorem dX8_of_67 : decode cX8_of 67 = .ok (.getfield 18, 3) := by decide +kernel
theorem dX8_of_70 : decode cX8_of 70 = .ok (.iload_n 1, 1) := by decide +kernel
theorem dX8_of_71 : decode cX8_of 71 = .ok (.iaload, 1) := by decide +kernel
theorem dX8_of_72 : decode cX8_of 72 = .ok (.ireturn, 1) := by decide +kernel
theorem dX8_of_73 : decode cX8_of 73 = .ok (.aload_n 0, 1) := by decide +kernel
theorem dX8_of_74 : decode cX8_of 74 = .ok (.getfield 21, 3) := by decide +kernel
theorem dX8_of_77 : decode cX8_of 77 = .ok (.iload_n 1, 1) := by decide +kernel
theorem dX8_of_78 : decode cX8_of 78 = .ok (.iaload, 1) := by decide +kernel
theorem dX8_of_79 : decode cX8_of 79 = .ok (.ireturn, 1) := by decide +kernel
theorem dX8_of_80 : decode cX8_of 80 = .ok (.aload_n 0, 1) := by decide +kernel
theorem dX8_of_81 : decode cX8_of 81 = .ok (.getfield 24, 3) := by decide +kernel
theorem dX8_of_84 : decode cX8_of 84 = .ok (.iload_n 1, 1) := by decide +kernel
theorem dX8_of_85 : decode cX8_of 85 = .ok (.iaload, 1) := by decide +kernel
theorem dX8_of_86 : decode cX8_of 86 = .ok (.ireturn, 1) := by decide +kernel
theorem dX8_of_87 : decode cX8_of 87 = .ok (.aload_n 0, 1) := by decide +kernel
theorem dX8_of_88 : decode cX8_of 88 = .ok (.iload_n 1, 1) := by decide +kernel
theorem dX8_of_89 : decode cX8_of 89 = .ok (.aload_n 0, 1) := by decide +kernel
theorem dX8_of_90 : decode cX8_of 90 = .ok (.getfield 125, 3) := by decide +kernel
theorem dX8_of_93 : decode cX8_of 93 = .ok (.invokevirtual 128, 3) := by decide +kernel
theorem dX8_of_96 : decode cX8_of 96 = .ok (.ireturn, 1) := by decide +kernel
theorem dX8_of_97 : decode cX8_of 97 = .ok (.aload_n 0, 1) := by decide +kernel
theorem dX8_of_98 : decode cX8_of 98 = .ok (.iload_n 1, 1) := by decide +kernel
theorem dX8_of_99 : decode cX8_of 99 = .ok (.invokevirtual 132, 3) := by decide +kernel
theorem dX8_of_102 : decode cX8_of 102 = .ok (.ireturn, 1) := by decide +kernel
theorem dX8_of_103 : decode cX8_of 103 = .ok (.iconst (-1), 1) := by decide +kernel
theorem dX8_of_104 : decode cX8_of 104 = .ok (.ireturn, 1) := by decide +kernel
theorem dX8_hate_0 : decode cX8_hate 0 = .ok (.aload_n 0, 1) := by decide +kernel
theorem dX8_hate_1 : decode cX8_hate 1 = .ok (.iload_n 1, 1) := by decide +kernel
theorem dX8_hate_2 : decode cX8_hate 2 = .ok (.iload_n 2, 1) := by decide +kernel
theorem dX8_hate_3 : decode cX8_hate 3 = .ok (.invokevirtual 136, 3) := by decide +kernel
theorem dX8_hate_6 : decode cX8_hate 6 = .ok (.ifCond .ne 5, 3) := by decide +kernel
theorem dX8_hate_9 : decode cX8_hate 9 = .ok (.iconst (-1), 1) := by decide +kernel
theorem dX8_hate_10 : decode cX8_hate 10 = .ok (.ireturn, 1) := by decide +kernel
theorem dX8_hate_11 : decode cX8_hate 11 = .ok (.iload_n 1, 1) := by decide +kernel
theorem dX8_hate_12 : decode cX8_hate 12 = .ok (.iload_n 2, 1) := by decide +kernel
theorem dX8_hate_13 : decode cX8_hate 13 = .ok (.if_icmp .eq 13, 3) := by decide +kernel
theorem dX8_hate_16 : decode cX8_hate 16 = .ok (.iload_n 3, 1) := by decide +kernel
theorem dX8_hate_17 : decode cX8_hate 17 = .ok (.iconst 0, 1) := by decide +kernel
theorem dX8_hate_18 : decode cX8_hate 18 = .ok (.bipush 99, 2) := by decide +kernel
theorem dX8_hate_20 : decode cX8_hate 20 = .ok (.invokestatic 117, 3) := by decide +kernel
theorem dX8_hate_23 : decode cX8_hate 23 = .ok (.ifCond .ne 6, 3) := by decide +kernel
theorem dX8_hate_26 : decode cX8_hate 26 = .ok (.bipush (-2), 2) := by decide +kernel
theorem dX8_hate_28 : decode cX8_hate 28 = .ok (.ireturn, 1) := by decide +kernel
theorem dX8_hate_29 : decode cX8_hate 29 = .ok (.aload_n 0, 1) := by decide +kernel
theorem dX8_hate_30 : decode cX8_hate 30 = .ok (.getfield 30, 3) := by decide +kernel
theorem dX8_hate_33 : decode cX8_hate 33 = .ok (.bipush 6, 2) := by decide +kernel
theorem dX8_hate_35 : decode cX8_hate 35 = .ok (.iload_n 1, 1) := by decide +kernel
theorem dX8_hate_36 : decode cX8_hate 36 = .ok (.imul, 1) := by decide +kernel
theorem dX8_hate_37 : decode cX8_hate 37 = .ok (.iload_n 2, 1) := by decide +kernel
theorem dX8_hate_38 : decode cX8_hate 38 = .ok (.iadd, 1) := by decide +kernel
theorem dX8_hate_39 : decode cX8_hate 39 = .ok (.iaload, 1) := by decide +kernel
theorem dX8_hate_40 : decode cX8_hate 40 = .ok (.istore 4, 2) := by decide +kernel
theorem dX8_hate_42 : decode cX8_hate 42 = .ok (.aload_n 0, 1) := by decide +kernel
theorem dX8_hate_43 : decode cX8_hate 43 = .ok (.getfield 30, 3) := by decide +kernel
theorem dX8_hate_46 : decode cX8_hate 46 = .ok (.bipush 6, 2) := by decide +kernel
theorem dX8_hate_48 : decode cX8_hate 48 = .ok (.iload_n 1, 1) := by decide +kernel
theorem dX8_hate_49 : decode cX8_hate 49 = .ok (.imul, 1) := by decide +kernel
theorem dX8_hate_50 : decode cX8_hate 50 = .ok (.iload_n 2, 1) := by decide +kernel
theorem dX8_hate_51 : decode cX8_hate 51 = .ok (.iadd, 1) := by decide +kernel
theorem dX8_hate_52 : decode cX8_hate 52 = .ok (.iload_n 3, 1) := by decide +kernel
theorem dX8_hate_53 : decode cX8_hate 53 = .ok (.iastore, 1) := by decide +kernel
theorem dX8_hate_54 : decode cX8_hate 54 = .ok (.iload 4, 2) := by decide +kernel
theorem dX8_hate_56 : decode cX8_hate 56 = .ok (.ireturn, 1) := by decide +kernel
theorem dX8_between_0 : decode cX8_between 0 = .ok (.aload_n 0, 1) := by decide +kernel
theorem dX8_between_1 : decode cX8_between 1 = .ok (.iload_n 1, 1) := by decide +kernel
theorem dX8_between_2 : decode cX8_between 2 = .ok (.iload_n 2, 1) := by decide +kernel
theorem dX8_between_3 : decode cX8_between 3 = .ok (.invokevirtual 136, 3) := by decide +kernel
theorem dX8_between_6 : decode cX8_between 6 = .ok (.ifCond .eq 12, 3) := by decide +kernel
theorem dX8_between_9 : decode cX8_between 9 = .ok (.iload_n 3, 1) := by decide +kernel
theorem dX8_between_10 : decode cX8_between 10 = .ok (.iconst 0, 1) := by decide +kernel
theorem dX8_between_11 : decode cX8_between 11 = .ok (.iconst 3, 1) := by decide +kernel
theorem dX8_between_12 : decode cX8_between 12 = .ok (.invokestatic 117, 3) := by decide +kernel
theorem dX8_between_15 : decode cX8_between 15 = .ok (.ifCond .ne 7, 3) := by decide +kernel
theorem dX8_between_18 : decode cX8_between 18 = .ok (.sipush (-10001), 3) := by decide +kernel
theorem dX8_between_21 : decode cX8_between 21 = .ok (.ireturn, 1) := by decide +kernel
theorem dX8_between_22 : decode cX8_between 22 = .ok (.iload_n 1, 1) := by decide +kernel
theorem dX8_between_23 : decode cX8_between 23 = .ok (.iload_n 2, 1) := by decide +kernel
theorem dX8_between_24 : decode cX8_between 24 = .ok (.if_icmp .ne 7, 3) := by decide +kernel
theorem dX8_between_27 : decode cX8_between 27 = .ok (.sipush (-10002), 3) := by decide +kernel
theorem dX8_between_30 : decode cX8_between 30 = .ok (.ireturn, 1) := by decide +kernel
theorem dX8_between_31 : decode cX8_between 31 = .ok (.iload_n 3, 1) := by decide +kernel
theorem dX8_between_32 : decode cX8_between 32 = .ok (.tableswitch 70 0 2 #[28, 40, 51], 28) := by decide +kernel
theorem dX8_between_60 : decode cX8_between 60 = .ok (.aload_n 0, 1) := by decide +kernel
theorem dX8_between_61 : decode cX8_between 61 = .ok (.getfield 30, 3) := by decide +kernel
theorem dX8_between_64 : decode cX8_between 64 = .ok (.bipush 6, 2) := by decide +kernel
theorem dX8_between_66 : decode cX8_between 66 = .ok (.iload_n 1, 1) := by decide +kernel
theorem dX8_between_67 : decode cX8_between 67 = .ok (.imul, 1) := by decide +kernel
theorem dX8_between_68 : decode cX8_between 68 = .ok (.iload_n 2, 1) := by decide +kernel
theorem dX8_between_69 : decode cX8_between 69 = .ok (.iadd, 1) := by decide +kernel
theorem dX8_between_70 : decode cX8_between 70 = .ok (.iaload, 1) := by decide +kernel
theorem dX8_between_71 : decode cX8_between 71 = .ok (.ireturn, 1) := by decide +kernel
theorem dX8_between_72 : decode cX8_between 72 = .ok (.aload_n 0, 1) := by decide +kernel
theorem dX8_between_73 : decode cX8_between 73 = .ok (.iload_n 1, 1) := by decide +kernel
theorem dX8_between_74 : decode cX8_between 74 = .ok (.iload_n 2, 1) := by decide +kernel
theorem dX8_between_75 : decode cX8_between 75 = .ok (.aload_n 0, 1) := by decide +kernel
theorem dX8_between_76 : decode cX8_between 76 = .ok (.getfield 125, 3) := by decide +kernel
theorem dX8_between_79 : decode cX8_between 79 = .ok (.invokevirtual 140, 3) := by decide +kernel
theorem dX8_between_82 : decode cX8_between 82 = .ok (.ireturn, 1) := by decide +kernel
theorem dX8_between_83 : decode cX8_between 83 = .ok (.aload_n 0, 1) := by decide +kernel
theorem dX8_between_84 : decode cX8_between 84 = .ok (.iload_n 1, 1) := by decide +kernel
theorem dX8_between_85 : decode cX8_between 85 = .ok (.iload_n 2, 1) := by decide +kernel
theorem dX8_between_86 : decode cX8_between 86 = .ok (.aload_n 0, 1) := by decide +kernel
theorem dX8_between_87 : decode cX8_between 87 = .ok (.getfield 125, 3) := by decide +kernel
theorem dX8_between_90 : decode cX8_between 90 = .ok (.invokevirtual 144, 3) := by decide +kernel
theorem dX8_between_93 : decode cX8_between 93 = .ok (.ifCond .eq 7, 3) := by decide +kernel
theorem dX8_between_96 : decode cX8_between 96 = .ok (.iconst 1, 1) := by decide +kernel
theorem dX8_between_97 : decode cX8_between 97 = .ok (.goto 4, 3) := by decide +kernel
theorem dX8_between_100 : decode cX8_between 100 = .ok (.iconst 0, 1) := by decide +kernel
theorem dX8_between_101 : decode cX8_between 101 = .ok (.ireturn, 1) := by decide +kernel
theorem dX8_between_102 : decode cX8_between 102 = .ok (.aload_n 0, 1) := by decide +kernel
theorem dX8_between_103 : decode cX8_between 103 = .ok (.iload_n 1, 1) := by decide +kernel
theorem dX8_between_104 : decode cX8_between 104 = .ok (.iload_n 2, 1) := by decide +kernel
theorem dX8_between_105 : decode cX8_between 105 = .ok (.invokevirtual 147, 3) := by decide +kernel
theorem dX8_between_108 : decode cX8_between 108 = .ok (.ireturn, 1) := by decide +kernel
theorem dX8_die_0 : decode cX8_die 0 = .ok (.aload_n 0, 1) := by decide +kernel
theorem dX8_die_1 : decode cX8_die 1 = .ok (.iload_n 1, 1) := by decide +kernel
theorem dX8_die_2 : decode cX8_die 2 = .ok (.invokevirtual 121, 3) := by decide +kernel
theorem dX8_die_5 : decode cX8_die 5 = .ok (.ifCond .ne 5, 3) := by decide +kernel
theorem dX8_die_8 : decode cX8_die 8 = .ok (.iconst (-1), 1) := by decide +kernel
theorem dX8_die_9 : decode cX8_die 9 = .ok (.ireturn, 1) := by decide +kernel
theorem dX8_die_10 : decode cX8_die 10 = .ok (.aload_n 0, 1) := by decide +kernel
theorem dX8_die_11 : decode cX8_die 11 = .ok (.getfield 18, 3) := by decide +kernel
theorem dX8_die_14 : decode cX8_die 14 = .ok (.iload_n 1, 1) := by decide +kernel
theorem dX8_die_15 : decode cX8_die 15 = .ok (.iaload, 1) := by decide +kernel
theorem dX8_die_16 : decode cX8_die 16 = .ok (.istore_n 3, 1) := by decide +kernel
theorem dX8_die_17 : decode cX8_die 17 = .ok (.aload_n 0, 1) := by decide +kernel
theorem dX8_die_18 : decode cX8_die 18 = .ok (.getfield 18, 3) := by decide +kernel
theorem dX8_die_21 : decode cX8_die 21 = .ok (.iload_n 1, 1) := by decide +kernel
theorem dX8_die_22 : decode cX8_die 22 = .ok (.iload_n 2, 1) := by decide +kernel
theorem dX8_die_23 : decode cX8_die 23 = .ok (.ifCond .eq 7, 3) := by decide +kernel
theorem dX8_die_26 : decode cX8_die 26 = .ok (.iconst 1, 1) := by decide +kernel
theorem dX8_die_27 : decode cX8_die 27 = .ok (.goto 4, 3) := by decide +kernel
theorem dX8_die_30 : decode cX8_die 30 = .ok (.iconst 0, 1) := by decide +kernel
theorem dX8_die_31 : decode cX8_die 31 = .ok (.iastore, 1) := by decide +kernel
theorem dX8_die_32 : decode cX8_die 32 = .ok (.iload_n 2, 1) := by decide +kernel
theorem dX8_die_33 : decode cX8_die 33 = .ok (.ifCond .ne 10, 3) := by decide +kernel
theorem dX8_die_36 : decode cX8_die 36 = .ok (.aload_n 0, 1) := by decide +kernel
theorem dX8_die_37 : decode cX8_die 37 = .ok (.getfield 21, 3) := by decide +kernel
theorem dX8_die_40 : decode cX8_die 40 = .ok (.iload_n 1, 1) := by decide +kernel
theorem dX8_die_41 : decode cX8_die 41 = .ok (.iconst 0, 1) := by decide +kernel
theorem dX8_die_42 : decode cX8_die 42 = .ok (.iastore, 1) := by decide +kernel
theorem dX8_die_43 : decode cX8_die 43 = .ok (.iload_n 3, 1) := by decide +kernel
theorem dX8_die_44 : decode cX8_die 44 = .ok (.ireturn, 1) := by decide +kernel
theorem dX8_row_0 : decode cX8_row 0 = .ok (.aload_n 0, 1) := by decide +kernel
theorem dX8_row_1 : decode cX8_row 1 = .ok (.iload_n 1, 1) := by decide +kernel
theorem dX8_row_2 : decode cX8_row 2 = .ok (.invokevirtual 121, 3) := by decide +kernel
theorem dX8_row_5 : decode cX8_row 5 = .ok (.ifCond .eq 12, 3) := by decide +kernel
theorem dX8_row_8 : decode cX8_row 8 = .ok (.iload_n 2, 1) := by decide +kernel
theorem dX8_row_9 : decode cX8_row 9 = .ok (.iconst 0, 1) := by decide +kernel
theorem dX8_row_10 : decode cX8_row 10 = .ok (.iconst 3, 1) := by decide +kernel
theorem dX8_row_11 : decode cX8_row 11 = .ok (.invokestatic 117, 3) := by decide +kernel
theorem dX8_row_14 : decode cX8_row 14 = .ok (.ifCond .ne 5, 3) := by decide +kernel
theorem dX8_row_17 : decode cX8_row 17 = .ok (.iconst (-1), 1) := by decide +kernel
theorem dX8_row_18 : decode cX8_row 18 = .ok (.ireturn, 1) := by decide +kernel
theorem dX8_row_19 : decode cX8_row 19 = .ok (.iload_n 3, 1) := by decide +kernel
theorem dX8_row_20 : decode cX8_row 20 = .ok (.iconst 0, 1) := by decide +kernel
theorem dX8_row_21 : decode cX8_row 21 = .ok (.bipush 9, 2) := by decide +kernel
theorem dX8_row_23 : decode cX8_row 23 = .ok (.invokestatic 117, 3) := by decide +kernel
theorem dX8_row_26 : decode cX8_row 26 = .ok (.ifCond .ne 6, 3) := by decide +kernel
theorem dX8_row_29 : decode cX8_row 29 = .ok (.bipush (-2), 2) := by decide +kernel
theorem dX8_row_31 : decode cX8_row 31 = .ok (.ireturn, 1) := by decide +kernel
theorem dX8_row_32 : decode cX8_row 32 = .ok (.aload_n 0, 1) := by decide +kernel
theorem dX8_row_33 : decode cX8_row 33 = .ok (.getfield 9, 3) := by decide +kernel
theorem dX8_row_36 : decode cX8_row 36 = .ok (.iload_n 1, 1) := by decide +kernel
theorem dX8_row_37 : decode cX8_row 37 = .ok (.iaload, 1) := by decide +kernel
theorem dX8_row_38 : decode cX8_row 38 = .ok (.bipush 6, 2) := by decide +kernel
theorem dX8_row_40 : decode cX8_row 40 = .ok (.if_icmp .eq 6, 3) := by decide +kernel
theorem dX8_row_43 : decode cX8_row 43 = .ok (.bipush (-3), 2) := by decide +kernel
theorem dX8_row_45 : decode cX8_row 45 = .ok (.ireturn, 1) := by decide +kernel
theorem dX8_row_46 : decode cX8_row 46 = .ok (.aload_n 0, 1) := by decide +kernel
theorem dX8_row_47 : decode cX8_row 47 = .ok (.getfield 27, 3) := by decide +kernel
theorem dX8_row_50 : decode cX8_row 50 = .ok (.iconst 4, 1) := by decide +kernel
theorem dX8_row_51 : decode cX8_row 51 = .ok (.iload_n 1, 1) := by decide +kernel
theorem dX8_row_52 : decode cX8_row 52 = .ok (.imul, 1) := by decide +kernel
theorem dX8_row_53 : decode cX8_row 53 = .ok (.iload_n 2, 1) := by decide +kernel
theorem dX8_row_54 : decode cX8_row 54 = .ok (.iadd, 1) := by decide +kernel
theorem dX8_row_55 : decode cX8_row 55 = .ok (.iaload, 1) := by decide +kernel
theorem dX8_row_56 : decode cX8_row 56 = .ok (.istore 4, 2) := by decide +kernel
theorem dX8_row_58 : decode cX8_row 58 = .ok (.aload_n 0, 1) := by decide +kernel
theorem dX8_row_59 : decode cX8_row 59 = .ok (.getfield 27, 3) := by decide +kernel
theorem dX8_row_62 : decode cX8_row 62 = .ok (.iconst 4, 1) := by decide +kernel
theorem dX8_row_63 : decode cX8_row 63 = .ok (.iload_n 1, 1) := by decide +kernel
theorem dX8_row_64 : decode cX8_row 64 = .ok (.imul, 1) := by decide +kernel
theorem dX8_row_65 : decode cX8_row 65 = .ok (.iload_n 2, 1) := by decide +kernel
theorem dX8_row_66 : decode cX8_row 66 = .ok (.iadd, 1) := by decide +kernel
theorem dX8_row_67 : decode cX8_row 67 = .ok (.iload_n 3, 1) := by decide +kernel
theorem dX8_row_68 : decode cX8_row 68 = .ok (.iastore, 1) := by decide +kernel
theorem dX8_row_69 : decode cX8_row 69 = .ok (.iload 4, 2) := by decide +kernel
theorem dX8_row_71 : decode cX8_row 71 = .ok (.ireturn, 1) := by decide +kernel
theorem dX8_feed_0 : decode cX8_feed 0 = .ok (.iload_n 1, 1) := by decide +kernel
theorem dX8_feed_1 : decode cX8_feed 1 = .ok (.iconst 0, 1) := by decide +kernel
theorem dX8_feed_2 : decode cX8_feed 2 = .ok (.bipush 127, 2) := by decide +kernel
theorem dX8_feed_4 : decode cX8_feed 4 = .ok (.invokestatic 117, 3) := by decide +kernel
theorem dX8_feed_7 : decode cX8_feed 7 = .ok (.ifCond .ne 6, 3) := by decide +kernel
theorem dX8_feed_10 : decode cX8_feed 10 = .ok (.bipush (-2), 2) := by decide +kernel
theorem dX8_feed_12 : decode cX8_feed 12 = .ok (.ireturn, 1) := by decide +kernel
theorem dX8_feed_13 : decode cX8_feed 13 = .ok (.aload_n 0, 1) := by decide +kernel
theorem dX8_feed_14 : decode cX8_feed 14 = .ok (.getfield 150, 3) := by decide +kernel
theorem dX8_feed_17 : decode cX8_feed 17 = .ok (.bipush 100, 2) := by decide +kernel
theorem dX8_feed_19 : decode cX8_feed 19 = .ok (.if_icmp .ne 6, 3) := by decide +kernel
theorem dX8_feed_22 : decode cX8_feed 22 = .ok (.bipush (-4), 2) := by decide +kernel
theorem dX8_feed_24 : decode cX8_feed 24 = .ok (.ireturn, 1) := by decide +kernel
theorem dX8_feed_25 : decode cX8_feed 25 = .ok (.aload_n 0, 1) := by decide +kernel
theorem dX8_feed_26 : decode cX8_feed 26 = .ok (.getfield 33, 3) := by decide +kernel
theorem dX8_feed_29 : decode cX8_feed 29 = .ok (.aload_n 0, 1) := by decide +kernel
theorem dX8_feed_30 : decode cX8_feed 30 = .ok (.dup, 1) := by decide +kernel
theorem dX8_feed_31 : decode cX8_feed 31 = .ok (.getfield 150, 3) := by decide +kernel
theorem dX8_feed_34 : decode cX8_feed 34 = .ok (.dup_x1, 1) := by decide +kernel
theorem dX8_feed_35 : decode cX8_feed 35 = .ok (.iconst 1, 1) := by decide +kernel
theorem dX8_feed_36 : decode cX8_feed 36 = .ok (.iadd, 1) := by decide +kernel
theorem dX8_feed_37 : decode cX8_feed 37 = .ok (.putfield 150, 3) := by decide +kernel
theorem dX8_feed_40 : decode cX8_feed 40 = .ok (.iload_n 1, 1) := by decide +kernel
theorem dX8_feed_41 : decode cX8_feed 41 = .ok (.iastore, 1) := by decide +kernel
theorem dX8_feed_42 : decode cX8_feed 42 = .ok (.aload_n 0, 1) := by decide +kernel
theorem dX8_feed_43 : decode cX8_feed 43 = .ok (.getfield 150, 3) := by decide +kernel
theorem dX8_feed_46 : decode cX8_feed 46 = .ok (.ireturn, 1) := by decide +kernel
theorem dX8_is_0 : decode cX8_is 0 = .ok (.aload_n 0, 1) := by decide +kernel
theorem dX8_is_1 : decode cX8_is 1 = .ok (.getfield 153, 3) := by decide +kernel
theorem dX8_is_4 : decode cX8_is 4 = .ok (.aload_n 0, 1) := by decide +kernel
theorem dX8_is_5 : decode cX8_is 5 = .ok (.getfield 150, 3) := by decide +kernel
theorem dX8_is_8 : decode cX8_is 8 = .ok (.if_icmp .eq 16, 3) := by decide +kernel
theorem dX8_is_11 : decode cX8_is 11 = .ok (.aload_n 0, 1) := by decide +kernel
theorem dX8_is_12 : decode cX8_is 12 = .ok (.getfield 33, 3) := by decide +kernel
theorem dX8_is_15 : decode cX8_is 15 = .ok (.aload_n 0, 1) := by decide +kernel
theorem dX8_is_16 : decode cX8_is 16 = .ok (.getfield 153, 3) := by decide +kernel
theorem dX8_is_19 : decode cX8_is 19 = .ok (.iaload, 1) := by decide +kernel
theorem dX8_is_20 : decode cX8_is 20 = .ok (.iload_n 1, 1) := by decide +kernel
theorem dX8_is_21 : decode cX8_is 21 = .ok (.if_icmp .eq 5, 3) := by decide +kernel
theorem dX8_is_24 : decode cX8_is 24 = .ok (.iconst 0, 1) := by decide +kernel
theorem dX8_is_25 : decode cX8_is 25 = .ok (.ireturn, 1) := by decide +kernel
theorem dX8_is_26 : decode cX8_is 26 = .ok (.aload_n 0, 1) := by decide +kernel
theorem dX8_is_27 : decode cX8_is 27 = .ok (.dup, 1) := by decide +kernel
theorem dX8_is_28 : decode cX8_is 28 = .ok (.getfield 153, 3) := by decide +kernel
theorem dX8_is_31 : decode cX8_is 31 = .ok (.iconst 1, 1) := by decide +kernel
theorem dX8_is_32 : decode cX8_is 32 = .ok (.iadd, 1) := by decide +kernel
theorem dX8_is_33 : decode cX8_is 33 = .ok (.putfield 153, 3) := by decide +kernel
theorem dX8_is_36 : decode cX8_is 36 = .ok (.iconst 1, 1) := by decide +kernel
theorem dX8_is_37 : decode cX8_is 37 = .ok (.ireturn, 1) := by decide +kernel
theorem dX8_isDigit_0 : decode cX8_isDigit 0 = .ok (.aload_n 0, 1) := by decide +kernel
theorem dX8_isDigit_1 : decode cX8_isDigit 1 = .ok (.getfield 153, 3) := by decide +kernel
theorem dX8_isDigit_4 : decode cX8_isDigit 4 = .ok (.aload_n 0, 1) := by decide +kernel
theorem dX8_isDigit_5 : decode cX8_isDigit 5 = .ok (.getfield 150, 3) := by decide +kernel
theorem dX8_isDigit_8 : decode cX8_isDigit 8 = .ok (.if_icmp .ge 35, 3) := by decide +kernel
theorem dX8_isDigit_11 : decode cX8_isDigit 11 = .ok (.aload_n 0, 1) := by decide +kernel
theorem dX8_isDigit_12 : decode cX8_isDigit 12 = .ok (.getfield 33, 3) := by decide +kernel
theorem dX8_isDigit_15 : decode cX8_isDigit 15 = .ok (.aload_n 0, 1) := by decide +kernel
theorem dX8_isDigit_16 : decode cX8_isDigit 16 = .ok (.getfield 153, 3) := by decide +kernel
theorem dX8_isDigit_19 : decode cX8_isDigit 19 = .ok (.iaload, 1) := by decide +kernel
theorem dX8_isDigit_20 : decode cX8_isDigit 20 = .ok (.bipush 48, 2) := by decide +kernel
theorem dX8_isDigit_22 : decode cX8_isDigit 22 = .ok (.if_icmp .lt 21, 3) := by decide +kernel
theorem dX8_isDigit_25 : decode cX8_isDigit 25 = .ok (.aload_n 0, 1) := by decide +kernel
theorem dX8_isDigit_26 : decode cX8_isDigit 26 = .ok (.getfield 33, 3) := by decide +kernel
theorem dX8_isDigit_29 : decode cX8_isDigit 29 = .ok (.aload_n 0, 1) := by decide +kernel
theorem dX8_isDigit_30 : decode cX8_isDigit 30 = .ok (.getfield 153, 3) := by decide +kernel
theorem dX8_isDigit_33 : decode cX8_isDigit 33 = .ok (.iaload, 1) := by decide +kernel
theorem dX8_isDigit_34 : decode cX8_isDigit 34 = .ok (.bipush 57, 2) := by decide +kernel
theorem dX8_isDigit_36 : decode cX8_isDigit 36 = .ok (.if_icmp .gt 7, 3) := by decide +kernel
theorem dX8_isDigit_39 : decode cX8_isDigit 39 = .ok (.iconst 1, 1) := by decide +kernel
theorem dX8_isDigit_40 : decode cX8_isDigit 40 = .ok (.goto 4, 3) := by decide +kernel
theorem dX8_isDigit_43 : decode cX8_isDigit 43 = .ok (.iconst 0, 1) := by decide +kernel
theorem dX8_isDigit_44 : decode cX8_isDigit 44 = .ok (.ireturn, 1) := by decide +kernel
theorem dX8_isNumber_0 : decode cX8_isNumber 0 = .ok (.aload_n 0, 1) := by decide +kernel
theorem dX8_isNumber_1 : decode cX8_isNumber 1 = .ok (.iconst 0, 1) := by decide +kernel
theorem dX8_isNumber_2 : decode cX8_isNumber 2 = .ok (.putfield 156, 3) := by decide +kernel
theorem dX8_isNumber_5 : decode cX8_isNumber 5 = .ok (.aload_n 0, 1) := by decide +kernel
theorem dX8_isNumber_6 : decode cX8_isNumber 6 = .ok (.iconst 0, 1) := by decide +kernel
theorem dX8_isNumber_7 : decode cX8_isNumber 7 = .ok (.putfield 159, 3) := by decide +kernel
theorem dX8_isNumber_10 : decode cX8_isNumber 10 = .ok (.aload_n 0, 1) := by decide +kernel
theorem dX8_isNumber_11 : decode cX8_isNumber 11 = .ok (.getfield 159, 3) := by decide +kernel
theorem dX8_isNumber_14 : decode cX8_isNumber 14 = .ok (.iconst 2, 1) := by decide +kernel
theorem dX8_isNumber_15 : decode cX8_isNumber 15 = .ok (.if_icmp .ge 57, 3) := by decide +kernel
theorem dX8_isNumber_18 : decode cX8_isNumber 18 = .ok (.aload_n 0, 1) := by decide +kernel
theorem dX8_isNumber_19 : decode cX8_isNumber 19 = .ok (.invokevirtual 162, 3) := by decide +kernel
theorem dX8_isNumber_22 : decode cX8_isNumber 22 = .ok (.ifCond .eq 50, 3) := by decide +kernel
theorem dX8_isNumber_25 : decode cX8_isNumber 25 = .ok (.aload_n 0, 1) := by decide +kernel
theorem dX8_isNumber_26 : decode cX8_isNumber 26 = .ok (.bipush 10, 2) := by decide +kernel
theorem dX8_isNumber_28 : decode cX8_isNumber 28 = .ok (.aload_n 0, 1) := by decide +kernel
theorem dX8_isNumber_29 : decode cX8_isNumber 29 = .ok (.getfield 156, 3) := by decide +kernel
theorem dX8_isNumber_32 : decode cX8_isNumber 32 = .ok (.imul, 1) := by decide +kernel
theorem dX8_isNumber_33 : decode cX8_isNumber 33 = .ok (.aload_n 0, 1) := by decide +kernel
theorem dX8_isNumber_34 : decode cX8_isNumber 34 = .ok (.getfield 33, 3) := by decide +kernel
theorem dX8_isNumber_37 : decode cX8_isNumber 37 = .ok (.aload_n 0, 1) := by decide +kernel
theorem dX8_isNumber_38 : decode cX8_isNumber 38 = .ok (.getfield 153, 3) := by decide +kernel
theorem dX8_isNumber_41 : decode cX8_isNumber 41 = .ok (.iaload, 1) := by decide +kernel
theorem dX8_isNumber_42 : decode cX8_isNumber 42 = .ok (.iadd, 1) := by decide +kernel
theorem dX8_isNumber_43 : decode cX8_isNumber 43 = .ok (.bipush 48, 2) := by decide +kernel
theorem dX8_isNumber_45 : decode cX8_isNumber 45 = .ok (.isub, 1) := by decide +kernel
theorem dX8_isNumber_46 : decode cX8_isNumber 46 = .ok (.putfield 156, 3) := by decide +kernel
theorem dX8_isNumber_49 : decode cX8_isNumber 49 = .ok (.aload_n 0, 1) := by decide +kernel
theorem dX8_isNumber_50 : decode cX8_isNumber 50 = .ok (.dup, 1) := by decide +kernel
theorem dX8_isNumber_51 : decode cX8_isNumber 51 = .ok (.getfield 153, 3) := by decide +kernel
theorem dX8_isNumber_54 : decode cX8_isNumber 54 = .ok (.iconst 1, 1) := by decide +kernel
theorem dX8_isNumber_55 : decode cX8_isNumber 55 = .ok (.iadd, 1) := by decide +kernel
theorem dX8_isNumber_56 : decode cX8_isNumber 56 = .ok (.putfield 153, 3) := by decide +kernel
theorem dX8_isNumber_59 : decode cX8_isNumber 59 = .ok (.aload_n 0, 1) := by decide +kernel
theorem dX8_isNumber_60 : decode cX8_isNumber 60 = .ok (.dup, 1) := by decide +kernel
theorem dX8_isNumber_61 : decode cX8_isNumber 61 = .ok (.getfield 159, 3) := by decide +kernel
theorem dX8_isNumber_64 : decode cX8_isNumber 64 = .ok (.iconst 1, 1) := by decide +kernel
theorem dX8_isNumber_65 : decode cX8_isNumber 65 = .ok (.iadd, 1) := by decide +kernel
theorem dX8_isNumber_66 : decode cX8_isNumber 66 = .ok (.putfield 159, 3) := by decide +kernel
theorem dX8_isNumber_69 : decode cX8_isNumber 69 = .ok (.goto (-59), 3) := by decide +kernel
theorem dX8_isNumber_72 : decode cX8_isNumber 72 = .ok (.aload_n 0, 1) := by decide +kernel
theorem dX8_isNumber_73 : decode cX8_isNumber 73 = .ok (.getfield 159, 3) := by decide +kernel
theorem dX8_isNumber_76 : decode cX8_isNumber 76 = .ok (.ifCond .le 7, 3) := by decide +kernel
theorem dX8_isNumber_79 : decode cX8_isNumber 79 = .ok (.iconst 1, 1) := by decide +kernel
theorem dX8_isNumber_80 : decode cX8_isNumber 80 = .ok (.goto 4, 3) := by decide +kernel
theorem dX8_isNumber_83 : decode cX8_isNumber 83 = .ok (.iconst 0, 1) := by decide +kernel
theorem dX8_isNumber_84 : decode cX8_isNumber 84 = .ok (.ireturn, 1) := by decide +kernel
theorem dX8_isAll_0 : decode cX8_isAll 0 = .ok (.iconst 0, 1) := by decide +kernel
theorem dX8_isAll_1 : decode cX8_isAll 1 = .ok (.istore_n 2, 1) := by decide +kernel
theorem dX8_isAll_2 : decode cX8_isAll 2 = .ok (.iload_n 2, 1) := by decide +kernel
theorem dX8_isAll_3 : decode cX8_isAll 3 = .ok (.aload_n 1, 1) := by decide +kernel
theorem dX8_isAll_4 : decode cX8_isAll 4 = .ok (.invokevirtual 166, 3) := by decide +kernel
theorem dX8_isAll_7 : decode cX8_isAll 7 = .ok (.if_icmp .ge 23, 3) := by decide +kernel
theorem dX8_isAll_10 : decode cX8_isAll 10 = .ok (.aload_n 0, 1) := by decide +kernel
theorem dX8_isAll_11 : decode cX8_isAll 11 = .ok (.aload_n 1, 1) := by decide +kernel
theorem dX8_isAll_12 : decode cX8_isAll 12 = .ok (.iload_n 2, 1) := by decide +kernel
theorem dX8_isAll_13 : decode cX8_isAll 13 = .ok (.invokevirtual 171, 3) := by decide +kernel
theorem dX8_isAll_16 : decode cX8_isAll 16 = .ok (.invokevirtual 175, 3) := by decide +kernel
theorem dX8_isAll_19 : decode cX8_isAll 19 = .ok (.ifCond .ne 5, 3) := by decide +kernel
theorem dX8_isAll_22 : decode cX8_isAll 22 = .ok (.iconst 0, 1) := by decide +kernel
theorem dX8_isAll_23 : decode cX8_isAll 23 = .ok (.ireturn, 1) := by decide +kernel
theorem dX8_isAll_24 : decode cX8_isAll 24 = .ok (.iinc 2 1, 3) := by decide +kernel
theorem dX8_isAll_27 : decode cX8_isAll 27 = .ok (.goto (-25), 3) := by decide +kernel
theorem dX8_isAll_30 : decode cX8_isAll 30 = .ok (.iconst 1, 1) := by decide +kernel
theorem dX8_isAll_31 : decode cX8_isAll 31 = .ok (.ireturn, 1) := by decide +kernel
theorem dX8_codes_0 : decode cX8_codes 0 = .ok (.aload_n 0, 1) := by decide +kernel
theorem dX8_codes_1 : decode cX8_codes 1 = .ok (.getfield 51, 3) := by decide +kernel
theorem dX8_codes_4 : decode cX8_codes 4 = .ok (.aload_n 0, 1) := by decide +kernel
theorem dX8_codes_5 : decode cX8_codes 5 = .ok (.dup, 1) := by decide +kernel
theorem dX8_codes_6 : decode cX8_codes 6 = .ok (.getfield 178, 3) := by decide +kernel
theorem dX8_codes_9 : decode cX8_codes 9 = .ok (.dup_x1, 1) := by decide +kernel
theorem dX8_codes_10 : decode cX8_codes 10 = .ok (.iconst 1, 1) := by decide +kernel
theorem dX8_codes_11 : decode cX8_codes 11 = .ok (.iadd, 1) := by decide +kernel
theorem dX8_codes_12 : decode cX8_codes 12 = .ok (.putfield 178, 3) := by decide +kernel
theorem dX8_codes_15 : decode cX8_codes 15 = .ok (.iload_n 1, 1) := by decide +kernel
theorem dX8_codes_16 : decode cX8_codes 16 = .ok (.iastore, 1) := by decide +kernel
theorem dX8_codes_17 : decode cX8_codes 17 = .ok (.iconst 1, 1) := by decide +kernel
theorem dX8_codes_18 : decode cX8_codes 18 = .ok (.ireturn, 1) := by decide +kernel
theorem dX8_isTest_0 : decode cX8_isTest 0 = .ok (.aload_n 0, 1) := by decide +kernel
theorem dX8_isTest_1 : decode cX8_isTest 1 = .ok (.getfield 153, 3) := by decide +kernel
theorem dX8_isTest_4 : decode cX8_isTest 4 = .ok (.aload_n 0, 1) := by decide +kernel
theorem dX8_isTest_5 : decode cX8_isTest 5 = .ok (.getfield 150, 3) := by decide +kernel
theorem dX8_isTest_8 : decode cX8_isTest 8 = .ok (.if_icmp .ge 32, 3) := by decide +kernel
theorem dX8_isTest_11 : decode cX8_isTest 11 = .ok (.aload_n 0, 1) := by decide +kernel
theorem dX8_isTest_12 : decode cX8_isTest 12 = .ok (.getfield 33, 3) := by decide +kernel
theorem dX8_isTest_15 : decode cX8_isTest 15 = .ok (.aload_n 0, 1) := by decide +kernel
theorem dX8_isTest_16 : decode cX8_isTest 16 = .ok (.getfield 153, 3) := by decide +kernel
theorem dX8_isTest_19 : decode cX8_isTest 19 = .ok (.iaload, 1) := by decide +kernel
theorem dX8_isTest_20 : decode cX8_isTest 20 = .ok (.ifCond .le 20, 3) := by decide +kernel
theorem dX8_isTest_23 : decode cX8_isTest 23 = .ok (.ldc 181, 2) := by decide +kernel
theorem dX8_isTest_25 : decode cX8_isTest 25 = .ok (.aload_n 0, 1) := by decide +kernel
theorem dX8_isTest_26 : decode cX8_isTest 26 = .ok (.getfield 33, 3) := by decide +kernel
theorem dX8_isTest_29 : decode cX8_isTest 29 = .ok (.aload_n 0, 1) := by decide +kernel
theorem dX8_isTest_30 : decode cX8_isTest 30 = .ok (.getfield 153, 3) := by decide +kernel
theorem dX8_isTest_33 : decode cX8_isTest 33 = .ok (.iaload, 1) := by decide +kernel
theorem dX8_isTest_34 : decode cX8_isTest 34 = .ok (.invokevirtual 183, 3) := by decide +kernel
theorem dX8_isTest_37 : decode cX8_isTest 37 = .ok (.goto 4, 3) := by decide +kernel
theorem dX8_isTest_40 : decode cX8_isTest 40 = .ok (.iconst (-1), 1) := by decide +kernel
theorem dX8_isTest_41 : decode cX8_isTest 41 = .ok (.istore_n 1, 1) := by decide +kernel
theorem dX8_isTest_42 : decode cX8_isTest 42 = .ok (.iload_n 1, 1) := by decide +kernel
theorem dX8_isTest_43 : decode cX8_isTest 43 = .ok (.ifCond .ge 5, 3) := by decide +kernel
theorem dX8_isTest_46 : decode cX8_isTest 46 = .ok (.iconst 0, 1) := by decide +kernel
theorem dX8_isTest_47 : decode cX8_isTest 47 = .ok (.ireturn, 1) := by decide +kernel
theorem dX8_isTest_48 : decode cX8_isTest 48 = .ok (.aload_n 0, 1) := by decide +kernel
theorem dX8_isTest_49 : decode cX8_isTest 49 = .ok (.dup, 1) := by decide +kernel
theorem dX8_isTest_50 : decode cX8_isTest 50 = .ok (.getfield 153, 3) := by decide +kernel
theorem dX8_isTest_53 : decode cX8_isTest 53 = .ok (.iconst 1, 1) := by decide +kernel
theorem dX8_isTest_54 : decode cX8_isTest 54 = .ok (.iadd, 1) := by decide +kernel
theorem dX8_isTest_55 : decode cX8_isTest 55 = .ok (.putfield 153, 3) := by decide +kernel
theorem dX8_isTest_58 : decode cX8_isTest 58 = .ok (.aload_n 0, 1) := by decide +kernel
theorem dX8_isTest_59 : decode cX8_isTest 59 = .ok (.getfield 153, 3) := by decide +kernel
theorem dX8_isTest_62 : decode cX8_isTest 62 = .ok (.aload_n 0, 1) := by decide +kernel
theorem dX8_isTest_63 : decode cX8_isTest 63 = .ok (.getfield 150, 3) := by decide +kernel
theorem dX8_isTest_66 : decode cX8_isTest 66 = .ok (.if_icmp .ge 32, 3) := by decide +kernel
theorem dX8_isTest_69 : decode cX8_isTest 69 = .ok (.aload_n 0, 1) := by decide +kernel
theorem dX8_isTest_70 : decode cX8_isTest 70 = .ok (.getfield 33, 3) := by decide +kernel
theorem dX8_isTest_73 : decode cX8_isTest 73 = .ok (.aload_n 0, 1) := by decide +kernel
theorem dX8_isTest_74 : decode cX8_isTest 74 = .ok (.getfield 153, 3) := by decide +kernel
theorem dX8_isTest_77 : decode cX8_isTest 77 = .ok (.iaload, 1) := by decide +kernel
theorem dX8_isTest_78 : decode cX8_isTest 78 = .ok (.ifCond .le 20, 3) := by decide +kernel
theorem dX8_isTest_81 : decode cX8_isTest 81 = .ok (.ldc 186, 2) := by decide +kernel
theorem dX8_isTest_83 : decode cX8_isTest 83 = .ok (.aload_n 0, 1) := by decide +kernel
theorem dX8_isTest_84 : decode cX8_isTest 84 = .ok (.getfield 33, 3) := by decide +kernel
theorem dX8_isTest_87 : decode cX8_isTest 87 = .ok (.aload_n 0, 1) := by decide +kernel
theorem dX8_isTest_88 : decode cX8_isTest 88 = .ok (.getfield 153, 3) := by decide +kernel
theorem dX8_isTest_91 : decode cX8_isTest 91 = .ok (.iaload, 1) := by decide +kernel
theorem dX8_isTest_92 : decode cX8_isTest 92 = .ok (.invokevirtual 183, 3) := by decide +kernel
theorem dX8_isTest_95 : decode cX8_isTest 95 = .ok (.goto 4, 3) := by decide +kernel
theorem dX8_isTest_98 : decode cX8_isTest 98 = .ok (.iconst (-1), 1) := by decide +kernel
theorem dX8_isTest_99 : decode cX8_isTest 99 = .ok (.istore_n 2, 1) := by decide +kernel
theorem dX8_isTest_100 : decode cX8_isTest 100 = .ok (.iload_n 2, 1) := by decide +kernel
theorem dX8_isTest_101 : decode cX8_isTest 101 = .ok (.ifCond .ge 5, 3) := by decide +kernel
theorem dX8_isTest_104 : decode cX8_isTest 104 = .ok (.iconst 0, 1) := by decide +kernel
theorem dX8_isTest_105 : decode cX8_isTest 105 = .ok (.ireturn, 1) := by decide +kernel
theorem dX8_isTest_106 : decode cX8_isTest 106 = .ok (.aload_n 0, 1) := by decide +kernel
theorem dX8_isTest_107 : decode cX8_isTest 107 = .ok (.dup, 1) := by decide +kernel
theorem dX8_isTest_108 : decode cX8_isTest 108 = .ok (.getfield 153, 3) := by decide +kernel
theorem dX8_isTest_111 : decode cX8_isTest 111 = .ok (.iconst 1, 1) := by decide +kernel
theorem dX8_isTest_112 : decode cX8_isTest 112 = .ok (.iadd, 1) := by decide +kernel
theorem dX8_isTest_113 : decode cX8_isTest 113 = .ok (.putfield 153, 3) := by decide +kernel
theorem dX8_isTest_116 : decode cX8_isTest 116 = .ok (.aload_n 0, 1) := by decide +kernel
theorem dX8_isTest_117 : decode cX8_isTest 117 = .ok (.invokevirtual 188, 3) := by decide +kernel
theorem dX8_isTest_120 : decode cX8_isTest 120 = .ok (.ifCond .eq 31, 3) := by decide +kernel
theorem dX8_isTest_123 : decode cX8_isTest 123 = .ok (.aload_n 0, 1) := by decide +kernel
theorem dX8_isTest_124 : decode cX8_isTest 124 = .ok (.iconst 3, 1) := by decide +kernel
theorem dX8_isTest_125 : decode cX8_isTest 125 = .ok (.sipush 300, 3) := by decide +kernel
theorem dX8_isTest_128 : decode cX8_isTest 128 = .ok (.iload_n 1, 1) := by decide +kernel
theorem dX8_isTest_129 : decode cX8_isTest 129 = .ok (.imul, 1) := by decide +kernel
theorem dX8_isTest_130 : decode cX8_isTest 130 = .ok (.iadd, 1) := by decide +kernel
theorem dX8_isTest_131 : decode cX8_isTest 131 = .ok (.bipush 100, 2) := by decide +kernel
theorem dX8_isTest_133 : decode cX8_isTest 133 = .ok (.iload_n 2, 1) := by decide +kernel
theorem dX8_isTest_134 : decode cX8_isTest 134 = .ok (.imul, 1) := by decide +kernel
theorem dX8_isTest_135 : decode cX8_isTest 135 = .ok (.iadd, 1) := by decide +kernel
theorem dX8_isTest_136 : decode cX8_isTest 136 = .ok (.aload_n 0, 1) := by decide +kernel
theorem dX8_isTest_137 : decode cX8_isTest 137 = .ok (.getfield 156, 3) := by decide +kernel
theorem dX8_isTest_140 : decode cX8_isTest 140 = .ok (.iadd, 1) := by decide +kernel
theorem dX8_isTest_141 : decode cX8_isTest 141 = .ok (.invokevirtual 191, 3) := by decide +kernel
theorem dX8_isTest_144 : decode cX8_isTest 144 = .ok (.ifCond .eq 7, 3) := by decide +kernel
theorem dX8_isTest_147 : decode cX8_isTest 147 = .ok (.iconst 1, 1) := by decide +kernel
theorem dX8_isTest_148 : decode cX8_isTest 148 = .ok (.goto 4, 3) := by decide +kernel
theorem dX8_isTest_151 : decode cX8_isTest 151 = .ok (.iconst 0, 1) := by decide +kernel
theorem dX8_isTest_152 : decode cX8_isTest 152 = .ok (.ireturn, 1) := by decide +kernel
theorem dX8_isOpened_0 : decode cX8_isOpened 0 = .ok (.aload_n 0, 1) := by decide +kernel
theorem dX8_isOpened_1 : decode cX8_isOpened 1 = .ok (.getfield 194, 3) := by decide +kernel
theorem dX8_isOpened_4 : decode cX8_isOpened 4 = .ok (.iconst 4, 1) := by decide +kernel
theorem dX8_isOpened_5 : decode cX8_isOpened 5 = .ok (.if_icmp .eq 11, 3) := by decide +kernel
theorem dX8_isOpened_8 : decode cX8_isOpened 8 = .ok (.aload_n 0, 1) := by decide +kernel
theorem dX8_isOpened_9 : decode cX8_isOpened 9 = .ok (.iload_n 1, 1) := by decide +kernel
theorem dX8_isOpened_10 : decode cX8_isOpened 10 = .ok (.invokevirtual 175, 3) := by decide +kernel
theorem dX8_isOpened_13 : decode cX8_isOpened 13 = .ok (.ifCond .ne 5, 3) := by decide +kernel
theorem dX8_isOpened_16 : decode cX8_isOpened 16 = .ok (.iconst 0, 1) := by decide +kernel
theorem dX8_isOpened_17 : decode cX8_isOpened 17 = .ok (.ireturn, 1) := by decide +kernel
theorem dX8_isOpened_18 : decode cX8_isOpened 18 = .ok (.aload_n 0, 1) := by decide +kernel
theorem dX8_isOpened_19 : decode cX8_isOpened 19 = .ok (.dup, 1) := by decide +kernel
theorem dX8_isOpened_20 : decode cX8_isOpened 20 = .ok (.getfield 194, 3) := by decide +kernel
theorem dX8_isOpened_23 : decode cX8_isOpened 23 = .ok (.iconst 1, 1) := by decide +kernel
theorem dX8_isOpened_24 : decode cX8_isOpened 24 = .ok (.iadd, 1) := by decide +kernel
theorem dX8_isOpened_25 : decode cX8_isOpened 25 = .ok (.putfield 194, 3) := by decide +kernel
theorem dX8_isOpened_28 : decode cX8_isOpened 28 = .ok (.iconst 1, 1) := by decide +kernel
theorem dX8_isOpened_29 : decode cX8_isOpened 29 = .ok (.ireturn, 1) := by decide +kernel
theorem dX8_isF_0 : decode cX8_isF 0 = .ok (.aload_n 0, 1) := by decide +kernel
theorem dX8_isF_1 : decode cX8_isF 1 = .ok (.bipush 33, 2) := by decide +kernel
theorem dX8_isF_3 : decode cX8_isF 3 = .ok (.invokevirtual 197, 3) := by decide +kernel
theorem dX8_isF_6 : decode cX8_isF 6 = .ok (.ifCond .eq 27, 3) := by decide +kernel
theorem dX8_isF_9 : decode cX8_isF 9 = .ok (.aload_n 0, 1) := by decide +kernel
theorem dX8_isF_10 : decode cX8_isF 10 = .ok (.invokevirtual 200, 3) := by decide +kernel
theorem dX8_isF_13 : decode cX8_isF 13 = .ok (.ifCond .eq 15, 3) := by decide +kernel
theorem dX8_isF_16 : decode cX8_isF 16 = .ok (.aload_n 0, 1) := by decide +kernel
theorem dX8_isF_17 : decode cX8_isF 17 = .ok (.iconst 0, 1) := by decide +kernel
theorem dX8_isF_18 : decode cX8_isF 18 = .ok (.invokevirtual 191, 3) := by decide +kernel
theorem dX8_isF_21 : decode cX8_isF 21 = .ok (.ifCond .eq 7, 3) := by decide +kernel
theorem dX8_isF_24 : decode cX8_isF 24 = .ok (.iconst 1, 1) := by decide +kernel
theorem dX8_isF_25 : decode cX8_isF 25 = .ok (.goto 4, 3) := by decide +kernel
theorem dX8_isF_28 : decode cX8_isF 28 = .ok (.iconst 0, 1) := by decide +kernel
theorem dX8_isF_29 : decode cX8_isF 29 = .ok (.istore_n 1, 1) := by decide +kernel
theorem dX8_isF_30 : decode cX8_isF 30 = .ok (.goto 42, 3) := by decide +kernel
theorem dX8_isF_33 : decode cX8_isF 33 = .ok (.aload_n 0, 1) := by decide +kernel
theorem dX8_isF_34 : decode cX8_isF 34 = .ok (.bipush 40, 2) := by decide +kernel
theorem dX8_isF_36 : decode cX8_isF 36 = .ok (.invokevirtual 197, 3) := by decide +kernel
theorem dX8_isF_39 : decode cX8_isF 39 = .ok (.ifCond .eq 28, 3) := by decide +kernel
theorem dX8_isF_42 : decode cX8_isF 42 = .ok (.aload_n 0, 1) := by decide +kernel
theorem dX8_isF_43 : decode cX8_isF 43 = .ok (.invokevirtual 203, 3) := by decide +kernel
theorem dX8_isF_46 : decode cX8_isF 46 = .ok (.ifCond .eq 16, 3) := by decide +kernel
theorem dX8_isF_49 : decode cX8_isF 49 = .ok (.aload_n 0, 1) := by decide +kernel
theorem dX8_isF_50 : decode cX8_isF 50 = .ok (.bipush 41, 2) := by decide +kernel
theorem dX8_isF_52 : decode cX8_isF 52 = .ok (.invokevirtual 175, 3) := by decide +kernel
theorem dX8_isF_55 : decode cX8_isF 55 = .ok (.ifCond .eq 7, 3) := by decide +kernel
theorem dX8_isF_58 : decode cX8_isF 58 = .ok (.iconst 1, 1) := by decide +kernel
theorem dX8_isF_59 : decode cX8_isF 59 = .ok (.goto 4, 3) := by decide +kernel
theorem dX8_isF_62 : decode cX8_isF 62 = .ok (.iconst 0, 1) := by decide +kernel
theorem dX8_isF_63 : decode cX8_isF 63 = .ok (.istore_n 1, 1) := by decide +kernel
theorem dX8_isF_64 : decode cX8_isF 64 = .ok (.goto 8, 3) := by decide +kernel
theorem dX8_isF_67 : decode cX8_isF 67 = .ok (.aload_n 0, 1) := by decide +kernel
theorem dX8_isF_68 : decode cX8_isF 68 = .ok (.invokevirtual 206, 3) := by decide +kernel
theorem dX8_isF_71 : decode cX8_isF 71 = .ok (.ireturn, 1) := by decide +kernel
theorem dX8_isF_72 : decode cX8_isF 72 = .ok (.aload_n 0, 1) := by decide +kernel
theorem dX8_isF_73 : decode cX8_isF 73 = .ok (.dup, 1) := by decide +kernel
theorem dX8_isF_74 : decode cX8_isF 74 = .ok (.getfield 194, 3) := by decide +kernel
theorem dX8_isF_77 : decode cX8_isF 77 = .ok (.iconst 1, 1) := by decide +kernel
theorem dX8_isF_78 : decode cX8_isF 78 = .ok (.isub, 1) := by decide +kernel
theorem dX8_isF_79 : decode cX8_isF 79 = .ok (.putfield 194, 3) := by decide +kernel
theorem dX8_isF_82 : decode cX8_isF 82 = .ok (.iload_n 1, 1) := by decide +kernel
theorem dX8_isF_83 : decode cX8_isF 83 = .ok (.ireturn, 1) := by decide +kernel
theorem dX8_isT_0 : decode cX8_isT 0 = .ok (.aload_n 0, 1) := by decide +kernel
theorem dX8_isT_1 : decode cX8_isT 1 = .ok (.invokevirtual 200, 3) := by decide +kernel
theorem dX8_isT_4 : decode cX8_isT 4 = .ok (.ifCond .ne 5, 3) := by decide +kernel
theorem dX8_isT_7 : decode cX8_isT 7 = .ok (.iconst 0, 1) := by decide +kernel
theorem dX8_isT_8 : decode cX8_isT 8 = .ok (.ireturn, 1) := by decide +kernel
theorem dX8_isT_9 : decode cX8_isT 9 = .ok (.aload_n 0, 1) := by decide +kernel
theorem dX8_isT_10 : decode cX8_isT 10 = .ok (.bipush 38, 2) := by decide +kernel
theorem dX8_isT_12 : decode cX8_isT 12 = .ok (.invokevirtual 175, 3) := by decide +kernel
theorem dX8_isT_15 : decode cX8_isT 15 = .ok (.ifCond .eq 18, 3) := by decide +kernel
theorem dX8_isT_18 : decode cX8_isT 18 = .ok (.aload_n 0, 1) := by decide +kernel
theorem dX8_isT_19 : decode cX8_isT 19 = .ok (.invokevirtual 209, 3) := by decide +kernel
theorem dX8_isT_22 : decode cX8_isT 22 = .ok (.ifCond .eq 15, 3) := by decide +kernel
theorem dX8_isT_25 : decode cX8_isT 25 = .ok (.aload_n 0, 1) := by decide +kernel
theorem dX8_isT_26 : decode cX8_isT 26 = .ok (.iconst 1, 1) := by decide +kernel
theorem dX8_isT_27 : decode cX8_isT 27 = .ok (.invokevirtual 191, 3) := by decide +kernel
theorem dX8_isT_30 : decode cX8_isT 30 = .ok (.ifCond .eq 7, 3) := by decide +kernel
theorem dX8_isT_33 : decode cX8_isT 33 = .ok (.iconst 1, 1) := by decide +kernel
theorem dX8_isT_34 : decode cX8_isT 34 = .ok (.goto 4, 3) := by decide +kernel
theorem dX8_isT_37 : decode cX8_isT 37 = .ok (.iconst 0, 1) := by decide +kernel
theorem dX8_isT_38 : decode cX8_isT 38 = .ok (.ireturn, 1) := by decide +kernel
theorem dX8_isE_0 : decode cX8_isE 0 = .ok (.aload_n 0, 1) := by decide +kernel
theorem dX8_isE_1 : decode cX8_isE 1 = .ok (.invokevirtual 209, 3) := by decide +kernel
theorem dX8_isE_4 : decode cX8_isE 4 = .ok (.ifCond .ne 5, 3) := by decide +kernel
theorem dX8_isE_7 : decode cX8_isE 7 = .ok (.iconst 0, 1) := by decide +kernel
theorem dX8_isE_8 : decode cX8_isE 8 = .ok (.ireturn, 1) := by decide +kernel
theorem dX8_isE_9 : decode cX8_isE 9 = .ok (.aload_n 0, 1) := by decide +kernel
theorem dX8_isE_10 : decode cX8_isE 10 = .ok (.bipush 124, 2) := by decide +kernel
theorem dX8_isE_12 : decode cX8_isE 12 = .ok (.invokevirtual 175, 3) := by decide +kernel
theorem dX8_isE_15 : decode cX8_isE 15 = .ok (.ifCond .eq 18, 3) := by decide +kernel
theorem dX8_isE_18 : decode cX8_isE 18 = .ok (.aload_n 0, 1) := by decide +kernel
theorem dX8_isE_19 : decode cX8_isE 19 = .ok (.invokevirtual 203, 3) := by decide +kernel
theorem dX8_isE_22 : decode cX8_isE 22 = .ok (.ifCond .eq 15, 3) := by decide +kernel
theorem dX8_isE_25 : decode cX8_isE 25 = .ok (.aload_n 0, 1) := by decide +kernel
theorem dX8_isE_26 : decode cX8_isE 26 = .ok (.iconst 2, 1) := by decide +kernel
theorem dX8_isE_27 : decode cX8_isE 27 = .ok (.invokevirtual 191, 3) := by decide +kernel
theorem dX8_isE_30 : decode cX8_isE 30 = .ok (.ifCond .eq 7, 3) := by decide +kernel
theorem dX8_isE_33 : decode cX8_isE 33 = .ok (.iconst 1, 1) := by decide +kernel
theorem dX8_isE_34 : decode cX8_isE 34 = .ok (.goto 4, 3) := by decide +kernel
theorem dX8_isE_37 : decode cX8_isE 37 = .ok (.iconst 0, 1) := by decide +kernel
theorem dX8_isE_38 : decode cX8_isE 38 = .ok (.ireturn, 1) := by decide +kernel
theorem dX8_isClause_0 : decode cX8_isClause 0 = .ok (.iconst (-1), 1) := by decide +kernel
theorem dX8_isClause_1 : decode cX8_isClause 1 = .ok (.istore_n 2, 1) := by decide +kernel
theorem dX8_isClause_2 : decode cX8_isClause 2 = .ok (.aload_n 0, 1) := by decide +kernel
theorem dX8_isClause_3 : decode cX8_isClause 3 = .ok (.getfield 153, 3) := by decide +kernel
theorem dX8_isClause_6 : decode cX8_isClause 6 = .ok (.aload_n 0, 1) := by decide +kernel
theorem dX8_isClause_7 : decode cX8_isClause 7 = .ok (.getfield 150, 3) := by decide +kernel
theorem dX8_isClause_10 : decode cX8_isClause 10 = .ok (.if_icmp .ge 59, 3) := by decide +kernel
theorem dX8_isClause_13 : decode cX8_isClause 13 = .ok (.aload_n 0, 1) := by decide +kernel
theorem dX8_isClause_14 : decode cX8_isClause 14 = .ok (.getfield 33, 3) := by decide +kernel
theorem dX8_isClause_17 : decode cX8_isClause 17 = .ok (.aload_n 0, 1) := by decide +kernel
theorem dX8_isClause_18 : decode cX8_isClause 18 = .ok (.getfield 153, 3) := by decide +kernel
theorem dX8_isClause_21 : decode cX8_isClause 21 = .ok (.iaload, 1) := by decide +kernel
theorem dX8_isClause_22 : decode cX8_isClause 22 = .ok (.bipush 115, 2) := by decide +kernel
theorem dX8_isClause_24 : decode cX8_isClause 24 = .ok (.if_icmp .ne 7, 3) := by decide +kernel
theorem dX8_isClause_27 : decode cX8_isClause 27 = .ok (.iconst 0, 1) := by decide +kernel
theorem dX8_isClause_28 : decode cX8_isClause 28 = .ok (.goto 40, 3) := by decide +kernel
theorem dX8_isClause_31 : decode cX8_isClause 31 = .ok (.aload_n 0, 1) := by decide +kernel
theorem dX8_isClause_32 : decode cX8_isClause 32 = .ok (.getfield 33, 3) := by decide +kernel
theorem dX8_isClause_35 : decode cX8_isClause 35 = .ok (.aload_n 0, 1) := by decide +kernel
theorem dX8_isClause_36 : decode cX8_isClause 36 = .ok (.getfield 153, 3) := by decide +kernel
theorem dX8_isClause_39 : decode cX8_isClause 39 = .ok (.iaload, 1) := by decide +kernel
theorem dX8_isClause_40 : decode cX8_isClause 40 = .ok (.bipush 98, 2) := by decide +kernel
theorem dX8_isClause_42 : decode cX8_isClause 42 = .ok (.if_icmp .ne 7, 3) := by decide +kernel
theorem dX8_isClause_45 : decode cX8_isClause 45 = .ok (.iconst 1, 1) := by decide +kernel
theorem dX8_isClause_46 : decode cX8_isClause 46 = .ok (.goto 22, 3) := by decide +kernel
theorem dX8_isClause_49 : decode cX8_isClause 49 = .ok (.aload_n 0, 1) := by decide +kernel
theorem dX8_isClause_50 : decode cX8_isClause 50 = .ok (.getfield 33, 3) := by decide +kernel
theorem dX8_isClause_53 : decode cX8_isClause 53 = .ok (.aload_n 0, 1) := by decide +kernel
theorem dX8_isClause_54 : decode cX8_isClause 54 = .ok (.getfield 153, 3) := by decide +kernel
theorem dX8_isClause_57 : decode cX8_isClause 57 = .ok (.iaload, 1) := by decide +kernel
theorem dX8_isClause_58 : decode cX8_isClause 58 = .ok (.bipush 110, 2) := by decide +kernel
theorem dX8_isClause_60 : decode cX8_isClause 60 = .ok (.if_icmp .ne 7, 3) := by decide +kernel
theorem dX8_isClause_63 : decode cX8_isClause 63 = .ok (.iconst 2, 1) := by decide +kernel
theorem dX8_isClause_64 : decode cX8_isClause 64 = .ok (.goto 4, 3) := by decide +kernel
theorem dX8_isClause_67 : decode cX8_isClause 67 = .ok (.iconst (-1), 1) := by decide +kernel
theorem dX8_isClause_68 : decode cX8_isClause 68 = .ok (.istore_n 2, 1) := by decide +kernel
theorem dX8_isClause_69 : decode cX8_isClause 69 = .ok (.iload_n 2, 1) := by decide +kernel
theorem dX8_isClause_70 : decode cX8_isClause 70 = .ok (.ifCond .ne 12, 3) := by decide +kernel
theorem dX8_isClause_73 : decode cX8_isClause 73 = .ok (.aload_n 0, 1) := by decide +kernel
theorem dX8_isClause_74 : decode cX8_isClause 74 = .ok (.ldc 212, 2) := by decide +kernel
theorem dX8_isClause_76 : decode cX8_isClause 76 = .ok (.invokevirtual 214, 3) := by decide +kernel
theorem dX8_isClause_79 : decode cX8_isClause 79 = .ok (.goto 36, 3) := by decide +kernel
theorem dX8_isClause_82 : decode cX8_isClause 82 = .ok (.iload_n 2, 1) := by decide +kernel
theorem dX8_isClause_83 : decode cX8_isClause 83 = .ok (.iconst 1, 1) := by decide +kernel
theorem dX8_isClause_84 : decode cX8_isClause 84 = .ok (.if_icmp .ne 12, 3) := by decide +kernel
theorem dX8_isClause_87 : decode cX8_isClause 87 = .ok (.aload_n 0, 1) := by decide +kernel
theorem dX8_isClause_88 : decode cX8_isClause 88 = .ok (.ldc 218, 2) := by decide +kernel
theorem dX8_isClause_90 : decode cX8_isClause 90 = .ok (.invokevirtual 214, 3) := by decide +kernel
theorem dX8_isClause_93 : decode cX8_isClause 93 = .ok (.goto 22, 3) := by decide +kernel
theorem dX8_isClause_96 : decode cX8_isClause 96 = .ok (.iload_n 2, 1) := by decide +kernel
theorem dX8_isClause_97 : decode cX8_isClause 97 = .ok (.iconst 2, 1) := by decide +kernel
theorem dX8_isClause_98 : decode cX8_isClause 98 = .ok (.if_icmp .ne 16, 3) := by decide +kernel
theorem dX8_isClause_101 : decode cX8_isClause 101 = .ok (.aload_n 0, 1) := by decide +kernel
theorem dX8_isClause_102 : decode cX8_isClause 102 = .ok (.ldc 220, 2) := by decide +kernel
theorem dX8_isClause_104 : decode cX8_isClause 104 = .ok (.invokevirtual 214, 3) := by decide +kernel
theorem dX8_isClause_107 : decode cX8_isClause 107 = .ok (.ifCond .eq 7, 3) := by decide +kernel
theorem dX8_isClause_110 : decode cX8_isClause 110 = .ok (.iconst 1, 1) := by decide +kernel
theorem dX8_isClause_111 : decode cX8_isClause 111 = .ok (.goto 4, 3) := by decide +kernel
theorem dX8_isClause_114 : decode cX8_isClause 114 = .ok (.iconst 0, 1) := by decide +kernel
theorem dX8_isClause_115 : decode cX8_isClause 115 = .ok (.istore_n 3, 1) := by decide +kernel
theorem dX8_isClause_116 : decode cX8_isClause 116 = .ok (.iload_n 3, 1) := by decide +kernel
theorem dX8_isClause_117 : decode cX8_isClause 117 = .ok (.ifCond .eq 10, 3) := by decide +kernel
theorem dX8_isClause_120 : decode cX8_isClause 120 = .ok (.aload_n 0, 1) := by decide +kernel
theorem dX8_isClause_121 : decode cX8_isClause 121 = .ok (.invokevirtual 188, 3) := by decide +kernel
theorem dX8_isClause_124 : decode cX8_isClause 124 = .ok (.ifCond .ne 5, 3) := by decide +kernel
theorem dX8_isClause_127 : decode cX8_isClause 127 = .ok (.iconst 0, 1) := by decide +kernel
theorem dX8_isClause_128 : decode cX8_isClause 128 = .ok (.ireturn, 1) := by decide +kernel
theorem dX8_isClause_129 : decode cX8_isClause 129 = .ok (.aload_n 0, 1) := by decide +kernel
theorem dX8_isClause_130 : decode cX8_isClause 130 = .ok (.getfield 39, 3) := by decide +kernel
theorem dX8_isClause_133 : decode cX8_isClause 133 = .ok (.iload_n 1, 1) := by decide +kernel
theorem dX8_isClause_134 : decode cX8_isClause 134 = .ok (.iload_n 2, 1) := by decide +kernel
theorem dX8_isClause_135 : decode cX8_isClause 135 = .ok (.iastore, 1) := by decide +kernel
theorem dX8_isClause_136 : decode cX8_isClause 136 = .ok (.aload_n 0, 1) := by decide +kernel
theorem dX8_isClause_137 : decode cX8_isClause 137 = .ok (.getfield 42, 3) := by decide +kernel
theorem dX8_isClause_140 : decode cX8_isClause 140 = .ok (.iload_n 1, 1) := by decide +kernel
theorem dX8_isClause_141 : decode cX8_isClause 141 = .ok (.aload_n 0, 1) := by decide +kernel
theorem dX8_isClause_142 : decode cX8_isClause 142 = .ok (.getfield 156, 3) := by decide +kernel
theorem dX8_isClause_145 : decode cX8_isClause 145 = .ok (.iastore, 1) := by decide +kernel
theorem dX8_isClause_146 : decode cX8_isClause 146 = .ok (.aload_n 0, 1) := by decide +kernel
theorem dX8_isClause_147 : decode cX8_isClause 147 = .ok (.getfield 45, 3) := by decide +kernel
theorem dX8_isClause_150 : decode cX8_isClause 150 = .ok (.iload_n 1, 1) := by decide +kernel
theorem dX8_isClause_151 : decode cX8_isClause 151 = .ok (.aload_n 0, 1) := by decide +kernel
theorem dX8_isClause_152 : decode cX8_isClause 152 = .ok (.getfield 178, 3) := by decide +kernel
theorem dX8_isClause_155 : decode cX8_isClause 155 = .ok (.iastore, 1) := by decide +kernel
theorem dX8_isClause_156 : decode cX8_isClause 156 = .ok (.aload_n 0, 1) := by decide +kernel
theorem dX8_isClause_157 : decode cX8_isClause 157 = .ok (.iconst 0, 1) := by decide +kernel
theorem dX8_isClause_158 : decode cX8_isClause 158 = .ok (.putfield 194, 3) := by decide +kernel
theorem dX8_isClause_161 : decode cX8_isClause 161 = .ok (.iload_n 2, 1) := by decide +kernel
theorem dX8_isClause_162 : decode cX8_isClause 162 = .ok (.iconst 2, 1) := by decide +kernel
theorem dX8_isClause_163 : decode cX8_isClause 163 = .ok (.if_icmp .ge 21, 3) := by decide +kernel
theorem dX8_isClause_166 : decode cX8_isClause 166 = .ok (.aload_n 0, 1) := by decide +kernel
theorem dX8_isClause_167 : decode cX8_isClause 167 = .ok (.bipush 32, 2) := by decide +kernel
theorem dX8_isClause_169 : decode cX8_isClause 169 = .ok (.invokevirtual 175, 3) := by decide +kernel
theorem dX8_isClause_172 : decode cX8_isClause 172 = .ok (.ifCond .eq 10, 3) := by decide +kernel
theorem dX8_isClause_175 : decode cX8_isClause 175 = .ok (.aload_n 0, 1) := by decide +kernel
theorem dX8_isClause_176 : decode cX8_isClause 176 = .ok (.invokevirtual 203, 3) := by decide +kernel
theorem dX8_isClause_179 : decode cX8_isClause 179 = .ok (.ifCond .ne 5, 3) := by decide +kernel
theorem dX8_isClause_182 : decode cX8_isClause 182 = .ok (.iconst 0, 1) := by decide +kernel
theorem dX8_isClause_183 : decode cX8_isClause 183 = .ok (.ireturn, 1) := by decide +kernel
theorem dX8_isClause_184 : decode cX8_isClause 184 = .ok (.aload_n 0, 1) := by decide +kernel
theorem dX8_isClause_185 : decode cX8_isClause 185 = .ok (.getfield 48, 3) := by decide +kernel
theorem dX8_isClause_188 : decode cX8_isClause 188 = .ok (.iload_n 1, 1) := by decide +kernel
theorem dX8_isClause_189 : decode cX8_isClause 189 = .ok (.aload_n 0, 1) := by decide +kernel
theorem dX8_isClause_190 : decode cX8_isClause 190 = .ok (.getfield 178, 3) := by decide +kernel
theorem dX8_isClause_193 : decode cX8_isClause 193 = .ok (.aload_n 0, 1) := by decide +kernel
theorem dX8_isClause_194 : decode cX8_isClause 194 = .ok (.getfield 45, 3) := by decide +kernel
theorem dX8_isClause_197 : decode cX8_isClause 197 = .ok (.iload_n 1, 1) := by decide +kernel
theorem dX8_isClause_198 : decode cX8_isClause 198 = .ok (.iaload, 1) := by decide +kernel
theorem dX8_isClause_199 : decode cX8_isClause 199 = .ok (.isub, 1) := by decide +kernel
theorem dX8_isClause_200 : decode cX8_isClause 200 = .ok (.iastore, 1) := by decide +kernel
theorem dX8_isClause_201 : decode cX8_isClause 201 = .ok (.iconst 1, 1) := by decide +kernel
theorem dX8_isClause_202 : decode cX8_isClause 202 = .ok (.ireturn, 1) := by decide +kernel
theorem dX8_parish_0 : decode cX8_parish 0 = .ok (.aload_n 0, 1) := by decide +kernel
theorem dX8_parish_1 : decode cX8_parish 1 = .ok (.getfield 222, 3) := by decide +kernel
theorem dX8_parish_4 : decode cX8_parish 4 = .ok (.bipush 6, 2) := by decide +kernel
theorem dX8_parish_6 : decode cX8_parish 6 = .ok (.if_icmp .ne 6, 3) := by decide +kernel
theorem dX8_parish_9 : decode cX8_parish 9 = .ok (.bipush (-4), 2) := by decide +kernel
theorem dX8_parish_11 : decode cX8_parish 11 = .ok (.ireturn, 1) := by decide +kernel
theorem dX8_parish_12 : decode cX8_parish 12 = .ok (.aload_n 0, 1) := by decide +kernel
theorem dX8_parish_13 : decode cX8_parish 13 = .ok (.getfield 178, 3) := by decide +kernel
theorem dX8_parish_16 : decode cX8_parish 16 = .ok (.istore_n 1, 1) := by decide +kernel
theorem dX8_parish_17 : decode cX8_parish 17 = .ok (.aload_n 0, 1) := by decide +kernel
theorem dX8_parish_18 : decode cX8_parish 18 = .ok (.iconst 0, 1) := by decide +kernel
theorem dX8_parish_19 : decode cX8_parish 19 = .ok (.putfield 153, 3) := by decide +kernel
theorem dX8_parish_22 : decode cX8_parish 22 = .ok (.iconst 0, 1) := by decide +kernel
theorem dX8_parish_23 : decode cX8_parish 23 = .ok (.istore_n 2, 1) := by decide +kernel
theorem dX8_parish_24 : decode cX8_parish 24 = .ok (.iconst 1, 1) := by decide +kernel
theorem dX8_parish_25 : decode cX8_parish 25 = .ok (.istore_n 3, 1) := by decide +kernel
theorem dX8_parish_26 : decode cX8_parish 26 = .ok (.iconst 0, 1) := by decide +kernel
theorem dX8_parish_27 : decode cX8_parish 27 = .ok (.istore 4, 2) := by decide +kernel
theorem dX8_parish_29 : decode cX8_parish 29 = .ok (.iload_n 3, 1) := by decide +kernel
theorem dX8_parish_30 : decode cX8_parish 30 = .ok (.ifCond .eq 93, 3) := by decide +kernel
theorem dX8_parish_33 : decode cX8_parish 33 = .ok (.iload 4, 2) := by decide +kernel
theorem dX8_parish_35 : decode cX8_parish 35 = .ok (.ifCond .ne 88, 3) := by decide +kernel
theorem dX8_parish_38 : decode cX8_parish 38 = .ok (.iload_n 2, 1) := by decide +kernel
theorem dX8_parish_39 : decode cX8_parish 39 = .ok (.bipush 10, 2) := by decide +kernel
theorem dX8_parish_41 : decode cX8_parish 41 = .ok (.if_icmp .ge 23, 3) := by decide +kernel
theorem dX8_parish_44 : decode cX8_parish 44 = .ok (.aload_n 0, 1) := by decide +kernel
theorem dX8_parish_45 : decode cX8_parish 45 = .ok (.bipush 10, 2) := by decide +kernel
theorem dX8_parish_47 : decode cX8_parish 47 = .ok (.aload_n 0, 1) := by decide +kernel
theorem dX8_parish_48 : decode cX8_parish 48 = .ok (.getfield 222, 3) := by decide +kernel
theorem dX8_parish_51 : decode cX8_parish 51 = .ok (.imul, 1) := by decide +kernel
theorem dX8_parish_52 : decode cX8_parish 52 = .ok (.iload_n 2, 1) := by decide +kernel
theorem dX8_parish_53 : decode cX8_parish 53 = .ok (.iadd, 1) := by decide +kernel
theorem dX8_parish_54 : decode cX8_parish 54 = .ok (.invokevirtual 225, 3) := by decide +kernel
theorem dX8_parish_57 : decode cX8_parish 57 = .ok (.ifCond .eq 7, 3) := by decide +kernel
theorem dX8_parish_60 : decode cX8_parish 60 = .ok (.iconst 1, 1) := by decide +kernel
theorem dX8_parish_61 : decode cX8_parish 61 = .ok (.goto 4, 3) := by decide +kernel
theorem dX8_parish_64 : decode cX8_parish 64 = .ok (.iconst 0, 1) := by decide +kernel
theorem dX8_parish_65 : decode cX8_parish 65 = .ok (.istore_n 3, 1) := by decide +kernel
theorem dX8_parish_66 : decode cX8_parish 66 = .ok (.iload_n 3, 1) := by decide +kernel
theorem dX8_parish_67 : decode cX8_parish 67 = .ok (.ifCond .ne 6, 3) := by decide +kernel
theorem dX8_parish_70 : decode cX8_parish 70 = .ok (.goto (-41), 3) := by decide +kernel
theorem dX8_parish_73 : decode cX8_parish 73 = .ok (.iinc 2 1, 3) := by decide +kernel
theorem dX8_parish_76 : decode cX8_parish 76 = .ok (.aload_n 0, 1) := by decide +kernel
theorem dX8_parish_77 : decode cX8_parish 77 = .ok (.getfield 153, 3) := by decide +kernel
theorem dX8_parish_80 : decode cX8_parish 80 = .ok (.aload_n 0, 1) := by decide +kernel
theorem dX8_parish_81 : decode cX8_parish 81 = .ok (.getfield 150, 3) := by decide +kernel
theorem dX8_parish_84 : decode cX8_parish 84 = .ok (.if_icmp .ne 7, 3) := by decide +kernel
theorem dX8_parish_87 : decode cX8_parish 87 = .ok (.iconst 1, 1) := by decide +kernel
theorem dX8_parish_88 : decode cX8_parish 88 = .ok (.goto 4, 3) := by decide +kernel
theorem dX8_parish_91 : decode cX8_parish 91 = .ok (.iconst 0, 1) := by decide +kernel
theorem dX8_parish_92 : decode cX8_parish 92 = .ok (.istore 4, 2) := by decide +kernel
theorem dX8_parish_94 : decode cX8_parish 94 = .ok (.iload 4, 2) := by decide +kernel
theorem dX8_parish_96 : decode cX8_parish 96 = .ok (.ifCond .ne 18, 3) := by decide +kernel
theorem dX8_parish_99 : decode cX8_parish 99 = .ok (.iload_n 2, 1) := by decide +kernel
theorem dX8_parish_100 : decode cX8_parish 100 = .ok (.bipush 10, 2) := by decide +kernel
theorem dX8_parish_102 : decode cX8_parish 102 = .ok (.if_icmp .ge 16, 3) := by decide +kernel
theorem dX8_parish_105 : decode cX8_parish 105 = .ok (.aload_n 0, 1) := by decide +kernel
theorem dX8_parish_106 : decode cX8_parish 106 = .ok (.bipush 59, 2) := by decide +kernel
theorem dX8_parish_108 : decode cX8_parish 108 = .ok (.invokevirtual 175, 3) := by decide +kernel
theorem dX8_parish_111 : decode cX8_parish 111 = .ok (.ifCond .eq 7, 3) := by decide +kernel
theorem dX8_parish_114 : decode cX8_parish 114 = .ok (.iconst 1, 1) := by decide +kernel
theorem dX8_parish_115 : decode cX8_parish 115 = .ok (.goto 4, 3) := by decide +kernel
theorem dX8_parish_118 : decode cX8_parish 118 = .ok (.iconst 0, 1) := by decide +kernel
theorem dX8_parish_119 : decode cX8_parish 119 = .ok (.istore_n 3, 1) := by decide +kernel
theorem dX8_parish_120 : decode cX8_parish 120 = .ok (.goto (-91), 3) := by decide +kernel
theorem dX8_parish_123 : decode cX8_parish 123 = .ok (.aload_n 0, 1) := by decide +kernel
theorem dX8_parish_124 : decode cX8_parish 124 = .ok (.iconst 0, 1) := by decide +kernel
theorem dX8_parish_125 : decode cX8_parish 125 = .ok (.putfield 150, 3) := by decide +kernel
theorem dX8_parish_128 : decode cX8_parish 128 = .ok (.iload 4, 2) := by decide +kernel
theorem dX8_parish_130 : decode cX8_parish 130 = .ok (.ifCond .ne 16, 3) := by decide +kernel
theorem dX8_parish_133 : decode cX8_parish 133 = .ok (.aload_n 0, 1) := by decide +kernel
theorem dX8_parish_134 : decode cX8_parish 134 = .ok (.iload_n 1, 1) := by decide +kernel
theorem dX8_parish_135 : decode cX8_parish 135 = .ok (.putfield 178, 3) := by decide +kernel
theorem dX8_parish_138 : decode cX8_parish 138 = .ok (.bipush (-10), 2) := by decide +kernel
theorem dX8_parish_140 : decode cX8_parish 140 = .ok (.aload_n 0, 1) := by decide +kernel
theorem dX8_parish_141 : decode cX8_parish 141 = .ok (.getfield 153, 3) := by decide +kernel
theorem dX8_parish_144 : decode cX8_parish 144 = .ok (.isub, 1) := by decide +kernel
theorem dX8_parish_145 : decode cX8_parish 145 = .ok (.ireturn, 1) := by decide +kernel
theorem dX8_parish_146 : decode cX8_parish 146 = .ok (.aload_n 0, 1) := by decide +kernel
theorem dX8_parish_147 : decode cX8_parish 147 = .ok (.getfield 36, 3) := by decide +kernel
theorem dX8_parish_150 : decode cX8_parish 150 = .ok (.aload_n 0, 1) := by decide +kernel
theorem dX8_parish_151 : decode cX8_parish 151 = .ok (.getfield 222, 3) := by decide +kernel
theorem dX8_parish_154 : decode cX8_parish 154 = .ok (.iload_n 2, 1) := by decide +kernel
theorem dX8_parish_155 : decode cX8_parish 155 = .ok (.iastore, 1) := by decide +kernel
theorem dX8_parish_156 : decode cX8_parish 156 = .ok (.aload_n 0, 1) := by decide +kernel
theorem dX8_parish_157 : decode cX8_parish 157 = .ok (.aload_n 0, 1) := by decide +kernel
theorem dX8_parish_158 : decode cX8_parish 158 = .ok (.getfield 222, 3) := by decide +kernel
theorem dX8_parish_161 : decode cX8_parish 161 = .ok (.putfield 110, 3) := by decide +kernel
theorem dX8_parish_164 : decode cX8_parish 164 = .ok (.aload_n 0, 1) := by decide +kernel
theorem dX8_parish_165 : decode cX8_parish 165 = .ok (.dup, 1) := by decide +kernel
theorem dX8_parish_166 : decode cX8_parish 166 = .ok (.getfield 222, 3) := by decide +kernel
theorem dX8_parish_169 : decode cX8_parish 169 = .ok (.dup_x1, 1) := by decide +kernel
theorem dX8_parish_170 : decode cX8_parish 170 = .ok (.iconst 1, 1) := by decide +kernel
theorem dX8_parish_171 : decode cX8_parish 171 = .ok (.iadd, 1) := by decide +kernel
theorem dX8_parish_172 : decode cX8_parish 172 = .ok (.putfield 222, 3) := by decide +kernel
theorem dX8_parish_175 : decode cX8_parish 175 = .ok (.ireturn, 1) := by decide +kernel
theorem dX8_letterOf_0 : decode cX8_letterOf 0 = .ok (.iload 4, 2) := by decide +kernel
theorem dX8_letterOf_2 : decode cX8_letterOf 2 = .ok (.tableswitch 67 0 4 #[34, 36, 38, 45, 52], 34) := by decide +kernel
theorem dX8_letterOf_36 : decode cX8_letterOf 36 = .ok (.iload_n 1, 1) := by decide +kernel
theorem dX8_letterOf_37 : decode cX8_letterOf 37 = .ok (.ireturn, 1) := by decide +kernel
theorem dX8_letterOf_38 : decode cX8_letterOf 38 = .ok (.iload_n 2, 1) := by decide +kernel
theorem dX8_letterOf_39 : decode cX8_letterOf 39 = .ok (.ireturn, 1) := by decide +kernel
theorem dX8_letterOf_40 : decode cX8_letterOf 40 = .ok (.aload_n 0, 1) := by decide +kernel
theorem dX8_letterOf_41 : decode cX8_letterOf 41 = .ok (.getfield 9, 3) := by decide +kernel
theorem dX8_letterOf_44 : decode cX8_letterOf 44 = .ok (.iload_n 1, 1) := by decide +kernel
theorem dX8_letterOf_45 : decode cX8_letterOf 45 = .ok (.iaload, 1) := by decide +kernel
theorem dX8_letterOf_46 : decode cX8_letterOf 46 = .ok (.ireturn, 1) := by decide +kernel
theorem dX8_letterOf_47 : decode cX8_letterOf 47 = .ok (.aload_n 0, 1) := by decide +kernel
theorem dX8_letterOf_48 : decode cX8_letterOf 48 = .ok (.getfield 15, 3) := by decide +kernel
theorem dX8_letterOf_51 : decode cX8_letterOf 51 = .ok (.iload_n 1, 1) := by decide +kernel
theorem dX8_letterOf_52 : decode cX8_letterOf 52 = .ok (.iaload, 1) := by decide +kernel
theorem dX8_letterOf_53 : decode cX8_letterOf 53 = .ok (.ireturn, 1) := by decide +kernel
theorem dX8_letterOf_54 : decode cX8_letterOf 54 = .ok (.aload_n 0, 1) := by decide +kernel
theorem dX8_letterOf_55 : decode cX8_letterOf 55 = .ok (.getfield 30, 3) := by decide +kernel
theorem dX8_letterOf_58 : decode cX8_letterOf 58 = .ok (.bipush 6, 2) := by decide +kernel
theorem dX8_letterOf_60 : decode cX8_letterOf 60 = .ok (.iload_n 1, 1) := by decide +kernel
theorem dX8_letterOf_61 : decode cX8_letterOf 61 = .ok (.imul, 1) := by decide +kernel
theorem dX8_letterOf_62 : decode cX8_letterOf 62 = .ok (.iload_n 2, 1) := by decide +kernel
theorem dX8_letterOf_63 : decode cX8_letterOf 63 = .ok (.iadd, 1) := by decide +kernel
theorem dX8_letterOf_64 : decode cX8_letterOf 64 = .ok (.iaload, 1) := by decide +kernel
theorem dX8_letterOf_65 : decode cX8_letterOf 65 = .ok (.bipush 10, 2) := by decide +kernel
theorem dX8_letterOf_67 : decode cX8_letterOf 67 = .ok (.idiv, 1) := by decide +kernel
theorem dX8_letterOf_68 : decode cX8_letterOf 68 = .ok (.ireturn, 1) := by decide +kernel
theorem dX8_letterOf_69 : decode cX8_letterOf 69 = .ok (.iload_n 3, 1) := by decide +kernel
theorem dX8_letterOf_70 : decode cX8_letterOf 70 = .ok (.bipush 10, 2) := by decide +kernel
theorem dX8_letterOf_72 : decode cX8_letterOf 72 = .ok (.irem, 1) := by decide +kernel
theorem dX8_letterOf_73 : decode cX8_letterOf 73 = .ok (.ireturn, 1) := by decide +kernel
theorem dX8_isTrue_0 : decode cX8_isTrue 0 = .ok (.iconst 0, 1) := by decide +kernel
theorem dX8_isTrue_1 : decode cX8_isTrue 1 = .ok (.istore 5, 2) := by decide +kernel
theorem dX8_isTrue_3 : decode cX8_isTrue 3 = .ok (.aload_n 0, 1) := by decide +kernel
theorem dX8_isTrue_4 : decode cX8_isTrue 4 = .ok (.getfield 45, 3) := by decide +kernel
theorem dX8_isTrue_7 : decode cX8_isTrue 7 = .ok (.iload 4, 2) := by decide +kernel
theorem dX8_isTrue_9 : decode cX8_isTrue 9 = .ok (.iaload, 1) := by decide +kernel
theorem dX8_isTrue_10 : decode cX8_isTrue 10 = .ok (.istore 6, 2) := by decide +kernel
theorem dX8_isTrue_12 : decode cX8_isTrue 12 = .ok (.iload 6, 2) := by decide +kernel
theorem dX8_isTrue_14 : decode cX8_isTrue 14 = .ok (.aload_n 0, 1) := by decide +kernel
theorem dX8_isTrue_15 : decode cX8_isTrue 15 = .ok (.getfield 45, 3) := by decide +kernel
theorem dX8_isTrue_18 : decode cX8_isTrue 18 = .ok (.iload 4, 2) := by decide +kernel
theorem dX8_isTrue_20 : decode cX8_isTrue 20 = .ok (.iaload, 1) := by decide +kernel
theorem dX8_isTrue_21 : decode cX8_isTrue 21 = .ok (.aload_n 0, 1) := by decide +kernel
theorem dX8_isTrue_22 : decode cX8_isTrue 22 = .ok (.getfield 48, 3) := by decide +kernel
theorem dX8_isTrue_25 : decode cX8_isTrue 25 = .ok (.iload 4, 2) := by decide +kernel
theorem dX8_isTrue_27 : decode cX8_isTrue 27 = .ok (.iaload, 1) := by decide +kernel
theorem dX8_isTrue_28 : decode cX8_isTrue 28 = .ok (.iadd, 1) := by decide +kernel
theorem dX8_isTrue_29 : decode cX8_isTrue 29 = .ok (.if_icmp .ge 236, 3) := by decide +kernel
theorem dX8_isTrue_32 : decode cX8_isTrue 32 = .ok (.aload_n 0, 1) := by decide +kernel
theorem dX8_isTrue_33 : decode cX8_isTrue 33 = .ok (.getfield 51, 3) := by decide +kernel
theorem dX8_isTrue_36 : decode cX8_isTrue 36 = .ok (.iload 6, 2) := by decide +kernel
theorem dX8_isTrue_38 : decode cX8_isTrue 38 = .ok (.iaload, 1) := by decide +kernel
theorem dX8_isTrue_39 : decode cX8_isTrue 39 = .ok (.istore 7, 2) := by decide +kernel
theorem dX8_isTrue_41 : decode cX8_isTrue 41 = .ok (.iload 7, 2) := by decide +kernel
theorem dX8_isTrue_43 : decode cX8_isTrue 43 = .ok (.iconst 3, 1) := by decide +kernel
theorem dX8_isTrue_44 : decode cX8_isTrue 44 = .ok (.if_icmp .lt 106, 3) := by decide +kernel
theorem dX8_isTrue_47 : decode cX8_isTrue 47 = .ok (.aload_n 0, 1) := by decide +kernel
theorem dX8_isTrue_48 : decode cX8_isTrue 48 = .ok (.iload_n 1, 1) := by decide +kernel
theorem dX8_isTrue_49 : decode cX8_isTrue 49 = .ok (.iload_n 2, 1) := by decide +kernel
theorem dX8_isTrue_50 : decode cX8_isTrue 50 = .ok (.iload_n 3, 1) := by decide +kernel
theorem dX8_isTrue_51 : decode cX8_isTrue 51 = .ok (.iload 7, 2) := by decide +kernel
theorem dX8_isTrue_53 : decode cX8_isTrue 53 = .ok (.iconst 3, 1) := by decide +kernel
theorem dX8_isTrue_54 : decode cX8_isTrue 54 = .ok (.isub, 1) := by decide +kernel
theorem dX8_isTrue_55 : decode cX8_isTrue 55 = .ok (.sipush 300, 3) := by decide +kernel
theorem dX8_isTrue_58 : decode cX8_isTrue 58 = .ok (.idiv, 1) := by decide +kernel
theorem dX8_isTrue_59 : decode cX8_isTrue 59 = .ok (.invokevirtual 228, 3) := by decide +kernel
theorem dX8_isTrue_62 : decode cX8_isTrue 62 = .ok (.istore 8, 2) := by decide +kernel
theorem dX8_isTrue_64 : decode cX8_isTrue 64 = .ok (.iload 7, 2) := by decide +kernel
theorem dX8_isTrue_66 : decode cX8_isTrue 66 = .ok (.iconst 3, 1) := by decide +kernel
theorem dX8_isTrue_67 : decode cX8_isTrue 67 = .ok (.isub, 1) := by decide +kernel
theorem dX8_isTrue_68 : decode cX8_isTrue 68 = .ok (.bipush 100, 2) := by decide +kernel
theorem dX8_isTrue_70 : decode cX8_isTrue 70 = .ok (.irem, 1) := by decide +kernel
theorem dX8_isTrue_71 : decode cX8_isTrue 71 = .ok (.istore 9, 2) := by decide +kernel
theorem dX8_isTrue_73 : decode cX8_isTrue 73 = .ok (.iload 7, 2) := by decide +kernel
theorem dX8_isTrue_75 : decode cX8_isTrue 75 = .ok (.iconst 3, 1) := by decide +kernel
theorem dX8_isTrue_76 : decode cX8_isTrue 76 = .ok (.isub, 1) := by decide +kernel
theorem dX8_isTrue_77 : decode cX8_isTrue 77 = .ok (.bipush 100, 2) := by decide +kernel
theorem dX8_isTrue_79 : decode cX8_isTrue 79 = .ok (.idiv, 1) := by decide +kernel
theorem dX8_isTrue_80 : decode cX8_isTrue 80 = .ok (.iconst 3, 1) := by decide +kernel
theorem dX8_isTrue_81 : decode cX8_isTrue 81 = .ok (.irem, 1) := by decide +kernel
theorem dX8_isTrue_82 : decode cX8_isTrue 82 = .ok (.istore 10, 2) := by decide +kernel
theorem dX8_isTrue_84 : decode cX8_isTrue 84 = .ok (.aload_n 0, 1) := by decide +kernel
theorem dX8_isTrue_85 : decode cX8_isTrue 85 = .ok (.getfield 54, 3) := by decide +kernel
theorem dX8_isTrue_88 : decode cX8_isTrue 88 = .ok (.iload 5, 2) := by decide +kernel
theorem dX8_isTrue_90 : decode cX8_isTrue 90 = .ok (.iinc 5 1, 3) := by decide +kernel
theorem dX8_isTrue_93 : decode cX8_isTrue 93 = .ok (.iload 10, 2) := by decide +kernel
theorem dX8_isTrue_95 : decode cX8_isTrue 95 = .ok (.ifCond .ne 18, 3) := by decide +kernel
theorem dX8_isTrue_98 : decode cX8_isTrue 98 = .ok (.iload 8, 2) := by decide +kernel
theorem dX8_isTrue_100 : decode cX8_isTrue 100 = .ok (.iload 9, 2) := by decide +kernel
theorem dX8_isTrue_102 : decode cX8_isTrue 102 = .ok (.if_icmp .ge 7, 3) := by decide +kernel
theorem dX8_isTrue_105 : decode cX8_isTrue 105 = .ok (.iconst 1, 1) := by decide +kernel
theorem dX8_isTrue_106 : decode cX8_isTrue 106 = .ok (.goto 40, 3) := by decide +kernel
theorem dX8_isTrue_109 : decode cX8_isTrue 109 = .ok (.iconst 0, 1) := by decide +kernel
theorem dX8_isTrue_110 : decode cX8_isTrue 110 = .ok (.goto 36, 3) := by decide +kernel
theorem dX8_isTrue_113 : decode cX8_isTrue 113 = .ok (.iload 10, 2) := by decide +kernel
theorem dX8_isTrue_115 : decode cX8_isTrue 115 = .ok (.iconst 1, 1) := by decide +kernel
theorem dX8_isTrue_116 : decode cX8_isTrue 116 = .ok (.if_icmp .ne 18, 3) := by decide +kernel
theorem dX8_isTrue_119 : decode cX8_isTrue 119 = .ok (.iload 8, 2) := by decide +kernel
theorem dX8_isTrue_121 : decode cX8_isTrue 121 = .ok (.iload 9, 2) := by decide +kernel
theorem dX8_isTrue_123 : decode cX8_isTrue 123 = .ok (.if_icmp .ne 7, 3) := by decide +kernel
theorem dX8_isTrue_126 : decode cX8_isTrue 126 = .ok (.iconst 1, 1) := by decide +kernel
theorem dX8_isTrue_127 : decode cX8_isTrue 127 = .ok (.goto 19, 3) := by decide +kernel
theorem dX8_isTrue_130 : decode cX8_isTrue 130 = .ok (.iconst 0, 1) := by decide +kernel
theorem dX8_isTrue_131 : decode cX8_isTrue 131 = .ok (.goto 15, 3) := by decide +kernel
theorem dX8_isTrue_134 : decode cX8_isTrue 134 = .ok (.iload 8, 2) := by decide +kernel
theorem dX8_isTrue_136 : decode cX8_isTrue 136 = .ok (.iload 9, 2) := by decide +kernel
theorem dX8_isTrue_138 : decode cX8_isTrue 138 = .ok (.if_icmp .le 7, 3) := by decide +kernel
theorem dX8_isTrue_141 : decode cX8_isTrue 141 = .ok (.iconst 1, 1) := by decide +kernel
theorem dX8_isTrue_142 : decode cX8_isTrue 142 = .ok (.goto 4, 3) := by decide +kernel
theorem dX8_isTrue_145 : decode cX8_isTrue 145 = .ok (.iconst 0, 1) := by decide +kernel
theorem dX8_isTrue_146 : decode cX8_isTrue 146 = .ok (.bastore, 1) := by decide +kernel
theorem dX8_isTrue_147 : decode cX8_isTrue 147 = .ok (.goto 112, 3) := by decide +kernel
theorem dX8_isTrue_150 : decode cX8_isTrue 150 = .ok (.iload 7, 2) := by decide +kernel
theorem dX8_isTrue_152 : decode cX8_isTrue 152 = .ok (.ifCond .ne 32, 3) := by decide +kernel
theorem dX8_isTrue_155 : decode cX8_isTrue 155 = .ok (.aload_n 0, 1) := by decide +kernel
theorem dX8_isTrue_156 : decode cX8_isTrue 156 = .ok (.getfield 54, 3) := by decide +kernel
theorem dX8_isTrue_159 : decode cX8_isTrue 159 = .ok (.iload 5, 2) := by decide +kernel
theorem dX8_isTrue_161 : decode cX8_isTrue 161 = .ok (.iconst 1, 1) := by decide +kernel
theorem dX8_isTrue_162 : decode cX8_isTrue 162 = .ok (.isub, 1) := by decide +kernel
theorem dX8_isTrue_163 : decode cX8_isTrue 163 = .ok (.aload_n 0, 1) := by decide +kernel
theorem dX8_isTrue_164 : decode cX8_isTrue 164 = .ok (.getfield 54, 3) := by decide +kernel
theorem dX8_isTrue_167 : decode cX8_isTrue 167 = .ok (.iload 5, 2) := by decide +kernel
theorem dX8_isTrue_169 : decode cX8_isTrue 169 = .ok (.iconst 1, 1) := by decide +kernel
theorem dX8_isTrue_170 : decode cX8_isTrue 170 = .ok (.isub, 1) := by decide +kernel
theorem dX8_isTrue_171 : decode cX8_isTrue 171 = .ok (.baload, 1) := by decide +kernel
theorem dX8_isTrue_172 : decode cX8_isTrue 172 = .ok (.ifCond .ne 7, 3) := by decide +kernel
theorem dX8_isTrue_175 : decode cX8_isTrue 175 = .ok (.iconst 1, 1) := by decide +kernel
theorem dX8_isTrue_176 : decode cX8_isTrue 176 = .ok (.goto 4, 3) := by decide +kernel
theorem dX8_isTrue_179 : decode cX8_isTrue 179 = .ok (.iconst 0, 1) := by decide +kernel
theorem dX8_isTrue_180 : decode cX8_isTrue 180 = .ok (.bastore, 1) := by decide +kernel
theorem dX8_isTrue_181 : decode cX8_isTrue 181 = .ok (.goto 78, 3) := by decide +kernel
theorem dX8_isTrue_184 : decode cX8_isTrue 184 = .ok (.iinc 5 (-1), 3) := by decide +kernel
theorem dX8_isTrue_187 : decode cX8_isTrue 187 = .ok (.aload_n 0, 1) := by decide +kernel
theorem dX8_isTrue_188 : decode cX8_isTrue 188 = .ok (.getfield 54, 3) := by decide +kernel
theorem dX8_isTrue_191 : decode cX8_isTrue 191 = .ok (.iload 5, 2) := by decide +kernel
theorem dX8_isTrue_193 : decode cX8_isTrue 193 = .ok (.iconst 1, 1) := by decide +kernel
theorem dX8_isTrue_194 : decode cX8_isTrue 194 = .ok (.isub, 1) := by decide +kernel
theorem dX8_isTrue_195 : decode cX8_isTrue 195 = .ok (.iload 7, 2) := by decide +kernel
theorem dX8_isTrue_197 : decode cX8_isTrue 197 = .ok (.iconst 1, 1) := by decide +kernel
theorem dX8_isTrue_198 : decode cX8_isTrue 198 = .ok (.if_icmp .ne 33, 3) := by decide +kernel
theorem dX8_isTrue_201 : decode cX8_isTrue 201 = .ok (.aload_n 0, 1) := by decide +kernel
theorem dX8_isTrue_202 : decode cX8_isTrue 202 = .ok (.getfield 54, 3) := by decide +kernel
theorem dX8_isTrue_205 : decode cX8_isTrue 205 = .ok (.iload 5, 2) := by decide +kernel
theorem dX8_isTrue_207 : decode cX8_isTrue 207 = .ok (.iconst 1, 1) := by decide +kernel
theorem dX8_isTrue_208 : decode cX8_isTrue 208 = .ok (.isub, 1) := by decide +kernel
theorem dX8_isTrue_209 : decode cX8_isTrue 209 = .ok (.baload, 1) := by decide +kernel
theorem dX8_isTrue_210 : decode cX8_isTrue 210 = .ok (.ifCond .eq 17, 3) := by decide +kernel
theorem dX8_isTrue_213 : decode cX8_isTrue 213 = .ok (.aload_n 0, 1) := by decide +kernel
theorem dX8_isTrue_214 : decode cX8_isTrue 214 = .ok (.getfield 54, 3) := by decide +kernel
theorem dX8_isTrue_217 : decode cX8_isTrue 217 = .ok (.iload 5, 2) := by decide +kernel
theorem dX8_isTrue_219 : decode cX8_isTrue 219 = .ok (.baload, 1) := by decide +kernel
theorem dX8_isTrue_220 : decode cX8_isTrue 220 = .ok (.ifCond .eq 7, 3) := by decide +kernel
theorem dX8_isTrue_223 : decode cX8_isTrue 223 = .ok (.iconst 1, 1) := by decide +kernel
theorem dX8_isTrue_224 : decode cX8_isTrue 224 = .ok (.goto 34, 3) := by decide +kernel
theorem dX8_isTrue_227 : decode cX8_isTrue 227 = .ok (.iconst 0, 1) := by decide +kernel
theorem dX8_isTrue_228 : decode cX8_isTrue 228 = .ok (.goto 30, 3) := by decide +kernel
theorem dX8_isTrue_231 : decode cX8_isTrue 231 = .ok (.aload_n 0, 1) := by decide +kernel
theorem dX8_isTrue_232 : decode cX8_isTrue 232 = .ok (.getfield 54, 3) := by decide +kernel
theorem dX8_isTrue_235 : decode cX8_isTrue 235 = .ok (.iload 5, 2) := by decide +kernel
theorem dX8_isTrue_237 : decode cX8_isTrue 237 = .ok (.iconst 1, 1) := by decide +kernel
theorem dX8_isTrue_238 : decode cX8_isTrue 238 = .ok (.isub, 1) := by decide +kernel
theorem dX8_isTrue_239 : decode cX8_isTrue 239 = .ok (.baload, 1) := by decide +kernel
theorem dX8_isTrue_240 : decode cX8_isTrue 240 = .ok (.ifCond .ne 13, 3) := by decide +kernel
theorem dX8_isTrue_243 : decode cX8_isTrue 243 = .ok (.aload_n 0, 1) := by decide +kernel
theorem dX8_isTrue_244 : decode cX8_isTrue 244 = .ok (.getfield 54, 3) := by decide +kernel
theorem dX8_isTrue_247 : decode cX8_isTrue 247 = .ok (.iload 5, 2) := by decide +kernel
theorem dX8_isTrue_249 : decode cX8_isTrue 249 = .ok (.baload, 1) := by decide +kernel
theorem dX8_isTrue_250 : decode cX8_isTrue 250 = .ok (.ifCond .eq 7, 3) := by decide +kernel
theorem dX8_isTrue_253 : decode cX8_isTrue 253 = .ok (.iconst 1, 1) := by decide +kernel
theorem dX8_isTrue_254 : decode cX8_isTrue 254 = .ok (.goto 4, 3) := by decide +kernel
theorem dX8_isTrue_257 : decode cX8_isTrue 257 = .ok (.iconst 0, 1) := by decide +kernel
theorem dX8_isTrue_258 : decode cX8_isTrue 258 = .ok (.bastore, 1) := by decide +kernel
theorem dX8_isTrue_259 : decode cX8_isTrue 259 = .ok (.iinc 6 1, 3) := by decide +kernel
theorem dX8_isTrue_262 : decode cX8_isTrue 262 = .ok (.goto (-250), 3) := by decide +kernel
theorem dX8_isTrue_265 : decode cX8_isTrue 265 = .ok (.aload_n 0, 1) := by decide +kernel
theorem dX8_isTrue_266 : decode cX8_isTrue 266 = .ok (.getfield 54, 3) := by decide +kernel
theorem dX8_isTrue_269 : decode cX8_isTrue 269 = .ok (.iconst 0, 1) := by decide +kernel
theorem dX8_isTrue_270 : decode cX8_isTrue 270 = .ok (.baload, 1) := by decide +kernel
theorem dX8_isTrue_271 : decode cX8_isTrue 271 = .ok (.ireturn, 1) := by decide +kernel
theorem dX8_sum_0 : decode cX8_sum 0 = .ok (.aload_n 0, 1) := by decide +kernel
theorem dX8_sum_1 : decode cX8_sum 1 = .ok (.getfield 30, 3) := by decide +kernel
theorem dX8_sum_4 : decode cX8_sum 4 = .ok (.bipush 6, 2) := by decide +kernel
theorem dX8_sum_6 : decode cX8_sum 6 = .ok (.iload_n 1, 1) := by decide +kernel
theorem dX8_sum_7 : decode cX8_sum 7 = .ok (.imul, 1) := by decide +kernel
theorem dX8_sum_8 : decode cX8_sum 8 = .ok (.iload_n 2, 1) := by decide +kernel
theorem dX8_sum_9 : decode cX8_sum 9 = .ok (.iadd, 1) := by decide +kernel
theorem dX8_sum_10 : decode cX8_sum 10 = .ok (.iaload, 1) := by decide +kernel
theorem dX8_sum_11 : decode cX8_sum 11 = .ok (.istore 4, 2) := by decide +kernel
theorem dX8_sum_13 : decode cX8_sum 13 = .ok (.iconst 0, 1) := by decide +kernel
theorem dX8_sum_14 : decode cX8_sum 14 = .ok (.istore 5, 2) := by decide +kernel
theorem dX8_sum_16 : decode cX8_sum 16 = .ok (.aload_n 0, 1) := by decide +kernel
theorem dX8_sum_17 : decode cX8_sum 17 = .ok (.getfield 110, 3) := by decide +kernel
theorem dX8_sum_20 : decode cX8_sum 20 = .ok (.iconst (-1), 1) := by decide +kernel
theorem dX8_sum_21 : decode cX8_sum 21 = .ok (.if_icmp .eq 91, 3) := by decide +kernel
theorem dX8_sum_24 : decode cX8_sum 24 = .ok (.iload 5, 2) := by decide +kernel
theorem dX8_sum_26 : decode cX8_sum 26 = .ok (.aload_n 0, 1) := by decide +kernel
theorem dX8_sum_27 : decode cX8_sum 27 = .ok (.getfield 36, 3) := by decide +kernel
theorem dX8_sum_30 : decode cX8_sum 30 = .ok (.aload_n 0, 1) := by decide +kernel
theorem dX8_sum_31 : decode cX8_sum 31 = .ok (.getfield 110, 3) := by decide +kernel
theorem dX8_sum_34 : decode cX8_sum 34 = .ok (.iaload, 1) := by decide +kernel
theorem dX8_sum_35 : decode cX8_sum 35 = .ok (.if_icmp .ge 77, 3) := by decide +kernel
theorem dX8_sum_38 : decode cX8_sum 38 = .ok (.bipush 10, 2) := by decide +kernel
theorem dX8_sum_40 : decode cX8_sum 40 = .ok (.aload_n 0, 1) := by decide +kernel
theorem dX8_sum_41 : decode cX8_sum 41 = .ok (.getfield 110, 3) := by decide +kernel
theorem dX8_sum_44 : decode cX8_sum 44 = .ok (.imul, 1) := by decide +kernel
theorem dX8_sum_45 : decode cX8_sum 45 = .ok (.iload 5, 2) := by decide +kernel
theorem dX8_sum_47 : decode cX8_sum 47 = .ok (.iadd, 1) := by decide +kernel
theorem dX8_sum_48 : decode cX8_sum 48 = .ok (.istore 6, 2) := by decide +kernel
theorem dX8_sum_50 : decode cX8_sum 50 = .ok (.aload_n 0, 1) := by decide +kernel
theorem dX8_sum_51 : decode cX8_sum 51 = .ok (.getfield 39, 3) := by decide +kernel
theorem dX8_sum_54 : decode cX8_sum 54 = .ok (.iload 6, 2) := by decide +kernel
theorem dX8_sum_56 : decode cX8_sum 56 = .ok (.iaload, 1) := by decide +kernel
theorem dX8_sum_57 : decode cX8_sum 57 = .ok (.iconst 2, 1) := by decide +kernel
theorem dX8_sum_58 : decode cX8_sum 58 = .ok (.if_icmp .ge 48, 3) := by decide +kernel
theorem dX8_sum_61 : decode cX8_sum 61 = .ok (.aload_n 0, 1) := by decide +kernel
theorem dX8_sum_62 : decode cX8_sum 62 = .ok (.iload_n 1, 1) := by decide +kernel
theorem dX8_sum_63 : decode cX8_sum 63 = .ok (.iload_n 2, 1) := by decide +kernel
theorem dX8_sum_64 : decode cX8_sum 64 = .ok (.iload_n 3, 1) := by decide +kernel
theorem dX8_sum_65 : decode cX8_sum 65 = .ok (.iload 6, 2) := by decide +kernel
theorem dX8_sum_67 : decode cX8_sum 67 = .ok (.invokevirtual 232, 3) := by decide +kernel
theorem dX8_sum_70 : decode cX8_sum 70 = .ok (.ifCond .eq 36, 3) := by decide +kernel
theorem dX8_sum_73 : decode cX8_sum 73 = .ok (.iload 4, 2) := by decide +kernel
theorem dX8_sum_75 : decode cX8_sum 75 = .ok (.aload_n 0, 1) := by decide +kernel
theorem dX8_sum_76 : decode cX8_sum 76 = .ok (.getfield 39, 3) := by decide +kernel
theorem dX8_sum_79 : decode cX8_sum 79 = .ok (.iload 6, 2) := by decide +kernel
theorem dX8_sum_81 : decode cX8_sum 81 = .ok (.iaload, 1) := by decide +kernel
theorem dX8_sum_82 : decode cX8_sum 82 = .ok (.ifCond .ne 13, 3) := by decide +kernel
theorem dX8_sum_85 : decode cX8_sum 85 = .ok (.aload_n 0, 1) := by decide +kernel
theorem dX8_sum_86 : decode cX8_sum 86 = .ok (.getfield 42, 3) := by decide +kernel
theorem dX8_sum_89 : decode cX8_sum 89 = .ok (.iload 6, 2) := by decide +kernel
theorem dX8_sum_91 : decode cX8_sum 91 = .ok (.iaload, 1) := by decide +kernel
theorem dX8_sum_92 : decode cX8_sum 92 = .ok (.goto 11, 3) := by decide +kernel
theorem dX8_sum_95 : decode cX8_sum 95 = .ok (.aload_n 0, 1) := by decide +kernel
theorem dX8_sum_96 : decode cX8_sum 96 = .ok (.getfield 42, 3) := by decide +kernel
theorem dX8_sum_99 : decode cX8_sum 99 = .ok (.iload 6, 2) := by decide +kernel
theorem dX8_sum_101 : decode cX8_sum 101 = .ok (.iaload, 1) := by decide +kernel
theorem dX8_sum_102 : decode cX8_sum 102 = .ok (.ineg, 1) := by decide +kernel
theorem dX8_sum_103 : decode cX8_sum 103 = .ok (.iadd, 1) := by decide +kernel
theorem dX8_sum_104 : decode cX8_sum 104 = .ok (.istore 4, 2) := by decide +kernel
theorem dX8_sum_106 : decode cX8_sum 106 = .ok (.iinc 5 1, 3) := by decide +kernel
theorem dX8_sum_109 : decode cX8_sum 109 = .ok (.goto (-93), 3) := by decide +kernel
theorem dX8_sum_112 : decode cX8_sum 112 = .ok (.iload 4, 2) := by decide +kernel
theorem dX8_sum_114 : decode cX8_sum 114 = .ok (.ireturn, 1) := by decide +kernel
theorem dX8_need_0 : decode cX8_need 0 = .ok (.bipush 30, 2) := by decide +kernel
theorem dX8_need_2 : decode cX8_need 2 = .ok (.istore_n 1, 1) := by decide +kernel
theorem dX8_need_3 : decode cX8_need 3 = .ok (.iconst 0, 1) := by decide +kernel
theorem dX8_need_4 : decode cX8_need 4 = .ok (.istore_n 2, 1) := by decide +kernel
theorem dX8_need_5 : decode cX8_need 5 = .ok (.aload_n 0, 1) := by decide +kernel
theorem dX8_need_6 : decode cX8_need 6 = .ok (.getfield 110, 3) := by decide +kernel
theorem dX8_need_9 : decode cX8_need 9 = .ok (.iconst (-1), 1) := by decide +kernel
theorem dX8_need_10 : decode cX8_need 10 = .ok (.if_icmp .eq 55, 3) := by decide +kernel
theorem dX8_need_13 : decode cX8_need 13 = .ok (.iload_n 2, 1) := by decide +kernel
theorem dX8_need_14 : decode cX8_need 14 = .ok (.aload_n 0, 1) := by decide +kernel
theorem dX8_need_15 : decode cX8_need 15 = .ok (.getfield 36, 3) := by decide +kernel
theorem dX8_need_18 : decode cX8_need 18 = .ok (.aload_n 0, 1) := by decide +kernel
theorem dX8_need_19 : decode cX8_need 19 = .ok (.getfield 110, 3) := by decide +kernel
theorem dX8_need_22 : decode cX8_need 22 = .ok (.iaload, 1) := by decide +kernel
theorem dX8_need_23 : decode cX8_need 23 = .ok (.if_icmp .ge 42, 3) := by decide +kernel
theorem dX8_need_26 : decode cX8_need 26 = .ok (.aload_n 0, 1) := by decide +kernel
theorem dX8_need_27 : decode cX8_need 27 = .ok (.getfield 39, 3) := by decide +kernel
theorem dX8_need_30 : decode cX8_need 30 = .ok (.bipush 10, 2) := by decide +kernel
theorem dX8_need_32 : decode cX8_need 32 = .ok (.aload_n 0, 1) := by decide +kernel
theorem dX8_need_33 : decode cX8_need 33 = .ok (.getfield 110, 3) := by decide +kernel
theorem dX8_need_36 : decode cX8_need 36 = .ok (.imul, 1) := by decide +kernel
theorem dX8_need_37 : decode cX8_need 37 = .ok (.iload_n 2, 1) := by decide +kernel
theorem dX8_need_38 : decode cX8_need 38 = .ok (.iadd, 1) := by decide +kernel
theorem dX8_need_39 : decode cX8_need 39 = .ok (.iaload, 1) := by decide +kernel
theorem dX8_need_40 : decode cX8_need 40 = .ok (.iconst 2, 1) := by decide +kernel
theorem dX8_need_41 : decode cX8_need 41 = .ok (.if_icmp .ne 18, 3) := by decide +kernel
theorem dX8_need_44 : decode cX8_need 44 = .ok (.aload_n 0, 1) := by decide +kernel
theorem dX8_need_45 : decode cX8_need 45 = .ok (.getfield 42, 3) := by decide +kernel
theorem dX8_need_48 : decode cX8_need 48 = .ok (.bipush 10, 2) := by decide +kernel
theorem dX8_need_50 : decode cX8_need 50 = .ok (.aload_n 0, 1) := by decide +kernel
theorem dX8_need_51 : decode cX8_need 51 = .ok (.getfield 110, 3) := by decide +kernel
theorem dX8_need_54 : decode cX8_need 54 = .ok (.imul, 1) := by decide +kernel
theorem dX8_need_55 : decode cX8_need 55 = .ok (.iload_n 2, 1) := by decide +kernel
theorem dX8_need_56 : decode cX8_need 56 = .ok (.iadd, 1) := by decide +kernel
theorem dX8_need_57 : decode cX8_need 57 = .ok (.iaload, 1) := by decide +kernel
theorem dX8_need_58 : decode cX8_need 58 = .ok (.istore_n 1, 1) := by decide +kernel
theorem dX8_need_59 : decode cX8_need 59 = .ok (.iinc 2 1, 3) := by decide +kernel
theorem dX8_need_62 : decode cX8_need 62 = .ok (.goto (-57), 3) := by decide +kernel
theorem dX8_need_65 : decode cX8_need 65 = .ok (.iload_n 1, 1) := by decide +kernel
theorem dX8_need_66 : decode cX8_need 66 = .ok (.ireturn, 1) := by decide +kernel
theorem dX8_spite_0 : decode cX8_spite 0 = .ok (.aload_n 0, 1) := by decide +kernel
theorem dX8_spite_1 : decode cX8_spite 1 = .ok (.iload_n 1, 1) := by decide +kernel
theorem dX8_spite_2 : decode cX8_spite 2 = .ok (.iload_n 2, 1) := by decide +kernel
theorem dX8_spite_3 : decode cX8_spite 3 = .ok (.iload_n 3, 1) := by decide +kernel
theorem dX8_spite_4 : decode cX8_spite 4 = .ok (.invokevirtual 236, 3) := by decide +kernel
theorem dX8_spite_7 : decode cX8_spite 7 = .ok (.istore 4, 2) := by decide +kernel
theorem dX8_spite_9 : decode cX8_spite 9 = .ok (.aload_n 0, 1) := by decide +kernel
theorem dX8_spite_10 : decode cX8_spite 10 = .ok (.getfield 9, 3) := by decide +kernel
theorem dX8_spite_13 : decode cX8_spite 13 = .ok (.iload_n 1, 1) := by decide +kernel
theorem dX8_spite_14 : decode cX8_spite 14 = .ok (.iaload, 1) := by decide +kernel
theorem dX8_spite_15 : decode cX8_spite 15 = .ok (.tableswitch 141 1 6 #[37, 45, 62, 72, 89, 118], 37) := by decide +kernel
theorem dX8_spite_52 : decode cX8_spite 52 = .ok (.iload 4, 2) := by decide +kernel
theorem dX8_spite_54 : decode cX8_spite 54 = .ok (.iload_n 3, 1) := by decide +kernel
theorem dX8_spite_55 : decode cX8_spite 55 = .ok (.bipush 7, 2) := by decide +kernel
theorem dX8_spite_57 : decode cX8_spite 57 = .ok (.irem, 1) := by decide +kernel
theorem dX8_spite_58 : decode cX8_spite 58 = .ok (.isub, 1) := by decide +kernel
theorem dX8_spite_59 : decode cX8_spite 59 = .ok (.ireturn, 1) := by decide +kernel
theorem dX8_spite_60 : decode cX8_spite 60 = .ok (.iload_n 3, 1) := by decide +kernel
theorem dX8_spite_61 : decode cX8_spite 61 = .ok (.iconst 2, 1) := by decide +kernel
theorem dX8_spite_62 : decode cX8_spite 62 = .ok (.irem, 1) := by decide +kernel
theorem dX8_spite_63 : decode cX8_spite 63 = .ok (.iconst 1, 1) := by decide +kernel
theorem dX8_spite_64 : decode cX8_spite 64 = .ok (.if_icmp .ne 10, 3) := by decide +kernel
theorem dX8_spite_67 : decode cX8_spite 67 = .ok (.iload 4, 2) := by decide +kernel
theorem dX8_spite_69 : decode cX8_spite 69 = .ok (.iconst 2, 1) := by decide +kernel
theorem dX8_spite_70 : decode cX8_spite 70 = .ok (.idiv, 1) := by decide +kernel
theorem dX8_spite_71 : decode cX8_spite 71 = .ok (.goto 5, 3) := by decide +kernel
theorem dX8_spite_74 : decode cX8_spite 74 = .ok (.iload 4, 2) := by decide +kernel
theorem dX8_spite_76 : decode cX8_spite 76 = .ok (.ireturn, 1) := by decide +kernel
theorem dX8_spite_77 : decode cX8_spite 77 = .ok (.iload 4, 2) := by decide +kernel
theorem dX8_spite_79 : decode cX8_spite 79 = .ok (.aload_n 0, 1) := by decide +kernel
theorem dX8_spite_80 : decode cX8_spite 80 = .ok (.getfield 15, 3) := by decide +kernel
theorem dX8_spite_83 : decode cX8_spite 83 = .ok (.iload_n 1, 1) := by decide +kernel
theorem dX8_spite_84 : decode cX8_spite 84 = .ok (.iaload, 1) := by decide +kernel
theorem dX8_spite_85 : decode cX8_spite 85 = .ok (.iadd, 1) := by decide +kernel
theorem dX8_spite_86 : decode cX8_spite 86 = .ok (.ireturn, 1) := by decide +kernel
theorem dX8_spite_87 : decode cX8_spite 87 = .ok (.iload 4, 2) := by decide +kernel
theorem dX8_spite_89 : decode cX8_spite 89 = .ok (.iload_n 3, 1) := by decide +kernel
theorem dX8_spite_90 : decode cX8_spite 90 = .ok (.bipush 7, 2) := by decide +kernel
theorem dX8_spite_92 : decode cX8_spite 92 = .ok (.irem, 1) := by decide +kernel
theorem dX8_spite_93 : decode cX8_spite 93 = .ok (.isub, 1) := by decide +kernel
theorem dX8_spite_94 : decode cX8_spite 94 = .ok (.iconst 2, 1) := by decide +kernel
theorem dX8_spite_95 : decode cX8_spite 95 = .ok (.aload_n 0, 1) := by decide +kernel
theorem dX8_spite_96 : decode cX8_spite 96 = .ok (.getfield 15, 3) := by decide +kernel
theorem dX8_spite_99 : decode cX8_spite 99 = .ok (.iload_n 1, 1) := by decide +kernel
theorem dX8_spite_100 : decode cX8_spite 100 = .ok (.iaload, 1) := by decide +kernel
theorem dX8_spite_101 : decode cX8_spite 101 = .ok (.imul, 1) := by decide +kernel
theorem dX8_spite_102 : decode cX8_spite 102 = .ok (.isub, 1) := by decide +kernel
theorem dX8_spite_103 : decode cX8_spite 103 = .ok (.ireturn, 1) := by decide +kernel
theorem dX8_spite_104 : decode cX8_spite 104 = .ok (.iload_n 3, 1) := by decide +kernel
theorem dX8_spite_105 : decode cX8_spite 105 = .ok (.iconst 2, 1) := by decide +kernel
theorem dX8_spite_106 : decode cX8_spite 106 = .ok (.irem, 1) := by decide +kernel
theorem dX8_spite_107 : decode cX8_spite 107 = .ok (.iconst 1, 1) := by decide +kernel
theorem dX8_spite_108 : decode cX8_spite 108 = .ok (.if_icmp .ne 10, 3) := by decide +kernel
theorem dX8_spite_111 : decode cX8_spite 111 = .ok (.iload 4, 2) := by decide +kernel
theorem dX8_spite_113 : decode cX8_spite 113 = .ok (.iconst 2, 1) := by decide +kernel
theorem dX8_spite_114 : decode cX8_spite 114 = .ok (.idiv, 1) := by decide +kernel
theorem dX8_spite_115 : decode cX8_spite 115 = .ok (.goto 5, 3) := by decide +kernel
theorem dX8_spite_118 : decode cX8_spite 118 = .ok (.iload 4, 2) := by decide +kernel
theorem dX8_spite_120 : decode cX8_spite 120 = .ok (.iload_n 2, 1) := by decide +kernel
theorem dX8_spite_121 : decode cX8_spite 121 = .ok (.iload_n 1, 1) := by decide +kernel
theorem dX8_spite_122 : decode cX8_spite 122 = .ok (.if_icmp .le 8, 3) := by decide +kernel
theorem dX8_spite_125 : decode cX8_spite 125 = .ok (.bipush 20, 2) := by decide +kernel
theorem dX8_spite_127 : decode cX8_spite 127 = .ok (.goto 4, 3) := by decide +kernel
theorem dX8_spite_130 : decode cX8_spite 130 = .ok (.iconst 0, 1) := by decide +kernel
theorem dX8_spite_131 : decode cX8_spite 131 = .ok (.iadd, 1) := by decide +kernel
theorem dX8_spite_132 : decode cX8_spite 132 = .ok (.ireturn, 1) := by decide +kernel
theorem dX8_spite_133 : decode cX8_spite 133 = .ok (.iload 4, 2) := by decide +kernel
theorem dX8_spite_135 : decode cX8_spite 135 = .ok (.aload_n 0, 1) := by decide +kernel
theorem dX8_spite_136 : decode cX8_spite 136 = .ok (.getfield 15, 3) := by decide +kernel
theorem dX8_spite_139 : decode cX8_spite 139 = .ok (.iload_n 1, 1) := by decide +kernel
theorem dX8_spite_140 : decode cX8_spite 140 = .ok (.iaload, 1) := by decide +kernel
theorem dX8_spite_141 : decode cX8_spite 141 = .ok (.iadd, 1) := by decide +kernel
theorem dX8_spite_142 : decode cX8_spite 142 = .ok (.aload_n 0, 1) := by decide +kernel
theorem dX8_spite_143 : decode cX8_spite 143 = .ok (.getfield 27, 3) := by decide +kernel
theorem dX8_spite_146 : decode cX8_spite 146 = .ok (.iconst 4, 1) := by decide +kernel
theorem dX8_spite_147 : decode cX8_spite 147 = .ok (.iload_n 1, 1) := by decide +kernel
theorem dX8_spite_148 : decode cX8_spite 148 = .ok (.imul, 1) := by decide +kernel
theorem dX8_spite_149 : decode cX8_spite 149 = .ok (.iload_n 3, 1) := by decide +kernel
theorem dX8_spite_150 : decode cX8_spite 150 = .ok (.iconst 4, 1) := by decide +kernel
theorem dX8_spite_151 : decode cX8_spite 151 = .ok (.irem, 1) := by decide +kernel
theorem dX8_spite_152 : decode cX8_spite 152 = .ok (.iadd, 1) := by decide +kernel
theorem dX8_spite_153 : decode cX8_spite 153 = .ok (.iaload, 1) := by decide +kernel
theorem dX8_spite_154 : decode cX8_spite 154 = .ok (.iadd, 1) := by decide +kernel
theorem dX8_spite_155 : decode cX8_spite 155 = .ok (.ireturn, 1) := by decide +kernel
theorem dX8_spite_156 : decode cX8_spite 156 = .ok (.iload 4, 2) := by decide +kernel
theorem dX8_spite_158 : decode cX8_spite 158 = .ok (.ireturn, 1) := by decide +kernel
theorem dX8_does_0 : decode cX8_does 0 = .ok (.aload_n 0, 1) := by decide +kernel
theorem dX8_does_1 : decode cX8_does 1 = .ok (.iload_n 1, 1) := by decide +kernel
theorem dX8_does_2 : decode cX8_does 2 = .ok (.iload_n 2, 1) := by decide +kernel
theorem dX8_does_3 : decode cX8_does 3 = .ok (.iload_n 3, 1) := by decide +kernel
theorem dX8_does_4 : decode cX8_does 4 = .ok (.invokevirtual 140, 3) := by decide +kernel
theorem dX8_does_7 : decode cX8_does 7 = .ok (.aload_n 0, 1) := by decide +kernel
theorem dX8_does_8 : decode cX8_does 8 = .ok (.invokevirtual 239, 3) := by decide +kernel
theorem dX8_does_11 : decode cX8_does 11 = .ok (.if_icmp .lt 7, 3) := by decide +kernel
theorem dX8_does_14 : decode cX8_does 14 = .ok (.iconst 1, 1) := by decide +kernel
theorem dX8_does_15 : decode cX8_does 15 = .ok (.goto 4, 3) := by decide +kernel
theorem dX8_does_18 : decode cX8_does 18 = .ok (.iconst 0, 1) := by decide +kernel
theorem dX8_does_19 : decode cX8_does 19 = .ok (.ireturn, 1) := by decide +kernel
theorem dX8_isEnemy_0 : decode cX8_isEnemy 0 = .ok (.aload_n 0, 1) := by decide +kernel
theorem dX8_isEnemy_1 : decode cX8_isEnemy 1 = .ok (.getfield 18, 3) := by decide +kernel
theorem dX8_isEnemy_4 : decode cX8_isEnemy 4 = .ok (.iload_n 1, 1) := by decide +kernel
theorem dX8_isEnemy_5 : decode cX8_isEnemy 5 = .ok (.iaload, 1) := by decide +kernel
theorem dX8_isEnemy_6 : decode cX8_isEnemy 6 = .ok (.ifCond .ne 17, 3) := by decide +kernel
theorem dX8_isEnemy_9 : decode cX8_isEnemy 9 = .ok (.aload_n 0, 1) := by decide +kernel
theorem dX8_isEnemy_10 : decode cX8_isEnemy 10 = .ok (.iload_n 1, 1) := by decide +kernel
theorem dX8_isEnemy_11 : decode cX8_isEnemy 11 = .ok (.iload_n 2, 1) := by decide +kernel
theorem dX8_isEnemy_12 : decode cX8_isEnemy 12 = .ok (.iload_n 3, 1) := by decide +kernel
theorem dX8_isEnemy_13 : decode cX8_isEnemy 13 = .ok (.invokevirtual 242, 3) := by decide +kernel
theorem dX8_isEnemy_16 : decode cX8_isEnemy 16 = .ok (.ifCond .eq 7, 3) := by decide +kernel
theorem dX8_isEnemy_19 : decode cX8_isEnemy 19 = .ok (.iconst 1, 1) := by decide +kernel
theorem dX8_isEnemy_20 : decode cX8_isEnemy 20 = .ok (.goto 4, 3) := by decide +kernel
theorem dX8_isEnemy_23 : decode cX8_isEnemy 23 = .ok (.iconst 0, 1) := by decide +kernel
theorem dX8_isEnemy_24 : decode cX8_isEnemy 24 = .ok (.ireturn, 1) := by decide +kernel
theorem dX8_enemies_0 : decode cX8_enemies 0 = .ok (.iconst 0, 1) := by decide +kernel
theorem dX8_enemies_1 : decode cX8_enemies 1 = .ok (.istore_n 3, 1) := by decide +kernel
theorem dX8_enemies_2 : decode cX8_enemies 2 = .ok (.iconst 0, 1) := by decide +kernel
theorem dX8_enemies_3 : decode cX8_enemies 3 = .ok (.istore 4, 2) := by decide +kernel
theorem dX8_enemies_5 : decode cX8_enemies 5 = .ok (.iload 4, 2) := by decide +kernel
theorem dX8_enemies_7 : decode cX8_enemies 7 = .ok (.aload_n 0, 1) := by decide +kernel
theorem dX8_enemies_8 : decode cX8_enemies 8 = .ok (.getfield 114, 3) := by decide +kernel
theorem dX8_enemies_11 : decode cX8_enemies 11 = .ok (.if_icmp .ge 33, 3) := by decide +kernel
theorem dX8_enemies_14 : decode cX8_enemies 14 = .ok (.iload 4, 2) := by decide +kernel
theorem dX8_enemies_16 : decode cX8_enemies 16 = .ok (.iload_n 1, 1) := by decide +kernel
theorem dX8_enemies_17 : decode cX8_enemies 17 = .ok (.if_icmp .eq 21, 3) := by decide +kernel
theorem dX8_enemies_20 : decode cX8_enemies 20 = .ok (.aload_n 0, 1) := by decide +kernel
theorem dX8_enemies_21 : decode cX8_enemies 21 = .ok (.iload 4, 2) := by decide +kernel
theorem dX8_enemies_23 : decode cX8_enemies 23 = .ok (.iload_n 1, 1) := by decide +kernel
theorem dX8_enemies_24 : decode cX8_enemies 24 = .ok (.iload_n 2, 1) := by decide +kernel
theorem dX8_enemies_25 : decode cX8_enemies 25 = .ok (.invokevirtual 144, 3) := by decide +kernel
theorem dX8_enemies_28 : decode cX8_enemies 28 = .ok (.ifCond .eq 10, 3) := by decide +kernel
theorem dX8_enemies_31 : decode cX8_enemies 31 = .ok (.iload_n 3, 1) := by decide +kernel
theorem dX8_enemies_32 : decode cX8_enemies 32 = .ok (.iconst 1, 1) := by decide +kernel
theorem dX8_enemies_33 : decode cX8_enemies 33 = .ok (.iload 4, 2) := by decide +kernel
theorem dX8_enemies_35 : decode cX8_enemies 35 = .ok (.ishl, 1) := by decide +kernel
theorem dX8_enemies_36 : decode cX8_enemies 36 = .ok (.ior, 1) := by decide +kernel
theorem dX8_enemies_37 : decode cX8_enemies 37 = .ok (.istore_n 3, 1) := by decide +kernel
theorem dX8_enemies_38 : decode cX8_enemies 38 = .ok (.iinc 4 1, 3) := by decide +kernel
theorem dX8_enemies_41 : decode cX8_enemies 41 = .ok (.goto (-36), 3) := by decide +kernel
theorem dX8_enemies_44 : decode cX8_enemies 44 = .ok (.iload_n 3, 1) := by decide +kernel
theorem dX8_enemies_45 : decode cX8_enemies 45 = .ok (.ireturn, 1) := by decide +kernel
theorem dX8_howLong_0 : decode cX8_howLong 0 = .ok (.iconst 0, 1) := by decide +kernel
theorem dX8_howLong_1 : decode cX8_howLong 1 = .ok (.istore_n 3, 1) := by decide +kernel
theorem dX8_howLong_2 : decode cX8_howLong 2 = .ok (.iload_n 3, 1) := by decide +kernel
theorem dX8_howLong_3 : decode cX8_howLong 3 = .ok (.bipush 30, 2) := by decide +kernel
theorem dX8_howLong_5 : decode cX8_howLong 5 = .ok (.if_icmp .ge 24, 3) := by decide +kernel
theorem dX8_howLong_8 : decode cX8_howLong 8 = .ok (.aload_n 0, 1) := by decide +kernel
theorem dX8_howLong_9 : decode cX8_howLong 9 = .ok (.iload_n 1, 1) := by decide +kernel
theorem dX8_howLong_10 : decode cX8_howLong 10 = .ok (.iload_n 2, 1) := by decide +kernel
theorem dX8_howLong_11 : decode cX8_howLong 11 = .ok (.aload_n 0, 1) := by decide +kernel
theorem dX8_howLong_12 : decode cX8_howLong 12 = .ok (.getfield 125, 3) := by decide +kernel
theorem dX8_howLong_15 : decode cX8_howLong 15 = .ok (.iload_n 3, 1) := by decide +kernel
theorem dX8_howLong_16 : decode cX8_howLong 16 = .ok (.iadd, 1) := by decide +kernel
theorem dX8_howLong_17 : decode cX8_howLong 17 = .ok (.invokevirtual 144, 3) := by decide +kernel
theorem dX8_howLong_20 : decode cX8_howLong 20 = .ok (.ifCond .eq 9, 3) := by decide +kernel
theorem dX8_howLong_23 : decode cX8_howLong 23 = .ok (.iinc 3 1, 3) := by decide +kernel
theorem dX8_howLong_26 : decode cX8_howLong 26 = .ok (.goto (-24), 3) := by decide +kernel
theorem dX8_howLong_29 : decode cX8_howLong 29 = .ok (.iload_n 3, 1) := by decide +kernel
theorem dX8_howLong_30 : decode cX8_howLong 30 = .ok (.ireturn, 1) := by decide +kernel
theorem dX8_deadBits_0 : decode cX8_deadBits 0 = .ok (.iconst 0, 1) := by decide +kernel
theorem dX8_deadBits_1 : decode cX8_deadBits 1 = .ok (.istore_n 1, 1) := by decide +kernel
theorem dX8_deadBits_2 : decode cX8_deadBits 2 = .ok (.iconst 0, 1) := by decide +kernel
theorem dX8_deadBits_3 : decode cX8_deadBits 3 = .ok (.istore_n 2, 1) := by decide +kernel
theorem dX8_deadBits_4 : decode cX8_deadBits 4 = .ok (.iload_n 2, 1) := by decide +kernel
theorem dX8_deadBits_5 : decode cX8_deadBits 5 = .ok (.aload_n 0, 1) := by decide +kernel
theorem dX8_deadBits_6 : decode cX8_deadBits 6 = .ok (.getfield 114, 3) := by decide +kernel
theorem dX8_deadBits_9 : decode cX8_deadBits 9 = .ok (.if_icmp .ge 20, 3) := by decide +kernel
theorem dX8_deadBits_12 : decode cX8_deadBits 12 = .ok (.iload_n 1, 1) := by decide +kernel
theorem dX8_deadBits_13 : decode cX8_deadBits 13 = .ok (.aload_n 0, 1) := by decide +kernel
theorem dX8_deadBits_14 : decode cX8_deadBits 14 = .ok (.getfield 18, 3) := by decide +kernel
theorem dX8_deadBits_17 : decode cX8_deadBits 17 = .ok (.iload_n 2, 1) := by decide +kernel
theorem dX8_deadBits_18 : decode cX8_deadBits 18 = .ok (.iaload, 1) := by decide +kernel
theorem dX8_deadBits_19 : decode cX8_deadBits 19 = .ok (.iload_n 2, 1) := by decide +kernel
theorem dX8_deadBits_20 : decode cX8_deadBits 20 = .ok (.ishl, 1) := by decide +kernel
theorem dX8_deadBits_21 : decode cX8_deadBits 21 = .ok (.ior, 1) := by decide +kernel
theorem dX8_deadBits_22 : decode cX8_deadBits 22 = .ok (.istore_n 1, 1) := by decide +kernel
theorem dX8_deadBits_23 : decode cX8_deadBits 23 = .ok (.iinc 2 1, 3) := by decide +kernel
theorem dX8_deadBits_26 : decode cX8_deadBits 26 = .ok (.goto (-22), 3) := by decide +kernel
theorem dX8_deadBits_29 : decode cX8_deadBits 29 = .ok (.iload_n 1, 1) := by decide +kernel
theorem dX8_deadBits_30 : decode cX8_deadBits 30 = .ok (.ireturn, 1) := by decide +kernel
theorem dX8_buriedBits_0 : decode cX8_buriedBits 0 = .ok (.iconst 0, 1) := by decide +kernel
theorem dX8_buriedBits_1 : decode cX8_buriedBits 1 = .ok (.istore_n 1, 1) := by decide +kernel
theorem dX8_buriedBits_2 : decode cX8_buriedBits 2 = .ok (.iconst 0, 1) := by decide +kernel
theorem dX8_buriedBits_3 : decode cX8_buriedBits 3 = .ok (.istore_n 2, 1) := by decide +kernel
theorem dX8_buriedBits_4 : decode cX8_buriedBits 4 = .ok (.iload_n 2, 1) := by decide +kernel
theorem dX8_buriedBits_5 : decode cX8_buriedBits 5 = .ok (.aload_n 0, 1) := by decide +kernel
theorem dX8_buriedBits_6 : decode cX8_buriedBits 6 = .ok (.getfield 114, 3) := by decide +kernel
theorem dX8_buriedBits_9 : decode cX8_buriedBits 9 = .ok (.if_icmp .ge 20, 3) := by decide +kernel
theorem dX8_buriedBits_12 : decode cX8_buriedBits 12 = .ok (.iload_n 1, 1) := by decide +kernel
theorem dX8_buriedBits_13 : decode cX8_buriedBits 13 = .ok (.aload_n 0, 1) := by decide +kernel
theorem dX8_buriedBits_14 : decode cX8_buriedBits 14 = .ok (.getfield 21, 3) := by decide +kernel
theorem dX8_buriedBits_17 : decode cX8_buriedBits 17 = .ok (.iload_n 2, 1) := by decide +kernel
theorem dX8_buriedBits_18 : decode cX8_buriedBits 18 = .ok (.iaload, 1) := by decide +kernel
theorem dX8_buriedBits_19 : decode cX8_buriedBits 19 = .ok (.iload_n 2, 1) := by decide +kernel
theorem dX8_buriedBits_20 : decode cX8_buriedBits 20 = .ok (.ishl, 1) := by decide +kernel
theorem dX8_buriedBits_21 : decode cX8_buriedBits 21 = .ok (.ior, 1) := by decide +kernel
theorem dX8_buriedBits_22 : decode cX8_buriedBits 22 = .ok (.istore_n 1, 1) := by decide +kernel
theorem dX8_buriedBits_23 : decode cX8_buriedBits 23 = .ok (.iinc 2 1, 3) := by decide +kernel
theorem dX8_buriedBits_26 : decode cX8_buriedBits 26 = .ok (.goto (-22), 3) := by decide +kernel
theorem dX8_buriedBits_29 : decode cX8_buriedBits 29 = .ok (.iload_n 1, 1) := by decide +kernel
theorem dX8_buriedBits_30 : decode cX8_buriedBits 30 = .ok (.ireturn, 1) := by decide +kernel
theorem dX8_allHate_0 : decode cX8_allHate 0 = .ok (.iconst 0, 1) := by decide +kernel
theorem dX8_allHate_1 : decode cX8_allHate 1 = .ok (.istore_n 1, 1) := by decide +kernel
theorem dX8_allHate_2 : decode cX8_allHate 2 = .ok (.iconst 0, 1) := by decide +kernel
theorem dX8_allHate_3 : decode cX8_allHate 3 = .ok (.istore_n 2, 1) := by decide +kernel
theorem dX8_allHate_4 : decode cX8_allHate 4 = .ok (.iload_n 2, 1) := by decide +kernel
theorem dX8_allHate_5 : decode cX8_allHate 5 = .ok (.aload_n 0, 1) := by decide +kernel
theorem dX8_allHate_6 : decode cX8_allHate 6 = .ok (.getfield 114, 3) := by decide +kernel
theorem dX8_allHate_9 : decode cX8_allHate 9 = .ok (.if_icmp .ge 44, 3) := by decide +kernel
theorem dX8_allHate_12 : decode cX8_allHate 12 = .ok (.iconst 0, 1) := by decide +kernel
theorem dX8_allHate_13 : decode cX8_allHate 13 = .ok (.istore_n 3, 1) := by decide +kernel
theorem dX8_allHate_14 : decode cX8_allHate 14 = .ok (.iload_n 3, 1) := by decide +kernel
theorem dX8_allHate_15 : decode cX8_allHate 15 = .ok (.aload_n 0, 1) := by decide +kernel
theorem dX8_allHate_16 : decode cX8_allHate 16 = .ok (.getfield 114, 3) := by decide +kernel
theorem dX8_allHate_19 : decode cX8_allHate 19 = .ok (.if_icmp .ge 28, 3) := by decide +kernel
theorem dX8_allHate_22 : decode cX8_allHate 22 = .ok (.iload_n 2, 1) := by decide +kernel
theorem dX8_allHate_23 : decode cX8_allHate 23 = .ok (.iload_n 3, 1) := by decide +kernel
theorem dX8_allHate_24 : decode cX8_allHate 24 = .ok (.if_icmp .eq 17, 3) := by decide +kernel
theorem dX8_allHate_27 : decode cX8_allHate 27 = .ok (.iload_n 1, 1) := by decide +kernel
theorem dX8_allHate_28 : decode cX8_allHate 28 = .ok (.aload_n 0, 1) := by decide +kernel
theorem dX8_allHate_29 : decode cX8_allHate 29 = .ok (.getfield 30, 3) := by decide +kernel
theorem dX8_allHate_32 : decode cX8_allHate 32 = .ok (.bipush 6, 2) := by decide +kernel
theorem dX8_allHate_34 : decode cX8_allHate 34 = .ok (.iload_n 2, 1) := by decide +kernel
theorem dX8_allHate_35 : decode cX8_allHate 35 = .ok (.imul, 1) := by decide +kernel
theorem dX8_allHate_36 : decode cX8_allHate 36 = .ok (.iload_n 3, 1) := by decide +kernel
theorem dX8_allHate_37 : decode cX8_allHate 37 = .ok (.iadd, 1) := by decide +kernel
theorem dX8_allHate_38 : decode cX8_allHate 38 = .ok (.iaload, 1) := by decide +kernel
theorem dX8_allHate_39 : decode cX8_allHate 39 = .ok (.iadd, 1) := by decide +kernel
theorem dX8_allHate_40 : decode cX8_allHate 40 = .ok (.istore_n 1, 1) := by decide +kernel
theorem dX8_allHate_41 : decode cX8_allHate 41 = .ok (.iinc 3 1, 3) := by decide +kernel
theorem dX8_allHate_44 : decode cX8_allHate 44 = .ok (.goto (-30), 3) := by decide +kernel
theorem dX8_allHate_47 : decode cX8_allHate 47 = .ok (.iinc 2 1, 3) := by decide +kernel
theorem dX8_allHate_50 : decode cX8_allHate 50 = .ok (.goto (-46), 3) := by decide +kernel
theorem dX8_allHate_53 : decode cX8_allHate 53 = .ok (.iload_n 1, 1) := by decide +kernel
theorem dX8_allHate_54 : decode cX8_allHate 54 = .ok (.ireturn, 1) := by decide +kernel
theorem dX8_lonely_0 : decode cX8_lonely 0 = .ok (.iconst 0, 1) := by decide +kernel
theorem dX8_lonely_1 : decode cX8_lonely 1 = .ok (.istore_n 1, 1) := by decide +kernel
theorem dX8_lonely_2 : decode cX8_lonely 2 = .ok (.iconst 0, 1) := by decide +kernel
theorem dX8_lonely_3 : decode cX8_lonely 3 = .ok (.istore_n 2, 1) := by decide +kernel
theorem dX8_lonely_4 : decode cX8_lonely 4 = .ok (.iload_n 2, 1) := by decide +kernel
theorem dX8_lonely_5 : decode cX8_lonely 5 = .ok (.aload_n 0, 1) := by decide +kernel
theorem dX8_lonely_6 : decode cX8_lonely 6 = .ok (.getfield 114, 3) := by decide +kernel
theorem dX8_lonely_9 : decode cX8_lonely 9 = .ok (.if_icmp .ge 36, 3) := by decide +kernel
theorem dX8_lonely_12 : decode cX8_lonely 12 = .ok (.aload_n 0, 1) := by decide +kernel
theorem dX8_lonely_13 : decode cX8_lonely 13 = .ok (.getfield 18, 3) := by decide +kernel
theorem dX8_lonely_16 : decode cX8_lonely 16 = .ok (.iload_n 2, 1) := by decide +kernel
theorem dX8_lonely_17 : decode cX8_lonely 17 = .ok (.iaload, 1) := by decide +kernel
theorem dX8_lonely_18 : decode cX8_lonely 18 = .ok (.ifCond .ne 21, 3) := by decide +kernel
theorem dX8_lonely_21 : decode cX8_lonely 21 = .ok (.aload_n 0, 1) := by decide +kernel
theorem dX8_lonely_22 : decode cX8_lonely 22 = .ok (.iload_n 2, 1) := by decide +kernel
theorem dX8_lonely_23 : decode cX8_lonely 23 = .ok (.aload_n 0, 1) := by decide +kernel
theorem dX8_lonely_24 : decode cX8_lonely 24 = .ok (.getfield 125, 3) := by decide +kernel
theorem dX8_lonely_27 : decode cX8_lonely 27 = .ok (.invokevirtual 128, 3) := by decide +kernel
theorem dX8_lonely_30 : decode cX8_lonely 30 = .ok (.ifCond .ne 9, 3) := by decide +kernel
theorem dX8_lonely_33 : decode cX8_lonely 33 = .ok (.iload_n 1, 1) := by decide +kernel
theorem dX8_lonely_34 : decode cX8_lonely 34 = .ok (.iconst 1, 1) := by decide +kernel
theorem dX8_lonely_35 : decode cX8_lonely 35 = .ok (.iload_n 2, 1) := by decide +kernel
theorem dX8_lonely_36 : decode cX8_lonely 36 = .ok (.ishl, 1) := by decide +kernel
theorem dX8_lonely_37 : decode cX8_lonely 37 = .ok (.ior, 1) := by decide +kernel
theorem dX8_lonely_38 : decode cX8_lonely 38 = .ok (.istore_n 1, 1) := by decide +kernel
theorem dX8_lonely_39 : decode cX8_lonely 39 = .ok (.iinc 2 1, 3) := by decide +kernel
theorem dX8_lonely_42 : decode cX8_lonely 42 = .ok (.goto (-38), 3) := by decide +kernel
theorem dX8_lonely_45 : decode cX8_lonely 45 = .ok (.iload_n 1, 1) := by decide +kernel
theorem dX8_lonely_46 : decode cX8_lonely 46 = .ok (.ireturn, 1) := by decide +kernel
theorem dX8_keepsAll_0 : decode cX8_keepsAll 0 = .ok (.iconst 0, 1) := by decide +kernel
theorem dX8_keepsAll_1 : decode cX8_keepsAll 1 = .ok (.istore_n 2, 1) := by decide +kernel
theorem dX8_keepsAll_2 : decode cX8_keepsAll 2 = .ok (.iload_n 2, 1) := by decide +kernel
theorem dX8_keepsAll_3 : decode cX8_keepsAll 3 = .ok (.aload_n 0, 1) := by decide +kernel
theorem dX8_keepsAll_4 : decode cX8_keepsAll 4 = .ok (.getfield 114, 3) := by decide +kernel
theorem dX8_keepsAll_7 : decode cX8_keepsAll 7 = .ok (.if_icmp .ge 34, 3) := by decide +kernel
theorem dX8_keepsAll_10 : decode cX8_keepsAll 10 = .ok (.aload_n 0, 1) := by decide +kernel
theorem dX8_keepsAll_11 : decode cX8_keepsAll 11 = .ok (.getfield 18, 3) := by decide +kernel
theorem dX8_keepsAll_14 : decode cX8_keepsAll 14 = .ok (.iload_n 2, 1) := by decide +kernel
theorem dX8_keepsAll_15 : decode cX8_keepsAll 15 = .ok (.iaload, 1) := by decide +kernel
theorem dX8_keepsAll_16 : decode cX8_keepsAll 16 = .ok (.ifCond .ne 19, 3) := by decide +kernel
theorem dX8_keepsAll_19 : decode cX8_keepsAll 19 = .ok (.aload_n 0, 1) := by decide +kernel
theorem dX8_keepsAll_20 : decode cX8_keepsAll 20 = .ok (.iload_n 2, 1) := by decide +kernel
theorem dX8_keepsAll_21 : decode cX8_keepsAll 21 = .ok (.aload_n 0, 1) := by decide +kernel
theorem dX8_keepsAll_22 : decode cX8_keepsAll 22 = .ok (.getfield 125, 3) := by decide +kernel
theorem dX8_keepsAll_25 : decode cX8_keepsAll 25 = .ok (.invokevirtual 128, 3) := by decide +kernel
theorem dX8_keepsAll_28 : decode cX8_keepsAll 28 = .ok (.iload_n 1, 1) := by decide +kernel
theorem dX8_keepsAll_29 : decode cX8_keepsAll 29 = .ok (.iand, 1) := by decide +kernel
theorem dX8_keepsAll_30 : decode cX8_keepsAll 30 = .ok (.ifCond .ne 5, 3) := by decide +kernel
theorem dX8_keepsAll_33 : decode cX8_keepsAll 33 = .ok (.iconst 0, 1) := by decide +kernel
theorem dX8_keepsAll_34 : decode cX8_keepsAll 34 = .ok (.ireturn, 1) := by decide +kernel
theorem dX8_keepsAll_35 : decode cX8_keepsAll 35 = .ok (.iinc 2 1, 3) := by decide +kernel
theorem dX8_keepsAll_38 : decode cX8_keepsAll 38 = .ok (.goto (-36), 3) := by decide +kernel
theorem dX8_keepsAll_41 : decode cX8_keepsAll 41 = .ok (.iconst 1, 1) := by decide +kernel
theorem dX8_keepsAll_42 : decode cX8_keepsAll 42 = .ok (.ireturn, 1) := by decide +kernel
theorem dX8_keepers_0 : decode cX8_keepers 0 = .ok (.bipush (-5), 2) := by decide +kernel
theorem dX8_keepers_2 : decode cX8_keepers 2 = .ok (.istore_n 1, 1) := by decide +kernel
theorem dX8_keepers_3 : decode cX8_keepers 3 = .ok (.aload_n 0, 1) := by decide +kernel
theorem dX8_keepers_4 : decode cX8_keepers 4 = .ok (.invokevirtual 245, 3) := by decide +kernel
theorem dX8_keepers_7 : decode cX8_keepers 7 = .ok (.istore_n 2, 1) := by decide +kernel
theorem dX8_keepers_8 : decode cX8_keepers 8 = .ok (.iconst 0, 1) := by decide +kernel
theorem dX8_keepers_9 : decode cX8_keepers 9 = .ok (.istore_n 3, 1) := by decide +kernel
theorem dX8_keepers_10 : decode cX8_keepers 10 = .ok (.iload_n 3, 1) := by decide +kernel
theorem dX8_keepers_11 : decode cX8_keepers 11 = .ok (.iconst 1, 1) := by decide +kernel
theorem dX8_keepers_12 : decode cX8_keepers 12 = .ok (.aload_n 0, 1) := by decide +kernel
theorem dX8_keepers_13 : decode cX8_keepers 13 = .ok (.getfield 114, 3) := by decide +kernel
theorem dX8_keepers_16 : decode cX8_keepers 16 = .ok (.ishl, 1) := by decide +kernel
theorem dX8_keepers_17 : decode cX8_keepers 17 = .ok (.if_icmp .ge 42, 3) := by decide +kernel
theorem dX8_keepers_20 : decode cX8_keepers 20 = .ok (.iload_n 3, 1) := by decide +kernel
theorem dX8_keepers_21 : decode cX8_keepers 21 = .ok (.iload_n 2, 1) := by decide +kernel
theorem dX8_keepers_22 : decode cX8_keepers 22 = .ok (.iand, 1) := by decide +kernel
theorem dX8_keepers_23 : decode cX8_keepers 23 = .ok (.ifCond .ne 30, 3) := by decide +kernel
theorem dX8_keepers_26 : decode cX8_keepers 26 = .ok (.iload_n 1, 1) := by decide +kernel
theorem dX8_keepers_27 : decode cX8_keepers 27 = .ok (.bipush (-5), 2) := by decide +kernel
theorem dX8_keepers_29 : decode cX8_keepers 29 = .ok (.if_icmp .eq 14, 3) := by decide +kernel
theorem dX8_keepers_32 : decode cX8_keepers 32 = .ok (.iload_n 3, 1) := by decide +kernel
theorem dX8_keepers_33 : decode cX8_keepers 33 = .ok (.invokestatic 248, 3) := by decide +kernel
theorem dX8_keepers_36 : decode cX8_keepers 36 = .ok (.iload_n 1, 1) := by decide +kernel
theorem dX8_keepers_37 : decode cX8_keepers 37 = .ok (.invokestatic 248, 3) := by decide +kernel
theorem dX8_keepers_40 : decode cX8_keepers 40 = .ok (.if_icmp .ge 13, 3) := by decide +kernel
theorem dX8_keepers_43 : decode cX8_keepers 43 = .ok (.aload_n 0, 1) := by decide +kernel
theorem dX8_keepers_44 : decode cX8_keepers 44 = .ok (.iload_n 3, 1) := by decide +kernel
theorem dX8_keepers_45 : decode cX8_keepers 45 = .ok (.invokevirtual 253, 3) := by decide +kernel
theorem dX8_keepers_48 : decode cX8_keepers 48 = .ok (.ifCond .eq 5, 3) := by decide +kernel
theorem dX8_keepers_51 : decode cX8_keepers 51 = .ok (.iload_n 3, 1) := by decide +kernel
theorem dX8_keepers_52 : decode cX8_keepers 52 = .ok (.istore_n 1, 1) := by decide +kernel
theorem dX8_keepers_53 : decode cX8_keepers 53 = .ok (.iinc 3 1, 3) := by decide +kernel
theorem dX8_keepers_56 : decode cX8_keepers 56 = .ok (.goto (-46), 3) := by decide +kernel
theorem dX8_keepers_59 : decode cX8_keepers 59 = .ok (.iload_n 1, 1) := by decide +kernel
theorem dX8_keepers_60 : decode cX8_keepers 60 = .ok (.ireturn, 1) := by decide +kernel
theorem dX8_told_0 : decode cX8_told 0 = .ok (.iload_n 1, 1) := by decide +kernel
theorem dX8_told_1 : decode cX8_told 1 = .ok (.tableswitch 87 0 7 #[47, 52, 57, 62, 67, 72, 77, 82], 47) := by decide +kernel
theorem dX8_told_48 : decode cX8_told 48 = .ok (.aload_n 0, 1) := by decide +kernel
theorem dX8_told_49 : decode cX8_told 49 = .ok (.getfield 125, 3) := by decide +kernel
theorem dX8_told_52 : decode cX8_told 52 = .ok (.ireturn, 1) := by decide +kernel
theorem dX8_told_53 : decode cX8_told 53 = .ok (.aload_n 0, 1) := by decide +kernel
theorem dX8_told_54 : decode cX8_told 54 = .ok (.invokevirtual 239, 3) := by decide +kernel
theorem dX8_told_57 : decode cX8_told 57 = .ok (.ireturn, 1) := by decide +kernel
theorem dX8_told_58 : decode cX8_told 58 = .ok (.aload_n 0, 1) := by decide +kernel
theorem dX8_told_59 : decode cX8_told 59 = .ok (.invokevirtual 245, 3) := by decide +kernel
theorem dX8_told_62 : decode cX8_told 62 = .ok (.ireturn, 1) := by decide +kernel
theorem dX8_told_63 : decode cX8_told 63 = .ok (.aload_n 0, 1) := by decide +kernel
theorem dX8_told_64 : decode cX8_told 64 = .ok (.invokevirtual 256, 3) := by decide +kernel
theorem dX8_told_67 : decode cX8_told 67 = .ok (.ireturn, 1) := by decide +kernel
theorem dX8_told_68 : decode cX8_told 68 = .ok (.aload_n 0, 1) := by decide +kernel
theorem dX8_told_69 : decode cX8_told 69 = .ok (.invokevirtual 259, 3) := by decide +kernel
theorem dX8_told_72 : decode cX8_told 72 = .ok (.ireturn, 1) := by decide +kernel
theorem dX8_told_73 : decode cX8_told 73 = .ok (.aload_n 0, 1) := by decide +kernel
theorem dX8_told_74 : decode cX8_told 74 = .ok (.invokevirtual 262, 3) := by decide +kernel
theorem dX8_told_77 : decode cX8_told 77 = .ok (.ireturn, 1) := by decide +kernel
theorem dX8_told_78 : decode cX8_told 78 = .ok (.aload_n 0, 1) := by decide +kernel
theorem dX8_told_79 : decode cX8_told 79 = .ok (.invokevirtual 265, 3) := by decide +kernel
theorem dX8_told_82 : decode cX8_told 82 = .ok (.ireturn, 1) := by decide +kernel
theorem dX8_told_83 : decode cX8_told 83 = .ok (.aload_n 0, 1) := by decide +kernel
theorem dX8_told_84 : decode cX8_told 84 = .ok (.invokevirtual 268, 3) := by decide +kernel
theorem dX8_told_87 : decode cX8_told 87 = .ok (.ireturn, 1) := by decide +kernel
theorem dX8_told_88 : decode cX8_told 88 = .ok (.iconst (-1), 1) := by decide +kernel
theorem dX8_told_89 : decode cX8_told 89 = .ok (.ireturn, 1) := by decide +kernel
theorem dX8_goesDay_0 : decode cX8_goesDay 0 = .ok (.iconst 0, 1) := by decide +kernel
theorem dX8_goesDay_1 : decode cX8_goesDay 1 = .ok (.istore_n 1, 1) := by decide +kernel
theorem dX8_goesDay_2 : decode cX8_goesDay 2 = .ok (.iconst 0, 1) := by decide +kernel
theorem dX8_goesDay_3 : decode cX8_goesDay 3 = .ok (.istore_n 2, 1) := by decide +kernel
theorem dX8_goesDay_4 : decode cX8_goesDay 4 = .ok (.iload_n 2, 1) := by decide +kernel
theorem dX8_goesDay_5 : decode cX8_goesDay 5 = .ok (.aload_n 0, 1) := by decide +kernel
theorem dX8_goesDay_6 : decode cX8_goesDay 6 = .ok (.getfield 114, 3) := by decide +kernel
theorem dX8_goesDay_9 : decode cX8_goesDay 9 = .ok (.if_icmp .ge 96, 3) := by decide +kernel
theorem dX8_goesDay_12 : decode cX8_goesDay 12 = .ok (.aload_n 0, 1) := by decide +kernel
theorem dX8_goesDay_13 : decode cX8_goesDay 13 = .ok (.getfield 18, 3) := by decide +kernel
theorem dX8_goesDay_16 : decode cX8_goesDay 16 = .ok (.iload_n 2, 1) := by decide +kernel
theorem dX8_goesDay_17 : decode cX8_goesDay 17 = .ok (.iaload, 1) := by decide +kernel
theorem dX8_goesDay_18 : decode cX8_goesDay 18 = .ok (.ifCond .eq 81, 3) := by decide +kernel
theorem dX8_goesDay_21 : decode cX8_goesDay 21 = .ok (.aload_n 0, 1) := by decide +kernel
theorem dX8_goesDay_22 : decode cX8_goesDay 22 = .ok (.getfield 21, 3) := by decide +kernel
theorem dX8_goesDay_25 : decode cX8_goesDay 25 = .ok (.iload_n 2, 1) := by decide +kernel
theorem dX8_goesDay_26 : decode cX8_goesDay 26 = .ok (.iaload, 1) := by decide +kernel
theorem dX8_goesDay_27 : decode cX8_goesDay 27 = .ok (.iconst 1, 1) := by decide +kernel
theorem dX8_goesDay_28 : decode cX8_goesDay 28 = .ok (.if_icmp .ne 6, 3) := by decide +kernel
theorem dX8_goesDay_31 : decode cX8_goesDay 31 = .ok (.goto 68, 3) := by decide +kernel
theorem dX8_goesDay_34 : decode cX8_goesDay 34 = .ok (.aload_n 0, 1) := by decide +kernel
theorem dX8_goesDay_35 : decode cX8_goesDay 35 = .ok (.iload_n 2, 1) := by decide +kernel
theorem dX8_goesDay_36 : decode cX8_goesDay 36 = .ok (.aload_n 0, 1) := by decide +kernel
theorem dX8_goesDay_37 : decode cX8_goesDay 37 = .ok (.getfield 125, 3) := by decide +kernel
theorem dX8_goesDay_40 : decode cX8_goesDay 40 = .ok (.invokevirtual 128, 3) := by decide +kernel
theorem dX8_goesDay_43 : decode cX8_goesDay 43 = .ok (.iload_n 1, 1) := by decide +kernel
theorem dX8_goesDay_44 : decode cX8_goesDay 44 = .ok (.iconst (-1), 1) := by decide +kernel
theorem dX8_goesDay_45 : decode cX8_goesDay 45 = .ok (.ixor, 1) := by decide +kernel
theorem dX8_goesDay_46 : decode cX8_goesDay 46 = .ok (.iand, 1) := by decide +kernel
theorem dX8_goesDay_47 : decode cX8_goesDay 47 = .ok (.istore_n 3, 1) := by decide +kernel
theorem dX8_goesDay_48 : decode cX8_goesDay 48 = .ok (.iload_n 3, 1) := by decide +kernel
theorem dX8_goesDay_49 : decode cX8_goesDay 49 = .ok (.ifCond .ne 6, 3) := by decide +kernel
theorem dX8_goesDay_52 : decode cX8_goesDay 52 = .ok (.goto 47, 3) := by decide +kernel
theorem dX8_goesDay_55 : decode cX8_goesDay 55 = .ok (.iload_n 3, 1) := by decide +kernel
theorem dX8_goesDay_56 : decode cX8_goesDay 56 = .ok (.invokestatic 271, 3) := by decide +kernel
theorem dX8_goesDay_59 : decode cX8_goesDay 59 = .ok (.istore 4, 2) := by decide +kernel
theorem dX8_goesDay_61 : decode cX8_goesDay 61 = .ok (.iload_n 1, 1) := by decide +kernel
theorem dX8_goesDay_62 : decode cX8_goesDay 62 = .ok (.iconst 1, 1) := by decide +kernel
theorem dX8_goesDay_63 : decode cX8_goesDay 63 = .ok (.iload 4, 2) := by decide +kernel
theorem dX8_goesDay_65 : decode cX8_goesDay 65 = .ok (.ishl, 1) := by decide +kernel
theorem dX8_goesDay_66 : decode cX8_goesDay 66 = .ok (.ior, 1) := by decide +kernel
theorem dX8_goesDay_67 : decode cX8_goesDay 67 = .ok (.istore_n 1, 1) := by decide +kernel
theorem dX8_goesDay_68 : decode cX8_goesDay 68 = .ok (.aload_n 0, 1) := by decide +kernel
theorem dX8_goesDay_69 : decode cX8_goesDay 69 = .ok (.getfield 21, 3) := by decide +kernel
theorem dX8_goesDay_72 : decode cX8_goesDay 72 = .ok (.iload_n 2, 1) := by decide +kernel
theorem dX8_goesDay_73 : decode cX8_goesDay 73 = .ok (.iconst 1, 1) := by decide +kernel
theorem dX8_goesDay_74 : decode cX8_goesDay 74 = .ok (.iastore, 1) := by decide +kernel
theorem dX8_goesDay_75 : decode cX8_goesDay 75 = .ok (.aload_n 0, 1) := by decide +kernel
theorem dX8_goesDay_76 : decode cX8_goesDay 76 = .ok (.getfield 24, 3) := by decide +kernel
theorem dX8_goesDay_79 : decode cX8_goesDay 79 = .ok (.iload 4, 2) := by decide +kernel
theorem dX8_goesDay_81 : decode cX8_goesDay 81 = .ok (.dup2, 1) := by decide +kernel
theorem dX8_goesDay_82 : decode cX8_goesDay 82 = .ok (.iaload, 1) := by decide +kernel
theorem dX8_goesDay_83 : decode cX8_goesDay 83 = .ok (.iconst 1, 1) := by decide +kernel
theorem dX8_goesDay_84 : decode cX8_goesDay 84 = .ok (.iadd, 1) := by decide +kernel
theorem dX8_goesDay_85 : decode cX8_goesDay 85 = .ok (.iastore, 1) := by decide +kernel
theorem dX8_goesDay_86 : decode cX8_goesDay 86 = .ok (.aload_n 0, 1) := by decide +kernel
theorem dX8_goesDay_87 : decode cX8_goesDay 87 = .ok (.getfield 30, 3) := by decide +kernel
theorem dX8_goesDay_90 : decode cX8_goesDay 90 = .ok (.bipush 6, 2) := by decide +kernel
theorem dX8_goesDay_92 : decode cX8_goesDay 92 = .ok (.iload 4, 2) := by decide +kernel
theorem dX8_goesDay_94 : decode cX8_goesDay 94 = .ok (.imul, 1) := by decide +kernel
theorem dX8_goesDay_95 : decode cX8_goesDay 95 = .ok (.iload_n 2, 1) := by decide +kernel
theorem dX8_goesDay_96 : decode cX8_goesDay 96 = .ok (.iadd, 1) := by decide +kernel
theorem dX8_goesDay_97 : decode cX8_goesDay 97 = .ok (.iconst 0, 1) := by decide +kernel
theorem dX8_goesDay_98 : decode cX8_goesDay 98 = .ok (.iastore, 1) := by decide +kernel
theorem dX8_goesDay_99 : decode cX8_goesDay 99 = .ok (.iinc 2 1, 3) := by decide +kernel
theorem dX8_goesDay_102 : decode cX8_goesDay 102 = .ok (.goto (-98), 3) := by decide +kernel
theorem dX8_goesDay_105 : decode cX8_goesDay 105 = .ok (.aload_n 0, 1) := by decide +kernel
theorem dX8_goesDay_106 : decode cX8_goesDay 106 = .ok (.dup, 1) := by decide +kernel
theorem dX8_goesDay_107 : decode cX8_goesDay 107 = .ok (.getfield 125, 3) := by decide +kernel
theorem dX8_goesDay_110 : decode cX8_goesDay 110 = .ok (.iconst 1, 1) := by decide +kernel
theorem dX8_goesDay_111 : decode cX8_goesDay 111 = .ok (.iadd, 1) := by decide +kernel
theorem dX8_goesDay_112 : decode cX8_goesDay 112 = .ok (.putfield 125, 3) := by decide +kernel
theorem dX8_goesDay_115 : decode cX8_goesDay 115 = .ok (.return_, 1) := by decide +kernel
theorem dX8_pass_0 : decode cX8_pass 0 = .ok (.iload_n 1, 1) := by decide +kernel
theorem dX8_pass_1 : decode cX8_pass 1 = .ok (.iconst 0, 1) := by decide +kernel
theorem dX8_pass_2 : decode cX8_pass 2 = .ok (.bipush 60, 2) := by decide +kernel
theorem dX8_pass_4 : decode cX8_pass 4 = .ok (.invokestatic 117, 3) := by decide +kernel
theorem dX8_pass_7 : decode cX8_pass 7 = .ok (.ifCond .ne 6, 3) := by decide +kernel
theorem dX8_pass_10 : decode cX8_pass 10 = .ok (.bipush (-2), 2) := by decide +kernel
theorem dX8_pass_12 : decode cX8_pass 12 = .ok (.ireturn, 1) := by decide +kernel
theorem dX8_pass_13 : decode cX8_pass 13 = .ok (.aload_n 0, 1) := by decide +kernel
theorem dX8_pass_14 : decode cX8_pass 14 = .ok (.getfield 125, 3) := by decide +kernel
theorem dX8_pass_17 : decode cX8_pass 17 = .ok (.iload_n 1, 1) := by decide +kernel
theorem dX8_pass_18 : decode cX8_pass 18 = .ok (.iadd, 1) := by decide +kernel
theorem dX8_pass_19 : decode cX8_pass 19 = .ok (.sipush 9999, 3) := by decide +kernel
theorem dX8_pass_22 : decode cX8_pass 22 = .ok (.if_icmp .le 6, 3) := by decide +kernel
theorem dX8_pass_25 : decode cX8_pass 25 = .ok (.bipush (-3), 2) := by decide +kernel
theorem dX8_pass_27 : decode cX8_pass 27 = .ok (.ireturn, 1) := by decide +kernel
theorem dX8_pass_28 : decode cX8_pass 28 = .ok (.iconst 0, 1) := by decide +kernel
theorem dX8_pass_29 : decode cX8_pass 29 = .ok (.istore_n 2, 1) := by decide +kernel
theorem dX8_pass_30 : decode cX8_pass 30 = .ok (.iload_n 2, 1) := by decide +kernel
theorem dX8_pass_31 : decode cX8_pass 31 = .ok (.iload_n 1, 1) := by decide +kernel
theorem dX8_pass_32 : decode cX8_pass 32 = .ok (.if_icmp .ge 47, 3) := by decide +kernel
theorem dX8_pass_35 : decode cX8_pass 35 = .ok (.aload_n 0, 1) := by decide +kernel
theorem dX8_pass_36 : decode cX8_pass 36 = .ok (.invokevirtual 274, 3) := by decide +kernel
theorem dX8_pass_39 : decode cX8_pass 39 = .ok (.iconst 0, 1) := by decide +kernel
theorem dX8_pass_40 : decode cX8_pass 40 = .ok (.istore_n 3, 1) := by decide +kernel
theorem dX8_pass_41 : decode cX8_pass 41 = .ok (.iload_n 3, 1) := by decide +kernel
theorem dX8_pass_42 : decode cX8_pass 42 = .ok (.aload_n 0, 1) := by decide +kernel
theorem dX8_pass_43 : decode cX8_pass 43 = .ok (.getfield 114, 3) := by decide +kernel
theorem dX8_pass_46 : decode cX8_pass 46 = .ok (.if_icmp .ge 27, 3) := by decide +kernel
theorem dX8_pass_49 : decode cX8_pass 49 = .ok (.aload_n 0, 1) := by decide +kernel
theorem dX8_pass_50 : decode cX8_pass 50 = .ok (.getfield 24, 3) := by decide +kernel
theorem dX8_pass_53 : decode cX8_pass 53 = .ok (.iload_n 3, 1) := by decide +kernel
theorem dX8_pass_54 : decode cX8_pass 54 = .ok (.sipush 9999, 3) := by decide +kernel
theorem dX8_pass_57 : decode cX8_pass 57 = .ok (.aload_n 0, 1) := by decide +kernel
theorem dX8_pass_58 : decode cX8_pass 58 = .ok (.getfield 24, 3) := by decide +kernel
theorem dX8_pass_61 : decode cX8_pass 61 = .ok (.iload_n 3, 1) := by decide +kernel
theorem dX8_pass_62 : decode cX8_pass 62 = .ok (.iaload, 1) := by decide +kernel
theorem dX8_pass_63 : decode cX8_pass 63 = .ok (.invokestatic 277, 3) := by decide +kernel
theorem dX8_pass_66 : decode cX8_pass 66 = .ok (.iastore, 1) := by decide +kernel
theorem dX8_pass_67 : decode cX8_pass 67 = .ok (.iinc 3 1, 3) := by decide +kernel
theorem dX8_pass_70 : decode cX8_pass 70 = .ok (.goto (-29), 3) := by decide +kernel
theorem dX8_pass_73 : decode cX8_pass 73 = .ok (.iinc 2 1, 3) := by decide +kernel
theorem dX8_pass_76 : decode cX8_pass 76 = .ok (.goto (-46), 3) := by decide +kernel
theorem dX8_pass_79 : decode cX8_pass 79 = .ok (.aload_n 0, 1) := by decide +kernel
theorem dX8_pass_80 : decode cX8_pass 80 = .ok (.getfield 125, 3) := by decide +kernel
theorem dX8_pass_83 : decode cX8_pass 83 = .ok (.ireturn, 1) := by decide +kernel
theorem dX8_isAsked_0 : decode cX8_isAsked 0 = .ok (.iload_n 1, 1) := by decide +kernel
theorem dX8_isAsked_1 : decode cX8_isAsked 1 = .ok (.ifCond .eq 20, 3) := by decide +kernel
theorem dX8_isAsked_4 : decode cX8_isAsked 4 = .ok (.aload_n 0, 1) := by decide +kernel
theorem dX8_isAsked_5 : decode cX8_isAsked 5 = .ok (.iload_n 1, 1) := by decide +kernel
theorem dX8_isAsked_6 : decode cX8_isAsked 6 = .ok (.bipush 10, 2) := by decide +kernel
theorem dX8_isAsked_8 : decode cX8_isAsked 8 = .ok (.isub, 1) := by decide +kernel
theorem dX8_isAsked_9 : decode cX8_isAsked 9 = .ok (.invokevirtual 121, 3) := by decide +kernel
theorem dX8_isAsked_12 : decode cX8_isAsked 12 = .ok (.ifCond .eq 11, 3) := by decide +kernel
theorem dX8_isAsked_15 : decode cX8_isAsked 15 = .ok (.iload_n 1, 1) := by decide +kernel
theorem dX8_isAsked_16 : decode cX8_isAsked 16 = .ok (.bipush 16, 2) := by decide +kernel
theorem dX8_isAsked_18 : decode cX8_isAsked 18 = .ok (.if_icmp .ge 5, 3) := by decide +kernel
theorem dX8_isAsked_21 : decode cX8_isAsked 21 = .ok (.iconst 1, 1) := by decide +kernel
theorem dX8_isAsked_22 : decode cX8_isAsked 22 = .ok (.ireturn, 1) := by decide +kernel
theorem dX8_isAsked_23 : decode cX8_isAsked 23 = .ok (.iload_n 1, 1) := by decide +kernel
theorem dX8_isAsked_24 : decode cX8_isAsked 24 = .ok (.bipush 20, 2) := by decide +kernel
theorem dX8_isAsked_26 : decode cX8_isAsked 26 = .ok (.bipush 55, 2) := by decide +kernel
theorem dX8_isAsked_28 : decode cX8_isAsked 28 = .ok (.invokestatic 117, 3) := by decide +kernel
theorem dX8_isAsked_31 : decode cX8_isAsked 31 = .ok (.ifCond .eq 28, 3) := by decide +kernel
theorem dX8_isAsked_34 : decode cX8_isAsked 34 = .ok (.aload_n 0, 1) := by decide +kernel
theorem dX8_isAsked_35 : decode cX8_isAsked 35 = .ok (.iload_n 1, 1) := by decide +kernel
theorem dX8_isAsked_36 : decode cX8_isAsked 36 = .ok (.bipush 20, 2) := by decide +kernel
theorem dX8_isAsked_38 : decode cX8_isAsked 38 = .ok (.isub, 1) := by decide +kernel
theorem dX8_isAsked_39 : decode cX8_isAsked 39 = .ok (.bipush 6, 2) := by decide +kernel
theorem dX8_isAsked_41 : decode cX8_isAsked 41 = .ok (.idiv, 1) := by decide +kernel
theorem dX8_isAsked_42 : decode cX8_isAsked 42 = .ok (.iload_n 1, 1) := by decide +kernel
theorem dX8_isAsked_43 : decode cX8_isAsked 43 = .ok (.bipush 20, 2) := by decide +kernel
theorem dX8_isAsked_45 : decode cX8_isAsked 45 = .ok (.isub, 1) := by decide +kernel
theorem dX8_isAsked_46 : decode cX8_isAsked 46 = .ok (.bipush 6, 2) := by decide +kernel
theorem dX8_isAsked_48 : decode cX8_isAsked 48 = .ok (.irem, 1) := by decide +kernel
theorem dX8_isAsked_49 : decode cX8_isAsked 49 = .ok (.invokevirtual 136, 3) := by decide +kernel
theorem dX8_isAsked_52 : decode cX8_isAsked 52 = .ok (.ifCond .eq 7, 3) := by decide +kernel
theorem dX8_isAsked_55 : decode cX8_isAsked 55 = .ok (.iconst 1, 1) := by decide +kernel
theorem dX8_isAsked_56 : decode cX8_isAsked 56 = .ok (.goto 4, 3) := by decide +kernel
theorem dX8_isAsked_59 : decode cX8_isAsked 59 = .ok (.iconst 0, 1) := by decide +kernel
theorem dX8_isAsked_60 : decode cX8_isAsked 60 = .ok (.ireturn, 1) := by decide +kernel
theorem dX8_heldHate_0 : decode cX8_heldHate 0 = .ok (.iload_n 1, 1) := by decide +kernel
theorem dX8_heldHate_1 : decode cX8_heldHate 1 = .ok (.bipush 6, 2) := by decide +kernel
theorem dX8_heldHate_3 : decode cX8_heldHate 3 = .ok (.idiv, 1) := by decide +kernel
theorem dX8_heldHate_4 : decode cX8_heldHate 4 = .ok (.iload_n 1, 1) := by decide +kernel
theorem dX8_heldHate_5 : decode cX8_heldHate 5 = .ok (.bipush 6, 2) := by decide +kernel
theorem dX8_heldHate_7 : decode cX8_heldHate 7 = .ok (.irem, 1) := by decide +kernel
theorem dX8_heldHate_8 : decode cX8_heldHate 8 = .ok (.if_icmp .ne 7, 3) := by decide +kernel
theorem dX8_heldHate_11 : decode cX8_heldHate 11 = .ok (.iconst 0, 1) := by decide +kernel
theorem dX8_heldHate_12 : decode cX8_heldHate 12 = .ok (.goto 9, 3) := by decide +kernel
theorem dX8_heldHate_15 : decode cX8_heldHate 15 = .ok (.aload_n 0, 1) := by decide +kernel
theorem dX8_heldHate_16 : decode cX8_heldHate 16 = .ok (.getfield 30, 3) := by decide +kernel
theorem dX8_heldHate_19 : decode cX8_heldHate 19 = .ok (.iload_n 1, 1) := by decide +kernel
theorem dX8_heldHate_20 : decode cX8_heldHate 20 = .ok (.iaload, 1) := by decide +kernel
theorem dX8_heldHate_21 : decode cX8_heldHate 21 = .ok (.ireturn, 1) := by decide +kernel
theorem dX8_on_0 : decode cX8_on 0 = .ok (.aload_n 0, 1) := by decide +kernel
theorem dX8_on_1 : decode cX8_on 1 = .ok (.iload_n 2, 1) := by decide +kernel
theorem dX8_on_2 : decode cX8_on 2 = .ok (.invokevirtual 282, 3) := by decide +kernel
theorem dX8_on_5 : decode cX8_on 5 = .ok (.ifCond .ne 5, 3) := by decide +kernel
theorem dX8_on_8 : decode cX8_on 8 = .ok (.iconst (-1), 1) := by decide +kernel
theorem dX8_on_9 : decode cX8_on 9 = .ok (.ireturn, 1) := by decide +kernel
theorem dX8_on_10 : decode cX8_on 10 = .ok (.iload_n 1, 1) := by decide +kernel
theorem dX8_on_11 : decode cX8_on 11 = .ok (.iconst 0, 1) := by decide +kernel
theorem dX8_on_12 : decode cX8_on 12 = .ok (.bipush 30, 2) := by decide +kernel
theorem dX8_on_14 : decode cX8_on 14 = .ok (.invokestatic 117, 3) := by decide +kernel
theorem dX8_on_17 : decode cX8_on 17 = .ok (.ifCond .ne 6, 3) := by decide +kernel
theorem dX8_on_20 : decode cX8_on 20 = .ok (.bipush (-2), 2) := by decide +kernel
theorem dX8_on_22 : decode cX8_on 22 = .ok (.ireturn, 1) := by decide +kernel
theorem dX8_on_23 : decode cX8_on 23 = .ok (.aload_n 0, 1) := by decide +kernel
theorem dX8_on_24 : decode cX8_on 24 = .ok (.aload_n 0, 1) := by decide +kernel
theorem dX8_on_25 : decode cX8_on 25 = .ok (.getfield 91, 3) := by decide +kernel
theorem dX8_on_28 : decode cX8_on 28 = .ok (.invokevirtual 285, 3) := by decide +kernel
theorem dX8_on_31 : decode cX8_on 31 = .ok (.iconst 0, 1) := by decide +kernel
theorem dX8_on_32 : decode cX8_on 32 = .ok (.istore_n 3, 1) := by decide +kernel
theorem dX8_on_33 : decode cX8_on 33 = .ok (.iload_n 3, 1) := by decide +kernel
theorem dX8_on_34 : decode cX8_on 34 = .ok (.iload_n 1, 1) := by decide +kernel
theorem dX8_on_35 : decode cX8_on 35 = .ok (.if_icmp .ge 13, 3) := by decide +kernel
theorem dX8_on_38 : decode cX8_on 38 = .ok (.aload_n 0, 1) := by decide +kernel
theorem dX8_on_39 : decode cX8_on 39 = .ok (.invokevirtual 274, 3) := by decide +kernel
theorem dX8_on_42 : decode cX8_on 42 = .ok (.iinc 3 1, 3) := by decide +kernel
theorem dX8_on_45 : decode cX8_on 45 = .ok (.goto (-12), 3) := by decide +kernel
theorem dX8_on_48 : decode cX8_on 48 = .ok (.iload_n 2, 1) := by decide +kernel
theorem dX8_on_49 : decode cX8_on 49 = .ok (.ifCond .ne 10, 3) := by decide +kernel
theorem dX8_on_52 : decode cX8_on 52 = .ok (.aload_n 0, 1) := by decide +kernel
theorem dX8_on_53 : decode cX8_on 53 = .ok (.invokevirtual 256, 3) := by decide +kernel
theorem dX8_on_56 : decode cX8_on 56 = .ok (.goto 29, 3) := by decide +kernel
theorem dX8_on_59 : decode cX8_on 59 = .ok (.iload_n 2, 1) := by decide +kernel
theorem dX8_on_60 : decode cX8_on 60 = .ok (.bipush 20, 2) := by decide +kernel
theorem dX8_on_62 : decode cX8_on 62 = .ok (.if_icmp .ge 15, 3) := by decide +kernel
theorem dX8_on_65 : decode cX8_on 65 = .ok (.aload_n 0, 1) := by decide +kernel
theorem dX8_on_66 : decode cX8_on 66 = .ok (.getfield 24, 3) := by decide +kernel
theorem dX8_on_69 : decode cX8_on 69 = .ok (.iload_n 2, 1) := by decide +kernel
theorem dX8_on_70 : decode cX8_on 70 = .ok (.bipush 10, 2) := by decide +kernel
theorem dX8_on_72 : decode cX8_on 72 = .ok (.isub, 1) := by decide +kernel
theorem dX8_on_73 : decode cX8_on 73 = .ok (.iaload, 1) := by decide +kernel
theorem dX8_on_74 : decode cX8_on 74 = .ok (.goto 11, 3) := by decide +kernel
theorem dX8_on_77 : decode cX8_on 77 = .ok (.aload_n 0, 1) := by decide +kernel
theorem dX8_on_78 : decode cX8_on 78 = .ok (.iload_n 2, 1) := by decide +kernel
theorem dX8_on_79 : decode cX8_on 79 = .ok (.bipush 20, 2) := by decide +kernel
theorem dX8_on_81 : decode cX8_on 81 = .ok (.isub, 1) := by decide +kernel
theorem dX8_on_82 : decode cX8_on 82 = .ok (.invokevirtual 289, 3) := by decide +kernel
theorem dX8_on_85 : decode cX8_on 85 = .ok (.istore_n 3, 1) := by decide +kernel
theorem dX8_on_86 : decode cX8_on 86 = .ok (.aload_n 0, 1) := by decide +kernel
theorem dX8_on_87 : decode cX8_on 87 = .ok (.aload_n 0, 1) := by decide +kernel
theorem dX8_on_88 : decode cX8_on 88 = .ok (.getfield 91, 3) := by decide +kernel
theorem dX8_on_91 : decode cX8_on 91 = .ok (.invokevirtual 292, 3) := by decide +kernel
theorem dX8_on_94 : decode cX8_on 94 = .ok (.iload_n 3, 1) := by decide +kernel
theorem dX8_on_95 : decode cX8_on 95 = .ok (.ireturn, 1) := by decide +kernel
theorem dX8_lies_0 : decode cX8_lies 0 = .ok (.aload_n 0, 1) := by decide +kernel
theorem dX8_lies_1 : decode cX8_lies 1 = .ok (.getfield 18, 3) := by decide +kernel
theorem dX8_lies_4 : decode cX8_lies 4 = .ok (.iload_n 1, 1) := by decide +kernel
theorem dX8_lies_5 : decode cX8_lies 5 = .ok (.iaload, 1) := by decide +kernel
theorem dX8_lies_6 : decode cX8_lies 6 = .ok (.ifCond .ne 6, 3) := by decide +kernel
theorem dX8_lies_9 : decode cX8_lies 9 = .ok (.bipush (-5), 2) := by decide +kernel
theorem dX8_lies_11 : decode cX8_lies 11 = .ok (.ireturn, 1) := by decide +kernel
theorem dX8_lies_12 : decode cX8_lies 12 = .ok (.aload_n 0, 1) := by decide +kernel
theorem dX8_lies_13 : decode cX8_lies 13 = .ok (.aload_n 0, 1) := by decide +kernel
theorem dX8_lies_14 : decode cX8_lies 14 = .ok (.getfield 91, 3) := by decide +kernel
theorem dX8_lies_17 : decode cX8_lies 17 = .ok (.invokevirtual 285, 3) := by decide +kernel
theorem dX8_lies_20 : decode cX8_lies 20 = .ok (.bipush (-5), 2) := by decide +kernel
theorem dX8_lies_22 : decode cX8_lies 22 = .ok (.istore_n 2, 1) := by decide +kernel
theorem dX8_lies_23 : decode cX8_lies 23 = .ok (.iconst 0, 1) := by decide +kernel
theorem dX8_lies_24 : decode cX8_lies 24 = .ok (.istore_n 3, 1) := by decide +kernel
theorem dX8_lies_25 : decode cX8_lies 25 = .ok (.iload_n 3, 1) := by decide +kernel
theorem dX8_lies_26 : decode cX8_lies 26 = .ok (.bipush 31, 2) := by decide +kernel
theorem dX8_lies_28 : decode cX8_lies 28 = .ok (.if_icmp .ge 35, 3) := by decide +kernel
theorem dX8_lies_31 : decode cX8_lies 31 = .ok (.iload_n 2, 1) := by decide +kernel
theorem dX8_lies_32 : decode cX8_lies 32 = .ok (.bipush (-5), 2) := by decide +kernel
theorem dX8_lies_34 : decode cX8_lies 34 = .ok (.if_icmp .ne 29, 3) := by decide +kernel
theorem dX8_lies_37 : decode cX8_lies 37 = .ok (.iload_n 3, 1) := by decide +kernel
theorem dX8_lies_38 : decode cX8_lies 38 = .ok (.ifCond .le 7, 3) := by decide +kernel
theorem dX8_lies_41 : decode cX8_lies 41 = .ok (.aload_n 0, 1) := by decide +kernel
theorem dX8_lies_42 : decode cX8_lies 42 = .ok (.invokevirtual 274, 3) := by decide +kernel
theorem dX8_lies_45 : decode cX8_lies 45 = .ok (.aload_n 0, 1) := by decide +kernel
theorem dX8_lies_46 : decode cX8_lies 46 = .ok (.getfield 21, 3) := by decide +kernel
theorem dX8_lies_49 : decode cX8_lies 49 = .ok (.iload_n 1, 1) := by decide +kernel
theorem dX8_lies_50 : decode cX8_lies 50 = .ok (.iaload, 1) := by decide +kernel
theorem dX8_lies_51 : decode cX8_lies 51 = .ok (.iconst 1, 1) := by decide +kernel
theorem dX8_lies_52 : decode cX8_lies 52 = .ok (.if_icmp .ne 5, 3) := by decide +kernel
theorem dX8_lies_55 : decode cX8_lies 55 = .ok (.iload_n 3, 1) := by decide +kernel
theorem dX8_lies_56 : decode cX8_lies 56 = .ok (.istore_n 2, 1) := by decide +kernel
theorem dX8_lies_57 : decode cX8_lies 57 = .ok (.iinc 3 1, 3) := by decide +kernel
theorem dX8_lies_60 : decode cX8_lies 60 = .ok (.goto (-35), 3) := by decide +kernel
theorem dX8_lies_63 : decode cX8_lies 63 = .ok (.aload_n 0, 1) := by decide +kernel
theorem dX8_lies_64 : decode cX8_lies 64 = .ok (.aload_n 0, 1) := by decide +kernel
theorem dX8_lies_65 : decode cX8_lies 65 = .ok (.getfield 91, 3) := by decide +kernel
theorem dX8_lies_68 : decode cX8_lies 68 = .ok (.invokevirtual 292, 3) := by decide +kernel
theorem dX8_lies_71 : decode cX8_lies 71 = .ok (.iload_n 2, 1) := by decide +kernel
theorem dX8_lies_72 : decode cX8_lies 72 = .ok (.ireturn, 1) := by decide +kernel
theorem dX8_throwers_0 : decode cX8_throwers 0 = .ok (.iload_n 1, 1) := by decide +kernel
theorem dX8_throwers_1 : decode cX8_throwers 1 = .ok (.aload_n 0, 1) := by decide +kernel
theorem dX8_throwers_2 : decode cX8_throwers 2 = .ok (.getfield 114, 3) := by decide +kernel
theorem dX8_throwers_5 : decode cX8_throwers 5 = .ok (.if_icmp .ne 48, 3) := by decide +kernel
theorem dX8_throwers_8 : decode cX8_throwers 8 = .ok (.iload_n 3, 1) := by decide +kernel
theorem dX8_throwers_9 : decode cX8_throwers 9 = .ok (.aload_n 0, 1) := by decide +kernel
theorem dX8_throwers_10 : decode cX8_throwers 10 = .ok (.getfield 295, 3) := by decide +kernel
theorem dX8_throwers_13 : decode cX8_throwers 13 = .ok (.if_icmp .gt 4, 3) := by decide +kernel
theorem dX8_throwers_16 : decode cX8_throwers 16 = .ok (.return_, 1) := by decide +kernel
theorem dX8_throwers_17 : decode cX8_throwers 17 = .ok (.aload_n 0, 1) := by decide +kernel
theorem dX8_throwers_18 : decode cX8_throwers 18 = .ok (.iload_n 3, 1) := by decide +kernel
theorem dX8_throwers_19 : decode cX8_throwers 19 = .ok (.putfield 295, 3) := by decide +kernel
theorem dX8_throwers_22 : decode cX8_throwers 22 = .ok (.iconst 0, 1) := by decide +kernel
theorem dX8_throwers_23 : decode cX8_throwers 23 = .ok (.istore 4, 2) := by decide +kernel
theorem dX8_throwers_25 : decode cX8_throwers 25 = .ok (.iload 4, 2) := by decide +kernel
theorem dX8_throwers_27 : decode cX8_throwers 27 = .ok (.bipush 6, 2) := by decide +kernel
theorem dX8_throwers_29 : decode cX8_throwers 29 = .ok (.if_icmp .ge 23, 3) := by decide +kernel
theorem dX8_throwers_32 : decode cX8_throwers 32 = .ok (.aload_n 0, 1) := by decide +kernel
theorem dX8_throwers_33 : decode cX8_throwers 33 = .ok (.getfield 97, 3) := by decide +kernel
theorem dX8_throwers_36 : decode cX8_throwers 36 = .ok (.iload 4, 2) := by decide +kernel
theorem dX8_throwers_38 : decode cX8_throwers 38 = .ok (.aload_n 0, 1) := by decide +kernel
theorem dX8_throwers_39 : decode cX8_throwers 39 = .ok (.getfield 94, 3) := by decide +kernel
theorem dX8_throwers_42 : decode cX8_throwers 42 = .ok (.iload 4, 2) := by decide +kernel
theorem dX8_throwers_44 : decode cX8_throwers 44 = .ok (.iaload, 1) := by decide +kernel
theorem dX8_throwers_45 : decode cX8_throwers 45 = .ok (.iastore, 1) := by decide +kernel
theorem dX8_throwers_46 : decode cX8_throwers 46 = .ok (.iinc 4 1, 3) := by decide +kernel
theorem dX8_throwers_49 : decode cX8_throwers 49 = .ok (.goto (-24), 3) := by decide +kernel
theorem dX8_throwers_52 : decode cX8_throwers 52 = .ok (.return_, 1) := by decide +kernel
theorem dX8_throwers_53 : decode cX8_throwers 53 = .ok (.aload_n 0, 1) := by decide +kernel
theorem dX8_throwers_54 : decode cX8_throwers 54 = .ok (.getfield 18, 3) := by decide +kernel
theorem dX8_throwers_57 : decode cX8_throwers 57 = .ok (.iload_n 1, 1) := by decide +kernel
theorem dX8_throwers_58 : decode cX8_throwers 58 = .ok (.iaload, 1) := by decide +kernel
theorem dX8_throwers_59 : decode cX8_throwers 59 = .ok (.iconst 1, 1) := by decide +kernel
theorem dX8_throwers_60 : decode cX8_throwers 60 = .ok (.if_icmp .ne 28, 3) := by decide +kernel
theorem dX8_throwers_63 : decode cX8_throwers 63 = .ok (.aload_n 0, 1) := by decide +kernel
theorem dX8_throwers_64 : decode cX8_throwers 64 = .ok (.getfield 21, 3) := by decide +kernel
theorem dX8_throwers_67 : decode cX8_throwers 67 = .ok (.iload_n 1, 1) := by decide +kernel
theorem dX8_throwers_68 : decode cX8_throwers 68 = .ok (.iaload, 1) := by decide +kernel
theorem dX8_throwers_69 : decode cX8_throwers 69 = .ok (.ifCond .ne 19, 3) := by decide +kernel
theorem dX8_throwers_72 : decode cX8_throwers 72 = .ok (.aload_n 0, 1) := by decide +kernel
theorem dX8_throwers_73 : decode cX8_throwers 73 = .ok (.iload_n 1, 1) := by decide +kernel
theorem dX8_throwers_74 : decode cX8_throwers 74 = .ok (.aload_n 0, 1) := by decide +kernel
theorem dX8_throwers_75 : decode cX8_throwers 75 = .ok (.getfield 125, 3) := by decide +kernel
theorem dX8_throwers_78 : decode cX8_throwers 78 = .ok (.invokevirtual 128, 3) := by decide +kernel
theorem dX8_throwers_81 : decode cX8_throwers 81 = .ok (.iload_n 2, 1) := by decide +kernel
theorem dX8_throwers_82 : decode cX8_throwers 82 = .ok (.iconst (-1), 1) := by decide +kernel
theorem dX8_throwers_83 : decode cX8_throwers 83 = .ok (.ixor, 1) := by decide +kernel
theorem dX8_throwers_84 : decode cX8_throwers 84 = .ok (.iand, 1) := by decide +kernel
theorem dX8_throwers_85 : decode cX8_throwers 85 = .ok (.goto 4, 3) := by decide +kernel
theorem dX8_throwers_88 : decode cX8_throwers 88 = .ok (.iconst 0, 1) := by decide +kernel
theorem dX8_throwers_89 : decode cX8_throwers 89 = .ok (.istore 4, 2) := by decide +kernel
theorem dX8_throwers_91 : decode cX8_throwers 91 = .ok (.iconst 0, 1) := by decide +kernel
theorem dX8_throwers_92 : decode cX8_throwers 92 = .ok (.istore 5, 2) := by decide +kernel
theorem dX8_throwers_94 : decode cX8_throwers 94 = .ok (.iload 5, 2) := by decide +kernel
theorem dX8_throwers_96 : decode cX8_throwers 96 = .ok (.aload_n 0, 1) := by decide +kernel
theorem dX8_throwers_97 : decode cX8_throwers 97 = .ok (.getfield 114, 3) := by decide +kernel
theorem dX8_throwers_100 : decode cX8_throwers 100 = .ok (.if_icmp .ge 46, 3) := by decide +kernel
theorem dX8_throwers_103 : decode cX8_throwers 103 = .ok (.iload 4, 2) := by decide +kernel
theorem dX8_throwers_105 : decode cX8_throwers 105 = .ok (.iload 5, 2) := by decide +kernel
theorem dX8_throwers_107 : decode cX8_throwers 107 = .ok (.ishr, 1) := by decide +kernel
theorem dX8_throwers_108 : decode cX8_throwers 108 = .ok (.iconst 1, 1) := by decide +kernel
theorem dX8_throwers_109 : decode cX8_throwers 109 = .ok (.iand, 1) := by decide +kernel
theorem dX8_throwers_110 : decode cX8_throwers 110 = .ok (.ifCond .ne 6, 3) := by decide +kernel
theorem dX8_throwers_113 : decode cX8_throwers 113 = .ok (.goto 27, 3) := by decide +kernel
theorem dX8_throwers_116 : decode cX8_throwers 116 = .ok (.aload_n 0, 1) := by decide +kernel
theorem dX8_throwers_117 : decode cX8_throwers 117 = .ok (.getfield 94, 3) := by decide +kernel
theorem dX8_throwers_120 : decode cX8_throwers 120 = .ok (.iload_n 1, 1) := by decide +kernel
theorem dX8_throwers_121 : decode cX8_throwers 121 = .ok (.iload 5, 2) := by decide +kernel
theorem dX8_throwers_123 : decode cX8_throwers 123 = .ok (.iastore, 1) := by decide +kernel
theorem dX8_throwers_124 : decode cX8_throwers 124 = .ok (.aload_n 0, 1) := by decide +kernel
theorem dX8_throwers_125 : decode cX8_throwers 125 = .ok (.iload_n 1, 1) := by decide +kernel
theorem dX8_throwers_126 : decode cX8_throwers 126 = .ok (.iconst 1, 1) := by decide +kernel
theorem dX8_throwers_127 : decode cX8_throwers 127 = .ok (.iadd, 1) := by decide +kernel
theorem dX8_throwers_128 : decode cX8_throwers 128 = .ok (.iload_n 2, 1) := by decide +kernel
theorem dX8_throwers_129 : decode cX8_throwers 129 = .ok (.iconst 1, 1) := by decide +kernel
theorem dX8_throwers_130 : decode cX8_throwers 130 = .ok (.iload 5, 2) := by decide +kernel
theorem dX8_throwers_132 : decode cX8_throwers 132 = .ok (.ishl, 1) := by decide +kernel
theorem dX8_throwers_133 : decode cX8_throwers 133 = .ok (.ior, 1) := by decide +kernel
theorem dX8_throwers_134 : decode cX8_throwers 134 = .ok (.iload_n 3, 1) := by decide +kernel
theorem dX8_throwers_135 : decode cX8_throwers 135 = .ok (.iconst 1, 1) := by decide +kernel
theorem dX8_throwers_136 : decode cX8_throwers 136 = .ok (.iadd, 1) := by decide +kernel
theorem dX8_throwers_137 : decode cX8_throwers 137 = .ok (.invokevirtual 298, 3) := by decide +kernel
theorem dX8_throwers_140 : decode cX8_throwers 140 = .ok (.iinc 5 1, 3) := by decide +kernel
theorem dX8_throwers_143 : decode cX8_throwers 143 = .ok (.goto (-49), 3) := by decide +kernel
theorem dX8_throwers_146 : decode cX8_throwers 146 = .ok (.aload_n 0, 1) := by decide +kernel
theorem dX8_throwers_147 : decode cX8_throwers 147 = .ok (.getfield 94, 3) := by decide +kernel
theorem dX8_throwers_150 : decode cX8_throwers 150 = .ok (.iload_n 1, 1) := by decide +kernel
theorem dX8_throwers_151 : decode cX8_throwers 151 = .ok (.bipush (-5), 2) := by decide +kernel
theorem dX8_throwers_153 : decode cX8_throwers 153 = .ok (.iastore, 1) := by decide +kernel
theorem dX8_throwers_154 : decode cX8_throwers 154 = .ok (.aload_n 0, 1) := by decide +kernel
theorem dX8_throwers_155 : decode cX8_throwers 155 = .ok (.iload_n 1, 1) := by decide +kernel
theorem dX8_throwers_156 : decode cX8_throwers 156 = .ok (.iconst 1, 1) := by decide +kernel
theorem dX8_throwers_157 : decode cX8_throwers 157 = .ok (.iadd, 1) := by decide +kernel
theorem dX8_throwers_158 : decode cX8_throwers 158 = .ok (.iload_n 2, 1) := by decide +kernel
theorem dX8_throwers_159 : decode cX8_throwers 159 = .ok (.iload_n 3, 1) := by decide +kernel
theorem dX8_throwers_160 : decode cX8_throwers 160 = .ok (.invokevirtual 298, 3) := by decide +kernel
theorem dX8_throwers_163 : decode cX8_throwers 163 = .ok (.return_, 1) := by decide +kernel
theorem dX8_handful_0 : decode cX8_handful 0 = .ok (.iload_n 1, 1) := by decide +kernel
theorem dX8_handful_1 : decode cX8_handful 1 = .ok (.ifCond .eq 16, 3) := by decide +kernel
theorem dX8_handful_4 : decode cX8_handful 4 = .ok (.aload_n 0, 1) := by decide +kernel
theorem dX8_handful_5 : decode cX8_handful 5 = .ok (.iload_n 1, 1) := by decide +kernel
theorem dX8_handful_6 : decode cX8_handful 6 = .ok (.bipush 10, 2) := by decide +kernel
theorem dX8_handful_8 : decode cX8_handful 8 = .ok (.isub, 1) := by decide +kernel
theorem dX8_handful_9 : decode cX8_handful 9 = .ok (.invokevirtual 121, 3) := by decide +kernel
theorem dX8_handful_12 : decode cX8_handful 12 = .ok (.ifCond .ne 5, 3) := by decide +kernel
theorem dX8_handful_15 : decode cX8_handful 15 = .ok (.iconst (-1), 1) := by decide +kernel
theorem dX8_handful_16 : decode cX8_handful 16 = .ok (.ireturn, 1) := by decide +kernel
theorem dX8_handful_17 : decode cX8_handful 17 = .ok (.aload_n 0, 1) := by decide +kernel
theorem dX8_handful_18 : decode cX8_handful 18 = .ok (.iconst (-1), 1) := by decide +kernel
theorem dX8_handful_19 : decode cX8_handful 19 = .ok (.putfield 295, 3) := by decide +kernel
theorem dX8_handful_22 : decode cX8_handful 22 = .ok (.aload_n 0, 1) := by decide +kernel
theorem dX8_handful_23 : decode cX8_handful 23 = .ok (.iconst 0, 1) := by decide +kernel
theorem dX8_handful_24 : decode cX8_handful 24 = .ok (.iconst 0, 1) := by decide +kernel
theorem dX8_handful_25 : decode cX8_handful 25 = .ok (.iconst 0, 1) := by decide +kernel
theorem dX8_handful_26 : decode cX8_handful 26 = .ok (.invokevirtual 298, 3) := by decide +kernel
theorem dX8_handful_29 : decode cX8_handful 29 = .ok (.iload_n 1, 1) := by decide +kernel
theorem dX8_handful_30 : decode cX8_handful 30 = .ok (.ifCond .ne 10, 3) := by decide +kernel
theorem dX8_handful_33 : decode cX8_handful 33 = .ok (.aload_n 0, 1) := by decide +kernel
theorem dX8_handful_34 : decode cX8_handful 34 = .ok (.getfield 295, 3) := by decide +kernel
theorem dX8_handful_37 : decode cX8_handful 37 = .ok (.goto 12, 3) := by decide +kernel
theorem dX8_handful_40 : decode cX8_handful 40 = .ok (.aload_n 0, 1) := by decide +kernel
theorem dX8_handful_41 : decode cX8_handful 41 = .ok (.getfield 97, 3) := by decide +kernel
theorem dX8_handful_44 : decode cX8_handful 44 = .ok (.iload_n 1, 1) := by decide +kernel
theorem dX8_handful_45 : decode cX8_handful 45 = .ok (.bipush 10, 2) := by decide +kernel
theorem dX8_handful_47 : decode cX8_handful 47 = .ok (.isub, 1) := by decide +kernel
theorem dX8_handful_48 : decode cX8_handful 48 = .ok (.iaload, 1) := by decide +kernel
theorem dX8_handful_49 : decode cX8_handful 49 = .ok (.ireturn, 1) := by decide +kernel
theorem dX8_rowsOf_0 : decode cX8_rowsOf 0 = .ok (.iload_n 2, 1) := by decide +kernel
theorem dX8_rowsOf_1 : decode cX8_rowsOf 1 = .ok (.iload_n 1, 1) := by decide +kernel
theorem dX8_rowsOf_2 : decode cX8_rowsOf 2 = .ok (.if_icmp .ne 5, 3) := by decide +kernel
theorem dX8_rowsOf_5 : decode cX8_rowsOf 5 = .ok (.iconst 1, 1) := by decide +kernel
theorem dX8_rowsOf_6 : decode cX8_rowsOf 6 = .ok (.ireturn, 1) := by decide +kernel
theorem dX8_rowsOf_7 : decode cX8_rowsOf 7 = .ok (.iconst 0, 1) := by decide +kernel
theorem dX8_rowsOf_8 : decode cX8_rowsOf 8 = .ok (.istore 4, 2) := by decide +kernel
theorem dX8_rowsOf_10 : decode cX8_rowsOf 10 = .ok (.iconst 0, 1) := by decide +kernel
theorem dX8_rowsOf_11 : decode cX8_rowsOf 11 = .ok (.istore 5, 2) := by decide +kernel
theorem dX8_rowsOf_13 : decode cX8_rowsOf 13 = .ok (.iload 5, 2) := by decide +kernel
theorem dX8_rowsOf_15 : decode cX8_rowsOf 15 = .ok (.aload_n 0, 1) := by decide +kernel
theorem dX8_rowsOf_16 : decode cX8_rowsOf 16 = .ok (.getfield 114, 3) := by decide +kernel
theorem dX8_rowsOf_19 : decode cX8_rowsOf 19 = .ok (.if_icmp .ge 66, 3) := by decide +kernel
theorem dX8_rowsOf_22 : decode cX8_rowsOf 22 = .ok (.aload_n 0, 1) := by decide +kernel
theorem dX8_rowsOf_23 : decode cX8_rowsOf 23 = .ok (.getfield 18, 3) := by decide +kernel
theorem dX8_rowsOf_26 : decode cX8_rowsOf 26 = .ok (.iload 5, 2) := by decide +kernel
theorem dX8_rowsOf_28 : decode cX8_rowsOf 28 = .ok (.iaload, 1) := by decide +kernel
theorem dX8_rowsOf_29 : decode cX8_rowsOf 29 = .ok (.ifCond .ne 50, 3) := by decide +kernel
theorem dX8_rowsOf_32 : decode cX8_rowsOf 32 = .ok (.iload_n 3, 1) := by decide +kernel
theorem dX8_rowsOf_33 : decode cX8_rowsOf 33 = .ok (.iload 5, 2) := by decide +kernel
theorem dX8_rowsOf_35 : decode cX8_rowsOf 35 = .ok (.ishr, 1) := by decide +kernel
theorem dX8_rowsOf_36 : decode cX8_rowsOf 36 = .ok (.iconst 1, 1) := by decide +kernel
theorem dX8_rowsOf_37 : decode cX8_rowsOf 37 = .ok (.iand, 1) := by decide +kernel
theorem dX8_rowsOf_38 : decode cX8_rowsOf 38 = .ok (.ifCond .ne 41, 3) := by decide +kernel
theorem dX8_rowsOf_41 : decode cX8_rowsOf 41 = .ok (.aload_n 0, 1) := by decide +kernel
theorem dX8_rowsOf_42 : decode cX8_rowsOf 42 = .ok (.iload 5, 2) := by decide +kernel
theorem dX8_rowsOf_44 : decode cX8_rowsOf 44 = .ok (.aload_n 0, 1) := by decide +kernel
theorem dX8_rowsOf_45 : decode cX8_rowsOf 45 = .ok (.getfield 125, 3) := by decide +kernel
theorem dX8_rowsOf_48 : decode cX8_rowsOf 48 = .ok (.iload_n 2, 1) := by decide +kernel
theorem dX8_rowsOf_49 : decode cX8_rowsOf 49 = .ok (.iadd, 1) := by decide +kernel
theorem dX8_rowsOf_50 : decode cX8_rowsOf 50 = .ok (.invokevirtual 128, 3) := by decide +kernel
theorem dX8_rowsOf_53 : decode cX8_rowsOf 53 = .ok (.iload_n 3, 1) := by decide +kernel
theorem dX8_rowsOf_54 : decode cX8_rowsOf 54 = .ok (.iconst (-1), 1) := by decide +kernel
theorem dX8_rowsOf_55 : decode cX8_rowsOf 55 = .ok (.ixor, 1) := by decide +kernel
theorem dX8_rowsOf_56 : decode cX8_rowsOf 56 = .ok (.iand, 1) := by decide +kernel
theorem dX8_rowsOf_57 : decode cX8_rowsOf 57 = .ok (.ifCond .eq 22, 3) := by decide +kernel
theorem dX8_rowsOf_60 : decode cX8_rowsOf 60 = .ok (.iload 4, 2) := by decide +kernel
theorem dX8_rowsOf_62 : decode cX8_rowsOf 62 = .ok (.aload_n 0, 1) := by decide +kernel
theorem dX8_rowsOf_63 : decode cX8_rowsOf 63 = .ok (.iload_n 1, 1) := by decide +kernel
theorem dX8_rowsOf_64 : decode cX8_rowsOf 64 = .ok (.iload_n 2, 1) := by decide +kernel
theorem dX8_rowsOf_65 : decode cX8_rowsOf 65 = .ok (.iconst 1, 1) := by decide +kernel
theorem dX8_rowsOf_66 : decode cX8_rowsOf 66 = .ok (.iadd, 1) := by decide +kernel
theorem dX8_rowsOf_67 : decode cX8_rowsOf 67 = .ok (.iload_n 3, 1) := by decide +kernel
theorem dX8_rowsOf_68 : decode cX8_rowsOf 68 = .ok (.iconst 1, 1) := by decide +kernel
theorem dX8_rowsOf_69 : decode cX8_rowsOf 69 = .ok (.iload 5, 2) := by decide +kernel
theorem dX8_rowsOf_71 : decode cX8_rowsOf 71 = .ok (.ishl, 1) := by decide +kernel
theorem dX8_rowsOf_72 : decode cX8_rowsOf 72 = .ok (.ior, 1) := by decide +kernel
theorem dX8_rowsOf_73 : decode cX8_rowsOf 73 = .ok (.invokevirtual 302, 3) := by decide +kernel
theorem dX8_rowsOf_76 : decode cX8_rowsOf 76 = .ok (.iadd, 1) := by decide +kernel
theorem dX8_rowsOf_77 : decode cX8_rowsOf 77 = .ok (.istore 4, 2) := by decide +kernel
theorem dX8_rowsOf_79 : decode cX8_rowsOf 79 = .ok (.iinc 5 1, 3) := by decide +kernel
theorem dX8_rowsOf_82 : decode cX8_rowsOf 82 = .ok (.goto (-69), 3) := by decide +kernel
theorem dX8_rowsOf_85 : decode cX8_rowsOf 85 = .ok (.iload 4, 2) := by decide +kernel
theorem dX8_rowsOf_87 : decode cX8_rowsOf 87 = .ok (.ireturn, 1) := by decide +kernel
theorem dX8_orders_0 : decode cX8_orders 0 = .ok (.iload_n 1, 1) := by decide +kernel
theorem dX8_orders_1 : decode cX8_orders 1 = .ok (.iconst 0, 1) := by decide +kernel
theorem dX8_orders_2 : decode cX8_orders 2 = .ok (.bipush 6, 2) := by decide +kernel
theorem dX8_orders_4 : decode cX8_orders 4 = .ok (.invokestatic 117, 3) := by decide +kernel
theorem dX8_orders_7 : decode cX8_orders 7 = .ok (.ifCond .eq 13, 3) := by decide +kernel
theorem dX8_orders_10 : decode cX8_orders 10 = .ok (.aload_n 0, 1) := by decide +kernel
theorem dX8_orders_11 : decode cX8_orders 11 = .ok (.iload_n 1, 1) := by decide +kernel
theorem dX8_orders_12 : decode cX8_orders 12 = .ok (.iconst 0, 1) := by decide +kernel
theorem dX8_orders_13 : decode cX8_orders 13 = .ok (.iconst 0, 1) := by decide +kernel
theorem dX8_orders_14 : decode cX8_orders 14 = .ok (.invokevirtual 302, 3) := by decide +kernel
theorem dX8_orders_17 : decode cX8_orders 17 = .ok (.goto 5, 3) := by decide +kernel
theorem dX8_orders_20 : decode cX8_orders 20 = .ok (.bipush (-2), 2) := by decide +kernel
theorem dX8_orders_22 : decode cX8_orders 22 = .ok (.ireturn, 1) := by decide +kernel
theorem dX8_longest_0 : decode cX8_longest 0 = .ok (.iconst 0, 1) := by decide +kernel
theorem dX8_longest_1 : decode cX8_longest 1 = .ok (.istore_n 1, 1) := by decide +kernel
theorem dX8_longest_2 : decode cX8_longest 2 = .ok (.iload_n 1, 1) := by decide +kernel
theorem dX8_longest_3 : decode cX8_longest 3 = .ok (.bipush 6, 2) := by decide +kernel
theorem dX8_longest_5 : decode cX8_longest 5 = .ok (.if_icmp .ge 21, 3) := by decide +kernel
theorem dX8_longest_8 : decode cX8_longest 8 = .ok (.aload_n 0, 1) := by decide +kernel
theorem dX8_longest_9 : decode cX8_longest 9 = .ok (.iload_n 1, 1) := by decide +kernel
theorem dX8_longest_10 : decode cX8_longest 10 = .ok (.iconst 1, 1) := by decide +kernel
theorem dX8_longest_11 : decode cX8_longest 11 = .ok (.iadd, 1) := by decide +kernel
theorem dX8_longest_12 : decode cX8_longest 12 = .ok (.iconst 0, 1) := by decide +kernel
theorem dX8_longest_13 : decode cX8_longest 13 = .ok (.iconst 0, 1) := by decide +kernel
theorem dX8_longest_14 : decode cX8_longest 14 = .ok (.invokevirtual 302, 3) := by decide +kernel
theorem dX8_longest_17 : decode cX8_longest 17 = .ok (.ifCond .le 9, 3) := by decide +kernel
theorem dX8_longest_20 : decode cX8_longest 20 = .ok (.iinc 1 1, 3) := by decide +kernel
theorem dX8_longest_23 : decode cX8_longest 23 = .ok (.goto (-21), 3) := by decide +kernel
theorem dX8_longest_26 : decode cX8_longest 26 = .ok (.iload_n 1, 1) := by decide +kernel
theorem dX8_longest_27 : decode cX8_longest 27 = .ok (.ireturn, 1) := by decide +kernel
theorem dX8_see_0 : decode cX8_see 0 = .ok (.iload_n 1, 1) := by decide +kernel
theorem dX8_see_1 : decode cX8_see 1 = .ok (.iconst (-1), 1) := by decide +kernel
theorem dX8_see_2 : decode cX8_see 2 = .ok (.if_icmp .ne 10, 3) := by decide +kernel
theorem dX8_see_5 : decode cX8_see 5 = .ok (.aload_n 0, 1) := by decide +kernel
theorem dX8_see_6 : decode cX8_see 6 = .ok (.iconst 0, 1) := by decide +kernel
theorem dX8_see_7 : decode cX8_see 7 = .ok (.putfield 305, 3) := by decide +kernel
theorem dX8_see_10 : decode cX8_see 10 = .ok (.iconst 0, 1) := by decide +kernel
theorem dX8_see_11 : decode cX8_see 11 = .ok (.ireturn, 1) := by decide +kernel
theorem dX8_see_12 : decode cX8_see 12 = .ok (.aload_n 0, 1) := by decide +kernel
theorem dX8_see_13 : decode cX8_see 13 = .ok (.iload_n 1, 1) := by decide +kernel
theorem dX8_see_14 : decode cX8_see 14 = .ok (.iload_n 2, 1) := by decide +kernel
theorem dX8_see_15 : decode cX8_see 15 = .ok (.invokevirtual 136, 3) := by decide +kernel
theorem dX8_see_18 : decode cX8_see 18 = .ok (.ifCond .ne 5, 3) := by decide +kernel
theorem dX8_see_21 : decode cX8_see 21 = .ok (.iconst (-1), 1) := by decide +kernel
theorem dX8_see_22 : decode cX8_see 22 = .ok (.ireturn, 1) := by decide +kernel
theorem dX8_see_23 : decode cX8_see 23 = .ok (.iload_n 1, 1) := by decide +kernel
theorem dX8_see_24 : decode cX8_see 24 = .ok (.iload_n 2, 1) := by decide +kernel
theorem dX8_see_25 : decode cX8_see 25 = .ok (.if_icmp .eq 13, 3) := by decide +kernel
theorem dX8_see_28 : decode cX8_see 28 = .ok (.iload_n 3, 1) := by decide +kernel
theorem dX8_see_29 : decode cX8_see 29 = .ok (.iconst 0, 1) := by decide +kernel
theorem dX8_see_30 : decode cX8_see 30 = .ok (.bipush 20, 2) := by decide +kernel
theorem dX8_see_32 : decode cX8_see 32 = .ok (.invokestatic 117, 3) := by decide +kernel
theorem dX8_see_35 : decode cX8_see 35 = .ok (.ifCond .ne 6, 3) := by decide +kernel
theorem dX8_see_38 : decode cX8_see 38 = .ok (.bipush (-2), 2) := by decide +kernel
theorem dX8_see_40 : decode cX8_see 40 = .ok (.ireturn, 1) := by decide +kernel
theorem dX8_see_41 : decode cX8_see 41 = .ok (.aload_n 0, 1) := by decide +kernel
theorem dX8_see_42 : decode cX8_see 42 = .ok (.getfield 305, 3) := by decide +kernel
theorem dX8_see_45 : decode cX8_see 45 = .ok (.iconst 5, 1) := by decide +kernel
theorem dX8_see_46 : decode cX8_see 46 = .ok (.if_icmp .ne 6, 3) := by decide +kernel
theorem dX8_see_49 : decode cX8_see 49 = .ok (.bipush (-4), 2) := by decide +kernel
theorem dX8_see_51 : decode cX8_see 51 = .ok (.ireturn, 1) := by decide +kernel
theorem dX8_see_52 : decode cX8_see 52 = .ok (.aload_n 0, 1) := by decide +kernel
theorem dX8_see_53 : decode cX8_see 53 = .ok (.getfield 58, 3) := by decide +kernel
theorem dX8_see_56 : decode cX8_see 56 = .ok (.aload_n 0, 1) := by decide +kernel
theorem dX8_see_57 : decode cX8_see 57 = .ok (.getfield 305, 3) := by decide +kernel
theorem dX8_see_60 : decode cX8_see 60 = .ok (.iload_n 1, 1) := by decide +kernel
theorem dX8_see_61 : decode cX8_see 61 = .ok (.iastore, 1) := by decide +kernel
theorem dX8_see_62 : decode cX8_see 62 = .ok (.aload_n 0, 1) := by decide +kernel
theorem dX8_see_63 : decode cX8_see 63 = .ok (.getfield 61, 3) := by decide +kernel
theorem dX8_see_66 : decode cX8_see 66 = .ok (.aload_n 0, 1) := by decide +kernel
theorem dX8_see_67 : decode cX8_see 67 = .ok (.getfield 305, 3) := by decide +kernel
theorem dX8_see_70 : decode cX8_see 70 = .ok (.iload_n 2, 1) := by decide +kernel
theorem dX8_see_71 : decode cX8_see 71 = .ok (.iastore, 1) := by decide +kernel
theorem dX8_see_72 : decode cX8_see 72 = .ok (.aload_n 0, 1) := by decide +kernel
theorem dX8_see_73 : decode cX8_see 73 = .ok (.getfield 64, 3) := by decide +kernel
theorem dX8_see_76 : decode cX8_see 76 = .ok (.aload_n 0, 1) := by decide +kernel
theorem dX8_see_77 : decode cX8_see 77 = .ok (.getfield 305, 3) := by decide +kernel
theorem dX8_see_80 : decode cX8_see 80 = .ok (.iload_n 3, 1) := by decide +kernel
theorem dX8_see_81 : decode cX8_see 81 = .ok (.iastore, 1) := by decide +kernel
theorem dX8_see_82 : decode cX8_see 82 = .ok (.aload_n 0, 1) := by decide +kernel
theorem dX8_see_83 : decode cX8_see 83 = .ok (.getfield 67, 3) := by decide +kernel
theorem dX8_see_86 : decode cX8_see 86 = .ok (.aload_n 0, 1) := by decide +kernel
theorem dX8_see_87 : decode cX8_see 87 = .ok (.dup, 1) := by decide +kernel
theorem dX8_see_88 : decode cX8_see 88 = .ok (.getfield 305, 3) := by decide +kernel
theorem dX8_see_91 : decode cX8_see 91 = .ok (.dup_x1, 1) := by decide +kernel
theorem dX8_see_92 : decode cX8_see 92 = .ok (.iconst 1, 1) := by decide +kernel
theorem dX8_see_93 : decode cX8_see 93 = .ok (.iadd, 1) := by decide +kernel
theorem dX8_see_94 : decode cX8_see 94 = .ok (.putfield 305, 3) := by decide +kernel
theorem dX8_see_97 : decode cX8_see 97 = .ok (.iload 4, 2) := by decide +kernel
theorem dX8_see_99 : decode cX8_see 99 = .ok (.ifCond .eq 7, 3) := by decide +kernel
theorem dX8_see_102 : decode cX8_see 102 = .ok (.iconst 1, 1) := by decide +kernel
theorem dX8_see_103 : decode cX8_see 103 = .ok (.goto 4, 3) := by decide +kernel
theorem dX8_see_106 : decode cX8_see 106 = .ok (.iconst 0, 1) := by decide +kernel
theorem dX8_see_107 : decode cX8_see 107 = .ok (.iastore, 1) := by decide +kernel
theorem dX8_see_108 : decode cX8_see 108 = .ok (.aload_n 0, 1) := by decide +kernel
theorem dX8_see_109 : decode cX8_see 109 = .ok (.getfield 305, 3) := by decide +kernel
theorem dX8_see_112 : decode cX8_see 112 = .ok (.ireturn, 1) := by decide +kernel
theorem dX8_isSeen_0 : decode cX8_isSeen 0 = .ok (.iconst 0, 1) := by decide +kernel
theorem dX8_isSeen_1 : decode cX8_isSeen 1 = .ok (.istore_n 3, 1) := by decide +kernel
theorem dX8_isSeen_2 : decode cX8_isSeen 2 = .ok (.iload_n 3, 1) := by decide +kernel
theorem dX8_isSeen_3 : decode cX8_isSeen 3 = .ok (.aload_n 0, 1) := by decide +kernel
theorem dX8_isSeen_4 : decode cX8_isSeen 4 = .ok (.getfield 305, 3) := by decide +kernel
theorem dX8_isSeen_7 : decode cX8_isSeen 7 = .ok (.if_icmp .ge 79, 3) := by decide +kernel
theorem dX8_isSeen_10 : decode cX8_isSeen 10 = .ok (.aload_n 0, 1) := by decide +kernel
theorem dX8_isSeen_11 : decode cX8_isSeen 11 = .ok (.getfield 58, 3) := by decide +kernel
theorem dX8_isSeen_14 : decode cX8_isSeen 14 = .ok (.iload_n 3, 1) := by decide +kernel
theorem dX8_isSeen_15 : decode cX8_isSeen 15 = .ok (.iaload, 1) := by decide +kernel
theorem dX8_isSeen_16 : decode cX8_isSeen 16 = .ok (.iload_n 1, 1) := by decide +kernel
theorem dX8_isSeen_17 : decode cX8_isSeen 17 = .ok (.if_icmp .ne 63, 3) := by decide +kernel
theorem dX8_isSeen_20 : decode cX8_isSeen 20 = .ok (.iload_n 2, 1) := by decide +kernel
theorem dX8_isSeen_21 : decode cX8_isSeen 21 = .ok (.iconst (-1), 1) := by decide +kernel
theorem dX8_isSeen_22 : decode cX8_isSeen 22 = .ok (.if_icmp .eq 16, 3) := by decide +kernel
theorem dX8_isSeen_25 : decode cX8_isSeen 25 = .ok (.aload_n 0, 1) := by decide +kernel
theorem dX8_isSeen_26 : decode cX8_isSeen 26 = .ok (.getfield 61, 3) := by decide +kernel
theorem dX8_isSeen_29 : decode cX8_isSeen 29 = .ok (.iload_n 3, 1) := by decide +kernel
theorem dX8_isSeen_30 : decode cX8_isSeen 30 = .ok (.iaload, 1) := by decide +kernel
theorem dX8_isSeen_31 : decode cX8_isSeen 31 = .ok (.iload_n 2, 1) := by decide +kernel
theorem dX8_isSeen_32 : decode cX8_isSeen 32 = .ok (.if_icmp .eq 6, 3) := by decide +kernel
theorem dX8_isSeen_35 : decode cX8_isSeen 35 = .ok (.goto 45, 3) := by decide +kernel
theorem dX8_isSeen_38 : decode cX8_isSeen 38 = .ok (.aload_n 0, 1) := by decide +kernel
theorem dX8_isSeen_39 : decode cX8_isSeen 39 = .ok (.iload_n 1, 1) := by decide +kernel
theorem dX8_isSeen_40 : decode cX8_isSeen 40 = .ok (.aload_n 0, 1) := by decide +kernel
theorem dX8_isSeen_41 : decode cX8_isSeen 41 = .ok (.getfield 61, 3) := by decide +kernel
theorem dX8_isSeen_44 : decode cX8_isSeen 44 = .ok (.iload_n 3, 1) := by decide +kernel
theorem dX8_isSeen_45 : decode cX8_isSeen 45 = .ok (.iaload, 1) := by decide +kernel
theorem dX8_isSeen_46 : decode cX8_isSeen 46 = .ok (.aload_n 0, 1) := by decide +kernel
theorem dX8_isSeen_47 : decode cX8_isSeen 47 = .ok (.getfield 125, 3) := by decide +kernel
theorem dX8_isSeen_50 : decode cX8_isSeen 50 = .ok (.aload_n 0, 1) := by decide +kernel
theorem dX8_isSeen_51 : decode cX8_isSeen 51 = .ok (.getfield 64, 3) := by decide +kernel
theorem dX8_isSeen_54 : decode cX8_isSeen 54 = .ok (.iload_n 3, 1) := by decide +kernel
theorem dX8_isSeen_55 : decode cX8_isSeen 55 = .ok (.iaload, 1) := by decide +kernel
theorem dX8_isSeen_56 : decode cX8_isSeen 56 = .ok (.iadd, 1) := by decide +kernel
theorem dX8_isSeen_57 : decode cX8_isSeen 57 = .ok (.invokevirtual 242, 3) := by decide +kernel
theorem dX8_isSeen_60 : decode cX8_isSeen 60 = .ok (.aload_n 0, 1) := by decide +kernel
theorem dX8_isSeen_61 : decode cX8_isSeen 61 = .ok (.getfield 67, 3) := by decide +kernel
theorem dX8_isSeen_64 : decode cX8_isSeen 64 = .ok (.iload_n 3, 1) := by decide +kernel
theorem dX8_isSeen_65 : decode cX8_isSeen 65 = .ok (.iaload, 1) := by decide +kernel
theorem dX8_isSeen_66 : decode cX8_isSeen 66 = .ok (.iconst 1, 1) := by decide +kernel
theorem dX8_isSeen_67 : decode cX8_isSeen 67 = .ok (.if_icmp .ne 7, 3) := by decide +kernel
theorem dX8_isSeen_70 : decode cX8_isSeen 70 = .ok (.iconst 1, 1) := by decide +kernel
theorem dX8_isSeen_71 : decode cX8_isSeen 71 = .ok (.goto 4, 3) := by decide +kernel
theorem dX8_isSeen_74 : decode cX8_isSeen 74 = .ok (.iconst 0, 1) := by decide +kernel
theorem dX8_isSeen_75 : decode cX8_isSeen 75 = .ok (.if_icmp .eq 5, 3) := by decide +kernel
theorem dX8_isSeen_78 : decode cX8_isSeen 78 = .ok (.iconst 0, 1) := by decide +kernel
theorem dX8_isSeen_79 : decode cX8_isSeen 79 = .ok (.ireturn, 1) := by decide +kernel
theorem dX8_isSeen_80 : decode cX8_isSeen 80 = .ok (.iinc 3 1, 3) := by decide +kernel
theorem dX8_isSeen_83 : decode cX8_isSeen 83 = .ok (.goto (-81), 3) := by decide +kernel
theorem dX8_isSeen_86 : decode cX8_isSeen 86 = .ok (.iconst 1, 1) := by decide +kernel
theorem dX8_isSeen_87 : decode cX8_isSeen 87 = .ok (.ireturn, 1) := by decide +kernel
theorem dX8_hates_0 : decode cX8_hates 0 = .ok (.aload_n 0, 1) := by decide +kernel
theorem dX8_hates_1 : decode cX8_hates 1 = .ok (.iload_n 1, 1) := by decide +kernel
theorem dX8_hates_2 : decode cX8_hates 2 = .ok (.iload_n 2, 1) := by decide +kernel
theorem dX8_hates_3 : decode cX8_hates 3 = .ok (.invokevirtual 136, 3) := by decide +kernel
theorem dX8_hates_6 : decode cX8_hates 6 = .ok (.ifCond .eq 12, 3) := by decide +kernel
theorem dX8_hates_9 : decode cX8_hates 9 = .ok (.iload_n 3, 1) := by decide +kernel
theorem dX8_hates_10 : decode cX8_hates 10 = .ok (.iconst 0, 1) := by decide +kernel
theorem dX8_hates_11 : decode cX8_hates 11 = .ok (.iconst 1, 1) := by decide +kernel
theorem dX8_hates_12 : decode cX8_hates 12 = .ok (.invokestatic 117, 3) := by decide +kernel
theorem dX8_hates_15 : decode cX8_hates 15 = .ok (.ifCond .ne 5, 3) := by decide +kernel
theorem dX8_hates_18 : decode cX8_hates 18 = .ok (.iconst (-1), 1) := by decide +kernel
theorem dX8_hates_19 : decode cX8_hates 19 = .ok (.ireturn, 1) := by decide +kernel
theorem dX8_hates_20 : decode cX8_hates 20 = .ok (.iload_n 1, 1) := by decide +kernel
theorem dX8_hates_21 : decode cX8_hates 21 = .ok (.iload_n 2, 1) := by decide +kernel
theorem dX8_hates_22 : decode cX8_hates 22 = .ok (.if_icmp .ne 6, 3) := by decide +kernel
theorem dX8_hates_25 : decode cX8_hates 25 = .ok (.bipush (-2), 2) := by decide +kernel
theorem dX8_hates_27 : decode cX8_hates 27 = .ok (.ireturn, 1) := by decide +kernel
theorem dX8_hates_28 : decode cX8_hates 28 = .ok (.bipush 6, 2) := by decide +kernel
theorem dX8_hates_30 : decode cX8_hates 30 = .ok (.iload_n 1, 1) := by decide +kernel
theorem dX8_hates_31 : decode cX8_hates 31 = .ok (.imul, 1) := by decide +kernel
theorem dX8_hates_32 : decode cX8_hates 32 = .ok (.iload_n 2, 1) := by decide +kernel
theorem dX8_hates_33 : decode cX8_hates 33 = .ok (.iadd, 1) := by decide +kernel
theorem dX8_hates_34 : decode cX8_hates 34 = .ok (.istore 4, 2) := by decide +kernel
theorem dX8_hates_36 : decode cX8_hates 36 = .ok (.aload_n 0, 1) := by decide +kernel
theorem dX8_hates_37 : decode cX8_hates 37 = .ok (.getfield 30, 3) := by decide +kernel
theorem dX8_hates_40 : decode cX8_hates 40 = .ok (.iload 4, 2) := by decide +kernel
theorem dX8_hates_42 : decode cX8_hates 42 = .ok (.iaload, 1) := by decide +kernel
theorem dX8_hates_43 : decode cX8_hates 43 = .ok (.istore 5, 2) := by decide +kernel
theorem dX8_hates_45 : decode cX8_hates 45 = .ok (.iconst 0, 1) := by decide +kernel
theorem dX8_hates_46 : decode cX8_hates 46 = .ok (.istore 6, 2) := by decide +kernel
theorem dX8_hates_48 : decode cX8_hates 48 = .ok (.bipush (-5), 2) := by decide +kernel
theorem dX8_hates_50 : decode cX8_hates 50 = .ok (.istore 7, 2) := by decide +kernel
theorem dX8_hates_52 : decode cX8_hates 52 = .ok (.bipush 99, 2) := by decide +kernel
theorem dX8_hates_54 : decode cX8_hates 54 = .ok (.istore 8, 2) := by decide +kernel
theorem dX8_hates_56 : decode cX8_hates 56 = .ok (.iload 8, 2) := by decide +kernel
theorem dX8_hates_58 : decode cX8_hates 58 = .ok (.ifCond .lt 37, 3) := by decide +kernel
theorem dX8_hates_61 : decode cX8_hates 61 = .ok (.aload_n 0, 1) := by decide +kernel
theorem dX8_hates_62 : decode cX8_hates 62 = .ok (.getfield 30, 3) := by decide +kernel
theorem dX8_hates_65 : decode cX8_hates 65 = .ok (.iload 4, 2) := by decide +kernel
theorem dX8_hates_67 : decode cX8_hates 67 = .ok (.iload 8, 2) := by decide +kernel
theorem dX8_hates_69 : decode cX8_hates 69 = .ok (.iastore, 1) := by decide +kernel
theorem dX8_hates_70 : decode cX8_hates 70 = .ok (.aload_n 0, 1) := by decide +kernel
theorem dX8_hates_71 : decode cX8_hates 71 = .ok (.iload_n 1, 1) := by decide +kernel
theorem dX8_hates_72 : decode cX8_hates 72 = .ok (.iload_n 2, 1) := by decide +kernel
theorem dX8_hates_73 : decode cX8_hates 73 = .ok (.invokevirtual 308, 3) := by decide +kernel
theorem dX8_hates_76 : decode cX8_hates 76 = .ok (.ifCond .ne 6, 3) := by decide +kernel
theorem dX8_hates_79 : decode cX8_hates 79 = .ok (.goto 10, 3) := by decide +kernel
theorem dX8_hates_82 : decode cX8_hates 82 = .ok (.iinc 6 1, 3) := by decide +kernel
theorem dX8_hates_85 : decode cX8_hates 85 = .ok (.iload 8, 2) := by decide +kernel
theorem dX8_hates_87 : decode cX8_hates 87 = .ok (.istore 7, 2) := by decide +kernel
theorem dX8_hates_89 : decode cX8_hates 89 = .ok (.iinc 8 (-1), 3) := by decide +kernel
theorem dX8_hates_92 : decode cX8_hates 92 = .ok (.goto (-36), 3) := by decide +kernel
theorem dX8_hates_95 : decode cX8_hates 95 = .ok (.aload_n 0, 1) := by decide +kernel
theorem dX8_hates_96 : decode cX8_hates 96 = .ok (.getfield 30, 3) := by decide +kernel
theorem dX8_hates_99 : decode cX8_hates 99 = .ok (.iload 4, 2) := by decide +kernel
theorem dX8_hates_101 : decode cX8_hates 101 = .ok (.iload 5, 2) := by decide +kernel
theorem dX8_hates_103 : decode cX8_hates 103 = .ok (.iastore, 1) := by decide +kernel
theorem dX8_hates_104 : decode cX8_hates 104 = .ok (.iload_n 3, 1) := by decide +kernel
theorem dX8_hates_105 : decode cX8_hates 105 = .ok (.ifCond .ne 8, 3) := by decide +kernel
theorem dX8_hates_108 : decode cX8_hates 108 = .ok (.iload 6, 2) := by decide +kernel
theorem dX8_hates_110 : decode cX8_hates 110 = .ok (.goto 5, 3) := by decide +kernel
theorem dX8_hates_113 : decode cX8_hates 113 = .ok (.iload 7, 2) := by decide +kernel
theorem dX8_hates_115 : decode cX8_hates 115 = .ok (.ireturn, 1) := by decide +kernel
theorem dX8_can_0 : decode cX8_can 0 = .ok (.aload_n 0, 1) := by decide +kernel
theorem dX8_can_1 : decode cX8_can 1 = .ok (.iload_n 1, 1) := by decide +kernel
theorem dX8_can_2 : decode cX8_can 2 = .ok (.invokevirtual 121, 3) := by decide +kernel
theorem dX8_can_5 : decode cX8_can 5 = .ok (.ifCond .eq 12, 3) := by decide +kernel
theorem dX8_can_8 : decode cX8_can 8 = .ok (.iload_n 2, 1) := by decide +kernel
theorem dX8_can_9 : decode cX8_can 9 = .ok (.iconst 0, 1) := by decide +kernel
theorem dX8_can_10 : decode cX8_can 10 = .ok (.iconst 1, 1) := by decide +kernel
theorem dX8_can_11 : decode cX8_can 11 = .ok (.invokestatic 117, 3) := by decide +kernel
theorem dX8_can_14 : decode cX8_can 14 = .ok (.ifCond .ne 5, 3) := by decide +kernel
theorem dX8_can_17 : decode cX8_can 17 = .ok (.iconst (-1), 1) := by decide +kernel
theorem dX8_can_18 : decode cX8_can 18 = .ok (.ireturn, 1) := by decide +kernel
theorem dX8_can_19 : decode cX8_can 19 = .ok (.aload_n 0, 1) := by decide +kernel
theorem dX8_can_20 : decode cX8_can 20 = .ok (.getfield 15, 3) := by decide +kernel
theorem dX8_can_23 : decode cX8_can 23 = .ok (.iload_n 1, 1) := by decide +kernel
theorem dX8_can_24 : decode cX8_can 24 = .ok (.iaload, 1) := by decide +kernel
theorem dX8_can_25 : decode cX8_can 25 = .ok (.istore_n 3, 1) := by decide +kernel
theorem dX8_can_26 : decode cX8_can 26 = .ok (.iconst 0, 1) := by decide +kernel
theorem dX8_can_27 : decode cX8_can 27 = .ok (.istore 4, 2) := by decide +kernel
theorem dX8_can_29 : decode cX8_can 29 = .ok (.bipush (-5), 2) := by decide +kernel
theorem dX8_can_31 : decode cX8_can 31 = .ok (.istore 5, 2) := by decide +kernel
theorem dX8_can_33 : decode cX8_can 33 = .ok (.bipush 9, 2) := by decide +kernel
theorem dX8_can_35 : decode cX8_can 35 = .ok (.istore 6, 2) := by decide +kernel
theorem dX8_can_37 : decode cX8_can 37 = .ok (.iload 6, 2) := by decide +kernel
theorem dX8_can_39 : decode cX8_can 39 = .ok (.ifCond .lt 36, 3) := by decide +kernel
theorem dX8_can_42 : decode cX8_can 42 = .ok (.aload_n 0, 1) := by decide +kernel
theorem dX8_can_43 : decode cX8_can 43 = .ok (.getfield 15, 3) := by decide +kernel
theorem dX8_can_46 : decode cX8_can 46 = .ok (.iload_n 1, 1) := by decide +kernel
theorem dX8_can_47 : decode cX8_can 47 = .ok (.iload 6, 2) := by decide +kernel
theorem dX8_can_49 : decode cX8_can 49 = .ok (.iastore, 1) := by decide +kernel
theorem dX8_can_50 : decode cX8_can 50 = .ok (.aload_n 0, 1) := by decide +kernel
theorem dX8_can_51 : decode cX8_can 51 = .ok (.iload_n 1, 1) := by decide +kernel
theorem dX8_can_52 : decode cX8_can 52 = .ok (.iconst (-1), 1) := by decide +kernel
theorem dX8_can_53 : decode cX8_can 53 = .ok (.invokevirtual 308, 3) := by decide +kernel
theorem dX8_can_56 : decode cX8_can 56 = .ok (.ifCond .ne 6, 3) := by decide +kernel
theorem dX8_can_59 : decode cX8_can 59 = .ok (.goto 10, 3) := by decide +kernel
theorem dX8_can_62 : decode cX8_can 62 = .ok (.iinc 4 1, 3) := by decide +kernel
theorem dX8_can_65 : decode cX8_can 65 = .ok (.iload 6, 2) := by decide +kernel
theorem dX8_can_67 : decode cX8_can 67 = .ok (.istore 5, 2) := by decide +kernel
theorem dX8_can_69 : decode cX8_can 69 = .ok (.iinc 6 (-1), 3) := by decide +kernel
theorem dX8_can_72 : decode cX8_can 72 = .ok (.goto (-35), 3) := by decide +kernel
theorem dX8_can_75 : decode cX8_can 75 = .ok (.aload_n 0, 1) := by decide +kernel
theorem dX8_can_76 : decode cX8_can 76 = .ok (.getfield 15, 3) := by decide +kernel
theorem dX8_can_79 : decode cX8_can 79 = .ok (.iload_n 1, 1) := by decide +kernel
theorem dX8_can_80 : decode cX8_can 80 = .ok (.iload_n 3, 1) := by decide +kernel
theorem dX8_can_81 : decode cX8_can 81 = .ok (.iastore, 1) := by decide +kernel
theorem dX8_can_82 : decode cX8_can 82 = .ok (.iload_n 2, 1) := by decide +kernel
theorem dX8_can_83 : decode cX8_can 83 = .ok (.ifCond .ne 8, 3) := by decide +kernel
theorem dX8_can_86 : decode cX8_can 86 = .ok (.iload 4, 2) := by decide +kernel
theorem dX8_can_88 : decode cX8_can 88 = .ok (.goto 5, 3) := by decide +kernel
theorem dX8_can_91 : decode cX8_can 91 = .ok (.iload 5, 2) := by decide +kernel
theorem dX8_can_93 : decode cX8_can 93 = .ok (.ireturn, 1) := by decide +kernel
theorem dX8_part_0 : decode cX8_part 0 = .ok (.iload_n 0, 1) := by decide +kernel
theorem dX8_part_1 : decode cX8_part 1 = .ok (.istore_n 3, 1) := by decide +kernel
theorem dX8_part_2 : decode cX8_part 2 = .ok (.iload_n 1, 1) := by decide +kernel
theorem dX8_part_3 : decode cX8_part 3 = .ok (.istore 4, 2) := by decide +kernel
theorem dX8_part_5 : decode cX8_part 5 = .ok (.iload 4, 2) := by decide +kernel
theorem dX8_part_7 : decode cX8_part 7 = .ok (.ifCond .eq 19, 3) := by decide +kernel
theorem dX8_part_10 : decode cX8_part 10 = .ok (.iload_n 3, 1) := by decide +kernel
theorem dX8_part_11 : decode cX8_part 11 = .ok (.iload 4, 2) := by decide +kernel
theorem dX8_part_13 : decode cX8_part 13 = .ok (.irem, 1) := by decide +kernel
theorem dX8_part_14 : decode cX8_part 14 = .ok (.istore 5, 2) := by decide +kernel
theorem dX8_part_16 : decode cX8_part 16 = .ok (.iload 4, 2) := by decide +kernel
theorem dX8_part_18 : decode cX8_part 18 = .ok (.istore_n 3, 1) := by decide +kernel
theorem dX8_part_19 : decode cX8_part 19 = .ok (.iload 5, 2) := by decide +kernel
theorem dX8_part_21 : decode cX8_part 21 = .ok (.istore 4, 2) := by decide +kernel
theorem dX8_part_23 : decode cX8_part 23 = .ok (.goto (-18), 3) := by decide +kernel
theorem dX8_part_26 : decode cX8_part 26 = .ok (.iload_n 2, 1) := by decide +kernel
theorem dX8_part_27 : decode cX8_part 27 = .ok (.ifCond .ne 10, 3) := by decide +kernel
theorem dX8_part_30 : decode cX8_part 30 = .ok (.iload_n 0, 1) := by decide +kernel
theorem dX8_part_31 : decode cX8_part 31 = .ok (.iload_n 3, 1) := by decide +kernel
theorem dX8_part_32 : decode cX8_part 32 = .ok (.idiv, 1) := by decide +kernel
theorem dX8_part_33 : decode cX8_part 33 = .ok (.i2l, 1) := by decide +kernel
theorem dX8_part_34 : decode cX8_part 34 = .ok (.goto 7, 3) := by decide +kernel
theorem dX8_part_37 : decode cX8_part 37 = .ok (.iload_n 1, 1) := by decide +kernel
theorem dX8_part_38 : decode cX8_part 38 = .ok (.iload_n 3, 1) := by decide +kernel
theorem dX8_part_39 : decode cX8_part 39 = .ok (.idiv, 1) := by decide +kernel
theorem dX8_part_40 : decode cX8_part 40 = .ok (.i2l, 1) := by decide +kernel
theorem dX8_part_41 : decode cX8_part 41 = .ok (.lreturn, 1) := by decide +kernel
theorem dX8_odds_0 : decode cX8_odds 0 = .ok (.aload_n 0, 1) := by decide +kernel
theorem dX8_odds_1 : decode cX8_odds 1 = .ok (.iload_n 1, 1) := by decide +kernel
theorem dX8_odds_2 : decode cX8_odds 2 = .ok (.invokevirtual 121, 3) := by decide +kernel
theorem dX8_odds_5 : decode cX8_odds 5 = .ok (.ifCond .eq 20, 3) := by decide +kernel
theorem dX8_odds_8 : decode cX8_odds 8 = .ok (.iload_n 2, 1) := by decide +kernel
theorem dX8_odds_9 : decode cX8_odds 9 = .ok (.iconst 0, 1) := by decide +kernel
theorem dX8_odds_10 : decode cX8_odds 10 = .ok (.iconst 1, 1) := by decide +kernel
theorem dX8_odds_11 : decode cX8_odds 11 = .ok (.invokestatic 117, 3) := by decide +kernel
theorem dX8_odds_14 : decode cX8_odds 14 = .ok (.ifCond .eq 11, 3) := by decide +kernel
theorem dX8_odds_17 : decode cX8_odds 17 = .ok (.aload_n 0, 1) := by decide +kernel
theorem dX8_odds_18 : decode cX8_odds 18 = .ok (.getfield 114, 3) := by decide +kernel
theorem dX8_odds_21 : decode cX8_odds 21 = .ok (.iconst 2, 1) := by decide +kernel
theorem dX8_odds_22 : decode cX8_odds 22 = .ok (.if_icmp .ge 7, 3) := by decide +kernel
theorem dX8_odds_25 : decode cX8_odds 25 = .ok (.ldc2_w 311, 3) := by decide +kernel
theorem dX8_odds_28 : decode cX8_odds 28 = .ok (.lreturn, 1) := by decide +kernel
theorem dX8_odds_29 : decode cX8_odds 29 = .ok (.aload_n 0, 1) := by decide +kernel
theorem dX8_odds_30 : decode cX8_odds 30 = .ok (.iload_n 1, 1) := by decide +kernel
theorem dX8_odds_31 : decode cX8_odds 31 = .ok (.aload_n 0, 1) := by decide +kernel
theorem dX8_odds_32 : decode cX8_odds 32 = .ok (.getfield 125, 3) := by decide +kernel
theorem dX8_odds_35 : decode cX8_odds 35 = .ok (.invokevirtual 128, 3) := by decide +kernel
theorem dX8_odds_38 : decode cX8_odds 38 = .ok (.istore_n 3, 1) := by decide +kernel
theorem dX8_odds_39 : decode cX8_odds 39 = .ok (.iconst 0, 1) := by decide +kernel
theorem dX8_odds_40 : decode cX8_odds 40 = .ok (.istore 4, 2) := by decide +kernel
theorem dX8_odds_42 : decode cX8_odds 42 = .ok (.iconst 0, 1) := by decide +kernel
theorem dX8_odds_43 : decode cX8_odds 43 = .ok (.istore 5, 2) := by decide +kernel
theorem dX8_odds_45 : decode cX8_odds 45 = .ok (.iload 5, 2) := by decide +kernel
theorem dX8_odds_47 : decode cX8_odds 47 = .ok (.aload_n 0, 1) := by decide +kernel
theorem dX8_odds_48 : decode cX8_odds 48 = .ok (.getfield 114, 3) := by decide +kernel
theorem dX8_odds_51 : decode cX8_odds 51 = .ok (.if_icmp .ge 29, 3) := by decide +kernel
theorem dX8_odds_54 : decode cX8_odds 54 = .ok (.iload 5, 2) := by decide +kernel
theorem dX8_odds_56 : decode cX8_odds 56 = .ok (.iload_n 1, 1) := by decide +kernel
theorem dX8_odds_57 : decode cX8_odds 57 = .ok (.if_icmp .eq 17, 3) := by decide +kernel
theorem dX8_odds_60 : decode cX8_odds 60 = .ok (.iload_n 3, 1) := by decide +kernel
theorem dX8_odds_61 : decode cX8_odds 61 = .ok (.iconst 1, 1) := by decide +kernel
theorem dX8_odds_62 : decode cX8_odds 62 = .ok (.iload 5, 2) := by decide +kernel
theorem dX8_odds_64 : decode cX8_odds 64 = .ok (.ishl, 1) := by decide +kernel
theorem dX8_odds_65 : decode cX8_odds 65 = .ok (.iconst (-1), 1) := by decide +kernel
theorem dX8_odds_66 : decode cX8_odds 66 = .ok (.ixor, 1) := by decide +kernel
theorem dX8_odds_67 : decode cX8_odds 67 = .ok (.iand, 1) := by decide +kernel
theorem dX8_odds_68 : decode cX8_odds 68 = .ok (.ifCond .eq 6, 3) := by decide +kernel
theorem dX8_odds_71 : decode cX8_odds 71 = .ok (.iinc 4 1, 3) := by decide +kernel
theorem dX8_odds_74 : decode cX8_odds 74 = .ok (.iinc 5 1, 3) := by decide +kernel
theorem dX8_odds_77 : decode cX8_odds 77 = .ok (.goto (-32), 3) := by decide +kernel
theorem dX8_odds_80 : decode cX8_odds 80 = .ok (.iload 4, 2) := by decide +kernel
theorem dX8_odds_82 : decode cX8_odds 82 = .ok (.aload_n 0, 1) := by decide +kernel
theorem dX8_odds_83 : decode cX8_odds 83 = .ok (.getfield 114, 3) := by decide +kernel
theorem dX8_odds_86 : decode cX8_odds 86 = .ok (.iconst 1, 1) := by decide +kernel
theorem dX8_odds_87 : decode cX8_odds 87 = .ok (.isub, 1) := by decide +kernel
theorem dX8_odds_88 : decode cX8_odds 88 = .ok (.iload_n 2, 1) := by decide +kernel
theorem dX8_odds_89 : decode cX8_odds 89 = .ok (.invokestatic 313, 3) := by decide +kernel
theorem dX8_odds_92 : decode cX8_odds 92 = .ok (.lreturn, 1) := by decide +kernel
theorem dX8_mean_0 : decode cX8_mean 0 = .ok (.iload_n 1, 1) := by decide +kernel
theorem dX8_mean_1 : decode cX8_mean 1 = .ok (.iconst 0, 1) := by decide +kernel
theorem dX8_mean_2 : decode cX8_mean 2 = .ok (.iconst 1, 1) := by decide +kernel
theorem dX8_mean_3 : decode cX8_mean 3 = .ok (.invokestatic 117, 3) := by decide +kernel
theorem dX8_mean_6 : decode cX8_mean 6 = .ok (.ifCond .eq 10, 3) := by decide +kernel
theorem dX8_mean_9 : decode cX8_mean 9 = .ok (.aload_n 0, 1) := by decide +kernel
theorem dX8_mean_10 : decode cX8_mean 10 = .ok (.getfield 114, 3) := by decide +kernel
theorem dX8_mean_13 : decode cX8_mean 13 = .ok (.ifCond .ne 7, 3) := by decide +kernel
theorem dX8_mean_16 : decode cX8_mean 16 = .ok (.ldc2_w 311, 3) := by decide +kernel
theorem dX8_mean_19 : decode cX8_mean 19 = .ok (.lreturn, 1) := by decide +kernel
theorem dX8_mean_20 : decode cX8_mean 20 = .ok (.aload_n 0, 1) := by decide +kernel
theorem dX8_mean_21 : decode cX8_mean 21 = .ok (.invokevirtual 259, 3) := by decide +kernel
theorem dX8_mean_24 : decode cX8_mean 24 = .ok (.aload_n 0, 1) := by decide +kernel
theorem dX8_mean_25 : decode cX8_mean 25 = .ok (.getfield 114, 3) := by decide +kernel
theorem dX8_mean_28 : decode cX8_mean 28 = .ok (.iload_n 1, 1) := by decide +kernel
theorem dX8_mean_29 : decode cX8_mean 29 = .ok (.invokestatic 313, 3) := by decide +kernel
theorem dX8_mean_32 : decode cX8_mean 32 = .ok (.lreturn, 1) := by decide +kernel
theorem dX8_plan_0 : decode cX8_plan 0 = .ok (.iload_n 1, 1) := by decide +kernel
theorem dX8_plan_1 : decode cX8_plan 1 = .ok (.iconst (-1), 1) := by decide +kernel
theorem dX8_plan_2 : decode cX8_plan 2 = .ok (.if_icmp .ne 10, 3) := by decide +kernel
theorem dX8_plan_5 : decode cX8_plan 5 = .ok (.aload_n 0, 1) := by decide +kernel
theorem dX8_plan_6 : decode cX8_plan 6 = .ok (.iconst 0, 1) := by decide +kernel
theorem dX8_plan_7 : decode cX8_plan 7 = .ok (.putfield 317, 3) := by decide +kernel
theorem dX8_plan_10 : decode cX8_plan 10 = .ok (.iconst 0, 1) := by decide +kernel
theorem dX8_plan_11 : decode cX8_plan 11 = .ok (.ireturn, 1) := by decide +kernel
theorem dX8_plan_12 : decode cX8_plan 12 = .ok (.iload_n 1, 1) := by decide +kernel
theorem dX8_plan_13 : decode cX8_plan 13 = .ok (.iconst 0, 1) := by decide +kernel
theorem dX8_plan_14 : decode cX8_plan 14 = .ok (.iconst 3, 1) := by decide +kernel
theorem dX8_plan_15 : decode cX8_plan 15 = .ok (.invokestatic 117, 3) := by decide +kernel
theorem dX8_plan_18 : decode cX8_plan 18 = .ok (.ifCond .eq 15, 3) := by decide +kernel
theorem dX8_plan_21 : decode cX8_plan 21 = .ok (.iload_n 1, 1) := by decide +kernel
theorem dX8_plan_22 : decode cX8_plan 22 = .ok (.ifCond .le 13, 3) := by decide +kernel
theorem dX8_plan_25 : decode cX8_plan 25 = .ok (.aload_n 0, 1) := by decide +kernel
theorem dX8_plan_26 : decode cX8_plan 26 = .ok (.iload_n 2, 1) := by decide +kernel
theorem dX8_plan_27 : decode cX8_plan 27 = .ok (.invokevirtual 121, 3) := by decide +kernel
theorem dX8_plan_30 : decode cX8_plan 30 = .ok (.ifCond .ne 5, 3) := by decide +kernel
theorem dX8_plan_33 : decode cX8_plan 33 = .ok (.iconst (-1), 1) := by decide +kernel
theorem dX8_plan_34 : decode cX8_plan 34 = .ok (.ireturn, 1) := by decide +kernel
theorem dX8_plan_35 : decode cX8_plan 35 = .ok (.aload_n 0, 1) := by decide +kernel
theorem dX8_plan_36 : decode cX8_plan 36 = .ok (.getfield 317, 3) := by decide +kernel
theorem dX8_plan_39 : decode cX8_plan 39 = .ok (.bipush 10, 2) := by decide +kernel
theorem dX8_plan_41 : decode cX8_plan 41 = .ok (.if_icmp .ne 6, 3) := by decide +kernel
theorem dX8_plan_44 : decode cX8_plan 44 = .ok (.bipush (-4), 2) := by decide +kernel
theorem dX8_plan_46 : decode cX8_plan 46 = .ok (.ireturn, 1) := by decide +kernel
theorem dX8_plan_47 : decode cX8_plan 47 = .ok (.aload_n 0, 1) := by decide +kernel
theorem dX8_plan_48 : decode cX8_plan 48 = .ok (.getfield 70, 3) := by decide +kernel
theorem dX8_plan_51 : decode cX8_plan 51 = .ok (.aload_n 0, 1) := by decide +kernel
theorem dX8_plan_52 : decode cX8_plan 52 = .ok (.getfield 317, 3) := by decide +kernel
theorem dX8_plan_55 : decode cX8_plan 55 = .ok (.iload_n 1, 1) := by decide +kernel
theorem dX8_plan_56 : decode cX8_plan 56 = .ok (.iastore, 1) := by decide +kernel
theorem dX8_plan_57 : decode cX8_plan 57 = .ok (.aload_n 0, 1) := by decide +kernel
theorem dX8_plan_58 : decode cX8_plan 58 = .ok (.getfield 73, 3) := by decide +kernel
theorem dX8_plan_61 : decode cX8_plan 61 = .ok (.aload_n 0, 1) := by decide +kernel
theorem dX8_plan_62 : decode cX8_plan 62 = .ok (.dup, 1) := by decide +kernel
theorem dX8_plan_63 : decode cX8_plan 63 = .ok (.getfield 317, 3) := by decide +kernel
theorem dX8_plan_66 : decode cX8_plan 66 = .ok (.dup_x1, 1) := by decide +kernel
theorem dX8_plan_67 : decode cX8_plan 67 = .ok (.iconst 1, 1) := by decide +kernel
theorem dX8_plan_68 : decode cX8_plan 68 = .ok (.iadd, 1) := by decide +kernel
theorem dX8_plan_69 : decode cX8_plan 69 = .ok (.putfield 317, 3) := by decide +kernel
theorem dX8_plan_72 : decode cX8_plan 72 = .ok (.iload_n 1, 1) := by decide +kernel
theorem dX8_plan_73 : decode cX8_plan 73 = .ok (.ifCond .ne 7, 3) := by decide +kernel
theorem dX8_plan_76 : decode cX8_plan 76 = .ok (.iconst 0, 1) := by decide +kernel
theorem dX8_plan_77 : decode cX8_plan 77 = .ok (.goto 4, 3) := by decide +kernel
theorem dX8_plan_80 : decode cX8_plan 80 = .ok (.iload_n 2, 1) := by decide +kernel
theorem dX8_plan_81 : decode cX8_plan 81 = .ok (.iastore, 1) := by decide +kernel
theorem dX8_plan_82 : decode cX8_plan 82 = .ok (.aload_n 0, 1) := by decide +kernel
theorem dX8_plan_83 : decode cX8_plan 83 = .ok (.getfield 317, 3) := by decide +kernel
theorem dX8_plan_86 : decode cX8_plan 86 = .ok (.ireturn, 1) := by decide +kernel
theorem dX8_ends_0 : decode cX8_ends 0 = .ok (.iload_n 1, 1) := by decide +kernel
theorem dX8_ends_1 : decode cX8_ends 1 = .ok (.iconst 0, 1) := by decide +kernel
theorem dX8_ends_2 : decode cX8_ends 2 = .ok (.iconst 1, 1) := by decide +kernel
theorem dX8_ends_3 : decode cX8_ends 3 = .ok (.invokestatic 117, 3) := by decide +kernel
theorem dX8_ends_6 : decode cX8_ends 6 = .ok (.ifCond .ne 5, 3) := by decide +kernel
theorem dX8_ends_9 : decode cX8_ends 9 = .ok (.iconst (-1), 1) := by decide +kernel
theorem dX8_ends_10 : decode cX8_ends 10 = .ok (.ireturn, 1) := by decide +kernel
theorem dX8_ends_11 : decode cX8_ends 11 = .ok (.aload_n 0, 1) := by decide +kernel
theorem dX8_ends_12 : decode cX8_ends 12 = .ok (.aload_n 0, 1) := by decide +kernel
theorem dX8_ends_13 : decode cX8_ends 13 = .ok (.getfield 91, 3) := by decide +kernel
theorem dX8_ends_16 : decode cX8_ends 16 = .ok (.invokevirtual 285, 3) := by decide +kernel
theorem dX8_ends_19 : decode cX8_ends 19 = .ok (.iconst 0, 1) := by decide +kernel
theorem dX8_ends_20 : decode cX8_ends 20 = .ok (.istore_n 2, 1) := by decide +kernel
theorem dX8_ends_21 : decode cX8_ends 21 = .ok (.iload_n 2, 1) := by decide +kernel
theorem dX8_ends_22 : decode cX8_ends 22 = .ok (.aload_n 0, 1) := by decide +kernel
theorem dX8_ends_23 : decode cX8_ends 23 = .ok (.getfield 317, 3) := by decide +kernel
theorem dX8_ends_26 : decode cX8_ends 26 = .ok (.if_icmp .ge 103, 3) := by decide +kernel
theorem dX8_ends_29 : decode cX8_ends 29 = .ok (.aload_n 0, 1) := by decide +kernel
theorem dX8_ends_30 : decode cX8_ends 30 = .ok (.getfield 73, 3) := by decide +kernel
theorem dX8_ends_33 : decode cX8_ends 33 = .ok (.iload_n 2, 1) := by decide +kernel
theorem dX8_ends_34 : decode cX8_ends 34 = .ok (.iaload, 1) := by decide +kernel
theorem dX8_ends_35 : decode cX8_ends 35 = .ok (.istore_n 3, 1) := by decide +kernel
theorem dX8_ends_36 : decode cX8_ends 36 = .ok (.aload_n 0, 1) := by decide +kernel
theorem dX8_ends_37 : decode cX8_ends 37 = .ok (.getfield 70, 3) := by decide +kernel
theorem dX8_ends_40 : decode cX8_ends 40 = .ok (.iload_n 2, 1) := by decide +kernel
theorem dX8_ends_41 : decode cX8_ends 41 = .ok (.iaload, 1) := by decide +kernel
theorem dX8_ends_42 : decode cX8_ends 42 = .ok (.ifCond .ne 10, 3) := by decide +kernel
theorem dX8_ends_45 : decode cX8_ends 45 = .ok (.aload_n 0, 1) := by decide +kernel
theorem dX8_ends_46 : decode cX8_ends 46 = .ok (.invokevirtual 274, 3) := by decide +kernel
theorem dX8_ends_49 : decode cX8_ends 49 = .ok (.goto 74, 3) := by decide +kernel
theorem dX8_ends_52 : decode cX8_ends 52 = .ok (.aload_n 0, 1) := by decide +kernel
theorem dX8_ends_53 : decode cX8_ends 53 = .ok (.getfield 70, 3) := by decide +kernel
theorem dX8_ends_56 : decode cX8_ends 56 = .ok (.iload_n 2, 1) := by decide +kernel
theorem dX8_ends_57 : decode cX8_ends 57 = .ok (.iaload, 1) := by decide +kernel
theorem dX8_ends_58 : decode cX8_ends 58 = .ok (.iconst 1, 1) := by decide +kernel
theorem dX8_ends_59 : decode cX8_ends 59 = .ok (.if_icmp .ne 13, 3) := by decide +kernel
theorem dX8_ends_62 : decode cX8_ends 62 = .ok (.aload_n 0, 1) := by decide +kernel
theorem dX8_ends_63 : decode cX8_ends 63 = .ok (.getfield 18, 3) := by decide +kernel
theorem dX8_ends_66 : decode cX8_ends 66 = .ok (.iload_n 3, 1) := by decide +kernel
theorem dX8_ends_67 : decode cX8_ends 67 = .ok (.iconst 1, 1) := by decide +kernel
theorem dX8_ends_68 : decode cX8_ends 68 = .ok (.iastore, 1) := by decide +kernel
theorem dX8_ends_69 : decode cX8_ends 69 = .ok (.goto 54, 3) := by decide +kernel
theorem dX8_ends_72 : decode cX8_ends 72 = .ok (.iconst 0, 1) := by decide +kernel
theorem dX8_ends_73 : decode cX8_ends 73 = .ok (.istore 4, 2) := by decide +kernel
theorem dX8_ends_75 : decode cX8_ends 75 = .ok (.iload 4, 2) := by decide +kernel
theorem dX8_ends_77 : decode cX8_ends 77 = .ok (.aload_n 0, 1) := by decide +kernel
theorem dX8_ends_78 : decode cX8_ends 78 = .ok (.getfield 114, 3) := by decide +kernel
theorem dX8_ends_81 : decode cX8_ends 81 = .ok (.if_icmp .ge 42, 3) := by decide +kernel
theorem dX8_ends_84 : decode cX8_ends 84 = .ok (.aload_n 0, 1) := by decide +kernel
theorem dX8_ends_85 : decode cX8_ends 85 = .ok (.getfield 30, 3) := by decide +kernel
theorem dX8_ends_88 : decode cX8_ends 88 = .ok (.aload_n 0, 1) := by decide +kernel
theorem dX8_ends_89 : decode cX8_ends 89 = .ok (.getfield 70, 3) := by decide +kernel
theorem dX8_ends_92 : decode cX8_ends 92 = .ok (.iload_n 2, 1) := by decide +kernel
theorem dX8_ends_93 : decode cX8_ends 93 = .ok (.iaload, 1) := by decide +kernel
theorem dX8_ends_94 : decode cX8_ends 94 = .ok (.iconst 2, 1) := by decide +kernel
theorem dX8_ends_95 : decode cX8_ends 95 = .ok (.if_icmp .ne 13, 3) := by decide +kernel
theorem dX8_ends_98 : decode cX8_ends 98 = .ok (.bipush 6, 2) := by decide +kernel
theorem dX8_ends_100 : decode cX8_ends 100 = .ok (.iload_n 3, 1) := by decide +kernel
theorem dX8_ends_101 : decode cX8_ends 101 = .ok (.imul, 1) := by decide +kernel
theorem dX8_ends_102 : decode cX8_ends 102 = .ok (.iload 4, 2) := by decide +kernel
theorem dX8_ends_104 : decode cX8_ends 104 = .ok (.iadd, 1) := by decide +kernel
theorem dX8_ends_105 : decode cX8_ends 105 = .ok (.goto 10, 3) := by decide +kernel
theorem dX8_ends_108 : decode cX8_ends 108 = .ok (.bipush 6, 2) := by decide +kernel
theorem dX8_ends_110 : decode cX8_ends 110 = .ok (.iload 4, 2) := by decide +kernel
theorem dX8_ends_112 : decode cX8_ends 112 = .ok (.imul, 1) := by decide +kernel
theorem dX8_ends_113 : decode cX8_ends 113 = .ok (.iload_n 3, 1) := by decide +kernel
theorem dX8_ends_114 : decode cX8_ends 114 = .ok (.iadd, 1) := by decide +kernel
theorem dX8_ends_115 : decode cX8_ends 115 = .ok (.iconst 0, 1) := by decide +kernel
theorem dX8_ends_116 : decode cX8_ends 116 = .ok (.iastore, 1) := by decide +kernel
theorem dX8_ends_117 : decode cX8_ends 117 = .ok (.iinc 4 1, 3) := by decide +kernel
theorem dX8_ends_120 : decode cX8_ends 120 = .ok (.goto (-45), 3) := by decide +kernel
theorem dX8_ends_123 : decode cX8_ends 123 = .ok (.iinc 2 1, 3) := by decide +kernel
theorem dX8_ends_126 : decode cX8_ends 126 = .ok (.goto (-105), 3) := by decide +kernel
theorem dX8_ends_129 : decode cX8_ends 129 = .ok (.iload_n 1, 1) := by decide +kernel
theorem dX8_ends_130 : decode cX8_ends 130 = .ok (.ifCond .ne 10, 3) := by decide +kernel
theorem dX8_ends_133 : decode cX8_ends 133 = .ok (.aload_n 0, 1) := by decide +kernel
theorem dX8_ends_134 : decode cX8_ends 134 = .ok (.invokevirtual 256, 3) := by decide +kernel
theorem dX8_ends_137 : decode cX8_ends 137 = .ok (.goto 7, 3) := by decide +kernel
theorem dX8_ends_140 : decode cX8_ends 140 = .ok (.aload_n 0, 1) := by decide +kernel
theorem dX8_ends_141 : decode cX8_ends 141 = .ok (.invokevirtual 259, 3) := by decide +kernel
theorem dX8_ends_144 : decode cX8_ends 144 = .ok (.istore_n 2, 1) := by decide +kernel
theorem dX8_ends_145 : decode cX8_ends 145 = .ok (.aload_n 0, 1) := by decide +kernel
theorem dX8_ends_146 : decode cX8_ends 146 = .ok (.aload_n 0, 1) := by decide +kernel
theorem dX8_ends_147 : decode cX8_ends 147 = .ok (.getfield 91, 3) := by decide +kernel
theorem dX8_ends_150 : decode cX8_ends 150 = .ok (.invokevirtual 292, 3) := by decide +kernel
theorem dX8_ends_153 : decode cX8_ends 153 = .ok (.iload_n 2, 1) := by decide +kernel
theorem dX8_ends_154 : decode cX8_ends 154 = .ok (.ireturn, 1) := by decide +kernel
theorem dX8_book_0 : decode cX8_book 0 = .ok (.iload_n 1, 1) := by decide +kernel
theorem dX8_book_1 : decode cX8_book 1 = .ok (.iconst (-1), 1) := by decide +kernel
theorem dX8_book_2 : decode cX8_book 2 = .ok (.if_icmp .ne 10, 3) := by decide +kernel
theorem dX8_book_5 : decode cX8_book 5 = .ok (.aload_n 0, 1) := by decide +kernel
theorem dX8_book_6 : decode cX8_book 6 = .ok (.iconst 0, 1) := by decide +kernel
theorem dX8_book_7 : decode cX8_book 7 = .ok (.putfield 320, 3) := by decide +kernel
theorem dX8_book_10 : decode cX8_book 10 = .ok (.iconst 0, 1) := by decide +kernel
theorem dX8_book_11 : decode cX8_book 11 = .ok (.ireturn, 1) := by decide +kernel
theorem dX8_book_12 : decode cX8_book 12 = .ok (.aload_n 0, 1) := by decide +kernel
theorem dX8_book_13 : decode cX8_book 13 = .ok (.iload_n 1, 1) := by decide +kernel
theorem dX8_book_14 : decode cX8_book 14 = .ok (.iload_n 2, 1) := by decide +kernel
theorem dX8_book_15 : decode cX8_book 15 = .ok (.invokevirtual 136, 3) := by decide +kernel
theorem dX8_book_18 : decode cX8_book 18 = .ok (.ifCond .ne 5, 3) := by decide +kernel
theorem dX8_book_21 : decode cX8_book 21 = .ok (.iconst (-1), 1) := by decide +kernel
theorem dX8_book_22 : decode cX8_book 22 = .ok (.ireturn, 1) := by decide +kernel
theorem dX8_book_23 : decode cX8_book 23 = .ok (.iload_n 1, 1) := by decide +kernel
theorem dX8_book_24 : decode cX8_book 24 = .ok (.iload_n 2, 1) := by decide +kernel
theorem dX8_book_25 : decode cX8_book 25 = .ok (.if_icmp .eq 13, 3) := by decide +kernel
theorem dX8_book_28 : decode cX8_book 28 = .ok (.iload_n 3, 1) := by decide +kernel
theorem dX8_book_29 : decode cX8_book 29 = .ok (.iconst 0, 1) := by decide +kernel
theorem dX8_book_30 : decode cX8_book 30 = .ok (.bipush 99, 2) := by decide +kernel
theorem dX8_book_32 : decode cX8_book 32 = .ok (.invokestatic 117, 3) := by decide +kernel
theorem dX8_book_35 : decode cX8_book 35 = .ok (.ifCond .ne 6, 3) := by decide +kernel
theorem dX8_book_38 : decode cX8_book 38 = .ok (.bipush (-2), 2) := by decide +kernel
theorem dX8_book_40 : decode cX8_book 40 = .ok (.ireturn, 1) := by decide +kernel
theorem dX8_book_41 : decode cX8_book 41 = .ok (.aload_n 0, 1) := by decide +kernel
theorem dX8_book_42 : decode cX8_book 42 = .ok (.getfield 320, 3) := by decide +kernel
theorem dX8_book_45 : decode cX8_book 45 = .ok (.bipush 8, 2) := by decide +kernel
theorem dX8_book_47 : decode cX8_book 47 = .ok (.if_icmp .ne 6, 3) := by decide +kernel
theorem dX8_book_50 : decode cX8_book 50 = .ok (.bipush (-4), 2) := by decide +kernel
theorem dX8_book_52 : decode cX8_book 52 = .ok (.ireturn, 1) := by decide +kernel
theorem dX8_book_53 : decode cX8_book 53 = .ok (.aload_n 0, 1) := by decide +kernel
theorem dX8_book_54 : decode cX8_book 54 = .ok (.getfield 76, 3) := by decide +kernel
theorem dX8_book_57 : decode cX8_book 57 = .ok (.aload_n 0, 1) := by decide +kernel
theorem dX8_book_58 : decode cX8_book 58 = .ok (.getfield 320, 3) := by decide +kernel
theorem dX8_book_61 : decode cX8_book 61 = .ok (.iload_n 1, 1) := by decide +kernel
theorem dX8_book_62 : decode cX8_book 62 = .ok (.iastore, 1) := by decide +kernel
theorem dX8_book_63 : decode cX8_book 63 = .ok (.aload_n 0, 1) := by decide +kernel
theorem dX8_book_64 : decode cX8_book 64 = .ok (.getfield 79, 3) := by decide +kernel
theorem dX8_book_67 : decode cX8_book 67 = .ok (.aload_n 0, 1) := by decide +kernel
theorem dX8_book_68 : decode cX8_book 68 = .ok (.getfield 320, 3) := by decide +kernel
theorem dX8_book_71 : decode cX8_book 71 = .ok (.iload_n 2, 1) := by decide +kernel
theorem dX8_book_72 : decode cX8_book 72 = .ok (.iastore, 1) := by decide +kernel
theorem dX8_book_73 : decode cX8_book 73 = .ok (.aload_n 0, 1) := by decide +kernel
theorem dX8_book_74 : decode cX8_book 74 = .ok (.getfield 82, 3) := by decide +kernel
theorem dX8_book_77 : decode cX8_book 77 = .ok (.aload_n 0, 1) := by decide +kernel
theorem dX8_book_78 : decode cX8_book 78 = .ok (.dup, 1) := by decide +kernel
theorem dX8_book_79 : decode cX8_book 79 = .ok (.getfield 320, 3) := by decide +kernel
theorem dX8_book_82 : decode cX8_book 82 = .ok (.dup_x1, 1) := by decide +kernel
theorem dX8_book_83 : decode cX8_book 83 = .ok (.iconst 1, 1) := by decide +kernel
theorem dX8_book_84 : decode cX8_book 84 = .ok (.iadd, 1) := by decide +kernel
theorem dX8_book_85 : decode cX8_book 85 = .ok (.putfield 320, 3) := by decide +kernel
theorem dX8_book_88 : decode cX8_book 88 = .ok (.iload_n 3, 1) := by decide +kernel
theorem dX8_book_89 : decode cX8_book 89 = .ok (.iastore, 1) := by decide +kernel
theorem dX8_book_90 : decode cX8_book 90 = .ok (.aload_n 0, 1) := by decide +kernel
theorem dX8_book_91 : decode cX8_book 91 = .ok (.getfield 320, 3) := by decide +kernel
theorem dX8_book_94 : decode cX8_book 94 = .ok (.ireturn, 1) := by decide +kernel
theorem dX8_looked_0 : decode cX8_looked 0 = .ok (.iconst 0, 1) := by decide +kernel
theorem dX8_looked_1 : decode cX8_looked 1 = .ok (.istore_n 1, 1) := by decide +kernel
theorem dX8_looked_2 : decode cX8_looked 2 = .ok (.iload_n 1, 1) := by decide +kernel
theorem dX8_looked_3 : decode cX8_looked 3 = .ok (.aload_n 0, 1) := by decide +kernel
theorem dX8_looked_4 : decode cX8_looked 4 = .ok (.getfield 320, 3) := by decide +kernel
theorem dX8_looked_7 : decode cX8_looked 7 = .ok (.if_icmp .ge 41, 3) := by decide +kernel
theorem dX8_looked_10 : decode cX8_looked 10 = .ok (.aload_n 0, 1) := by decide +kernel
theorem dX8_looked_11 : decode cX8_looked 11 = .ok (.getfield 30, 3) := by decide +kernel
theorem dX8_looked_14 : decode cX8_looked 14 = .ok (.bipush 6, 2) := by decide +kernel
theorem dX8_looked_16 : decode cX8_looked 16 = .ok (.aload_n 0, 1) := by decide +kernel
theorem dX8_looked_17 : decode cX8_looked 17 = .ok (.getfield 76, 3) := by decide +kernel
theorem dX8_looked_20 : decode cX8_looked 20 = .ok (.iload_n 1, 1) := by decide +kernel
theorem dX8_looked_21 : decode cX8_looked 21 = .ok (.iaload, 1) := by decide +kernel
theorem dX8_looked_22 : decode cX8_looked 22 = .ok (.imul, 1) := by decide +kernel
theorem dX8_looked_23 : decode cX8_looked 23 = .ok (.aload_n 0, 1) := by decide +kernel
theorem dX8_looked_24 : decode cX8_looked 24 = .ok (.getfield 79, 3) := by decide +kernel
theorem dX8_looked_27 : decode cX8_looked 27 = .ok (.iload_n 1, 1) := by decide +kernel
theorem dX8_looked_28 : decode cX8_looked 28 = .ok (.iaload, 1) := by decide +kernel
theorem dX8_looked_29 : decode cX8_looked 29 = .ok (.iadd, 1) := by decide +kernel
theorem dX8_looked_30 : decode cX8_looked 30 = .ok (.iaload, 1) := by decide +kernel
theorem dX8_looked_31 : decode cX8_looked 31 = .ok (.aload_n 0, 1) := by decide +kernel
theorem dX8_looked_32 : decode cX8_looked 32 = .ok (.getfield 82, 3) := by decide +kernel
theorem dX8_looked_35 : decode cX8_looked 35 = .ok (.iload_n 1, 1) := by decide +kernel
theorem dX8_looked_36 : decode cX8_looked 36 = .ok (.iaload, 1) := by decide +kernel
theorem dX8_looked_37 : decode cX8_looked 37 = .ok (.if_icmp .eq 5, 3) := by decide +kernel
theorem dX8_looked_40 : decode cX8_looked 40 = .ok (.iload_n 1, 1) := by decide +kernel
theorem dX8_looked_41 : decode cX8_looked 41 = .ok (.ireturn, 1) := by decide +kernel
theorem dX8_looked_42 : decode cX8_looked 42 = .ok (.iinc 1 1, 3) := by decide +kernel
theorem dX8_looked_45 : decode cX8_looked 45 = .ok (.goto (-43), 3) := by decide +kernel
theorem dX8_looked_48 : decode cX8_looked 48 = .ok (.bipush (-5), 2) := by decide +kernel
theorem dX8_looked_50 : decode cX8_looked 50 = .ok (.ireturn, 1) := by decide +kernel
theorem dX8_judge_0 : decode cX8_judge 0 = .ok (.iload_n 1, 1) := by decide +kernel
theorem dX8_judge_1 : decode cX8_judge 1 = .ok (.iconst 0, 1) := by decide +kernel
theorem dX8_judge_2 : decode cX8_judge 2 = .ok (.iconst 5, 1) := by decide +kernel
theorem dX8_judge_3 : decode cX8_judge 3 = .ok (.invokestatic 117, 3) := by decide +kernel
theorem dX8_judge_6 : decode cX8_judge 6 = .ok (.ifCond .ne 5, 3) := by decide +kernel
theorem dX8_judge_9 : decode cX8_judge 9 = .ok (.iconst (-1), 1) := by decide +kernel
theorem dX8_judge_10 : decode cX8_judge 10 = .ok (.ireturn, 1) := by decide +kernel
theorem dX8_judge_11 : decode cX8_judge 11 = .ok (.aload_n 0, 1) := by decide +kernel
theorem dX8_judge_12 : decode cX8_judge 12 = .ok (.getfield 100, 3) := by decide +kernel
theorem dX8_judge_15 : decode cX8_judge 15 = .ok (.iload_n 1, 1) := by decide +kernel
theorem dX8_judge_16 : decode cX8_judge 16 = .ok (.iaload, 1) := by decide +kernel
theorem dX8_judge_17 : decode cX8_judge 17 = .ok (.iconst (-1), 1) := by decide +kernel
theorem dX8_judge_18 : decode cX8_judge 18 = .ok (.if_icmp .eq 16, 3) := by decide +kernel
theorem dX8_judge_21 : decode cX8_judge 21 = .ok (.aload_n 0, 1) := by decide +kernel
theorem dX8_judge_22 : decode cX8_judge 22 = .ok (.getfield 100, 3) := by decide +kernel
theorem dX8_judge_25 : decode cX8_judge 25 = .ok (.iload_n 1, 1) := by decide +kernel
theorem dX8_judge_26 : decode cX8_judge 26 = .ok (.iaload, 1) := by decide +kernel
theorem dX8_judge_27 : decode cX8_judge 27 = .ok (.iconst 4, 1) := by decide +kernel
theorem dX8_judge_28 : decode cX8_judge 28 = .ok (.if_icmp .eq 6, 3) := by decide +kernel
theorem dX8_judge_31 : decode cX8_judge 31 = .ok (.bipush (-12), 2) := by decide +kernel
theorem dX8_judge_33 : decode cX8_judge 33 = .ok (.ireturn, 1) := by decide +kernel
theorem dX8_judge_34 : decode cX8_judge 34 = .ok (.iconst 0, 1) := by decide +kernel
theorem dX8_judge_35 : decode cX8_judge 35 = .ok (.istore_n 3, 1) := by decide +kernel
theorem dX8_judge_36 : decode cX8_judge 36 = .ok (.iload_n 3, 1) := by decide +kernel
theorem dX8_judge_37 : decode cX8_judge 37 = .ok (.aload_n 0, 1) := by decide +kernel
theorem dX8_judge_38 : decode cX8_judge 38 = .ok (.getfield 114, 3) := by decide +kernel
theorem dX8_judge_41 : decode cX8_judge 41 = .ok (.if_icmp .ge 70, 3) := by decide +kernel
theorem dX8_judge_44 : decode cX8_judge 44 = .ok (.aload_n 0, 1) := by decide +kernel
theorem dX8_judge_45 : decode cX8_judge 45 = .ok (.getfield 100, 3) := by decide +kernel
theorem dX8_judge_48 : decode cX8_judge 48 = .ok (.iload_n 1, 1) := by decide +kernel
theorem dX8_judge_49 : decode cX8_judge 49 = .ok (.iaload, 1) := by decide +kernel
theorem dX8_judge_50 : decode cX8_judge 50 = .ok (.iconst (-1), 1) := by decide +kernel
theorem dX8_judge_51 : decode cX8_judge 51 = .ok (.if_icmp .eq 23, 3) := by decide +kernel
theorem dX8_judge_54 : decode cX8_judge 54 = .ok (.iload_n 2, 1) := by decide +kernel
theorem dX8_judge_55 : decode cX8_judge 55 = .ok (.ifCond .lt 19, 3) := by decide +kernel
theorem dX8_judge_58 : decode cX8_judge 58 = .ok (.iload_n 2, 1) := by decide +kernel
theorem dX8_judge_59 : decode cX8_judge 59 = .ok (.i2l, 1) := by decide +kernel
theorem dX8_judge_60 : decode cX8_judge 60 = .ok (.iload_n 3, 1) := by decide +kernel
theorem dX8_judge_61 : decode cX8_judge 61 = .ok (.i2l, 1) := by decide +kernel
theorem dX8_judge_62 : decode cX8_judge 62 = .ok (.ladd, 1) := by decide +kernel
theorem dX8_judge_63 : decode cX8_judge 63 = .ok (.aload_n 0, 1) := by decide +kernel
theorem dX8_judge_64 : decode cX8_judge 64 = .ok (.getfield 103, 3) := by decide +kernel
theorem dX8_judge_67 : decode cX8_judge 67 = .ok (.iload_n 1, 1) := by decide +kernel
theorem dX8_judge_68 : decode cX8_judge 68 = .ok (.iaload, 1) := by decide +kernel
theorem dX8_judge_69 : decode cX8_judge 69 = .ok (.i2l, 1) := by decide +kernel
theorem dX8_judge_70 : decode cX8_judge 70 = .ok (.lcmp, 1) := by decide +kernel
theorem dX8_judge_71 : decode cX8_judge 71 = .ok (.ifCond .lt 8, 3) := by decide +kernel
theorem dX8_judge_74 : decode cX8_judge 74 = .ok (.bipush 100, 2) := by decide +kernel
theorem dX8_judge_76 : decode cX8_judge 76 = .ok (.iload_n 3, 1) := by decide +kernel
theorem dX8_judge_77 : decode cX8_judge 77 = .ok (.iadd, 1) := by decide +kernel
theorem dX8_judge_78 : decode cX8_judge 78 = .ok (.ireturn, 1) := by decide +kernel
theorem dX8_judge_79 : decode cX8_judge 79 = .ok (.aload_n 0, 1) := by decide +kernel
theorem dX8_judge_80 : decode cX8_judge 80 = .ok (.getfield 106, 3) := by decide +kernel
theorem dX8_judge_83 : decode cX8_judge 83 = .ok (.bipush 60, 2) := by decide +kernel
theorem dX8_judge_85 : decode cX8_judge 85 = .ok (.iload_n 1, 1) := by decide +kernel
theorem dX8_judge_86 : decode cX8_judge 86 = .ok (.imul, 1) := by decide +kernel
theorem dX8_judge_87 : decode cX8_judge 87 = .ok (.iload_n 2, 1) := by decide +kernel
theorem dX8_judge_88 : decode cX8_judge 88 = .ok (.iadd, 1) := by decide +kernel
theorem dX8_judge_89 : decode cX8_judge 89 = .ok (.iload_n 3, 1) := by decide +kernel
theorem dX8_judge_90 : decode cX8_judge 90 = .ok (.iadd, 1) := by decide +kernel
theorem dX8_judge_91 : decode cX8_judge 91 = .ok (.laload, 1) := by decide +kernel
theorem dX8_judge_92 : decode cX8_judge 92 = .ok (.aload_n 0, 1) := by decide +kernel
theorem dX8_judge_93 : decode cX8_judge 93 = .ok (.getfield 18, 3) := by decide +kernel
theorem dX8_judge_96 : decode cX8_judge 96 = .ok (.iload_n 3, 1) := by decide +kernel
theorem dX8_judge_97 : decode cX8_judge 97 = .ok (.iaload, 1) := by decide +kernel
theorem dX8_judge_98 : decode cX8_judge 98 = .ok (.i2l, 1) := by decide +kernel
theorem dX8_judge_99 : decode cX8_judge 99 = .ok (.lcmp, 1) := by decide +kernel
theorem dX8_judge_100 : decode cX8_judge 100 = .ok (.ifCond .eq 5, 3) := by decide +kernel
theorem dX8_judge_103 : decode cX8_judge 103 = .ok (.iload_n 3, 1) := by decide +kernel
theorem dX8_judge_104 : decode cX8_judge 104 = .ok (.ireturn, 1) := by decide +kernel
theorem dX8_judge_105 : decode cX8_judge 105 = .ok (.iinc 3 1, 3) := by decide +kernel
theorem dX8_judge_108 : decode cX8_judge 108 = .ok (.goto (-72), 3) := by decide +kernel
theorem dX8_judge_111 : decode cX8_judge 111 = .ok (.bipush (-5), 2) := by decide +kernel
theorem dX8_judge_113 : decode cX8_judge 113 = .ok (.ireturn, 1) := by decide +kernel
theorem dX8_keep_0 : decode cX8_keep 0 = .ok (.iconst 0, 1) := by decide +kernel
theorem dX8_keep_1 : decode cX8_keep 1 = .ok (.istore_n 2, 1) := by decide +kernel
theorem dX8_keep_2 : decode cX8_keep 2 = .ok (.iload_n 2, 1) := by decide +kernel
theorem dX8_keep_3 : decode cX8_keep 3 = .ok (.bipush 6, 2) := by decide +kernel
theorem dX8_keep_5 : decode cX8_keep 5 = .ok (.if_icmp .ge 66, 3) := by decide +kernel
theorem dX8_keep_8 : decode cX8_keep 8 = .ok (.aload_n 1, 1) := by decide +kernel
theorem dX8_keep_9 : decode cX8_keep 9 = .ok (.iload_n 2, 1) := by decide +kernel
theorem dX8_keep_10 : decode cX8_keep 10 = .ok (.aload_n 0, 1) := by decide +kernel
theorem dX8_keep_11 : decode cX8_keep 11 = .ok (.getfield 9, 3) := by decide +kernel
theorem dX8_keep_14 : decode cX8_keep 14 = .ok (.iload_n 2, 1) := by decide +kernel
theorem dX8_keep_15 : decode cX8_keep 15 = .ok (.iaload, 1) := by decide +kernel
theorem dX8_keep_16 : decode cX8_keep 16 = .ok (.iastore, 1) := by decide +kernel
theorem dX8_keep_17 : decode cX8_keep 17 = .ok (.aload_n 1, 1) := by decide +kernel
theorem dX8_keep_18 : decode cX8_keep 18 = .ok (.bipush 6, 2) := by decide +kernel
theorem dX8_keep_20 : decode cX8_keep 20 = .ok (.iload_n 2, 1) := by decide +kernel
theorem dX8_keep_21 : decode cX8_keep 21 = .ok (.iadd, 1) := by decide +kernel
theorem dX8_keep_22 : decode cX8_keep 22 = .ok (.aload_n 0, 1) := by decide +kernel
theorem dX8_keep_23 : decode cX8_keep 23 = .ok (.getfield 15, 3) := by decide +kernel
theorem dX8_keep_26 : decode cX8_keep 26 = .ok (.iload_n 2, 1) := by decide +kernel
theorem dX8_keep_27 : decode cX8_keep 27 = .ok (.iaload, 1) := by decide +kernel
theorem dX8_keep_28 : decode cX8_keep 28 = .ok (.iastore, 1) := by decide +kernel
theorem dX8_keep_29 : decode cX8_keep 29 = .ok (.aload_n 1, 1) := by decide +kernel
theorem dX8_keep_30 : decode cX8_keep 30 = .ok (.bipush 12, 2) := by decide +kernel
theorem dX8_keep_32 : decode cX8_keep 32 = .ok (.iload_n 2, 1) := by decide +kernel
theorem dX8_keep_33 : decode cX8_keep 33 = .ok (.iadd, 1) := by decide +kernel
theorem dX8_keep_34 : decode cX8_keep 34 = .ok (.aload_n 0, 1) := by decide +kernel
theorem dX8_keep_35 : decode cX8_keep 35 = .ok (.getfield 18, 3) := by decide +kernel
theorem dX8_keep_38 : decode cX8_keep 38 = .ok (.iload_n 2, 1) := by decide +kernel
theorem dX8_keep_39 : decode cX8_keep 39 = .ok (.iaload, 1) := by decide +kernel
theorem dX8_keep_40 : decode cX8_keep 40 = .ok (.iastore, 1) := by decide +kernel
theorem dX8_keep_41 : decode cX8_keep 41 = .ok (.aload_n 1, 1) := by decide +kernel
theorem dX8_keep_42 : decode cX8_keep 42 = .ok (.bipush 18, 2) := by decide +kernel
theorem dX8_keep_44 : decode cX8_keep 44 = .ok (.iload_n 2, 1) := by decide +kernel
theorem dX8_keep_45 : decode cX8_keep 45 = .ok (.iadd, 1) := by decide +kernel
theorem dX8_keep_46 : decode cX8_keep 46 = .ok (.aload_n 0, 1) := by decide +kernel
theorem dX8_keep_47 : decode cX8_keep 47 = .ok (.getfield 21, 3) := by decide +kernel
theorem dX8_keep_50 : decode cX8_keep 50 = .ok (.iload_n 2, 1) := by decide +kernel
theorem dX8_keep_51 : decode cX8_keep 51 = .ok (.iaload, 1) := by decide +kernel
theorem dX8_keep_52 : decode cX8_keep 52 = .ok (.iastore, 1) := by decide +kernel
theorem dX8_keep_53 : decode cX8_keep 53 = .ok (.aload_n 1, 1) := by decide +kernel
theorem dX8_keep_54 : decode cX8_keep 54 = .ok (.bipush 24, 2) := by decide +kernel
theorem dX8_keep_56 : decode cX8_keep 56 = .ok (.iload_n 2, 1) := by decide +kernel
theorem dX8_keep_57 : decode cX8_keep 57 = .ok (.iadd, 1) := by decide +kernel
theorem dX8_keep_58 : decode cX8_keep 58 = .ok (.aload_n 0, 1) := by decide +kernel
theorem dX8_keep_59 : decode cX8_keep 59 = .ok (.getfield 24, 3) := by decide +kernel
theorem dX8_keep_62 : decode cX8_keep 62 = .ok (.iload_n 2, 1) := by decide +kernel
theorem dX8_keep_63 : decode cX8_keep 63 = .ok (.iaload, 1) := by decide +kernel
theorem dX8_keep_64 : decode cX8_keep 64 = .ok (.iastore, 1) := by decide +kernel
theorem dX8_keep_65 : decode cX8_keep 65 = .ok (.iinc 2 1, 3) := by decide +kernel
theorem dX8_keep_68 : decode cX8_keep 68 = .ok (.goto (-66), 3) := by decide +kernel
theorem dX8_keep_71 : decode cX8_keep 71 = .ok (.iconst 0, 1) := by decide +kernel
theorem dX8_keep_72 : decode cX8_keep 72 = .ok (.istore_n 2, 1) := by decide +kernel
theorem dX8_keep_73 : decode cX8_keep 73 = .ok (.iload_n 2, 1) := by decide +kernel
theorem dX8_keep_74 : decode cX8_keep 74 = .ok (.bipush 24, 2) := by decide +kernel
theorem dX8_keep_76 : decode cX8_keep 76 = .ok (.if_icmp .ge 21, 3) := by decide +kernel
theorem dX8_keep_79 : decode cX8_keep 79 = .ok (.aload_n 1, 1) := by decide +kernel
theorem dX8_keep_80 : decode cX8_keep 80 = .ok (.bipush 30, 2) := by decide +kernel
theorem dX8_keep_82 : decode cX8_keep 82 = .ok (.iload_n 2, 1) := by decide +kernel
theorem dX8_keep_83 : decode cX8_keep 83 = .ok (.iadd, 1) := by decide +kernel
theorem dX8_keep_84 : decode cX8_keep 84 = .ok (.aload_n 0, 1) := by decide +kernel
theorem dX8_keep_85 : decode cX8_keep 85 = .ok (.getfield 27, 3) := by decide +kernel
theorem dX8_keep_88 : decode cX8_keep 88 = .ok (.iload_n 2, 1) := by decide +kernel
theorem dX8_keep_89 : decode cX8_keep 89 = .ok (.iaload, 1) := by decide +kernel
theorem dX8_keep_90 : decode cX8_keep 90 = .ok (.iastore, 1) := by decide +kernel
theorem dX8_keep_91 : decode cX8_keep 91 = .ok (.iinc 2 1, 3) := by decide +kernel
theorem dX8_keep_94 : decode cX8_keep 94 = .ok (.goto (-21), 3) := by decide +kernel
theorem dX8_keep_97 : decode cX8_keep 97 = .ok (.iconst 0, 1) := by decide +kernel
theorem dX8_keep_98 : decode cX8_keep 98 = .ok (.istore_n 2, 1) := by decide +kernel
theorem dX8_keep_99 : decode cX8_keep 99 = .ok (.iload_n 2, 1) := by decide +kernel
theorem dX8_keep_100 : decode cX8_keep 100 = .ok (.bipush 36, 2) := by decide +kernel
theorem dX8_keep_102 : decode cX8_keep 102 = .ok (.if_icmp .ge 21, 3) := by decide +kernel
theorem dX8_keep_105 : decode cX8_keep 105 = .ok (.aload_n 1, 1) := by decide +kernel
theorem dX8_keep_106 : decode cX8_keep 106 = .ok (.bipush 54, 2) := by decide +kernel
theorem dX8_keep_108 : decode cX8_keep 108 = .ok (.iload_n 2, 1) := by decide +kernel
theorem dX8_keep_109 : decode cX8_keep 109 = .ok (.iadd, 1) := by decide +kernel
theorem dX8_keep_110 : decode cX8_keep 110 = .ok (.aload_n 0, 1) := by decide +kernel
theorem dX8_keep_111 : decode cX8_keep 111 = .ok (.getfield 30, 3) := by decide +kernel
theorem dX8_keep_114 : decode cX8_keep 114 = .ok (.iload_n 2, 1) := by decide +kernel
theorem dX8_keep_115 : decode cX8_keep 115 = .ok (.iaload, 1) := by decide +kernel
theorem dX8_keep_116 : decode cX8_keep 116 = .ok (.iastore, 1) := by decide +kernel
theorem dX8_keep_117 : decode cX8_keep 117 = .ok (.iinc 2 1, 3) := by decide +kernel
theorem dX8_keep_120 : decode cX8_keep 120 = .ok (.goto (-21), 3) := by decide +kernel
theorem dX8_keep_123 : decode cX8_keep 123 = .ok (.iconst 0, 1) := by decide +kernel
theorem dX8_keep_124 : decode cX8_keep 124 = .ok (.istore_n 2, 1) := by decide +kernel
theorem dX8_keep_125 : decode cX8_keep 125 = .ok (.iload_n 2, 1) := by decide +kernel
theorem dX8_keep_126 : decode cX8_keep 126 = .ok (.iconst 5, 1) := by decide +kernel
theorem dX8_keep_127 : decode cX8_keep 127 = .ok (.if_icmp .ge 57, 3) := by decide +kernel
theorem dX8_keep_130 : decode cX8_keep 130 = .ok (.aload_n 1, 1) := by decide +kernel
theorem dX8_keep_131 : decode cX8_keep 131 = .ok (.bipush 90, 2) := by decide +kernel
theorem dX8_keep_133 : decode cX8_keep 133 = .ok (.iload_n 2, 1) := by decide +kernel
theorem dX8_keep_134 : decode cX8_keep 134 = .ok (.iadd, 1) := by decide +kernel
theorem dX8_keep_135 : decode cX8_keep 135 = .ok (.aload_n 0, 1) := by decide +kernel
theorem dX8_keep_136 : decode cX8_keep 136 = .ok (.getfield 58, 3) := by decide +kernel
theorem dX8_keep_139 : decode cX8_keep 139 = .ok (.iload_n 2, 1) := by decide +kernel
theorem dX8_keep_140 : decode cX8_keep 140 = .ok (.iaload, 1) := by decide +kernel
theorem dX8_keep_141 : decode cX8_keep 141 = .ok (.iastore, 1) := by decide +kernel
theorem dX8_keep_142 : decode cX8_keep 142 = .ok (.aload_n 1, 1) := by decide +kernel
theorem dX8_keep_143 : decode cX8_keep 143 = .ok (.bipush 95, 2) := by decide +kernel
theorem dX8_keep_145 : decode cX8_keep 145 = .ok (.iload_n 2, 1) := by decide +kernel
theorem dX8_keep_146 : decode cX8_keep 146 = .ok (.iadd, 1) := by decide +kernel
theorem dX8_keep_147 : decode cX8_keep 147 = .ok (.aload_n 0, 1) := by decide +kernel
theorem dX8_keep_148 : decode cX8_keep 148 = .ok (.getfield 61, 3) := by decide +kernel
theorem dX8_keep_151 : decode cX8_keep 151 = .ok (.iload_n 2, 1) := by decide +kernel
theorem dX8_keep_152 : decode cX8_keep 152 = .ok (.iaload, 1) := by decide +kernel
theorem dX8_keep_153 : decode cX8_keep 153 = .ok (.iastore, 1) := by decide +kernel
theorem dX8_keep_154 : decode cX8_keep 154 = .ok (.aload_n 1, 1) := by decide +kernel
theorem dX8_keep_155 : decode cX8_keep 155 = .ok (.bipush 100, 2) := by decide +kernel
theorem dX8_keep_157 : decode cX8_keep 157 = .ok (.iload_n 2, 1) := by decide +kernel
theorem dX8_keep_158 : decode cX8_keep 158 = .ok (.iadd, 1) := by decide +kernel
theorem dX8_keep_159 : decode cX8_keep 159 = .ok (.aload_n 0, 1) := by decide +kernel
theorem dX8_keep_160 : decode cX8_keep 160 = .ok (.getfield 64, 3) := by decide +kernel
theorem dX8_keep_163 : decode cX8_keep 163 = .ok (.iload_n 2, 1) := by decide +kernel
theorem dX8_keep_164 : decode cX8_keep 164 = .ok (.iaload, 1) := by decide +kernel
theorem dX8_keep_165 : decode cX8_keep 165 = .ok (.iastore, 1) := by decide +kernel
theorem dX8_keep_166 : decode cX8_keep 166 = .ok (.aload_n 1, 1) := by decide +kernel
theorem dX8_keep_167 : decode cX8_keep 167 = .ok (.bipush 105, 2) := by decide +kernel
theorem dX8_keep_169 : decode cX8_keep 169 = .ok (.iload_n 2, 1) := by decide +kernel
theorem dX8_keep_170 : decode cX8_keep 170 = .ok (.iadd, 1) := by decide +kernel
theorem dX8_keep_171 : decode cX8_keep 171 = .ok (.aload_n 0, 1) := by decide +kernel
theorem dX8_keep_172 : decode cX8_keep 172 = .ok (.getfield 67, 3) := by decide +kernel
theorem dX8_keep_175 : decode cX8_keep 175 = .ok (.iload_n 2, 1) := by decide +kernel
theorem dX8_keep_176 : decode cX8_keep 176 = .ok (.iaload, 1) := by decide +kernel
theorem dX8_keep_177 : decode cX8_keep 177 = .ok (.iastore, 1) := by decide +kernel
theorem dX8_keep_178 : decode cX8_keep 178 = .ok (.iinc 2 1, 3) := by decide +kernel
theorem dX8_keep_181 : decode cX8_keep 181 = .ok (.goto (-56), 3) := by decide +kernel
theorem dX8_keep_184 : decode cX8_keep 184 = .ok (.iconst 0, 1) := by decide +kernel
theorem dX8_keep_185 : decode cX8_keep 185 = .ok (.istore_n 2, 1) := by decide +kernel
theorem dX8_keep_186 : decode cX8_keep 186 = .ok (.iload_n 2, 1) := by decide +kernel
theorem dX8_keep_187 : decode cX8_keep 187 = .ok (.bipush 10, 2) := by decide +kernel
theorem dX8_keep_189 : decode cX8_keep 189 = .ok (.if_icmp .ge 33, 3) := by decide +kernel
theorem dX8_keep_192 : decode cX8_keep 192 = .ok (.aload_n 1, 1) := by decide +kernel
theorem dX8_keep_193 : decode cX8_keep 193 = .ok (.bipush 110, 2) := by decide +kernel
theorem dX8_keep_195 : decode cX8_keep 195 = .ok (.iload_n 2, 1) := by decide +kernel
theorem dX8_keep_196 : decode cX8_keep 196 = .ok (.iadd, 1) := by decide +kernel
theorem dX8_keep_197 : decode cX8_keep 197 = .ok (.aload_n 0, 1) := by decide +kernel
theorem dX8_keep_198 : decode cX8_keep 198 = .ok (.getfield 70, 3) := by decide +kernel
theorem dX8_keep_201 : decode cX8_keep 201 = .ok (.iload_n 2, 1) := by decide +kernel
theorem dX8_keep_202 : decode cX8_keep 202 = .ok (.iaload, 1) := by decide +kernel
theorem dX8_keep_203 : decode cX8_keep 203 = .ok (.iastore, 1) := by decide +kernel
theorem dX8_keep_204 : decode cX8_keep 204 = .ok (.aload_n 1, 1) := by decide +kernel
theorem dX8_keep_205 : decode cX8_keep 205 = .ok (.bipush 120, 2) := by decide +kernel
theorem dX8_keep_207 : decode cX8_keep 207 = .ok (.iload_n 2, 1) := by decide +kernel
theorem dX8_keep_208 : decode cX8_keep 208 = .ok (.iadd, 1) := by decide +kernel
theorem dX8_keep_209 : decode cX8_keep 209 = .ok (.aload_n 0, 1) := by decide +kernel
theorem dX8_keep_210 : decode cX8_keep 210 = .ok (.getfield 73, 3) := by decide +kernel
theorem dX8_keep_213 : decode cX8_keep 213 = .ok (.iload_n 2, 1) := by decide +kernel
theorem dX8_keep_214 : decode cX8_keep 214 = .ok (.iaload, 1) := by decide +kernel
theorem dX8_keep_215 : decode cX8_keep 215 = .ok (.iastore, 1) := by decide +kernel
theorem dX8_keep_216 : decode cX8_keep 216 = .ok (.iinc 2 1, 3) := by decide +kernel
theorem dX8_keep_219 : decode cX8_keep 219 = .ok (.goto (-33), 3) := by decide +kernel
theorem dX8_keep_222 : decode cX8_keep 222 = .ok (.iconst 0, 1) := by decide +kernel
theorem dX8_keep_223 : decode cX8_keep 223 = .ok (.istore_n 2, 1) := by decide +kernel
theorem dX8_keep_224 : decode cX8_keep 224 = .ok (.iload_n 2, 1) := by decide +kernel
theorem dX8_keep_225 : decode cX8_keep 225 = .ok (.bipush 8, 2) := by decide +kernel
theorem dX8_keep_227 : decode cX8_keep 227 = .ok (.if_icmp .ge 48, 3) := by decide +kernel
theorem dX8_keep_230 : decode cX8_keep 230 = .ok (.aload_n 1, 1) := by decide +kernel
theorem dX8_keep_231 : decode cX8_keep 231 = .ok (.sipush 130, 3) := by decide +kernel
theorem dX8_keep_234 : decode cX8_keep 234 = .ok (.iload_n 2, 1) := by decide +kernel
theorem dX8_keep_235 : decode cX8_keep 235 = .ok (.iadd, 1) := by decide +kernel
theorem dX8_keep_236 : decode cX8_keep 236 = .ok (.aload_n 0, 1) := by decide +kernel
theorem dX8_keep_237 : decode cX8_keep 237 = .ok (.getfield 76, 3) := by decide +kernel
theorem dX8_keep_240 : decode cX8_keep 240 = .ok (.iload_n 2, 1) := by decide +kernel
theorem dX8_keep_241 : decode cX8_keep 241 = .ok (.iaload, 1) := by decide +kernel
theorem dX8_keep_242 : decode cX8_keep 242 = .ok (.iastore, 1) := by decide +kernel
theorem dX8_keep_243 : decode cX8_keep 243 = .ok (.aload_n 1, 1) := by decide +kernel
theorem dX8_keep_244 : decode cX8_keep 244 = .ok (.sipush 138, 3) := by decide +kernel
theorem dX8_keep_247 : decode cX8_keep 247 = .ok (.iload_n 2, 1) := by decide +kernel
theorem dX8_keep_248 : decode cX8_keep 248 = .ok (.iadd, 1) := by decide +kernel
theorem dX8_keep_249 : decode cX8_keep 249 = .ok (.aload_n 0, 1) := by decide +kernel
theorem dX8_keep_250 : decode cX8_keep 250 = .ok (.getfield 79, 3) := by decide +kernel
theorem dX8_keep_253 : decode cX8_keep 253 = .ok (.iload_n 2, 1) := by decide +kernel
theorem dX8_keep_254 : decode cX8_keep 254 = .ok (.iaload, 1) := by decide +kernel
theorem dX8_keep_255 : decode cX8_keep 255 = .ok (.iastore, 1) := by decide +kernel
theorem dX8_keep_256 : decode cX8_keep 256 = .ok (.aload_n 1, 1) := by decide +kernel
theorem dX8_keep_257 : decode cX8_keep 257 = .ok (.sipush 146, 3) := by decide +kernel
theorem dX8_keep_260 : decode cX8_keep 260 = .ok (.iload_n 2, 1) := by decide +kernel
theorem dX8_keep_261 : decode cX8_keep 261 = .ok (.iadd, 1) := by decide +kernel
theorem dX8_keep_262 : decode cX8_keep 262 = .ok (.aload_n 0, 1) := by decide +kernel
theorem dX8_keep_263 : decode cX8_keep 263 = .ok (.getfield 82, 3) := by decide +kernel
theorem dX8_keep_266 : decode cX8_keep 266 = .ok (.iload_n 2, 1) := by decide +kernel
theorem dX8_keep_267 : decode cX8_keep 267 = .ok (.iaload, 1) := by decide +kernel
theorem dX8_keep_268 : decode cX8_keep 268 = .ok (.iastore, 1) := by decide +kernel
theorem dX8_keep_269 : decode cX8_keep 269 = .ok (.iinc 2 1, 3) := by decide +kernel
theorem dX8_keep_272 : decode cX8_keep 272 = .ok (.goto (-48), 3) := by decide +kernel
theorem dX8_keep_275 : decode cX8_keep 275 = .ok (.aload_n 1, 1) := by decide +kernel
theorem dX8_keep_276 : decode cX8_keep 276 = .ok (.sipush 154, 3) := by decide +kernel
theorem dX8_keep_279 : decode cX8_keep 279 = .ok (.aload_n 0, 1) := by decide +kernel
theorem dX8_keep_280 : decode cX8_keep 280 = .ok (.getfield 114, 3) := by decide +kernel
theorem dX8_keep_283 : decode cX8_keep 283 = .ok (.iastore, 1) := by decide +kernel
theorem dX8_keep_284 : decode cX8_keep 284 = .ok (.aload_n 1, 1) := by decide +kernel
theorem dX8_keep_285 : decode cX8_keep 285 = .ok (.sipush 155, 3) := by decide +kernel
theorem dX8_keep_288 : decode cX8_keep 288 = .ok (.aload_n 0, 1) := by decide +kernel
theorem dX8_keep_289 : decode cX8_keep 289 = .ok (.getfield 125, 3) := by decide +kernel
theorem dX8_keep_292 : decode cX8_keep 292 = .ok (.iastore, 1) := by decide +kernel
theorem dX8_keep_293 : decode cX8_keep 293 = .ok (.aload_n 1, 1) := by decide +kernel
theorem dX8_keep_294 : decode cX8_keep 294 = .ok (.sipush 156, 3) := by decide +kernel
theorem dX8_keep_297 : decode cX8_keep 297 = .ok (.aload_n 0, 1) := by decide +kernel
theorem dX8_keep_298 : decode cX8_keep 298 = .ok (.getfield 305, 3) := by decide +kernel
theorem dX8_keep_301 : decode cX8_keep 301 = .ok (.iastore, 1) := by decide +kernel
theorem dX8_keep_302 : decode cX8_keep 302 = .ok (.aload_n 1, 1) := by decide +kernel
theorem dX8_keep_303 : decode cX8_keep 303 = .ok (.sipush 157, 3) := by decide +kernel
theorem dX8_keep_306 : decode cX8_keep 306 = .ok (.aload_n 0, 1) := by decide +kernel
theorem dX8_keep_307 : decode cX8_keep 307 = .ok (.getfield 317, 3) := by decide +kernel
theorem dX8_keep_310 : decode cX8_keep 310 = .ok (.iastore, 1) := by decide +kernel
theorem dX8_keep_311 : decode cX8_keep 311 = .ok (.aload_n 1, 1) := by decide +kernel
theorem dX8_keep_312 : decode cX8_keep 312 = .ok (.sipush 158, 3) := by decide +kernel
theorem dX8_keep_315 : decode cX8_keep 315 = .ok (.aload_n 0, 1) := by decide +kernel
theorem dX8_keep_316 : decode cX8_keep 316 = .ok (.getfield 320, 3) := by decide +kernel
theorem dX8_keep_319 : decode cX8_keep 319 = .ok (.iastore, 1) := by decide +kernel
theorem dX8_keep_320 : decode cX8_keep 320 = .ok (.aload_n 1, 1) := by decide +kernel
theorem dX8_keep_321 : decode cX8_keep 321 = .ok (.sipush 159, 3) := by decide +kernel
theorem dX8_keep_324 : decode cX8_keep 324 = .ok (.aload_n 0, 1) := by decide +kernel
theorem dX8_keep_325 : decode cX8_keep 325 = .ok (.getfield 110, 3) := by decide +kernel
theorem dX8_keep_328 : decode cX8_keep 328 = .ok (.iastore, 1) := by decide +kernel
theorem dX8_keep_329 : decode cX8_keep 329 = .ok (.return_, 1) := by decide +kernel
theorem dX8_again_0 : decode cX8_again 0 = .ok (.iconst 0, 1) := by decide +kernel
theorem dX8_again_1 : decode cX8_again 1 = .ok (.istore_n 2, 1) := by decide +kernel
theorem dX8_again_2 : decode cX8_again 2 = .ok (.iload_n 2, 1) := by decide +kernel
theorem dX8_again_3 : decode cX8_again 3 = .ok (.bipush 6, 2) := by decide +kernel
theorem dX8_again_5 : decode cX8_again 5 = .ok (.if_icmp .ge 66, 3) := by decide +kernel
theorem dX8_again_8 : decode cX8_again 8 = .ok (.aload_n 0, 1) := by decide +kernel
theorem dX8_again_9 : decode cX8_again 9 = .ok (.getfield 9, 3) := by decide +kernel
theorem dX8_again_12 : decode cX8_again 12 = .ok (.iload_n 2, 1) := by decide +kernel
theorem dX8_again_13 : decode cX8_again 13 = .ok (.aload_n 1, 1) := by decide +kernel
theorem dX8_again_14 : decode cX8_again 14 = .ok (.iload_n 2, 1) := by decide +kernel
theorem dX8_again_15 : decode cX8_again 15 = .ok (.iaload, 1) := by decide +kernel
theorem dX8_again_16 : decode cX8_again 16 = .ok (.iastore, 1) := by decide +kernel
theorem dX8_again_17 : decode cX8_again 17 = .ok (.aload_n 0, 1) := by decide +kernel
theorem dX8_again_18 : decode cX8_again 18 = .ok (.getfield 15, 3) := by decide +kernel
theorem dX8_again_21 : decode cX8_again 21 = .ok (.iload_n 2, 1) := by decide +kernel
theorem dX8_again_22 : decode cX8_again 22 = .ok (.aload_n 1, 1) := by decide +kernel
theorem dX8_again_23 : decode cX8_again 23 = .ok (.bipush 6, 2) := by decide +kernel
theorem dX8_again_25 : decode cX8_again 25 = .ok (.iload_n 2, 1) := by decide +kernel
theorem dX8_again_26 : decode cX8_again 26 = .ok (.iadd, 1) := by decide +kernel
theorem dX8_again_27 : decode cX8_again 27 = .ok (.iaload, 1) := by decide +kernel
theorem dX8_again_28 : decode cX8_again 28 = .ok (.iastore, 1) := by decide +kernel
theorem dX8_again_29 : decode cX8_again 29 = .ok (.aload_n 0, 1) := by decide +kernel
theorem dX8_again_30 : decode cX8_again 30 = .ok (.getfield 18, 3) := by decide +kernel
theorem dX8_again_33 : decode cX8_again 33 = .ok (.iload_n 2, 1) := by decide +kernel
theorem dX8_again_34 : decode cX8_again 34 = .ok (.aload_n 1, 1) := by decide +kernel
theorem dX8_again_35 : decode cX8_again 35 = .ok (.bipush 12, 2) := by decide +kernel
theorem dX8_again_37 : decode cX8_again 37 = .ok (.iload_n 2, 1) := by decide +kernel
theorem dX8_again_38 : decode cX8_again 38 = .ok (.iadd, 1) := by decide +kernel
theorem dX8_again_39 : decode cX8_again 39 = .ok (.iaload, 1) := by decide +kernel
theorem dX8_again_40 : decode cX8_again 40 = .ok (.iastore, 1) := by decide +kernel
theorem dX8_again_41 : decode cX8_again 41 = .ok (.aload_n 0, 1) := by decide +kernel
theorem dX8_again_42 : decode cX8_again 42 = .ok (.getfield 21, 3) := by decide +kernel
theorem dX8_again_45 : decode cX8_again 45 = .ok (.iload_n 2, 1) := by decide +kernel
theorem dX8_again_46 : decode cX8_again 46 = .ok (.aload_n 1, 1) := by decide +kernel
theorem dX8_again_47 : decode cX8_again 47 = .ok (.bipush 18, 2) := by decide +kernel
theorem dX8_again_49 : decode cX8_again 49 = .ok (.iload_n 2, 1) := by decide +kernel
theorem dX8_again_50 : decode cX8_again 50 = .ok (.iadd, 1) := by decide +kernel
theorem dX8_again_51 : decode cX8_again 51 = .ok (.iaload, 1) := by decide +kernel
theorem dX8_again_52 : decode cX8_again 52 = .ok (.iastore, 1) := by decide +kernel
theorem dX8_again_53 : decode cX8_again 53 = .ok (.aload_n 0, 1) := by decide +kernel
theorem dX8_again_54 : decode cX8_again 54 = .ok (.getfield 24, 3) := by decide +kernel
theorem dX8_again_57 : decode cX8_again 57 = .ok (.iload_n 2, 1) := by decide +kernel
theorem dX8_again_58 : decode cX8_again 58 = .ok (.aload_n 1, 1) := by decide +kernel
theorem dX8_again_59 : decode cX8_again 59 = .ok (.bipush 24, 2) := by decide +kernel
theorem dX8_again_61 : decode cX8_again 61 = .ok (.iload_n 2, 1) := by decide +kernel
theorem dX8_again_62 : decode cX8_again 62 = .ok (.iadd, 1) := by decide +kernel
theorem dX8_again_63 : decode cX8_again 63 = .ok (.iaload, 1) := by decide +kernel
theorem dX8_again_64 : decode cX8_again 64 = .ok (.iastore, 1) := by decide +kernel
theorem dX8_again_65 : decode cX8_again 65 = .ok (.iinc 2 1, 3) := by decide +kernel
theorem dX8_again_68 : decode cX8_again 68 = .ok (.goto (-66), 3) := by decide +kernel
theorem dX8_again_71 : decode cX8_again 71 = .ok (.iconst 0, 1) := by decide +kernel
theorem dX8_again_72 : decode cX8_again 72 = .ok (.istore_n 2, 1) := by decide +kernel
theorem dX8_again_73 : decode cX8_again 73 = .ok (.iload_n 2, 1) := by decide +kernel
theorem dX8_again_74 : decode cX8_again 74 = .ok (.bipush 24, 2) := by decide +kernel
theorem dX8_again_76 : decode cX8_again 76 = .ok (.if_icmp .ge 21, 3) := by decide +kernel
theorem dX8_again_79 : decode cX8_again 79 = .ok (.aload_n 0, 1) := by decide +kernel
theorem dX8_again_80 : decode cX8_again 80 = .ok (.getfield 27, 3) := by decide +kernel
theorem dX8_again_83 : decode cX8_again 83 = .ok (.iload_n 2, 1) := by decide +kernel
theorem dX8_again_84 : decode cX8_again 84 = .ok (.aload_n 1, 1) := by decide +kernel
theorem dX8_again_85 : decode cX8_again 85 = .ok (.bipush 30, 2) := by decide +kernel
theorem dX8_again_87 : decode cX8_again 87 = .ok (.iload_n 2, 1) := by decide +kernel
theorem dX8_again_88 : decode cX8_again 88 = .ok (.iadd, 1) := by decide +kernel
theorem dX8_again_89 : decode cX8_again 89 = .ok (.iaload, 1) := by decide +kernel
theorem dX8_again_90 : decode cX8_again 90 = .ok (.iastore, 1) := by decide +kernel
theorem dX8_again_91 : decode cX8_again 91 = .ok (.iinc 2 1, 3) := by decide +kernel
theorem dX8_again_94 : decode cX8_again 94 = .ok (.goto (-21), 3) := by decide +kernel
theorem dX8_again_97 : decode cX8_again 97 = .ok (.iconst 0, 1) := by decide +kernel
theorem dX8_again_98 : decode cX8_again 98 = .ok (.istore_n 2, 1) := by decide +kernel
theorem dX8_again_99 : decode cX8_again 99 = .ok (.iload_n 2, 1) := by decide +kernel
theorem dX8_again_100 : decode cX8_again 100 = .ok (.bipush 36, 2) := by decide +kernel
theorem dX8_again_102 : decode cX8_again 102 = .ok (.if_icmp .ge 21, 3) := by decide +kernel
theorem dX8_again_105 : decode cX8_again 105 = .ok (.aload_n 0, 1) := by decide +kernel
theorem dX8_again_106 : decode cX8_again 106 = .ok (.getfield 30, 3) := by decide +kernel
theorem dX8_again_109 : decode cX8_again 109 = .ok (.iload_n 2, 1) := by decide +kernel
theorem dX8_again_110 : decode cX8_again 110 = .ok (.aload_n 1, 1) := by decide +kernel
theorem dX8_again_111 : decode cX8_again 111 = .ok (.bipush 54, 2) := by decide +kernel
theorem dX8_again_113 : decode cX8_again 113 = .ok (.iload_n 2, 1) := by decide +kernel
theorem dX8_again_114 : decode cX8_again 114 = .ok (.iadd, 1) := by decide +kernel
theorem dX8_again_115 : decode cX8_again 115 = .ok (.iaload, 1) := by decide +kernel
theorem dX8_again_116 : decode cX8_again 116 = .ok (.iastore, 1) := by decide +kernel
theorem dX8_again_117 : decode cX8_again 117 = .ok (.iinc 2 1, 3) := by decide +kernel
theorem dX8_again_120 : decode cX8_again 120 = .ok (.goto (-21), 3) := by decide +kernel
theorem dX8_again_123 : decode cX8_again 123 = .ok (.iconst 0, 1) := by decide +kernel
theorem dX8_again_124 : decode cX8_again 124 = .ok (.istore_n 2, 1) := by decide +kernel
theorem dX8_again_125 : decode cX8_again 125 = .ok (.iload_n 2, 1) := by decide +kernel
theorem dX8_again_126 : decode cX8_again 126 = .ok (.iconst 5, 1) := by decide +kernel
theorem dX8_again_127 : decode cX8_again 127 = .ok (.if_icmp .ge 57, 3) := by decide +kernel
theorem dX8_again_130 : decode cX8_again 130 = .ok (.aload_n 0, 1) := by decide +kernel
theorem dX8_again_131 : decode cX8_again 131 = .ok (.getfield 58, 3) := by decide +kernel
theorem dX8_again_134 : decode cX8_again 134 = .ok (.iload_n 2, 1) := by decide +kernel
theorem dX8_again_135 : decode cX8_again 135 = .ok (.aload_n 1, 1) := by decide +kernel
theorem dX8_again_136 : decode cX8_again 136 = .ok (.bipush 90, 2) := by decide +kernel
theorem dX8_again_138 : decode cX8_again 138 = .ok (.iload_n 2, 1) := by decide +kernel
theorem dX8_again_139 : decode cX8_again 139 = .ok (.iadd, 1) := by decide +kernel
theorem dX8_again_140 : decode cX8_again 140 = .ok (.iaload, 1) := by decide +kernel
theorem dX8_again_141 : decode cX8_again 141 = .ok (.iastore, 1) := by decide +kernel
theorem dX8_again_142 : decode cX8_again 142 = .ok (.aload_n 0, 1) := by decide +kernel
theorem dX8_again_143 : decode cX8_again 143 = .ok (.getfield 61, 3) := by decide +kernel
theorem dX8_again_146 : decode cX8_again 146 = .ok (.iload_n 2, 1) := by decide +kernel
theorem dX8_again_147 : decode cX8_again 147 = .ok (.aload_n 1, 1) := by decide +kernel
theorem dX8_again_148 : decode cX8_again 148 = .ok (.bipush 95, 2) := by decide +kernel
theorem dX8_again_150 : decode cX8_again 150 = .ok (.iload_n 2, 1) := by decide +kernel
theorem dX8_again_151 : decode cX8_again 151 = .ok (.iadd, 1) := by decide +kernel
theorem dX8_again_152 : decode cX8_again 152 = .ok (.iaload, 1) := by decide +kernel
theorem dX8_again_153 : decode cX8_again 153 = .ok (.iastore, 1) := by decide +kernel
theorem dX8_again_154 : decode cX8_again 154 = .ok (.aload_n 0, 1) := by decide +kernel
theorem dX8_again_155 : decode cX8_again 155 = .ok (.getfield 64, 3) := by decide +kernel
theorem dX8_again_158 : decode cX8_again 158 = .ok (.iload_n 2, 1) := by decide +kernel
theorem dX8_again_159 : decode cX8_again 159 = .ok (.aload_n 1, 1) := by decide +kernel
theorem dX8_again_160 : decode cX8_again 160 = .ok (.bipush 100, 2) := by decide +kernel
theorem dX8_again_162 : decode cX8_again 162 = .ok (.iload_n 2, 1) := by decide +kernel
theorem dX8_again_163 : decode cX8_again 163 = .ok (.iadd, 1) := by decide +kernel
theorem dX8_again_164 : decode cX8_again 164 = .ok (.iaload, 1) := by decide +kernel
theorem dX8_again_165 : decode cX8_again 165 = .ok (.iastore, 1) := by decide +kernel
theorem dX8_again_166 : decode cX8_again 166 = .ok (.aload_n 0, 1) := by decide +kernel
theorem dX8_again_167 : decode cX8_again 167 = .ok (.getfield 67, 3) := by decide +kernel
theorem dX8_again_170 : decode cX8_again 170 = .ok (.iload_n 2, 1) := by decide +kernel
theorem dX8_again_171 : decode cX8_again 171 = .ok (.aload_n 1, 1) := by decide +kernel
theorem dX8_again_172 : decode cX8_again 172 = .ok (.bipush 105, 2) := by decide +kernel
theorem dX8_again_174 : decode cX8_again 174 = .ok (.iload_n 2, 1) := by decide +kernel
theorem dX8_again_175 : decode cX8_again 175 = .ok (.iadd, 1) := by decide +kernel
theorem dX8_again_176 : decode cX8_again 176 = .ok (.iaload, 1) := by decide +kernel
theorem dX8_again_177 : decode cX8_again 177 = .ok (.iastore, 1) := by decide +kernel
theorem dX8_again_178 : decode cX8_again 178 = .ok (.iinc 2 1, 3) := by decide +kernel
theorem dX8_again_181 : decode cX8_again 181 = .ok (.goto (-56), 3) := by decide +kernel
theorem dX8_again_184 : decode cX8_again 184 = .ok (.iconst 0, 1) := by decide +kernel
theorem dX8_again_185 : decode cX8_again 185 = .ok (.istore_n 2, 1) := by decide +kernel
theorem dX8_again_186 : decode cX8_again 186 = .ok (.iload_n 2, 1) := by decide +kernel
theorem dX8_again_187 : decode cX8_again 187 = .ok (.bipush 10, 2) := by decide +kernel
theorem dX8_again_189 : decode cX8_again 189 = .ok (.if_icmp .ge 33, 3) := by decide +kernel
theorem dX8_again_192 : decode cX8_again 192 = .ok (.aload_n 0, 1) := by decide +kernel
theorem dX8_again_193 : decode cX8_again 193 = .ok (.getfield 70, 3) := by decide +kernel
theorem dX8_again_196 : decode cX8_again 196 = .ok (.iload_n 2, 1) := by decide +kernel
theorem dX8_again_197 : decode cX8_again 197 = .ok (.aload_n 1, 1) := by decide +kernel
theorem dX8_again_198 : decode cX8_again 198 = .ok (.bipush 110, 2) := by decide +kernel
theorem dX8_again_200 : decode cX8_again 200 = .ok (.iload_n 2, 1) := by decide +kernel
theorem dX8_again_201 : decode cX8_again 201 = .ok (.iadd, 1) := by decide +kernel
theorem dX8_again_202 : decode cX8_again 202 = .ok (.iaload, 1) := by decide +kernel
theorem dX8_again_203 : decode cX8_again 203 = .ok (.iastore, 1) := by decide +kernel
theorem dX8_again_204 : decode cX8_again 204 = .ok (.aload_n 0, 1) := by decide +kernel
theorem dX8_again_205 : decode cX8_again 205 = .ok (.getfield 73, 3) := by decide +kernel
theorem dX8_again_208 : decode cX8_again 208 = .ok (.iload_n 2, 1) := by decide +kernel
theorem dX8_again_209 : decode cX8_again 209 = .ok (.aload_n 1, 1) := by decide +kernel
theorem dX8_again_210 : decode cX8_again 210 = .ok (.bipush 120, 2) := by decide +kernel
theorem dX8_again_212 : decode cX8_again 212 = .ok (.iload_n 2, 1) := by decide +kernel
theorem dX8_again_213 : decode cX8_again 213 = .ok (.iadd, 1) := by decide +kernel
theorem dX8_again_214 : decode cX8_again 214 = .ok (.iaload, 1) := by decide +kernel
theorem dX8_again_215 : decode cX8_again 215 = .ok (.iastore, 1) := by decide +kernel
theorem dX8_again_216 : decode cX8_again 216 = .ok (.iinc 2 1, 3) := by decide +kernel
theorem dX8_again_219 : decode cX8_again 219 = .ok (.goto (-33), 3) := by decide +kernel
theorem dX8_again_222 : decode cX8_again 222 = .ok (.iconst 0, 1) := by decide +kernel
theorem dX8_again_223 : decode cX8_again 223 = .ok (.istore_n 2, 1) := by decide +kernel
theorem dX8_again_224 : decode cX8_again 224 = .ok (.iload_n 2, 1) := by decide +kernel
theorem dX8_again_225 : decode cX8_again 225 = .ok (.bipush 8, 2) := by decide +kernel
theorem dX8_again_227 : decode cX8_again 227 = .ok (.if_icmp .ge 48, 3) := by decide +kernel
theorem dX8_again_230 : decode cX8_again 230 = .ok (.aload_n 0, 1) := by decide +kernel
theorem dX8_again_231 : decode cX8_again 231 = .ok (.getfield 76, 3) := by decide +kernel
theorem dX8_again_234 : decode cX8_again 234 = .ok (.iload_n 2, 1) := by decide +kernel
theorem dX8_again_235 : decode cX8_again 235 = .ok (.aload_n 1, 1) := by decide +kernel
theorem dX8_again_236 : decode cX8_again 236 = .ok (.sipush 130, 3) := by decide +kernel
theorem dX8_again_239 : decode cX8_again 239 = .ok (.iload_n 2, 1) := by decide +kernel
theorem dX8_again_240 : decode cX8_again 240 = .ok (.iadd, 1) := by decide +kernel
theorem dX8_again_241 : decode cX8_again 241 = .ok (.iaload, 1) := by decide +kernel
theorem dX8_again_242 : decode cX8_again 242 = .ok (.iastore, 1) := by decide +kernel
theorem dX8_again_243 : decode cX8_again 243 = .ok (.aload_n 0, 1) := by decide +kernel
theorem dX8_again_244 : decode cX8_again 244 = .ok (.getfield 79, 3) := by decide +kernel
theorem dX8_again_247 : decode cX8_again 247 = .ok (.iload_n 2, 1) := by decide +kernel
theorem dX8_again_248 : decode cX8_again 248 = .ok (.aload_n 1, 1) := by decide +kernel
theorem dX8_again_249 : decode cX8_again 249 = .ok (.sipush 138, 3) := by decide +kernel
theorem dX8_again_252 : decode cX8_again 252 = .ok (.iload_n 2, 1) := by decide +kernel
theorem dX8_again_253 : decode cX8_again 253 = .ok (.iadd, 1) := by decide +kernel
theorem dX8_again_254 : decode cX8_again 254 = .ok (.iaload, 1) := by decide +kernel
theorem dX8_again_255 : decode cX8_again 255 = .ok (.iastore, 1) := by decide +kernel
theorem dX8_again_256 : decode cX8_again 256 = .ok (.aload_n 0, 1) := by decide +kernel
theorem dX8_again_257 : decode cX8_again 257 = .ok (.getfield 82, 3) := by decide +kernel
theorem dX8_again_260 : decode cX8_again 260 = .ok (.iload_n 2, 1) := by decide +kernel
theorem dX8_again_261 : decode cX8_again 261 = .ok (.aload_n 1, 1) := by decide +kernel
theorem dX8_again_262 : decode cX8_again 262 = .ok (.sipush 146, 3) := by decide +kernel
theorem dX8_again_265 : decode cX8_again 265 = .ok (.iload_n 2, 1) := by decide +kernel
theorem dX8_again_266 : decode cX8_again 266 = .ok (.iadd, 1) := by decide +kernel
theorem dX8_again_267 : decode cX8_again 267 = .ok (.iaload, 1) := by decide +kernel
theorem dX8_again_268 : decode cX8_again 268 = .ok (.iastore, 1) := by decide +kernel
theorem dX8_again_269 : decode cX8_again 269 = .ok (.iinc 2 1, 3) := by decide +kernel
theorem dX8_again_272 : decode cX8_again 272 = .ok (.goto (-48), 3) := by decide +kernel
theorem dX8_again_275 : decode cX8_again 275 = .ok (.aload_n 0, 1) := by decide +kernel
theorem dX8_again_276 : decode cX8_again 276 = .ok (.aload_n 1, 1) := by decide +kernel
theorem dX8_again_277 : decode cX8_again 277 = .ok (.sipush 154, 3) := by decide +kernel
theorem dX8_again_280 : decode cX8_again 280 = .ok (.iaload, 1) := by decide +kernel
theorem dX8_again_281 : decode cX8_again 281 = .ok (.putfield 114, 3) := by decide +kernel
theorem dX8_again_284 : decode cX8_again 284 = .ok (.aload_n 0, 1) := by decide +kernel
theorem dX8_again_285 : decode cX8_again 285 = .ok (.aload_n 1, 1) := by decide +kernel
theorem dX8_again_286 : decode cX8_again 286 = .ok (.sipush 155, 3) := by decide +kernel
theorem dX8_again_289 : decode cX8_again 289 = .ok (.iaload, 1) := by decide +kernel
theorem dX8_again_290 : decode cX8_again 290 = .ok (.putfield 125, 3) := by decide +kernel
theorem dX8_again_293 : decode cX8_again 293 = .ok (.aload_n 0, 1) := by decide +kernel
theorem dX8_again_294 : decode cX8_again 294 = .ok (.aload_n 1, 1) := by decide +kernel
theorem dX8_again_295 : decode cX8_again 295 = .ok (.sipush 156, 3) := by decide +kernel
theorem dX8_again_298 : decode cX8_again 298 = .ok (.iaload, 1) := by decide +kernel
theorem dX8_again_299 : decode cX8_again 299 = .ok (.putfield 305, 3) := by decide +kernel
theorem dX8_again_302 : decode cX8_again 302 = .ok (.aload_n 0, 1) := by decide +kernel
theorem dX8_again_303 : decode cX8_again 303 = .ok (.aload_n 1, 1) := by decide +kernel
theorem dX8_again_304 : decode cX8_again 304 = .ok (.sipush 157, 3) := by decide +kernel
theorem dX8_again_307 : decode cX8_again 307 = .ok (.iaload, 1) := by decide +kernel
theorem dX8_again_308 : decode cX8_again 308 = .ok (.putfield 317, 3) := by decide +kernel
theorem dX8_again_311 : decode cX8_again 311 = .ok (.aload_n 0, 1) := by decide +kernel
theorem dX8_again_312 : decode cX8_again 312 = .ok (.aload_n 1, 1) := by decide +kernel
theorem dX8_again_313 : decode cX8_again 313 = .ok (.sipush 158, 3) := by decide +kernel
theorem dX8_again_316 : decode cX8_again 316 = .ok (.iaload, 1) := by decide +kernel
theorem dX8_again_317 : decode cX8_again 317 = .ok (.putfield 320, 3) := by decide +kernel
theorem dX8_again_320 : decode cX8_again 320 = .ok (.aload_n 0, 1) := by decide +kernel
theorem dX8_again_321 : decode cX8_again 321 = .ok (.aload_n 1, 1) := by decide +kernel
theorem dX8_again_322 : decode cX8_again 322 = .ok (.sipush 159, 3) := by decide +kernel
theorem dX8_again_325 : decode cX8_again 325 = .ok (.iaload, 1) := by decide +kernel
theorem dX8_again_326 : decode cX8_again 326 = .ok (.putfield 110, 3) := by decide +kernel
theorem dX8_again_329 : decode cX8_again 329 = .ok (.return_, 1) := by decide +kernel
theorem dX8_image_0 : decode cX8_image 0 = .ok (.aload_n 0, 1) := by decide +kernel
theorem dX8_image_1 : decode cX8_image 1 = .ok (.iconst 1, 1) := by decide +kernel
theorem dX8_image_2 : decode cX8_image 2 = .ok (.putfield 323, 3) := by decide +kernel
theorem dX8_image_5 : decode cX8_image 5 = .ok (.aload_n 0, 1) := by decide +kernel
theorem dX8_image_6 : decode cX8_image 6 = .ok (.aload_n 0, 1) := by decide +kernel
theorem dX8_image_7 : decode cX8_image 7 = .ok (.getfield 88, 3) := by decide +kernel
theorem dX8_image_10 : decode cX8_image 10 = .ok (.invokevirtual 285, 3) := by decide +kernel
theorem dX8_image_13 : decode cX8_image 13 = .ok (.aload_n 0, 1) := by decide +kernel
theorem dX8_image_14 : decode cX8_image 14 = .ok (.getfield 114, 3) := by decide +kernel
theorem dX8_image_17 : decode cX8_image 17 = .ok (.ireturn, 1) := by decide +kernel
theorem dX8_undo_0 : decode cX8_undo 0 = .ok (.aload_n 0, 1) := by decide +kernel
theorem dX8_undo_1 : decode cX8_undo 1 = .ok (.getfield 323, 3) := by decide +kernel
theorem dX8_undo_4 : decode cX8_undo 4 = .ok (.ifCond .ne 6, 3) := by decide +kernel
theorem dX8_undo_7 : decode cX8_undo 7 = .ok (.bipush (-3), 2) := by decide +kernel
theorem dX8_undo_9 : decode cX8_undo 9 = .ok (.ireturn, 1) := by decide +kernel
theorem dX8_undo_10 : decode cX8_undo 10 = .ok (.aload_n 0, 1) := by decide +kernel
theorem dX8_undo_11 : decode cX8_undo 11 = .ok (.aload_n 0, 1) := by decide +kernel
theorem dX8_undo_12 : decode cX8_undo 12 = .ok (.getfield 88, 3) := by decide +kernel
theorem dX8_undo_15 : decode cX8_undo 15 = .ok (.invokevirtual 292, 3) := by decide +kernel
theorem dX8_undo_18 : decode cX8_undo 18 = .ok (.aload_n 0, 1) := by decide +kernel
theorem dX8_undo_19 : decode cX8_undo 19 = .ok (.getfield 114, 3) := by decide +kernel
theorem dX8_undo_22 : decode cX8_undo 22 = .ok (.ireturn, 1) := by decide +kernel
theorem dX8_ran_0 : decode cX8_ran 0 = .ok (.aload_n 0, 1) := by decide +kernel
theorem dX8_ran_1 : decode cX8_ran 1 = .ok (.getfield 327, 3) := by decide +kernel
theorem dX8_ran_4 : decode cX8_ran 4 = .ok (.bipush 20, 2) := by decide +kernel
theorem dX8_ran_6 : decode cX8_ran 6 = .ok (.if_icmp .ge 13, 3) := by decide +kernel
theorem dX8_ran_9 : decode cX8_ran 9 = .ok (.aload_n 0, 1) := by decide +kernel
theorem dX8_ran_10 : decode cX8_ran 10 = .ok (.getfield 85, 3) := by decide +kernel
theorem dX8_ran_13 : decode cX8_ran 13 = .ok (.aload_n 0, 1) := by decide +kernel
theorem dX8_ran_14 : decode cX8_ran 14 = .ok (.getfield 327, 3) := by decide +kernel
theorem dX8_ran_17 : decode cX8_ran 17 = .ok (.iload_n 1, 1) := by decide +kernel
theorem dX8_ran_18 : decode cX8_ran 18 = .ok (.iastore, 1) := by decide +kernel
theorem dX8_ran_19 : decode cX8_ran 19 = .ok (.aload_n 0, 1) := by decide +kernel
theorem dX8_ran_20 : decode cX8_ran 20 = .ok (.dup, 1) := by decide +kernel
theorem dX8_ran_21 : decode cX8_ran 21 = .ok (.getfield 327, 3) := by decide +kernel
theorem dX8_ran_24 : decode cX8_ran 24 = .ok (.iconst 1, 1) := by decide +kernel
theorem dX8_ran_25 : decode cX8_ran 25 = .ok (.iadd, 1) := by decide +kernel
theorem dX8_ran_26 : decode cX8_ran 26 = .ok (.putfield 327, 3) := by decide +kernel
theorem dX8_ran_29 : decode cX8_ran 29 = .ok (.return_, 1) := by decide +kernel
theorem dX8_above_0 : decode cX8_above 0 = .ok (.iload_n 0, 1) := by decide +kernel
theorem dX8_above_1 : decode cX8_above 1 = .ok (.iconst 4, 1) := by decide +kernel
theorem dX8_above_2 : decode cX8_above 2 = .ok (.if_icmp .ne 7, 3) := by decide +kernel
theorem dX8_above_5 : decode cX8_above 5 = .ok (.iconst 1, 1) := by decide +kernel
theorem dX8_above_6 : decode cX8_above 6 = .ok (.goto 23, 3) := by decide +kernel
theorem dX8_above_9 : decode cX8_above 9 = .ok (.iload_n 0, 1) := by decide +kernel
theorem dX8_above_10 : decode cX8_above 10 = .ok (.iconst 5, 1) := by decide +kernel
theorem dX8_above_11 : decode cX8_above 11 = .ok (.if_icmp .ne 7, 3) := by decide +kernel
theorem dX8_above_14 : decode cX8_above 14 = .ok (.iconst 2, 1) := by decide +kernel
theorem dX8_above_15 : decode cX8_above 15 = .ok (.goto 14, 3) := by decide +kernel
theorem dX8_above_18 : decode cX8_above 18 = .ok (.iload_n 0, 1) := by decide +kernel
theorem dX8_above_19 : decode cX8_above 19 = .ok (.bipush 6, 2) := by decide +kernel
theorem dX8_above_21 : decode cX8_above 21 = .ok (.if_icmp .ne 7, 3) := by decide +kernel
theorem dX8_above_24 : decode cX8_above 24 = .ok (.iconst 3, 1) := by decide +kernel
theorem dX8_above_25 : decode cX8_above 25 = .ok (.goto 4, 3) := by decide +kernel
theorem dX8_above_28 : decode cX8_above 28 = .ok (.iconst 0, 1) := by decide +kernel
theorem dX8_above_29 : decode cX8_above 29 = .ok (.ireturn, 1) := by decide +kernel
theorem dX8_digs_0 : decode cX8_digs 0 = .ok (.iload_n 2, 1) := by decide +kernel
theorem dX8_digs_1 : decode cX8_digs 1 = .ok (.tableswitch 105 0 6 #[95, 105, 43, 105, 59, 105, 74], 43) := by decide +kernel
theorem dX8_digs_44 : decode cX8_digs 44 = .ok (.aload_n 0, 1) := by decide +kernel
theorem dX8_digs_45 : decode cX8_digs 45 = .ok (.bipush 30, 2) := by decide +kernel
theorem dX8_digs_47 : decode cX8_digs 47 = .ok (.invokevirtual 330, 3) := by decide +kernel
theorem dX8_digs_50 : decode cX8_digs 50 = .ok (.aload_n 0, 1) := by decide +kernel
theorem dX8_digs_51 : decode cX8_digs 51 = .ok (.iload_n 1, 1) := by decide +kernel
theorem dX8_digs_52 : decode cX8_digs 52 = .ok (.iconst 0, 1) := by decide +kernel
theorem dX8_digs_53 : decode cX8_digs 53 = .ok (.iload_n 3, 1) := by decide +kernel
theorem dX8_digs_54 : decode cX8_digs 54 = .ok (.iconst 3, 1) := by decide +kernel
theorem dX8_digs_55 : decode cX8_digs 55 = .ok (.imul, 1) := by decide +kernel
theorem dX8_digs_56 : decode cX8_digs 56 = .ok (.invokevirtual 334, 3) := by decide +kernel
theorem dX8_digs_59 : decode cX8_digs 59 = .ok (.ireturn, 1) := by decide +kernel
theorem dX8_digs_60 : decode cX8_digs 60 = .ok (.aload_n 0, 1) := by decide +kernel
theorem dX8_digs_61 : decode cX8_digs 61 = .ok (.bipush 50, 2) := by decide +kernel
theorem dX8_digs_63 : decode cX8_digs 63 = .ok (.invokevirtual 330, 3) := by decide +kernel
theorem dX8_digs_66 : decode cX8_digs 66 = .ok (.aload_n 0, 1) := by decide +kernel
theorem dX8_digs_67 : decode cX8_digs 67 = .ok (.iload_n 1, 1) := by decide +kernel
theorem dX8_digs_68 : decode cX8_digs 68 = .ok (.iconst 1, 1) := by decide +kernel
theorem dX8_digs_69 : decode cX8_digs 69 = .ok (.iload_n 3, 1) := by decide +kernel
theorem dX8_digs_70 : decode cX8_digs 70 = .ok (.invokevirtual 334, 3) := by decide +kernel
theorem dX8_digs_73 : decode cX8_digs 73 = .ok (.ineg, 1) := by decide +kernel
theorem dX8_digs_74 : decode cX8_digs 74 = .ok (.ireturn, 1) := by decide +kernel
theorem dX8_digs_75 : decode cX8_digs 75 = .ok (.aload_n 0, 1) := by decide +kernel
theorem dX8_digs_76 : decode cX8_digs 76 = .ok (.bipush 71, 2) := by decide +kernel
theorem dX8_digs_78 : decode cX8_digs 78 = .ok (.invokevirtual 330, 3) := by decide +kernel
theorem dX8_digs_81 : decode cX8_digs 81 = .ok (.aload_n 0, 1) := by decide +kernel
theorem dX8_digs_82 : decode cX8_digs 82 = .ok (.iload_n 1, 1) := by decide +kernel
theorem dX8_digs_83 : decode cX8_digs 83 = .ok (.iconst 3, 1) := by decide +kernel
theorem dX8_digs_84 : decode cX8_digs 84 = .ok (.iload_n 3, 1) := by decide +kernel
theorem dX8_digs_85 : decode cX8_digs 85 = .ok (.invokevirtual 334, 3) := by decide +kernel
theorem dX8_digs_88 : decode cX8_digs 88 = .ok (.aload_n 0, 1) := by decide +kernel
theorem dX8_digs_89 : decode cX8_digs 89 = .ok (.getfield 15, 3) := by decide +kernel
theorem dX8_digs_92 : decode cX8_digs 92 = .ok (.iload_n 1, 1) := by decide +kernel
theorem dX8_digs_93 : decode cX8_digs 93 = .ok (.iaload, 1) := by decide +kernel
theorem dX8_digs_94 : decode cX8_digs 94 = .ok (.ixor, 1) := by decide +kernel
theorem dX8_digs_95 : decode cX8_digs 95 = .ok (.ireturn, 1) := by decide +kernel
theorem dX8_digs_96 : decode cX8_digs 96 = .ok (.aload_n 0, 1) := by decide +kernel
theorem dX8_digs_97 : decode cX8_digs 97 = .ok (.bipush 10, 2) := by decide +kernel
theorem dX8_digs_99 : decode cX8_digs 99 = .ok (.invokevirtual 330, 3) := by decide +kernel
theorem dX8_digs_102 : decode cX8_digs 102 = .ok (.iload_n 3, 1) := by decide +kernel
theorem dX8_digs_103 : decode cX8_digs 103 = .ok (.iload_n 1, 1) := by decide +kernel
theorem dX8_digs_104 : decode cX8_digs 104 = .ok (.iadd, 1) := by decide +kernel
theorem dX8_digs_105 : decode cX8_digs 105 = .ok (.ireturn, 1) := by decide +kernel
theorem dX8_digs_106 : decode cX8_digs 106 = .ok (.aload_n 0, 1) := by decide +kernel
theorem dX8_digs_107 : decode cX8_digs 107 = .ok (.iload_n 1, 1) := by decide +kernel
theorem dX8_digs_108 : decode cX8_digs 108 = .ok (.iload_n 2, 1) := by decide +kernel
theorem dX8_digs_109 : decode cX8_digs 109 = .ok (.invokestatic 337, 3) := by decide +kernel
theorem dX8_digs_112 : decode cX8_digs 112 = .ok (.iload_n 3, 1) := by decide +kernel
theorem dX8_digs_113 : decode cX8_digs 113 = .ok (.invokevirtual 334, 3) := by decide +kernel
theorem dX8_digs_116 : decode cX8_digs 116 = .ok (.ireturn, 1) := by decide +kernel
theorem dX8_casts_0 : decode cX8_casts 0 = .ok (.iload_n 2, 1) := by decide +kernel
theorem dX8_casts_1 : decode cX8_casts 1 = .ok (.tableswitch 128 0 6 #[102, 43, 128, 128, 60, 128, 76], 43) := by decide +kernel
theorem dX8_casts_44 : decode cX8_casts 44 = .ok (.aload_n 0, 1) := by decide +kernel
theorem dX8_casts_45 : decode cX8_casts 45 = .ok (.bipush 20, 2) := by decide +kernel
theorem dX8_casts_47 : decode cX8_casts 47 = .ok (.invokevirtual 330, 3) := by decide +kernel
theorem dX8_casts_50 : decode cX8_casts 50 = .ok (.aload_n 0, 1) := by decide +kernel
theorem dX8_casts_51 : decode cX8_casts 51 = .ok (.iload_n 1, 1) := by decide +kernel
theorem dX8_casts_52 : decode cX8_casts 52 = .ok (.iconst 0, 1) := by decide +kernel
theorem dX8_casts_53 : decode cX8_casts 53 = .ok (.iload_n 3, 1) := by decide +kernel
theorem dX8_casts_54 : decode cX8_casts 54 = .ok (.invokevirtual 340, 3) := by decide +kernel
theorem dX8_casts_57 : decode cX8_casts 57 = .ok (.bipush 6, 2) := by decide +kernel
theorem dX8_casts_59 : decode cX8_casts 59 = .ok (.ixor, 1) := by decide +kernel
theorem dX8_casts_60 : decode cX8_casts 60 = .ok (.ireturn, 1) := by decide +kernel
theorem dX8_casts_61 : decode cX8_casts 61 = .ok (.aload_n 0, 1) := by decide +kernel
theorem dX8_casts_62 : decode cX8_casts 62 = .ok (.bipush 51, 2) := by decide +kernel
theorem dX8_casts_64 : decode cX8_casts 64 = .ok (.invokevirtual 330, 3) := by decide +kernel
theorem dX8_casts_67 : decode cX8_casts 67 = .ok (.aload_n 0, 1) := by decide +kernel
theorem dX8_casts_68 : decode cX8_casts 68 = .ok (.iload_n 1, 1) := by decide +kernel
theorem dX8_casts_69 : decode cX8_casts 69 = .ok (.iconst 1, 1) := by decide +kernel
theorem dX8_casts_70 : decode cX8_casts 70 = .ok (.iload_n 3, 1) := by decide +kernel
theorem dX8_casts_71 : decode cX8_casts 71 = .ok (.iconst 1, 1) := by decide +kernel
theorem dX8_casts_72 : decode cX8_casts 72 = .ok (.iadd, 1) := by decide +kernel
theorem dX8_casts_73 : decode cX8_casts 73 = .ok (.invokevirtual 340, 3) := by decide +kernel
theorem dX8_casts_76 : decode cX8_casts 76 = .ok (.ireturn, 1) := by decide +kernel
theorem dX8_casts_77 : decode cX8_casts 77 = .ok (.aload_n 0, 1) := by decide +kernel
theorem dX8_casts_78 : decode cX8_casts 78 = .ok (.bipush 70, 2) := by decide +kernel
theorem dX8_casts_80 : decode cX8_casts 80 = .ok (.invokevirtual 330, 3) := by decide +kernel
theorem dX8_casts_83 : decode cX8_casts 83 = .ok (.aload_n 0, 1) := by decide +kernel
theorem dX8_casts_84 : decode cX8_casts 84 = .ok (.iload_n 1, 1) := by decide +kernel
theorem dX8_casts_85 : decode cX8_casts 85 = .ok (.iconst 3, 1) := by decide +kernel
theorem dX8_casts_86 : decode cX8_casts 86 = .ok (.iload_n 3, 1) := by decide +kernel
theorem dX8_casts_87 : decode cX8_casts 87 = .ok (.invokevirtual 340, 3) := by decide +kernel
theorem dX8_casts_90 : decode cX8_casts 90 = .ok (.istore 4, 2) := by decide +kernel
theorem dX8_casts_92 : decode cX8_casts 92 = .ok (.iload 4, 2) := by decide +kernel
theorem dX8_casts_94 : decode cX8_casts 94 = .ok (.aload_n 0, 1) := by decide +kernel
theorem dX8_casts_95 : decode cX8_casts 95 = .ok (.iload_n 1, 1) := by decide +kernel
theorem dX8_casts_96 : decode cX8_casts 96 = .ok (.iconst 3, 1) := by decide +kernel
theorem dX8_casts_97 : decode cX8_casts 97 = .ok (.iconst 2, 1) := by decide +kernel
theorem dX8_casts_98 : decode cX8_casts 98 = .ok (.invokevirtual 334, 3) := by decide +kernel
theorem dX8_casts_101 : decode cX8_casts 101 = .ok (.iadd, 1) := by decide +kernel
theorem dX8_casts_102 : decode cX8_casts 102 = .ok (.ireturn, 1) := by decide +kernel
theorem dX8_casts_103 : decode cX8_casts 103 = .ok (.aload_n 0, 1) := by decide +kernel
theorem dX8_casts_104 : decode cX8_casts 104 = .ok (.bipush 11, 2) := by decide +kernel
theorem dX8_casts_106 : decode cX8_casts 106 = .ok (.invokevirtual 330, 3) := by decide +kernel
theorem dX8_casts_109 : decode cX8_casts 109 = .ok (.aload_n 0, 1) := by decide +kernel
theorem dX8_casts_110 : decode cX8_casts 110 = .ok (.iload_n 1, 1) := by decide +kernel
theorem dX8_casts_111 : decode cX8_casts 111 = .ok (.aload_n 0, 1) := by decide +kernel
theorem dX8_casts_112 : decode cX8_casts 112 = .ok (.getfield 9, 3) := by decide +kernel
theorem dX8_casts_115 : decode cX8_casts 115 = .ok (.iload_n 1, 1) := by decide +kernel
theorem dX8_casts_116 : decode cX8_casts 116 = .ok (.iaload, 1) := by decide +kernel
theorem dX8_casts_117 : decode cX8_casts 117 = .ok (.iload_n 3, 1) := by decide +kernel
theorem dX8_casts_118 : decode cX8_casts 118 = .ok (.invokevirtual 334, 3) := by decide +kernel
theorem dX8_casts_121 : decode cX8_casts 121 = .ok (.aload_n 0, 1) := by decide +kernel
theorem dX8_casts_122 : decode cX8_casts 122 = .ok (.getfield 15, 3) := by decide +kernel
theorem dX8_casts_125 : decode cX8_casts 125 = .ok (.iload_n 1, 1) := by decide +kernel
theorem dX8_casts_126 : decode cX8_casts 126 = .ok (.iaload, 1) := by decide +kernel
theorem dX8_casts_127 : decode cX8_casts 127 = .ok (.isub, 1) := by decide +kernel
theorem dX8_casts_128 : decode cX8_casts 128 = .ok (.ireturn, 1) := by decide +kernel
theorem dX8_casts_129 : decode cX8_casts 129 = .ok (.aload_n 0, 1) := by decide +kernel
theorem dX8_casts_130 : decode cX8_casts 130 = .ok (.iload_n 1, 1) := by decide +kernel
theorem dX8_casts_131 : decode cX8_casts 131 = .ok (.iload_n 2, 1) := by decide +kernel
theorem dX8_casts_132 : decode cX8_casts 132 = .ok (.invokestatic 337, 3) := by decide +kernel
theorem dX8_casts_135 : decode cX8_casts 135 = .ok (.iload_n 3, 1) := by decide +kernel
theorem dX8_casts_136 : decode cX8_casts 136 = .ok (.invokevirtual 340, 3) := by decide +kernel
theorem dX8_casts_139 : decode cX8_casts 139 = .ok (.ireturn, 1) := by decide +kernel
theorem dX8_tells_0 : decode cX8_tells 0 = .ok (.iload_n 2, 1) := by decide +kernel
theorem dX8_tells_1 : decode cX8_tells 1 = .ok (.lookupswitch 103 #[(0, 82), (3, 35), (5, 66)], 35) := by decide +kernel
theorem dX8_tells_36 : decode cX8_tells 36 = .ok (.aload_n 0, 1) := by decide +kernel
theorem dX8_tells_37 : decode cX8_tells 37 = .ok (.bipush 40, 2) := by decide +kernel
theorem dX8_tells_39 : decode cX8_tells 39 = .ok (.invokevirtual 330, 3) := by decide +kernel
theorem dX8_tells_42 : decode cX8_tells 42 = .ok (.aload_n 0, 1) := by decide +kernel
theorem dX8_tells_43 : decode cX8_tells 43 = .ok (.iload_n 1, 1) := by decide +kernel
theorem dX8_tells_44 : decode cX8_tells 44 = .ok (.iconst 0, 1) := by decide +kernel
theorem dX8_tells_45 : decode cX8_tells 45 = .ok (.iload_n 3, 1) := by decide +kernel
theorem dX8_tells_46 : decode cX8_tells 46 = .ok (.invokevirtual 343, 3) := by decide +kernel
theorem dX8_tells_49 : decode cX8_tells 49 = .ok (.istore 4, 2) := by decide +kernel
theorem dX8_tells_51 : decode cX8_tells 51 = .ok (.iload 4, 2) := by decide +kernel
theorem dX8_tells_53 : decode cX8_tells 53 = .ok (.aload_n 0, 1) := by decide +kernel
theorem dX8_tells_54 : decode cX8_tells 54 = .ok (.iload_n 1, 1) := by decide +kernel
theorem dX8_tells_55 : decode cX8_tells 55 = .ok (.aload_n 0, 1) := by decide +kernel
theorem dX8_tells_56 : decode cX8_tells 56 = .ok (.getfield 9, 3) := by decide +kernel
theorem dX8_tells_59 : decode cX8_tells 59 = .ok (.iload_n 1, 1) := by decide +kernel
theorem dX8_tells_60 : decode cX8_tells 60 = .ok (.iaload, 1) := by decide +kernel
theorem dX8_tells_61 : decode cX8_tells 61 = .ok (.iconst 1, 1) := by decide +kernel
theorem dX8_tells_62 : decode cX8_tells 62 = .ok (.invokevirtual 340, 3) := by decide +kernel
theorem dX8_tells_65 : decode cX8_tells 65 = .ok (.iadd, 1) := by decide +kernel
theorem dX8_tells_66 : decode cX8_tells 66 = .ok (.ireturn, 1) := by decide +kernel
theorem dX8_tells_67 : decode cX8_tells 67 = .ok (.aload_n 0, 1) := by decide +kernel
theorem dX8_tells_68 : decode cX8_tells 68 = .ok (.bipush 60, 2) := by decide +kernel
theorem dX8_tells_70 : decode cX8_tells 70 = .ok (.invokevirtual 330, 3) := by decide +kernel
theorem dX8_tells_73 : decode cX8_tells 73 = .ok (.aload_n 0, 1) := by decide +kernel
theorem dX8_tells_74 : decode cX8_tells 74 = .ok (.iload_n 1, 1) := by decide +kernel
theorem dX8_tells_75 : decode cX8_tells 75 = .ok (.iconst 2, 1) := by decide +kernel
theorem dX8_tells_76 : decode cX8_tells 76 = .ok (.iload_n 3, 1) := by decide +kernel
theorem dX8_tells_77 : decode cX8_tells 77 = .ok (.iload_n 1, 1) := by decide +kernel
theorem dX8_tells_78 : decode cX8_tells 78 = .ok (.isub, 1) := by decide +kernel
theorem dX8_tells_79 : decode cX8_tells 79 = .ok (.invokevirtual 343, 3) := by decide +kernel
theorem dX8_tells_82 : decode cX8_tells 82 = .ok (.ireturn, 1) := by decide +kernel
theorem dX8_tells_83 : decode cX8_tells 83 = .ok (.aload_n 0, 1) := by decide +kernel
theorem dX8_tells_84 : decode cX8_tells 84 = .ok (.bipush 12, 2) := by decide +kernel
theorem dX8_tells_86 : decode cX8_tells 86 = .ok (.invokevirtual 330, 3) := by decide +kernel
theorem dX8_tells_89 : decode cX8_tells 89 = .ok (.aload_n 0, 1) := by decide +kernel
theorem dX8_tells_90 : decode cX8_tells 90 = .ok (.iload_n 1, 1) := by decide +kernel
theorem dX8_tells_91 : decode cX8_tells 91 = .ok (.aload_n 0, 1) := by decide +kernel
theorem dX8_tells_92 : decode cX8_tells 92 = .ok (.getfield 9, 3) := by decide +kernel
theorem dX8_tells_95 : decode cX8_tells 95 = .ok (.iload_n 1, 1) := by decide +kernel
theorem dX8_tells_96 : decode cX8_tells 96 = .ok (.iaload, 1) := by decide +kernel
theorem dX8_tells_97 : decode cX8_tells 97 = .ok (.iload_n 3, 1) := by decide +kernel
theorem dX8_tells_98 : decode cX8_tells 98 = .ok (.invokevirtual 340, 3) := by decide +kernel
theorem dX8_tells_101 : decode cX8_tells 101 = .ok (.iconst 2, 1) := by decide +kernel
theorem dX8_tells_102 : decode cX8_tells 102 = .ok (.imul, 1) := by decide +kernel
theorem dX8_tells_103 : decode cX8_tells 103 = .ok (.ireturn, 1) := by decide +kernel
theorem dX8_tells_104 : decode cX8_tells 104 = .ok (.aload_n 0, 1) := by decide +kernel
theorem dX8_tells_105 : decode cX8_tells 105 = .ok (.iload_n 1, 1) := by decide +kernel
theorem dX8_tells_106 : decode cX8_tells 106 = .ok (.iload_n 2, 1) := by decide +kernel
theorem dX8_tells_107 : decode cX8_tells 107 = .ok (.invokestatic 337, 3) := by decide +kernel
theorem dX8_tells_110 : decode cX8_tells 110 = .ok (.iload_n 3, 1) := by decide +kernel
theorem dX8_tells_111 : decode cX8_tells 111 = .ok (.invokevirtual 343, 3) := by decide +kernel
theorem dX8_tells_114 : decode cX8_tells 114 = .ok (.ireturn, 1) := by decide +kernel
theorem dX8_act_0 : decode cX8_act 0 = .ok (.aload_n 0, 1) := by decide +kernel
theorem dX8_act_1 : decode cX8_act 1 = .ok (.iconst 0, 1) := by decide +kernel
theorem dX8_act_2 : decode cX8_act 2 = .ok (.putfield 327, 3) := by decide +kernel
theorem dX8_act_5 : decode cX8_act 5 = .ok (.aload_n 0, 1) := by decide +kernel
theorem dX8_act_6 : decode cX8_act 6 = .ok (.iload_n 1, 1) := by decide +kernel
theorem dX8_act_7 : decode cX8_act 7 = .ok (.invokevirtual 121, 3) := by decide +kernel
theorem dX8_act_10 : decode cX8_act 10 = .ok (.ifCond .eq 12, 3) := by decide +kernel
theorem dX8_act_13 : decode cX8_act 13 = .ok (.iload_n 2, 1) := by decide +kernel
theorem dX8_act_14 : decode cX8_act 14 = .ok (.iconst 0, 1) := by decide +kernel
theorem dX8_act_15 : decode cX8_act 15 = .ok (.iconst 2, 1) := by decide +kernel
theorem dX8_act_16 : decode cX8_act 16 = .ok (.invokestatic 117, 3) := by decide +kernel
theorem dX8_act_19 : decode cX8_act 19 = .ok (.ifCond .ne 5, 3) := by decide +kernel
theorem dX8_act_22 : decode cX8_act 22 = .ok (.iconst 0, 1) := by decide +kernel
theorem dX8_act_23 : decode cX8_act 23 = .ok (.ireturn, 1) := by decide +kernel
theorem dX8_act_24 : decode cX8_act 24 = .ok (.aload_n 0, 1) := by decide +kernel
theorem dX8_act_25 : decode cX8_act 25 = .ok (.getfield 9, 3) := by decide +kernel
theorem dX8_act_28 : decode cX8_act 28 = .ok (.iload_n 1, 1) := by decide +kernel
theorem dX8_act_29 : decode cX8_act 29 = .ok (.iaload, 1) := by decide +kernel
theorem dX8_act_30 : decode cX8_act 30 = .ok (.istore 4, 2) := by decide +kernel
theorem dX8_act_32 : decode cX8_act 32 = .ok (.iload_n 2, 1) := by decide +kernel
theorem dX8_act_33 : decode cX8_act 33 = .ok (.ifCond .ne 14, 3) := by decide +kernel
theorem dX8_act_36 : decode cX8_act 36 = .ok (.aload_n 0, 1) := by decide +kernel
theorem dX8_act_37 : decode cX8_act 37 = .ok (.iload_n 1, 1) := by decide +kernel
theorem dX8_act_38 : decode cX8_act 38 = .ok (.iload 4, 2) := by decide +kernel
theorem dX8_act_40 : decode cX8_act 40 = .ok (.iload_n 3, 1) := by decide +kernel
theorem dX8_act_41 : decode cX8_act 41 = .ok (.invokevirtual 334, 3) := by decide +kernel
theorem dX8_act_44 : decode cX8_act 44 = .ok (.goto 27, 3) := by decide +kernel
theorem dX8_act_47 : decode cX8_act 47 = .ok (.iload_n 2, 1) := by decide +kernel
theorem dX8_act_48 : decode cX8_act 48 = .ok (.iconst 1, 1) := by decide +kernel
theorem dX8_act_49 : decode cX8_act 49 = .ok (.if_icmp .ne 14, 3) := by decide +kernel
theorem dX8_act_52 : decode cX8_act 52 = .ok (.aload_n 0, 1) := by decide +kernel
theorem dX8_act_53 : decode cX8_act 53 = .ok (.iload_n 1, 1) := by decide +kernel
theorem dX8_act_54 : decode cX8_act 54 = .ok (.iload 4, 2) := by decide +kernel
theorem dX8_act_56 : decode cX8_act 56 = .ok (.iload_n 3, 1) := by decide +kernel
theorem dX8_act_57 : decode cX8_act 57 = .ok (.invokevirtual 340, 3) := by decide +kernel
theorem dX8_act_60 : decode cX8_act 60 = .ok (.goto 11, 3) := by decide +kernel
theorem dX8_act_63 : decode cX8_act 63 = .ok (.aload_n 0, 1) := by decide +kernel
theorem dX8_act_64 : decode cX8_act 64 = .ok (.iload_n 1, 1) := by decide +kernel
theorem dX8_act_65 : decode cX8_act 65 = .ok (.iload 4, 2) := by decide +kernel
theorem dX8_act_67 : decode cX8_act 67 = .ok (.iload_n 3, 1) := by decide +kernel
theorem dX8_act_68 : decode cX8_act 68 = .ok (.invokevirtual 343, 3) := by decide +kernel
theorem dX8_act_71 : decode cX8_act 71 = .ok (.ireturn, 1) := by decide +kernel
theorem dX8_trace_0 : decode cX8_trace 0 = .ok (.iload_n 1, 1) := by decide +kernel
theorem dX8_trace_1 : decode cX8_trace 1 = .ok (.iconst 0, 1) := by decide +kernel
theorem dX8_trace_2 : decode cX8_trace 2 = .ok (.bipush 20, 2) := by decide +kernel
theorem dX8_trace_4 : decode cX8_trace 4 = .ok (.aload_n 0, 1) := by decide +kernel
theorem dX8_trace_5 : decode cX8_trace 5 = .ok (.getfield 327, 3) := by decide +kernel
theorem dX8_trace_8 : decode cX8_trace 8 = .ok (.invokestatic 277, 3) := by decide +kernel
theorem dX8_trace_11 : decode cX8_trace 11 = .ok (.iconst 1, 1) := by decide +kernel
theorem dX8_trace_12 : decode cX8_trace 12 = .ok (.isub, 1) := by decide +kernel
theorem dX8_trace_13 : decode cX8_trace 13 = .ok (.invokestatic 117, 3) := by decide +kernel
theorem dX8_trace_16 : decode cX8_trace 16 = .ok (.ifCond .eq 12, 3) := by decide +kernel
theorem dX8_trace_19 : decode cX8_trace 19 = .ok (.aload_n 0, 1) := by decide +kernel
theorem dX8_trace_20 : decode cX8_trace 20 = .ok (.getfield 85, 3) := by decide +kernel
theorem dX8_trace_23 : decode cX8_trace 23 = .ok (.iload_n 1, 1) := by decide +kernel
theorem dX8_trace_24 : decode cX8_trace 24 = .ok (.iaload, 1) := by decide +kernel
theorem dX8_trace_25 : decode cX8_trace 25 = .ok (.goto 4, 3) := by decide +kernel
theorem dX8_trace_28 : decode cX8_trace 28 = .ok (.iconst (-1), 1) := by decide +kernel
theorem dX8_trace_29 : decode cX8_trace 29 = .ok (.ireturn, 1) := by decide +kernel
theorem dX8_taken_0 : decode cX8_taken 0 = .ok (.iload_n 2, 1) := by decide +kernel
theorem dX8_taken_1 : decode cX8_taken 1 = .ok (.iconst 0, 1) := by decide +kernel
theorem dX8_taken_2 : decode cX8_taken 2 = .ok (.bipush 6, 2) := by decide +kernel
theorem dX8_taken_4 : decode cX8_taken 4 = .ok (.invokestatic 117, 3) := by decide +kernel
theorem dX8_taken_7 : decode cX8_taken 7 = .ok (.ifCond .ne 6, 3) := by decide +kernel
theorem dX8_taken_10 : decode cX8_taken 10 = .ok (.bipush (-2), 2) := by decide +kernel
theorem dX8_taken_12 : decode cX8_taken 12 = .ok (.ireturn, 1) := by decide +kernel
theorem dX8_taken_13 : decode cX8_taken 13 = .ok (.aload_n 0, 1) := by decide +kernel
theorem dX8_taken_14 : decode cX8_taken 14 = .ok (.iload_n 1, 1) := by decide +kernel
theorem dX8_taken_15 : decode cX8_taken 15 = .ok (.invokevirtual 121, 3) := by decide +kernel
theorem dX8_taken_18 : decode cX8_taken 18 = .ok (.ifCond .ne 6, 3) := by decide +kernel
theorem dX8_taken_21 : decode cX8_taken 21 = .ok (.bipush (-11), 2) := by decide +kernel
theorem dX8_taken_23 : decode cX8_taken 23 = .ok (.ireturn, 1) := by decide +kernel
theorem dX8_taken_24 : decode cX8_taken 24 = .ok (.aload_n 0, 1) := by decide +kernel
theorem dX8_taken_25 : decode cX8_taken 25 = .ok (.getfield 9, 3) := by decide +kernel
theorem dX8_taken_28 : decode cX8_taken 28 = .ok (.iload_n 1, 1) := by decide +kernel
theorem dX8_taken_29 : decode cX8_taken 29 = .ok (.iaload, 1) := by decide +kernel
theorem dX8_taken_30 : decode cX8_taken 30 = .ok (.istore_n 3, 1) := by decide +kernel
theorem dX8_taken_31 : decode cX8_taken 31 = .ok (.iload_n 3, 1) := by decide +kernel
theorem dX8_taken_32 : decode cX8_taken 32 = .ok (.iload_n 2, 1) := by decide +kernel
theorem dX8_taken_33 : decode cX8_taken 33 = .ok (.if_icmp .eq 15, 3) := by decide +kernel
theorem dX8_taken_36 : decode cX8_taken 36 = .ok (.iload_n 3, 1) := by decide +kernel
theorem dX8_taken_37 : decode cX8_taken 37 = .ok (.ifCond .le 11, 3) := by decide +kernel
theorem dX8_taken_40 : decode cX8_taken 40 = .ok (.iload_n 3, 1) := by decide +kernel
theorem dX8_taken_41 : decode cX8_taken 41 = .ok (.invokestatic 337, 3) := by decide +kernel
theorem dX8_taken_44 : decode cX8_taken 44 = .ok (.istore_n 3, 1) := by decide +kernel
theorem dX8_taken_45 : decode cX8_taken 45 = .ok (.goto (-14), 3) := by decide +kernel
theorem dX8_taken_48 : decode cX8_taken 48 = .ok (.iload_n 3, 1) := by decide +kernel
theorem dX8_taken_49 : decode cX8_taken 49 = .ok (.iload_n 2, 1) := by decide +kernel
theorem dX8_taken_50 : decode cX8_taken 50 = .ok (.if_icmp .ne 12, 3) := by decide +kernel
theorem dX8_taken_53 : decode cX8_taken 53 = .ok (.aload_n 0, 1) := by decide +kernel
theorem dX8_taken_54 : decode cX8_taken 54 = .ok (.getfield 9, 3) := by decide +kernel
theorem dX8_taken_57 : decode cX8_taken 57 = .ok (.iload_n 1, 1) := by decide +kernel
theorem dX8_taken_58 : decode cX8_taken 58 = .ok (.iaload, 1) := by decide +kernel
theorem dX8_taken_59 : decode cX8_taken 59 = .ok (.goto 5, 3) := by decide +kernel
theorem dX8_taken_62 : decode cX8_taken 62 = .ok (.bipush (-12), 2) := by decide +kernel
theorem dX8_taken_64 : decode cX8_taken 64 = .ok (.ireturn, 1) := by decide +kernel
theorem dX8_count_0 : decode cX8_count 0 = .ok (.iload_n 1, 1) := by decide +kernel
theorem dX8_count_1 : decode cX8_count 1 = .ok (.tableswitch 78 0 6 #[43, 48, 53, 58, 63, 68, 73], 43) := by decide +kernel
theorem dX8_count_44 : decode cX8_count 44 = .ok (.aload_n 0, 1) := by decide +kernel
theorem dX8_count_45 : decode cX8_count 45 = .ok (.getfield 114, 3) := by decide +kernel
theorem dX8_count_48 : decode cX8_count 48 = .ok (.ireturn, 1) := by decide +kernel
theorem dX8_count_49 : decode cX8_count 49 = .ok (.aload_n 0, 1) := by decide +kernel
theorem dX8_count_50 : decode cX8_count 50 = .ok (.getfield 222, 3) := by decide +kernel
theorem dX8_count_53 : decode cX8_count 53 = .ok (.ireturn, 1) := by decide +kernel
theorem dX8_count_54 : decode cX8_count 54 = .ok (.aload_n 0, 1) := by decide +kernel
theorem dX8_count_55 : decode cX8_count 55 = .ok (.getfield 305, 3) := by decide +kernel
theorem dX8_count_58 : decode cX8_count 58 = .ok (.ireturn, 1) := by decide +kernel
theorem dX8_count_59 : decode cX8_count 59 = .ok (.aload_n 0, 1) := by decide +kernel
theorem dX8_count_60 : decode cX8_count 60 = .ok (.getfield 317, 3) := by decide +kernel
theorem dX8_count_63 : decode cX8_count 63 = .ok (.ireturn, 1) := by decide +kernel
theorem dX8_count_64 : decode cX8_count 64 = .ok (.aload_n 0, 1) := by decide +kernel
theorem dX8_count_65 : decode cX8_count 65 = .ok (.getfield 320, 3) := by decide +kernel
theorem dX8_count_68 : decode cX8_count 68 = .ok (.ireturn, 1) := by decide +kernel
theorem dX8_count_69 : decode cX8_count 69 = .ok (.aload_n 0, 1) := by decide +kernel
theorem dX8_count_70 : decode cX8_count 70 = .ok (.getfield 150, 3) := by decide +kernel
theorem dX8_count_73 : decode cX8_count 73 = .ok (.ireturn, 1) := by decide +kernel
theorem dX8_count_74 : decode cX8_count 74 = .ok (.aload_n 0, 1) := by decide +kernel
theorem dX8_count_75 : decode cX8_count 75 = .ok (.getfield 327, 3) := by decide +kernel
theorem dX8_count_78 : decode cX8_count 78 = .ok (.ireturn, 1) := by decide +kernel
theorem dX8_count_79 : decode cX8_count 79 = .ok (.bipush (-2), 2) := by decide +kernel
theorem dX8_count_81 : decode cX8_count 81 = .ok (.ireturn, 1) := by decide +kernel
theorem dX8_isTape_0 : decode cX8_isTape 0 = .ok (.iload_n 0, 1) := by decide +kernel
theorem dX8_isTape_1 : decode cX8_isTape 1 = .ok (.iconst 0, 1) := by decide +kernel
theorem dX8_isTape_2 : decode cX8_isTape 2 = .ok (.iconst 5, 1) := by decide +kernel
theorem dX8_isTape_3 : decode cX8_isTape 3 = .ok (.invokestatic 117, 3) := by decide +kernel
theorem dX8_isTape_6 : decode cX8_isTape 6 = .ok (.ireturn, 1) := by decide +kernel
theorem dX8_tape_0 : decode cX8_tape 0 = .ok (.iload_n 1, 1) := by decide +kernel
theorem dX8_tape_1 : decode cX8_tape 1 = .ok (.invokestatic 346, 3) := by decide +kernel
theorem dX8_tape_4 : decode cX8_tape 4 = .ok (.ifCond .ne 5, 3) := by decide +kernel
theorem dX8_tape_7 : decode cX8_tape 7 = .ok (.iconst (-1), 1) := by decide +kernel
theorem dX8_tape_8 : decode cX8_tape 8 = .ok (.ireturn, 1) := by decide +kernel
theorem dX8_tape_9 : decode cX8_tape 9 = .ok (.iload_n 2, 1) := by decide +kernel
theorem dX8_tape_10 : decode cX8_tape 10 = .ok (.iconst (-1), 1) := by decide +kernel
theorem dX8_tape_11 : decode cX8_tape 11 = .ok (.iconst 4, 1) := by decide +kernel
theorem dX8_tape_12 : decode cX8_tape 12 = .ok (.invokestatic 117, 3) := by decide +kernel
theorem dX8_tape_15 : decode cX8_tape 15 = .ok (.ifCond .eq 13, 3) := by decide +kernel
theorem dX8_tape_18 : decode cX8_tape 18 = .ok (.iload_n 2, 1) := by decide +kernel
theorem dX8_tape_19 : decode cX8_tape 19 = .ok (.ifCond .lt 12, 3) := by decide +kernel
theorem dX8_tape_22 : decode cX8_tape 22 = .ok (.iload_n 3, 1) := by decide +kernel
theorem dX8_tape_23 : decode cX8_tape 23 = .ok (.bipush 60, 2) := by decide +kernel
theorem dX8_tape_25 : decode cX8_tape 25 = .ok (.if_icmp .le 6, 3) := by decide +kernel
theorem dX8_tape_28 : decode cX8_tape 28 = .ok (.bipush (-2), 2) := by decide +kernel
theorem dX8_tape_30 : decode cX8_tape 30 = .ok (.ireturn, 1) := by decide +kernel
theorem dX8_tape_31 : decode cX8_tape 31 = .ok (.iload_n 2, 1) := by decide +kernel
theorem dX8_tape_32 : decode cX8_tape 32 = .ok (.ifCond .lt 10, 3) := by decide +kernel
theorem dX8_tape_35 : decode cX8_tape 35 = .ok (.iload_n 3, 1) := by decide +kernel
theorem dX8_tape_36 : decode cX8_tape 36 = .ok (.ifCond .ge 6, 3) := by decide +kernel
theorem dX8_tape_39 : decode cX8_tape 39 = .ok (.bipush (-14), 2) := by decide +kernel
theorem dX8_tape_41 : decode cX8_tape 41 = .ok (.ireturn, 1) := by decide +kernel
theorem dX8_tape_42 : decode cX8_tape 42 = .ok (.aload_n 0, 1) := by decide +kernel
theorem dX8_tape_43 : decode cX8_tape 43 = .ok (.getfield 100, 3) := by decide +kernel
theorem dX8_tape_46 : decode cX8_tape 46 = .ok (.iload_n 1, 1) := by decide +kernel
theorem dX8_tape_47 : decode cX8_tape 47 = .ok (.iload_n 2, 1) := by decide +kernel
theorem dX8_tape_48 : decode cX8_tape 48 = .ok (.iastore, 1) := by decide +kernel
theorem dX8_tape_49 : decode cX8_tape 49 = .ok (.aload_n 0, 1) := by decide +kernel
theorem dX8_tape_50 : decode cX8_tape 50 = .ok (.getfield 103, 3) := by decide +kernel
theorem dX8_tape_53 : decode cX8_tape 53 = .ok (.iload_n 1, 1) := by decide +kernel
theorem dX8_tape_54 : decode cX8_tape 54 = .ok (.iload_n 2, 1) := by decide +kernel
theorem dX8_tape_55 : decode cX8_tape 55 = .ok (.ifCond .ge 7, 3) := by decide +kernel
theorem dX8_tape_58 : decode cX8_tape 58 = .ok (.iconst 0, 1) := by decide +kernel
theorem dX8_tape_59 : decode cX8_tape 59 = .ok (.goto 4, 3) := by decide +kernel
theorem dX8_tape_62 : decode cX8_tape 62 = .ok (.iload_n 3, 1) := by decide +kernel
theorem dX8_tape_63 : decode cX8_tape 63 = .ok (.iastore, 1) := by decide +kernel
theorem dX8_tape_64 : decode cX8_tape 64 = .ok (.iconst 0, 1) := by decide +kernel
theorem dX8_tape_65 : decode cX8_tape 65 = .ok (.istore 4, 2) := by decide +kernel
theorem dX8_tape_67 : decode cX8_tape 67 = .ok (.iload 4, 2) := by decide +kernel
theorem dX8_tape_69 : decode cX8_tape 69 = .ok (.bipush 60, 2) := by decide +kernel
theorem dX8_tape_71 : decode cX8_tape 71 = .ok (.if_icmp .ge 22, 3) := by decide +kernel
theorem dX8_tape_74 : decode cX8_tape 74 = .ok (.aload_n 0, 1) := by decide +kernel
theorem dX8_tape_75 : decode cX8_tape 75 = .ok (.getfield 106, 3) := by decide +kernel
theorem dX8_tape_78 : decode cX8_tape 78 = .ok (.bipush 60, 2) := by decide +kernel
theorem dX8_tape_80 : decode cX8_tape 80 = .ok (.iload_n 1, 1) := by decide +kernel
theorem dX8_tape_81 : decode cX8_tape 81 = .ok (.imul, 1) := by decide +kernel
theorem dX8_tape_82 : decode cX8_tape 82 = .ok (.iload 4, 2) := by decide +kernel
theorem dX8_tape_84 : decode cX8_tape 84 = .ok (.iadd, 1) := by decide +kernel
theorem dX8_tape_85 : decode cX8_tape 85 = .ok (.lconst 0, 1) := by decide +kernel
theorem dX8_tape_86 : decode cX8_tape 86 = .ok (.lastore, 1) := by decide +kernel
theorem dX8_tape_87 : decode cX8_tape 87 = .ok (.iinc 4 1, 3) := by decide +kernel
theorem dX8_tape_90 : decode cX8_tape 90 = .ok (.goto (-23), 3) := by decide +kernel
theorem dX8_tape_93 : decode cX8_tape 93 = .ok (.iconst 1, 1) := by decide +kernel
theorem dX8_tape_94 : decode cX8_tape 94 = .ok (.ireturn, 1) := by decide +kernel
theorem dX8_kept_0 : decode cX8_kept 0 = .ok (.iload_n 0, 1) := by decide +kernel
theorem dX8_kept_1 : decode cX8_kept 1 = .ok (.tableswitch 47 0 3 #[31, 36, 41, 45], 31) := by decide +kernel
theorem dX8_kept_32 : decode cX8_kept 32 = .ok (.lload_n 1, 1) := by decide +kernel
theorem dX8_kept_33 : decode cX8_kept 33 = .ok (.l2i, 1) := by decide +kernel
theorem dX8_kept_34 : decode cX8_kept 34 = .ok (.i2b, 1) := by decide +kernel
theorem dX8_kept_35 : decode cX8_kept 35 = .ok (.i2l, 1) := by decide +kernel
theorem dX8_kept_36 : decode cX8_kept 36 = .ok (.lreturn, 1) := by decide +kernel
theorem dX8_kept_37 : decode cX8_kept 37 = .ok (.lload_n 1, 1) := by decide +kernel
theorem dX8_kept_38 : decode cX8_kept 38 = .ok (.l2i, 1) := by decide +kernel
theorem dX8_kept_39 : decode cX8_kept 39 = .ok (.i2s, 1) := by decide +kernel
theorem dX8_kept_40 : decode cX8_kept 40 = .ok (.i2l, 1) := by decide +kernel
theorem dX8_kept_41 : decode cX8_kept 41 = .ok (.lreturn, 1) := by decide +kernel
theorem dX8_kept_42 : decode cX8_kept 42 = .ok (.lload_n 1, 1) := by decide +kernel
theorem dX8_kept_43 : decode cX8_kept 43 = .ok (.l2i, 1) := by decide +kernel
theorem dX8_kept_44 : decode cX8_kept 44 = .ok (.i2l, 1) := by decide +kernel
theorem dX8_kept_45 : decode cX8_kept 45 = .ok (.lreturn, 1) := by decide +kernel
theorem dX8_kept_46 : decode cX8_kept 46 = .ok (.lload_n 1, 1) := by decide +kernel
theorem dX8_kept_47 : decode cX8_kept 47 = .ok (.lreturn, 1) := by decide +kernel
theorem dX8_kept_48 : decode cX8_kept 48 = .ok (.lload_n 1, 1) := by decide +kernel
theorem dX8_kept_49 : decode cX8_kept 49 = .ok (.lconst 0, 1) := by decide +kernel
theorem dX8_kept_50 : decode cX8_kept 50 = .ok (.lcmp, 1) := by decide +kernel
theorem dX8_kept_51 : decode cX8_kept 51 = .ok (.ifCond .eq 7, 3) := by decide +kernel
theorem dX8_kept_54 : decode cX8_kept 54 = .ok (.lconst 1, 1) := by decide +kernel
theorem dX8_kept_55 : decode cX8_kept 55 = .ok (.goto 4, 3) := by decide +kernel
theorem dX8_kept_58 : decode cX8_kept 58 = .ok (.lconst 0, 1) := by decide +kernel
theorem dX8_kept_59 : decode cX8_kept 59 = .ok (.lreturn, 1) := by decide +kernel
theorem dX8_item_0 : decode cX8_item 0 = .ok (.iload_n 1, 1) := by decide +kernel
theorem dX8_item_1 : decode cX8_item 1 = .ok (.invokestatic 346, 3) := by decide +kernel
theorem dX8_item_4 : decode cX8_item 4 = .ok (.ifCond .ne 5, 3) := by decide +kernel
theorem dX8_item_7 : decode cX8_item 7 = .ok (.iconst (-1), 1) := by decide +kernel
theorem dX8_item_8 : decode cX8_item 8 = .ok (.ireturn, 1) := by decide +kernel
theorem dX8_item_9 : decode cX8_item 9 = .ok (.aload_n 0, 1) := by decide +kernel
theorem dX8_item_10 : decode cX8_item 10 = .ok (.getfield 100, 3) := by decide +kernel
theorem dX8_item_13 : decode cX8_item 13 = .ok (.iload_n 1, 1) := by decide +kernel
theorem dX8_item_14 : decode cX8_item 14 = .ok (.iaload, 1) := by decide +kernel
theorem dX8_item_15 : decode cX8_item 15 = .ok (.ifCond .ge 6, 3) := by decide +kernel
theorem dX8_item_18 : decode cX8_item 18 = .ok (.bipush (-11), 2) := by decide +kernel
theorem dX8_item_20 : decode cX8_item 20 = .ok (.ireturn, 1) := by decide +kernel
theorem dX8_item_21 : decode cX8_item 21 = .ok (.iload_n 2, 1) := by decide +kernel
theorem dX8_item_22 : decode cX8_item 22 = .ok (.iconst 0, 1) := by decide +kernel
theorem dX8_item_23 : decode cX8_item 23 = .ok (.aload_n 0, 1) := by decide +kernel
theorem dX8_item_24 : decode cX8_item 24 = .ok (.getfield 103, 3) := by decide +kernel
theorem dX8_item_27 : decode cX8_item 27 = .ok (.iload_n 1, 1) := by decide +kernel
theorem dX8_item_28 : decode cX8_item 28 = .ok (.iaload, 1) := by decide +kernel
theorem dX8_item_29 : decode cX8_item 29 = .ok (.iconst 1, 1) := by decide +kernel
theorem dX8_item_30 : decode cX8_item 30 = .ok (.isub, 1) := by decide +kernel
theorem dX8_item_31 : decode cX8_item 31 = .ok (.invokestatic 117, 3) := by decide +kernel
theorem dX8_item_34 : decode cX8_item 34 = .ok (.ifCond .ne 6, 3) := by decide +kernel
theorem dX8_item_37 : decode cX8_item 37 = .ok (.bipush (-13), 2) := by decide +kernel
theorem dX8_item_39 : decode cX8_item 39 = .ok (.ireturn, 1) := by decide +kernel
theorem dX8_item_40 : decode cX8_item 40 = .ok (.aload_n 0, 1) := by decide +kernel
theorem dX8_item_41 : decode cX8_item 41 = .ok (.getfield 106, 3) := by decide +kernel
theorem dX8_item_44 : decode cX8_item 44 = .ok (.bipush 60, 2) := by decide +kernel
theorem dX8_item_46 : decode cX8_item 46 = .ok (.iload_n 1, 1) := by decide +kernel
theorem dX8_item_47 : decode cX8_item 47 = .ok (.imul, 1) := by decide +kernel
theorem dX8_item_48 : decode cX8_item 48 = .ok (.iload_n 2, 1) := by decide +kernel
theorem dX8_item_49 : decode cX8_item 49 = .ok (.iadd, 1) := by decide +kernel
theorem dX8_item_50 : decode cX8_item 50 = .ok (.aload_n 0, 1) := by decide +kernel
theorem dX8_item_51 : decode cX8_item 51 = .ok (.getfield 100, 3) := by decide +kernel
theorem dX8_item_54 : decode cX8_item 54 = .ok (.iload_n 1, 1) := by decide +kernel
theorem dX8_item_55 : decode cX8_item 55 = .ok (.iaload, 1) := by decide +kernel
theorem dX8_item_56 : decode cX8_item 56 = .ok (.lload_n 3, 1) := by decide +kernel
theorem dX8_item_57 : decode cX8_item 57 = .ok (.invokestatic 349, 3) := by decide +kernel
theorem dX8_item_60 : decode cX8_item 60 = .ok (.lastore, 1) := by decide +kernel
theorem dX8_item_61 : decode cX8_item 61 = .ok (.iconst 1, 1) := by decide +kernel
theorem dX8_item_62 : decode cX8_item 62 = .ok (.ireturn, 1) := by decide +kernel
theorem dX8_read_0 : decode cX8_read 0 = .ok (.iload_n 1, 1) := by decide +kernel
theorem dX8_read_1 : decode cX8_read 1 = .ok (.invokestatic 346, 3) := by decide +kernel
theorem dX8_read_4 : decode cX8_read 4 = .ok (.ifCond .eq 42, 3) := by decide +kernel
theorem dX8_read_7 : decode cX8_read 7 = .ok (.aload_n 0, 1) := by decide +kernel
theorem dX8_read_8 : decode cX8_read 8 = .ok (.getfield 100, 3) := by decide +kernel
theorem dX8_read_11 : decode cX8_read 11 = .ok (.iload_n 1, 1) := by decide +kernel
theorem dX8_read_12 : decode cX8_read 12 = .ok (.iaload, 1) := by decide +kernel
theorem dX8_read_13 : decode cX8_read 13 = .ok (.ifCond .lt 33, 3) := by decide +kernel
theorem dX8_read_16 : decode cX8_read 16 = .ok (.iload_n 2, 1) := by decide +kernel
theorem dX8_read_17 : decode cX8_read 17 = .ok (.iconst 0, 1) := by decide +kernel
theorem dX8_read_18 : decode cX8_read 18 = .ok (.aload_n 0, 1) := by decide +kernel
theorem dX8_read_19 : decode cX8_read 19 = .ok (.getfield 103, 3) := by decide +kernel
theorem dX8_read_22 : decode cX8_read 22 = .ok (.iload_n 1, 1) := by decide +kernel
theorem dX8_read_23 : decode cX8_read 23 = .ok (.iaload, 1) := by decide +kernel
theorem dX8_read_24 : decode cX8_read 24 = .ok (.iconst 1, 1) := by decide +kernel
theorem dX8_read_25 : decode cX8_read 25 = .ok (.isub, 1) := by decide +kernel
theorem dX8_read_26 : decode cX8_read 26 = .ok (.invokestatic 117, 3) := by decide +kernel
theorem dX8_read_29 : decode cX8_read 29 = .ok (.ifCond .eq 17, 3) := by decide +kernel
theorem dX8_read_32 : decode cX8_read 32 = .ok (.aload_n 0, 1) := by decide +kernel
theorem dX8_read_33 : decode cX8_read 33 = .ok (.getfield 106, 3) := by decide +kernel
theorem dX8_read_36 : decode cX8_read 36 = .ok (.bipush 60, 2) := by decide +kernel
theorem dX8_read_38 : decode cX8_read 38 = .ok (.iload_n 1, 1) := by decide +kernel
theorem dX8_read_39 : decode cX8_read 39 = .ok (.imul, 1) := by decide +kernel
theorem dX8_read_40 : decode cX8_read 40 = .ok (.iload_n 2, 1) := by decide +kernel
theorem dX8_read_41 : decode cX8_read 41 = .ok (.iadd, 1) := by decide +kernel
theorem dX8_read_42 : decode cX8_read 42 = .ok (.laload, 1) := by decide +kernel
theorem dX8_read_43 : decode cX8_read 43 = .ok (.goto 6, 3) := by decide +kernel
theorem dX8_read_46 : decode cX8_read 46 = .ok (.ldc2_w 311, 3) := by decide +kernel
theorem dX8_read_49 : decode cX8_read 49 = .ok (.lreturn, 1) := by decide +kernel
theorem dX8_shift_0 : decode cX8_shift 0 = .ok (.iload_n 1, 1) := by decide +kernel
theorem dX8_shift_1 : decode cX8_shift 1 = .ok (.invokestatic 346, 3) := by decide +kernel
theorem dX8_shift_4 : decode cX8_shift 4 = .ok (.ifCond .eq 10, 3) := by decide +kernel
theorem dX8_shift_7 : decode cX8_shift 7 = .ok (.iload_n 3, 1) := by decide +kernel
theorem dX8_shift_8 : decode cX8_shift 8 = .ok (.invokestatic 346, 3) := by decide +kernel
theorem dX8_shift_11 : decode cX8_shift 11 = .ok (.ifCond .ne 5, 3) := by decide +kernel
theorem dX8_shift_14 : decode cX8_shift 14 = .ok (.iconst (-1), 1) := by decide +kernel
theorem dX8_shift_15 : decode cX8_shift 15 = .ok (.ireturn, 1) := by decide +kernel
theorem dX8_shift_16 : decode cX8_shift 16 = .ok (.aload_n 0, 1) := by decide +kernel
theorem dX8_shift_17 : decode cX8_shift 17 = .ok (.getfield 100, 3) := by decide +kernel
theorem dX8_shift_20 : decode cX8_shift 20 = .ok (.iload_n 1, 1) := by decide +kernel
theorem dX8_shift_21 : decode cX8_shift 21 = .ok (.iaload, 1) := by decide +kernel
theorem dX8_shift_22 : decode cX8_shift 22 = .ok (.ifCond .lt 12, 3) := by decide +kernel
theorem dX8_shift_25 : decode cX8_shift 25 = .ok (.aload_n 0, 1) := by decide +kernel
theorem dX8_shift_26 : decode cX8_shift 26 = .ok (.getfield 100, 3) := by decide +kernel
theorem dX8_shift_29 : decode cX8_shift 29 = .ok (.iload_n 3, 1) := by decide +kernel
theorem dX8_shift_30 : decode cX8_shift 30 = .ok (.iaload, 1) := by decide +kernel
theorem dX8_shift_31 : decode cX8_shift 31 = .ok (.ifCond .ge 6, 3) := by decide +kernel
theorem dX8_shift_34 : decode cX8_shift 34 = .ok (.bipush (-11), 2) := by decide +kernel
theorem dX8_shift_36 : decode cX8_shift 36 = .ok (.ireturn, 1) := by decide +kernel
theorem dX8_shift_37 : decode cX8_shift 37 = .ok (.aload_n 0, 1) := by decide +kernel
theorem dX8_shift_38 : decode cX8_shift 38 = .ok (.getfield 100, 3) := by decide +kernel
theorem dX8_shift_41 : decode cX8_shift 41 = .ok (.iload_n 1, 1) := by decide +kernel
theorem dX8_shift_42 : decode cX8_shift 42 = .ok (.iaload, 1) := by decide +kernel
theorem dX8_shift_43 : decode cX8_shift 43 = .ok (.aload_n 0, 1) := by decide +kernel
theorem dX8_shift_44 : decode cX8_shift 44 = .ok (.getfield 100, 3) := by decide +kernel
theorem dX8_shift_47 : decode cX8_shift 47 = .ok (.iload_n 3, 1) := by decide +kernel
theorem dX8_shift_48 : decode cX8_shift 48 = .ok (.iaload, 1) := by decide +kernel
theorem dX8_shift_49 : decode cX8_shift 49 = .ok (.if_icmp .eq 6, 3) := by decide +kernel
theorem dX8_shift_52 : decode cX8_shift 52 = .ok (.bipush (-12), 2) := by decide +kernel
theorem dX8_shift_54 : decode cX8_shift 54 = .ok (.ireturn, 1) := by decide +kernel
theorem dX8_shift_55 : decode cX8_shift 55 = .ok (.iload 5, 2) := by decide +kernel
theorem dX8_shift_57 : decode cX8_shift 57 = .ok (.ifCond .lt 47, 3) := by decide +kernel
theorem dX8_shift_60 : decode cX8_shift 60 = .ok (.iload_n 2, 1) := by decide +kernel
theorem dX8_shift_61 : decode cX8_shift 61 = .ok (.ifCond .lt 43, 3) := by decide +kernel
theorem dX8_shift_64 : decode cX8_shift 64 = .ok (.iload 4, 2) := by decide +kernel
theorem dX8_shift_66 : decode cX8_shift 66 = .ok (.ifCond .lt 38, 3) := by decide +kernel
theorem dX8_shift_69 : decode cX8_shift 69 = .ok (.iload_n 2, 1) := by decide +kernel
theorem dX8_shift_70 : decode cX8_shift 70 = .ok (.i2l, 1) := by decide +kernel
theorem dX8_shift_71 : decode cX8_shift 71 = .ok (.iload 5, 2) := by decide +kernel
theorem dX8_shift_73 : decode cX8_shift 73 = .ok (.i2l, 1) := by decide +kernel
theorem dX8_shift_74 : decode cX8_shift 74 = .ok (.ladd, 1) := by decide +kernel
theorem dX8_shift_75 : decode cX8_shift 75 = .ok (.aload_n 0, 1) := by decide +kernel
theorem dX8_shift_76 : decode cX8_shift 76 = .ok (.getfield 103, 3) := by decide +kernel
theorem dX8_shift_79 : decode cX8_shift 79 = .ok (.iload_n 1, 1) := by decide +kernel
theorem dX8_shift_80 : decode cX8_shift 80 = .ok (.iaload, 1) := by decide +kernel
theorem dX8_shift_81 : decode cX8_shift 81 = .ok (.i2l, 1) := by decide +kernel
theorem dX8_shift_82 : decode cX8_shift 82 = .ok (.lcmp, 1) := by decide +kernel
theorem dX8_shift_83 : decode cX8_shift 83 = .ok (.ifCond .gt 21, 3) := by decide +kernel
theorem dX8_shift_86 : decode cX8_shift 86 = .ok (.iload 4, 2) := by decide +kernel
theorem dX8_shift_88 : decode cX8_shift 88 = .ok (.i2l, 1) := by decide +kernel
theorem dX8_shift_89 : decode cX8_shift 89 = .ok (.iload 5, 2) := by decide +kernel
theorem dX8_shift_91 : decode cX8_shift 91 = .ok (.i2l, 1) := by decide +kernel
theorem dX8_shift_92 : decode cX8_shift 92 = .ok (.ladd, 1) := by decide +kernel
theorem dX8_shift_93 : decode cX8_shift 93 = .ok (.aload_n 0, 1) := by decide +kernel
theorem dX8_shift_94 : decode cX8_shift 94 = .ok (.getfield 103, 3) := by decide +kernel
theorem dX8_shift_97 : decode cX8_shift 97 = .ok (.iload_n 3, 1) := by decide +kernel
theorem dX8_shift_98 : decode cX8_shift 98 = .ok (.iaload, 1) := by decide +kernel
theorem dX8_shift_99 : decode cX8_shift 99 = .ok (.i2l, 1) := by decide +kernel
theorem dX8_shift_100 : decode cX8_shift 100 = .ok (.lcmp, 1) := by decide +kernel
theorem dX8_shift_101 : decode cX8_shift 101 = .ok (.ifCond .le 6, 3) := by decide +kernel
theorem dX8_shift_104 : decode cX8_shift 104 = .ok (.bipush (-13), 2) := by decide +kernel
theorem dX8_shift_106 : decode cX8_shift 106 = .ok (.ireturn, 1) := by decide +kernel
theorem dX8_shift_107 : decode cX8_shift 107 = .ok (.iload_n 1, 1) := by decide +kernel
theorem dX8_shift_108 : decode cX8_shift 108 = .ok (.iload_n 3, 1) := by decide +kernel
theorem dX8_shift_109 : decode cX8_shift 109 = .ok (.if_icmp .ne 58, 3) := by decide +kernel
theorem dX8_shift_112 : decode cX8_shift 112 = .ok (.iload_n 2, 1) := by decide +kernel
theorem dX8_shift_113 : decode cX8_shift 113 = .ok (.iload 4, 2) := by decide +kernel
theorem dX8_shift_115 : decode cX8_shift 115 = .ok (.if_icmp .ge 52, 3) := by decide +kernel
theorem dX8_shift_118 : decode cX8_shift 118 = .ok (.iload 5, 2) := by decide +kernel
theorem dX8_shift_120 : decode cX8_shift 120 = .ok (.iconst 1, 1) := by decide +kernel
theorem dX8_shift_121 : decode cX8_shift 121 = .ok (.isub, 1) := by decide +kernel
theorem dX8_shift_122 : decode cX8_shift 122 = .ok (.istore 6, 2) := by decide +kernel
theorem dX8_shift_124 : decode cX8_shift 124 = .ok (.iload 6, 2) := by decide +kernel
theorem dX8_shift_126 : decode cX8_shift 126 = .ok (.ifCond .lt 38, 3) := by decide +kernel
theorem dX8_shift_129 : decode cX8_shift 129 = .ok (.aload_n 0, 1) := by decide +kernel
theorem dX8_shift_130 : decode cX8_shift 130 = .ok (.getfield 106, 3) := by decide +kernel
theorem dX8_shift_133 : decode cX8_shift 133 = .ok (.bipush 60, 2) := by decide +kernel
theorem dX8_shift_135 : decode cX8_shift 135 = .ok (.iload_n 3, 1) := by decide +kernel
theorem dX8_shift_136 : decode cX8_shift 136 = .ok (.imul, 1) := by decide +kernel
theorem dX8_shift_137 : decode cX8_shift 137 = .ok (.iload 4, 2) := by decide +kernel
theorem dX8_shift_139 : decode cX8_shift 139 = .ok (.iadd, 1) := by decide +kernel
theorem dX8_shift_140 : decode cX8_shift 140 = .ok (.iload 6, 2) := by decide +kernel
theorem dX8_shift_142 : decode cX8_shift 142 = .ok (.iadd, 1) := by decide +kernel
theorem dX8_shift_143 : decode cX8_shift 143 = .ok (.aload_n 0, 1) := by decide +kernel
theorem dX8_shift_144 : decode cX8_shift 144 = .ok (.getfield 106, 3) := by decide +kernel
theorem dX8_shift_147 : decode cX8_shift 147 = .ok (.bipush 60, 2) := by decide +kernel
theorem dX8_shift_149 : decode cX8_shift 149 = .ok (.iload_n 1, 1) := by decide +kernel
theorem dX8_shift_150 : decode cX8_shift 150 = .ok (.imul, 1) := by decide +kernel
theorem dX8_shift_151 : decode cX8_shift 151 = .ok (.iload_n 2, 1) := by decide +kernel
theorem dX8_shift_152 : decode cX8_shift 152 = .ok (.iadd, 1) := by decide +kernel
theorem dX8_shift_153 : decode cX8_shift 153 = .ok (.iload 6, 2) := by decide +kernel
theorem dX8_shift_155 : decode cX8_shift 155 = .ok (.iadd, 1) := by decide +kernel
theorem dX8_shift_156 : decode cX8_shift 156 = .ok (.laload, 1) := by decide +kernel
theorem dX8_shift_157 : decode cX8_shift 157 = .ok (.lastore, 1) := by decide +kernel
theorem dX8_shift_158 : decode cX8_shift 158 = .ok (.iinc 6 (-1), 3) := by decide +kernel
theorem dX8_shift_161 : decode cX8_shift 161 = .ok (.goto (-37), 3) := by decide +kernel
theorem dX8_shift_164 : decode cX8_shift 164 = .ok (.goto 48, 3) := by decide +kernel
theorem dX8_shift_167 : decode cX8_shift 167 = .ok (.iconst 0, 1) := by decide +kernel
theorem dX8_shift_168 : decode cX8_shift 168 = .ok (.istore 6, 2) := by decide +kernel
theorem dX8_shift_170 : decode cX8_shift 170 = .ok (.iload 6, 2) := by decide +kernel
theorem dX8_shift_172 : decode cX8_shift 172 = .ok (.iload 5, 2) := by decide +kernel
theorem dX8_shift_174 : decode cX8_shift 174 = .ok (.if_icmp .ge 38, 3) := by decide +kernel
theorem dX8_shift_177 : decode cX8_shift 177 = .ok (.aload_n 0, 1) := by decide +kernel
theorem dX8_shift_178 : decode cX8_shift 178 = .ok (.getfield 106, 3) := by decide +kernel
theorem dX8_shift_181 : decode cX8_shift 181 = .ok (.bipush 60, 2) := by decide +kernel
theorem dX8_shift_183 : decode cX8_shift 183 = .ok (.iload_n 3, 1) := by decide +kernel
theorem dX8_shift_184 : decode cX8_shift 184 = .ok (.imul, 1) := by decide +kernel
theorem dX8_shift_185 : decode cX8_shift 185 = .ok (.iload 4, 2) := by decide +kernel
theorem dX8_shift_187 : decode cX8_shift 187 = .ok (.iadd, 1) := by decide +kernel
theorem dX8_shift_188 : decode cX8_shift 188 = .ok (.iload 6, 2) := by decide +kernel
theorem dX8_shift_190 : decode cX8_shift 190 = .ok (.iadd, 1) := by decide +kernel
theorem dX8_shift_191 : decode cX8_shift 191 = .ok (.aload_n 0, 1) := by decide +kernel
theorem dX8_shift_192 : decode cX8_shift 192 = .ok (.getfield 106, 3) := by decide +kernel
theorem dX8_shift_195 : decode cX8_shift 195 = .ok (.bipush 60, 2) := by decide +kernel
theorem dX8_shift_197 : decode cX8_shift 197 = .ok (.iload_n 1, 1) := by decide +kernel
theorem dX8_shift_198 : decode cX8_shift 198 = .ok (.imul, 1) := by decide +kernel
theorem dX8_shift_199 : decode cX8_shift 199 = .ok (.iload_n 2, 1) := by decide +kernel
theorem dX8_shift_200 : decode cX8_shift 200 = .ok (.iadd, 1) := by decide +kernel
theorem dX8_shift_201 : decode cX8_shift 201 = .ok (.iload 6, 2) := by decide +kernel
theorem dX8_shift_203 : decode cX8_shift 203 = .ok (.iadd, 1) := by decide +kernel
theorem dX8_shift_204 : decode cX8_shift 204 = .ok (.laload, 1) := by decide +kernel
theorem dX8_shift_205 : decode cX8_shift 205 = .ok (.lastore, 1) := by decide +kernel
theorem dX8_shift_206 : decode cX8_shift 206 = .ok (.iinc 6 1, 3) := by decide +kernel
theorem dX8_shift_209 : decode cX8_shift 209 = .ok (.goto (-39), 3) := by decide +kernel
theorem dX8_shift_212 : decode cX8_shift 212 = .ok (.iload 5, 2) := by decide +kernel
theorem dX8_shift_214 : decode cX8_shift 214 = .ok (.ireturn, 1) := by decide +kernel
